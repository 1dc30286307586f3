theorem dX8_symbolOf_0 : decode (me_b mX8_symbolOf) 0 = .ok (.iload_n 0, 1) := by decide +kernel
theorem dX8_symbolOf_1 : decode (me_b mX8_symbolOf) 1 = .ok (.bipush 97, 2) := by decide +kernel
theorem dX8_symbolOf_3 : decode (me_b mX8_symbolOf) 3 = .ok (.if_icmp .lt 16, 3) := by decide +kernel
theorem dX8_symbolOf_6 : decode (me_b mX8_symbolOf) 6 = .ok (.iload_n 0, 1) := by decide +kernel
theorem dX8_symbolOf_7 : decode (me_b mX8_symbolOf) 7 = .ok (.bipush 100, 2) := by decide +kernel
theorem dX8_symbolOf_9 : decode (me_b mX8_symbolOf) 9 = .ok (.if_icmp .gt 10, 3) := by decide +kernel
theorem dX8_symbolOf_12 : decode (me_b mX8_symbolOf) 12 = .ok (.iload_n 0, 1) := by decide +kernel
theorem dX8_symbolOf_13 : decode (me_b mX8_symbolOf) 13 = .ok (.bipush 97, 2) := by decide +kernel
theorem dX8_symbolOf_15 : decode (me_b mX8_symbolOf) 15 = .ok (.isub, 1) := by decide +kernel
theorem dX8_symbolOf_16 : decode (me_b mX8_symbolOf) 16 = .ok (.goto 25, 3) := by decide +kernel
theorem dX8_symbolOf_19 : decode (me_b mX8_symbolOf) 19 = .ok (.iload_n 0, 1) := by decide +kernel
theorem dX8_symbolOf_20 : decode (me_b mX8_symbolOf) 20 = .ok (.bipush 80, 2) := by decide +kernel
theorem dX8_symbolOf_22 : decode (me_b mX8_symbolOf) 22 = .ok (.if_icmp .lt 18, 3) := by decide +kernel
theorem dX8_symbolOf_25 : decode (me_b mX8_symbolOf) 25 = .ok (.iload_n 0, 1) := by decide +kernel
theorem dX8_symbolOf_26 : decode (me_b mX8_symbolOf) 26 = .ok (.bipush 83, 2) := by decide +kernel
theorem dX8_symbolOf_28 : decode (me_b mX8_symbolOf) 28 = .ok (.if_icmp .gt 12, 3) := by decide +kernel
theorem dX8_symbolOf_31 : decode (me_b mX8_symbolOf) 31 = .ok (.iconst 4, 1) := by decide +kernel
theorem dX8_symbolOf_32 : decode (me_b mX8_symbolOf) 32 = .ok (.iload_n 0, 1) := by decide +kernel
theorem dX8_symbolOf_33 : decode (me_b mX8_symbolOf) 33 = .ok (.iadd, 1) := by decide +kernel
theorem dX8_symbolOf_34 : decode (me_b mX8_symbolOf) 34 = .ok (.bipush 80, 2) := by decide +kernel
theorem dX8_symbolOf_36 : decode (me_b mX8_symbolOf) 36 = .ok (.isub, 1) := by decide +kernel
theorem dX8_symbolOf_37 : decode (me_b mX8_symbolOf) 37 = .ok (.goto 4, 3) := by decide +kernel
theorem dX8_symbolOf_40 : decode (me_b mX8_symbolOf) 40 = .ok (.iconst (-1), 1) := by decide +kernel
theorem dX8_symbolOf_41 : decode (me_b mX8_symbolOf) 41 = .ok (.ireturn, 1) := by decide +kernel
theorem dX8_symbol_0 : decode (me_b mX8_symbol) 0 = .ok (.iload_n 1, 1) := by decide +kernel
theorem dX8_symbol_1 : decode (me_b mX8_symbol) 1 = .ok (.invokestatic 43, 3) := by decide +kernel
theorem dX8_symbol_4 : decode (me_b mX8_symbol) 4 = .ok (.istore_n 3, 1) := by decide +kernel
theorem dX8_symbol_5 : decode (me_b mX8_symbol) 5 = .ok (.iload_n 3, 1) := by decide +kernel
theorem dX8_symbol_6 : decode (me_b mX8_symbol) 6 = .ok (.ifCond .lt 13, 3) := by decide +kernel
theorem dX8_symbol_9 : decode (me_b mX8_symbol) 9 = .ok (.iload_n 2, 1) := by decide +kernel
theorem dX8_symbol_10 : decode (me_b mX8_symbol) 10 = .ok (.iconst (-1), 1) := by decide +kernel
theorem dX8_symbol_11 : decode (me_b mX8_symbol) 11 = .ok (.if_icmp .lt 8, 3) := by decide +kernel
theorem dX8_symbol_14 : decode (me_b mX8_symbol) 14 = .ok (.iload_n 2, 1) := by decide +kernel
theorem dX8_symbol_15 : decode (me_b mX8_symbol) 15 = .ok (.iconst 2, 1) := by decide +kernel
theorem dX8_symbol_16 : decode (me_b mX8_symbol) 16 = .ok (.if_icmp .le 5, 3) := by decide +kernel
theorem dX8_symbol_19 : decode (me_b mX8_symbol) 19 = .ok (.iconst 0, 1) := by decide +kernel
theorem dX8_symbol_20 : decode (me_b mX8_symbol) 20 = .ok (.ireturn, 1) := by decide +kernel
theorem dX8_symbol_21 : decode (me_b mX8_symbol) 21 = .ok (.aload_n 0, 1) := by decide +kernel
theorem dX8_symbol_22 : decode (me_b mX8_symbol) 22 = .ok (.getfield 7, 3) := by decide +kernel
theorem dX8_symbol_25 : decode (me_b mX8_symbol) 25 = .ok (.iload_n 3, 1) := by decide +kernel
theorem dX8_symbol_26 : decode (me_b mX8_symbol) 26 = .ok (.iload_n 2, 1) := by decide +kernel
theorem dX8_symbol_27 : decode (me_b mX8_symbol) 27 = .ok (.iastore, 1) := by decide +kernel
theorem dX8_symbol_28 : decode (me_b mX8_symbol) 28 = .ok (.aload_n 0, 1) := by decide +kernel
theorem dX8_symbol_29 : decode (me_b mX8_symbol) 29 = .ok (.iconst 0, 1) := by decide +kernel
theorem dX8_symbol_30 : decode (me_b mX8_symbol) 30 = .ok (.putfield 47, 3) := by decide +kernel
theorem dX8_symbol_33 : decode (me_b mX8_symbol) 33 = .ok (.aload_n 0, 1) := by decide +kernel
theorem dX8_symbol_34 : decode (me_b mX8_symbol) 34 = .ok (.iconst 0, 1) := by decide +kernel
theorem dX8_symbol_35 : decode (me_b mX8_symbol) 35 = .ok (.putfield 51, 3) := by decide +kernel
theorem dX8_symbol_38 : decode (me_b mX8_symbol) 38 = .ok (.iconst 1, 1) := by decide +kernel
theorem dX8_symbol_39 : decode (me_b mX8_symbol) 39 = .ok (.ireturn, 1) := by decide +kernel
theorem dX8_type_0 : decode (me_b mX8_type) 0 = .ok (.iload_n 3, 1) := by decide +kernel
theorem dX8_type_1 : decode (me_b mX8_type) 1 = .ok (.iconst 1, 1) := by decide +kernel
theorem dX8_type_2 : decode (me_b mX8_type) 2 = .ok (.if_icmp .lt 13, 3) := by decide +kernel
theorem dX8_type_5 : decode (me_b mX8_type) 5 = .ok (.iload_n 3, 1) := by decide +kernel
theorem dX8_type_6 : decode (me_b mX8_type) 6 = .ok (.bipush 8, 2) := by decide +kernel
theorem dX8_type_8 : decode (me_b mX8_type) 8 = .ok (.if_icmp .gt 7, 3) := by decide +kernel
theorem dX8_type_11 : decode (me_b mX8_type) 11 = .ok (.iconst 1, 1) := by decide +kernel
theorem dX8_type_12 : decode (me_b mX8_type) 12 = .ok (.goto 4, 3) := by decide +kernel
theorem dX8_type_15 : decode (me_b mX8_type) 15 = .ok (.iconst 0, 1) := by decide +kernel
theorem dX8_type_16 : decode (me_b mX8_type) 16 = .ok (.istore 4, 2) := by decide +kernel
theorem dX8_type_18 : decode (me_b mX8_type) 18 = .ok (.iconst 0, 1) := by decide +kernel
theorem dX8_type_19 : decode (me_b mX8_type) 19 = .ok (.istore 5, 2) := by decide +kernel
theorem dX8_type_21 : decode (me_b mX8_type) 21 = .ok (.iload 5, 2) := by decide +kernel
theorem dX8_type_23 : decode (me_b mX8_type) 23 = .ok (.iload_n 3, 1) := by decide +kernel
theorem dX8_type_24 : decode (me_b mX8_type) 24 = .ok (.if_icmp .ge 52, 3) := by decide +kernel
theorem dX8_type_27 : decode (me_b mX8_type) 27 = .ok (.iload 4, 2) := by decide +kernel
theorem dX8_type_29 : decode (me_b mX8_type) 29 = .ok (.ifCond .eq 47, 3) := by decide +kernel
theorem dX8_type_32 : decode (me_b mX8_type) 32 = .ok (.lload_n 1, 1) := by decide +kernel
theorem dX8_type_33 : decode (me_b mX8_type) 33 = .ok (.bipush 8, 2) := by decide +kernel
theorem dX8_type_35 : decode (me_b mX8_type) 35 = .ok (.iload 5, 2) := by decide +kernel
theorem dX8_type_37 : decode (me_b mX8_type) 37 = .ok (.imul, 1) := by decide +kernel
theorem dX8_type_38 : decode (me_b mX8_type) 38 = .ok (.lshr, 1) := by decide +kernel
theorem dX8_type_39 : decode (me_b mX8_type) 39 = .ok (.ldc2_w 55, 3) := by decide +kernel
theorem dX8_type_42 : decode (me_b mX8_type) 42 = .ok (.land, 1) := by decide +kernel
theorem dX8_type_43 : decode (me_b mX8_type) 43 = .ok (.lstore 6, 2) := by decide +kernel
theorem dX8_type_45 : decode (me_b mX8_type) 45 = .ok (.lload 6, 2) := by decide +kernel
theorem dX8_type_47 : decode (me_b mX8_type) 47 = .ok (.ldc2_w 57, 3) := by decide +kernel
theorem dX8_type_50 : decode (me_b mX8_type) 50 = .ok (.lcmp, 1) := by decide +kernel
theorem dX8_type_51 : decode (me_b mX8_type) 51 = .ok (.ifCond .lt 16, 3) := by decide +kernel
theorem dX8_type_54 : decode (me_b mX8_type) 54 = .ok (.lload 6, 2) := by decide +kernel
theorem dX8_type_56 : decode (me_b mX8_type) 56 = .ok (.ldc2_w 59, 3) := by decide +kernel
theorem dX8_type_59 : decode (me_b mX8_type) 59 = .ok (.lcmp, 1) := by decide +kernel
theorem dX8_type_60 : decode (me_b mX8_type) 60 = .ok (.ifCond .gt 7, 3) := by decide +kernel
theorem dX8_type_63 : decode (me_b mX8_type) 63 = .ok (.iconst 1, 1) := by decide +kernel
theorem dX8_type_64 : decode (me_b mX8_type) 64 = .ok (.goto 4, 3) := by decide +kernel
theorem dX8_type_67 : decode (me_b mX8_type) 67 = .ok (.iconst 0, 1) := by decide +kernel
theorem dX8_type_68 : decode (me_b mX8_type) 68 = .ok (.istore 4, 2) := by decide +kernel
theorem dX8_type_70 : decode (me_b mX8_type) 70 = .ok (.iinc 5 1, 3) := by decide +kernel
theorem dX8_type_73 : decode (me_b mX8_type) 73 = .ok (.goto (-52), 3) := by decide +kernel
theorem dX8_type_76 : decode (me_b mX8_type) 76 = .ok (.iload 4, 2) := by decide +kernel
theorem dX8_type_78 : decode (me_b mX8_type) 78 = .ok (.ifCond .ne 5, 3) := by decide +kernel
theorem dX8_type_81 : decode (me_b mX8_type) 81 = .ok (.iconst (-1), 1) := by decide +kernel
theorem dX8_type_82 : decode (me_b mX8_type) 82 = .ok (.ireturn, 1) := by decide +kernel
theorem dX8_type_83 : decode (me_b mX8_type) 83 = .ok (.aload_n 0, 1) := by decide +kernel
theorem dX8_type_84 : decode (me_b mX8_type) 84 = .ok (.getfield 61, 3) := by decide +kernel
theorem dX8_type_87 : decode (me_b mX8_type) 87 = .ok (.iload_n 3, 1) := by decide +kernel
theorem dX8_type_88 : decode (me_b mX8_type) 88 = .ok (.iadd, 1) := by decide +kernel
theorem dX8_type_89 : decode (me_b mX8_type) 89 = .ok (.bipush 60, 2) := by decide +kernel
theorem dX8_type_91 : decode (me_b mX8_type) 91 = .ok (.if_icmp .le 6, 3) := by decide +kernel
theorem dX8_type_94 : decode (me_b mX8_type) 94 = .ok (.bipush (-3), 2) := by decide +kernel
theorem dX8_type_96 : decode (me_b mX8_type) 96 = .ok (.ireturn, 1) := by decide +kernel
theorem dX8_type_97 : decode (me_b mX8_type) 97 = .ok (.iload_n 3, 1) := by decide +kernel
theorem dX8_type_98 : decode (me_b mX8_type) 98 = .ok (.iconst 1, 1) := by decide +kernel
theorem dX8_type_99 : decode (me_b mX8_type) 99 = .ok (.isub, 1) := by decide +kernel
theorem dX8_type_100 : decode (me_b mX8_type) 100 = .ok (.istore 5, 2) := by decide +kernel
theorem dX8_type_102 : decode (me_b mX8_type) 102 = .ok (.iload 5, 2) := by decide +kernel
theorem dX8_type_104 : decode (me_b mX8_type) 104 = .ok (.ifCond .lt 40, 3) := by decide +kernel
theorem dX8_type_107 : decode (me_b mX8_type) 107 = .ok (.aload_n 0, 1) := by decide +kernel
theorem dX8_type_108 : decode (me_b mX8_type) 108 = .ok (.getfield 13, 3) := by decide +kernel
theorem dX8_type_111 : decode (me_b mX8_type) 111 = .ok (.aload_n 0, 1) := by decide +kernel
theorem dX8_type_112 : decode (me_b mX8_type) 112 = .ok (.getfield 61, 3) := by decide +kernel
theorem dX8_type_115 : decode (me_b mX8_type) 115 = .ok (.lload_n 1, 1) := by decide +kernel
theorem dX8_type_116 : decode (me_b mX8_type) 116 = .ok (.bipush 8, 2) := by decide +kernel
theorem dX8_type_118 : decode (me_b mX8_type) 118 = .ok (.iload 5, 2) := by decide +kernel
theorem dX8_type_120 : decode (me_b mX8_type) 120 = .ok (.imul, 1) := by decide +kernel
theorem dX8_type_121 : decode (me_b mX8_type) 121 = .ok (.lshr, 1) := by decide +kernel
theorem dX8_type_122 : decode (me_b mX8_type) 122 = .ok (.ldc2_w 55, 3) := by decide +kernel
theorem dX8_type_125 : decode (me_b mX8_type) 125 = .ok (.land, 1) := by decide +kernel
theorem dX8_type_126 : decode (me_b mX8_type) 126 = .ok (.l2i, 1) := by decide +kernel
theorem dX8_type_127 : decode (me_b mX8_type) 127 = .ok (.iastore, 1) := by decide +kernel
theorem dX8_type_128 : decode (me_b mX8_type) 128 = .ok (.aload_n 0, 1) := by decide +kernel
theorem dX8_type_129 : decode (me_b mX8_type) 129 = .ok (.dup, 1) := by decide +kernel
theorem dX8_type_130 : decode (me_b mX8_type) 130 = .ok (.getfield 61, 3) := by decide +kernel
theorem dX8_type_133 : decode (me_b mX8_type) 133 = .ok (.iconst 1, 1) := by decide +kernel
theorem dX8_type_134 : decode (me_b mX8_type) 134 = .ok (.iadd, 1) := by decide +kernel
theorem dX8_type_135 : decode (me_b mX8_type) 135 = .ok (.putfield 61, 3) := by decide +kernel
theorem dX8_type_138 : decode (me_b mX8_type) 138 = .ok (.iinc 5 (-1), 3) := by decide +kernel
theorem dX8_type_141 : decode (me_b mX8_type) 141 = .ok (.goto (-39), 3) := by decide +kernel
theorem dX8_type_144 : decode (me_b mX8_type) 144 = .ok (.aload_n 0, 1) := by decide +kernel
theorem dX8_type_145 : decode (me_b mX8_type) 145 = .ok (.getfield 61, 3) := by decide +kernel
theorem dX8_type_148 : decode (me_b mX8_type) 148 = .ok (.ireturn, 1) := by decide +kernel
theorem dX8_termWants_0 : decode (me_b mX8_termWants) 0 = .ok (.iload_n 1, 1) := by decide +kernel
theorem dX8_termWants_1 : decode (me_b mX8_termWants) 1 = .ok (.bipush 120, 2) := by decide +kernel
theorem dX8_termWants_3 : decode (me_b mX8_termWants) 3 = .ok (.if_icmp .lt 11, 3) := by decide +kernel
theorem dX8_termWants_6 : decode (me_b mX8_termWants) 6 = .ok (.iload_n 1, 1) := by decide +kernel
theorem dX8_termWants_7 : decode (me_b mX8_termWants) 7 = .ok (.bipush 122, 2) := by decide +kernel
theorem dX8_termWants_9 : decode (me_b mX8_termWants) 9 = .ok (.if_icmp .gt 5, 3) := by decide +kernel
theorem dX8_termWants_12 : decode (me_b mX8_termWants) 12 = .ok (.iconst 0, 1) := by decide +kernel
theorem dX8_termWants_13 : decode (me_b mX8_termWants) 13 = .ok (.ireturn, 1) := by decide +kernel
theorem dX8_termWants_14 : decode (me_b mX8_termWants) 14 = .ok (.iload_n 1, 1) := by decide +kernel
theorem dX8_termWants_15 : decode (me_b mX8_termWants) 15 = .ok (.invokestatic 43, 3) := by decide +kernel
theorem dX8_termWants_18 : decode (me_b mX8_termWants) 18 = .ok (.istore_n 2, 1) := by decide +kernel
theorem dX8_termWants_19 : decode (me_b mX8_termWants) 19 = .ok (.iload_n 2, 1) := by decide +kernel
theorem dX8_termWants_20 : decode (me_b mX8_termWants) 20 = .ok (.ifCond .lt 17, 3) := by decide +kernel
theorem dX8_termWants_23 : decode (me_b mX8_termWants) 23 = .ok (.iload_n 2, 1) := by decide +kernel
theorem dX8_termWants_24 : decode (me_b mX8_termWants) 24 = .ok (.iconst 4, 1) := by decide +kernel
theorem dX8_termWants_25 : decode (me_b mX8_termWants) 25 = .ok (.if_icmp .ge 12, 3) := by decide +kernel
theorem dX8_termWants_28 : decode (me_b mX8_termWants) 28 = .ok (.aload_n 0, 1) := by decide +kernel
theorem dX8_termWants_29 : decode (me_b mX8_termWants) 29 = .ok (.getfield 7, 3) := by decide +kernel
theorem dX8_termWants_32 : decode (me_b mX8_termWants) 32 = .ok (.iload_n 2, 1) := by decide +kernel
theorem dX8_termWants_33 : decode (me_b mX8_termWants) 33 = .ok (.iaload, 1) := by decide +kernel
theorem dX8_termWants_34 : decode (me_b mX8_termWants) 34 = .ok (.goto 4, 3) := by decide +kernel
theorem dX8_termWants_37 : decode (me_b mX8_termWants) 37 = .ok (.iconst (-1), 1) := by decide +kernel
theorem dX8_termWants_38 : decode (me_b mX8_termWants) 38 = .ok (.ireturn, 1) := by decide +kernel
theorem dX8_atomWants_0 : decode (me_b mX8_atomWants) 0 = .ok (.iload_n 1, 1) := by decide +kernel
theorem dX8_atomWants_1 : decode (me_b mX8_atomWants) 1 = .ok (.bipush 61, 2) := by decide +kernel
theorem dX8_atomWants_3 : decode (me_b mX8_atomWants) 3 = .ok (.if_icmp .ne 5, 3) := by decide +kernel
theorem dX8_atomWants_6 : decode (me_b mX8_atomWants) 6 = .ok (.iconst 2, 1) := by decide +kernel
theorem dX8_atomWants_7 : decode (me_b mX8_atomWants) 7 = .ok (.ireturn, 1) := by decide +kernel
theorem dX8_atomWants_8 : decode (me_b mX8_atomWants) 8 = .ok (.iload_n 1, 1) := by decide +kernel
theorem dX8_atomWants_9 : decode (me_b mX8_atomWants) 9 = .ok (.invokestatic 43, 3) := by decide +kernel
theorem dX8_atomWants_12 : decode (me_b mX8_atomWants) 12 = .ok (.istore_n 2, 1) := by decide +kernel
theorem dX8_atomWants_13 : decode (me_b mX8_atomWants) 13 = .ok (.iload_n 2, 1) := by decide +kernel
theorem dX8_atomWants_14 : decode (me_b mX8_atomWants) 14 = .ok (.iconst 4, 1) := by decide +kernel
theorem dX8_atomWants_15 : decode (me_b mX8_atomWants) 15 = .ok (.if_icmp .lt 12, 3) := by decide +kernel
theorem dX8_atomWants_18 : decode (me_b mX8_atomWants) 18 = .ok (.aload_n 0, 1) := by decide +kernel
theorem dX8_atomWants_19 : decode (me_b mX8_atomWants) 19 = .ok (.getfield 7, 3) := by decide +kernel
theorem dX8_atomWants_22 : decode (me_b mX8_atomWants) 22 = .ok (.iload_n 2, 1) := by decide +kernel
theorem dX8_atomWants_23 : decode (me_b mX8_atomWants) 23 = .ok (.iaload, 1) := by decide +kernel
theorem dX8_atomWants_24 : decode (me_b mX8_atomWants) 24 = .ok (.goto 4, 3) := by decide +kernel
theorem dX8_atomWants_27 : decode (me_b mX8_atomWants) 27 = .ok (.iconst (-1), 1) := by decide +kernel
theorem dX8_atomWants_28 : decode (me_b mX8_atomWants) 28 = .ok (.ireturn, 1) := by decide +kernel
theorem dX8_wrong_0 : decode (me_b mX8_wrong) 0 = .ok (.bipush (-2), 2) := by decide +kernel
theorem dX8_wrong_2 : decode (me_b mX8_wrong) 2 = .ok (.istore_n 1, 1) := by decide +kernel
theorem dX8_wrong_3 : decode (me_b mX8_wrong) 3 = .ok (.iconst 0, 1) := by decide +kernel
theorem dX8_wrong_4 : decode (me_b mX8_wrong) 4 = .ok (.istore_n 2, 1) := by decide +kernel
theorem dX8_wrong_5 : decode (me_b mX8_wrong) 5 = .ok (.iload_n 2, 1) := by decide +kernel
theorem dX8_wrong_6 : decode (me_b mX8_wrong) 6 = .ok (.aload_n 0, 1) := by decide +kernel
theorem dX8_wrong_7 : decode (me_b mX8_wrong) 7 = .ok (.getfield 61, 3) := by decide +kernel
theorem dX8_wrong_10 : decode (me_b mX8_wrong) 10 = .ok (.if_icmp .ge 93, 3) := by decide +kernel
theorem dX8_wrong_13 : decode (me_b mX8_wrong) 13 = .ok (.aload_n 0, 1) := by decide +kernel
theorem dX8_wrong_14 : decode (me_b mX8_wrong) 14 = .ok (.getfield 13, 3) := by decide +kernel
theorem dX8_wrong_17 : decode (me_b mX8_wrong) 17 = .ok (.iload_n 2, 1) := by decide +kernel
theorem dX8_wrong_18 : decode (me_b mX8_wrong) 18 = .ok (.iaload, 1) := by decide +kernel
theorem dX8_wrong_19 : decode (me_b mX8_wrong) 19 = .ok (.istore_n 3, 1) := by decide +kernel
theorem dX8_wrong_20 : decode (me_b mX8_wrong) 20 = .ok (.iload_n 1, 1) := by decide +kernel
theorem dX8_wrong_21 : decode (me_b mX8_wrong) 21 = .ok (.ifCond .ne 17, 3) := by decide +kernel
theorem dX8_wrong_24 : decode (me_b mX8_wrong) 24 = .ok (.iload_n 3, 1) := by decide +kernel
theorem dX8_wrong_25 : decode (me_b mX8_wrong) 25 = .ok (.bipush 124, 2) := by decide +kernel
theorem dX8_wrong_27 : decode (me_b mX8_wrong) 27 = .ok (.if_icmp .eq 5, 3) := by decide +kernel
theorem dX8_wrong_30 : decode (me_b mX8_wrong) 30 = .ok (.iload_n 2, 1) := by decide +kernel
theorem dX8_wrong_31 : decode (me_b mX8_wrong) 31 = .ok (.ireturn, 1) := by decide +kernel
theorem dX8_wrong_32 : decode (me_b mX8_wrong) 32 = .ok (.bipush (-2), 2) := by decide +kernel
theorem dX8_wrong_34 : decode (me_b mX8_wrong) 34 = .ok (.istore_n 1, 1) := by decide +kernel
theorem dX8_wrong_35 : decode (me_b mX8_wrong) 35 = .ok (.goto 62, 3) := by decide +kernel
theorem dX8_wrong_38 : decode (me_b mX8_wrong) 38 = .ok (.iload_n 1, 1) := by decide +kernel
theorem dX8_wrong_39 : decode (me_b mX8_wrong) 39 = .ok (.bipush (-2), 2) := by decide +kernel
theorem dX8_wrong_41 : decode (me_b mX8_wrong) 41 = .ok (.if_icmp .ne 14, 3) := by decide +kernel
theorem dX8_wrong_44 : decode (me_b mX8_wrong) 44 = .ok (.iload_n 3, 1) := by decide +kernel
theorem dX8_wrong_45 : decode (me_b mX8_wrong) 45 = .ok (.bipush 33, 2) := by decide +kernel
theorem dX8_wrong_47 : decode (me_b mX8_wrong) 47 = .ok (.if_icmp .ne 8, 3) := by decide +kernel
theorem dX8_wrong_50 : decode (me_b mX8_wrong) 50 = .ok (.iconst (-1), 1) := by decide +kernel
theorem dX8_wrong_51 : decode (me_b mX8_wrong) 51 = .ok (.istore_n 1, 1) := by decide +kernel
theorem dX8_wrong_52 : decode (me_b mX8_wrong) 52 = .ok (.goto 45, 3) := by decide +kernel
theorem dX8_wrong_55 : decode (me_b mX8_wrong) 55 = .ok (.iload_n 1, 1) := by decide +kernel
theorem dX8_wrong_56 : decode (me_b mX8_wrong) 56 = .ok (.ifCond .ge 11, 3) := by decide +kernel
theorem dX8_wrong_59 : decode (me_b mX8_wrong) 59 = .ok (.aload_n 0, 1) := by decide +kernel
theorem dX8_wrong_60 : decode (me_b mX8_wrong) 60 = .ok (.iload_n 3, 1) := by decide +kernel
theorem dX8_wrong_61 : decode (me_b mX8_wrong) 61 = .ok (.invokevirtual 64, 3) := by decide +kernel
theorem dX8_wrong_64 : decode (me_b mX8_wrong) 64 = .ok (.goto 8, 3) := by decide +kernel
theorem dX8_wrong_67 : decode (me_b mX8_wrong) 67 = .ok (.aload_n 0, 1) := by decide +kernel
theorem dX8_wrong_68 : decode (me_b mX8_wrong) 68 = .ok (.iload_n 3, 1) := by decide +kernel
theorem dX8_wrong_69 : decode (me_b mX8_wrong) 69 = .ok (.invokevirtual 67, 3) := by decide +kernel
theorem dX8_wrong_72 : decode (me_b mX8_wrong) 72 = .ok (.istore 4, 2) := by decide +kernel
theorem dX8_wrong_74 : decode (me_b mX8_wrong) 74 = .ok (.iload 4, 2) := by decide +kernel
theorem dX8_wrong_76 : decode (me_b mX8_wrong) 76 = .ok (.ifCond .ge 5, 3) := by decide +kernel
theorem dX8_wrong_79 : decode (me_b mX8_wrong) 79 = .ok (.iload_n 2, 1) := by decide +kernel
theorem dX8_wrong_80 : decode (me_b mX8_wrong) 80 = .ok (.ireturn, 1) := by decide +kernel
theorem dX8_wrong_81 : decode (me_b mX8_wrong) 81 = .ok (.iload_n 1, 1) := by decide +kernel
theorem dX8_wrong_82 : decode (me_b mX8_wrong) 82 = .ok (.ifCond .ge 8, 3) := by decide +kernel
theorem dX8_wrong_85 : decode (me_b mX8_wrong) 85 = .ok (.iload 4, 2) := by decide +kernel
theorem dX8_wrong_87 : decode (me_b mX8_wrong) 87 = .ok (.goto 9, 3) := by decide +kernel
theorem dX8_wrong_90 : decode (me_b mX8_wrong) 90 = .ok (.iload_n 1, 1) := by decide +kernel
theorem dX8_wrong_91 : decode (me_b mX8_wrong) 91 = .ok (.iconst 1, 1) := by decide +kernel
theorem dX8_wrong_92 : decode (me_b mX8_wrong) 92 = .ok (.isub, 1) := by decide +kernel
theorem dX8_wrong_93 : decode (me_b mX8_wrong) 93 = .ok (.iload 4, 2) := by decide +kernel
theorem dX8_wrong_95 : decode (me_b mX8_wrong) 95 = .ok (.iadd, 1) := by decide +kernel
theorem dX8_wrong_96 : decode (me_b mX8_wrong) 96 = .ok (.istore_n 1, 1) := by decide +kernel
theorem dX8_wrong_97 : decode (me_b mX8_wrong) 97 = .ok (.iinc 2 1, 3) := by decide +kernel
theorem dX8_wrong_100 : decode (me_b mX8_wrong) 100 = .ok (.goto (-95), 3) := by decide +kernel
theorem dX8_wrong_103 : decode (me_b mX8_wrong) 103 = .ok (.iload_n 1, 1) := by decide +kernel
theorem dX8_wrong_104 : decode (me_b mX8_wrong) 104 = .ok (.ifCond .ne 7, 3) := by decide +kernel
theorem dX8_wrong_107 : decode (me_b mX8_wrong) 107 = .ok (.iconst (-1), 1) := by decide +kernel
theorem dX8_wrong_108 : decode (me_b mX8_wrong) 108 = .ok (.goto 7, 3) := by decide +kernel
theorem dX8_wrong_111 : decode (me_b mX8_wrong) 111 = .ok (.aload_n 0, 1) := by decide +kernel
theorem dX8_wrong_112 : decode (me_b mX8_wrong) 112 = .ok (.getfield 61, 3) := by decide +kernel
theorem dX8_wrong_115 : decode (me_b mX8_wrong) 115 = .ok (.ireturn, 1) := by decide +kernel
theorem dX8_keep_0 : decode (me_b mX8_keep) 0 = .ok (.iconst 0, 1) := by decide +kernel
theorem dX8_keep_1 : decode (me_b mX8_keep) 1 = .ok (.istore_n 2, 1) := by decide +kernel
theorem dX8_keep_2 : decode (me_b mX8_keep) 2 = .ok (.iload_n 2, 1) := by decide +kernel
theorem dX8_keep_3 : decode (me_b mX8_keep) 3 = .ok (.aload_n 0, 1) := by decide +kernel
theorem dX8_keep_4 : decode (me_b mX8_keep) 4 = .ok (.getfield 61, 3) := by decide +kernel
theorem dX8_keep_7 : decode (me_b mX8_keep) 7 = .ok (.if_icmp .ge 26, 3) := by decide +kernel
theorem dX8_keep_10 : decode (me_b mX8_keep) 10 = .ok (.aload_n 0, 1) := by decide +kernel
theorem dX8_keep_11 : decode (me_b mX8_keep) 11 = .ok (.getfield 16, 3) := by decide +kernel
theorem dX8_keep_14 : decode (me_b mX8_keep) 14 = .ok (.bipush 60, 2) := by decide +kernel
theorem dX8_keep_16 : decode (me_b mX8_keep) 16 = .ok (.iload_n 1, 1) := by decide +kernel
theorem dX8_keep_17 : decode (me_b mX8_keep) 17 = .ok (.imul, 1) := by decide +kernel
theorem dX8_keep_18 : decode (me_b mX8_keep) 18 = .ok (.iload_n 2, 1) := by decide +kernel
theorem dX8_keep_19 : decode (me_b mX8_keep) 19 = .ok (.iadd, 1) := by decide +kernel
theorem dX8_keep_20 : decode (me_b mX8_keep) 20 = .ok (.aload_n 0, 1) := by decide +kernel
theorem dX8_keep_21 : decode (me_b mX8_keep) 21 = .ok (.getfield 13, 3) := by decide +kernel
theorem dX8_keep_24 : decode (me_b mX8_keep) 24 = .ok (.iload_n 2, 1) := by decide +kernel
theorem dX8_keep_25 : decode (me_b mX8_keep) 25 = .ok (.iaload, 1) := by decide +kernel
theorem dX8_keep_26 : decode (me_b mX8_keep) 26 = .ok (.iastore, 1) := by decide +kernel
theorem dX8_keep_27 : decode (me_b mX8_keep) 27 = .ok (.iinc 2 1, 3) := by decide +kernel
theorem dX8_keep_30 : decode (me_b mX8_keep) 30 = .ok (.goto (-28), 3) := by decide +kernel
theorem dX8_keep_33 : decode (me_b mX8_keep) 33 = .ok (.aload_n 0, 1) := by decide +kernel
theorem dX8_keep_34 : decode (me_b mX8_keep) 34 = .ok (.getfield 19, 3) := by decide +kernel
theorem dX8_keep_37 : decode (me_b mX8_keep) 37 = .ok (.iload_n 1, 1) := by decide +kernel
theorem dX8_keep_38 : decode (me_b mX8_keep) 38 = .ok (.aload_n 0, 1) := by decide +kernel
theorem dX8_keep_39 : decode (me_b mX8_keep) 39 = .ok (.getfield 61, 3) := by decide +kernel
theorem dX8_keep_42 : decode (me_b mX8_keep) 42 = .ok (.iastore, 1) := by decide +kernel
theorem dX8_keep_43 : decode (me_b mX8_keep) 43 = .ok (.aload_n 0, 1) := by decide +kernel
theorem dX8_keep_44 : decode (me_b mX8_keep) 44 = .ok (.iconst 0, 1) := by decide +kernel
theorem dX8_keep_45 : decode (me_b mX8_keep) 45 = .ok (.putfield 61, 3) := by decide +kernel
theorem dX8_keep_48 : decode (me_b mX8_keep) 48 = .ok (.return_, 1) := by decide +kernel
theorem dX8_clause_0 : decode (me_b mX8_clause) 0 = .ok (.aload_n 0, 1) := by decide +kernel
theorem dX8_clause_1 : decode (me_b mX8_clause) 1 = .ok (.invokevirtual 70, 3) := by decide +kernel
theorem dX8_clause_4 : decode (me_b mX8_clause) 4 = .ok (.istore_n 1, 1) := by decide +kernel
theorem dX8_clause_5 : decode (me_b mX8_clause) 5 = .ok (.iload_n 1, 1) := by decide +kernel
theorem dX8_clause_6 : decode (me_b mX8_clause) 6 = .ok (.ifCond .ge 12, 3) := by decide +kernel
theorem dX8_clause_9 : decode (me_b mX8_clause) 9 = .ok (.aload_n 0, 1) := by decide +kernel
theorem dX8_clause_10 : decode (me_b mX8_clause) 10 = .ok (.getfield 47, 3) := by decide +kernel
theorem dX8_clause_13 : decode (me_b mX8_clause) 13 = .ok (.bipush 8, 2) := by decide +kernel
theorem dX8_clause_15 : decode (me_b mX8_clause) 15 = .ok (.if_icmp .ne 22, 3) := by decide +kernel
theorem dX8_clause_18 : decode (me_b mX8_clause) 18 = .ok (.aload_n 0, 1) := by decide +kernel
theorem dX8_clause_19 : decode (me_b mX8_clause) 19 = .ok (.iconst 0, 1) := by decide +kernel
theorem dX8_clause_20 : decode (me_b mX8_clause) 20 = .ok (.putfield 61, 3) := by decide +kernel
theorem dX8_clause_23 : decode (me_b mX8_clause) 23 = .ok (.iload_n 1, 1) := by decide +kernel
theorem dX8_clause_24 : decode (me_b mX8_clause) 24 = .ok (.ifCond .lt 10, 3) := by decide +kernel
theorem dX8_clause_27 : decode (me_b mX8_clause) 27 = .ok (.bipush (-100), 2) := by decide +kernel
theorem dX8_clause_29 : decode (me_b mX8_clause) 29 = .ok (.iload_n 1, 1) := by decide +kernel
theorem dX8_clause_30 : decode (me_b mX8_clause) 30 = .ok (.isub, 1) := by decide +kernel
theorem dX8_clause_31 : decode (me_b mX8_clause) 31 = .ok (.goto 5, 3) := by decide +kernel
theorem dX8_clause_34 : decode (me_b mX8_clause) 34 = .ok (.bipush (-3), 2) := by decide +kernel
theorem dX8_clause_36 : decode (me_b mX8_clause) 36 = .ok (.ireturn, 1) := by decide +kernel
theorem dX8_clause_37 : decode (me_b mX8_clause) 37 = .ok (.aload_n 0, 1) := by decide +kernel
theorem dX8_clause_38 : decode (me_b mX8_clause) 38 = .ok (.aload_n 0, 1) := by decide +kernel
theorem dX8_clause_39 : decode (me_b mX8_clause) 39 = .ok (.getfield 47, 3) := by decide +kernel
theorem dX8_clause_42 : decode (me_b mX8_clause) 42 = .ok (.invokevirtual 74, 3) := by decide +kernel
theorem dX8_clause_45 : decode (me_b mX8_clause) 45 = .ok (.aload_n 0, 1) := by decide +kernel
theorem dX8_clause_46 : decode (me_b mX8_clause) 46 = .ok (.dup, 1) := by decide +kernel
theorem dX8_clause_47 : decode (me_b mX8_clause) 47 = .ok (.getfield 47, 3) := by decide +kernel
theorem dX8_clause_50 : decode (me_b mX8_clause) 50 = .ok (.iconst 1, 1) := by decide +kernel
theorem dX8_clause_51 : decode (me_b mX8_clause) 51 = .ok (.iadd, 1) := by decide +kernel
theorem dX8_clause_52 : decode (me_b mX8_clause) 52 = .ok (.putfield 47, 3) := by decide +kernel
theorem dX8_clause_55 : decode (me_b mX8_clause) 55 = .ok (.aload_n 0, 1) := by decide +kernel
theorem dX8_clause_56 : decode (me_b mX8_clause) 56 = .ok (.iconst 0, 1) := by decide +kernel
theorem dX8_clause_57 : decode (me_b mX8_clause) 57 = .ok (.putfield 78, 3) := by decide +kernel
theorem dX8_clause_60 : decode (me_b mX8_clause) 60 = .ok (.aload_n 0, 1) := by decide +kernel
theorem dX8_clause_61 : decode (me_b mX8_clause) 61 = .ok (.getfield 47, 3) := by decide +kernel
theorem dX8_clause_64 : decode (me_b mX8_clause) 64 = .ok (.ireturn, 1) := by decide +kernel
theorem dX8_drop_0 : decode (me_b mX8_drop) 0 = .ok (.aload_n 0, 1) := by decide +kernel
theorem dX8_drop_1 : decode (me_b mX8_drop) 1 = .ok (.getfield 47, 3) := by decide +kernel
theorem dX8_drop_4 : decode (me_b mX8_drop) 4 = .ok (.ifCond .ne 6, 3) := by decide +kernel
theorem dX8_drop_7 : decode (me_b mX8_drop) 7 = .ok (.bipush (-2), 2) := by decide +kernel
theorem dX8_drop_9 : decode (me_b mX8_drop) 9 = .ok (.ireturn, 1) := by decide +kernel
theorem dX8_drop_10 : decode (me_b mX8_drop) 10 = .ok (.aload_n 0, 1) := by decide +kernel
theorem dX8_drop_11 : decode (me_b mX8_drop) 11 = .ok (.dup, 1) := by decide +kernel
theorem dX8_drop_12 : decode (me_b mX8_drop) 12 = .ok (.getfield 47, 3) := by decide +kernel
theorem dX8_drop_15 : decode (me_b mX8_drop) 15 = .ok (.iconst 1, 1) := by decide +kernel
theorem dX8_drop_16 : decode (me_b mX8_drop) 16 = .ok (.isub, 1) := by decide +kernel
theorem dX8_drop_17 : decode (me_b mX8_drop) 17 = .ok (.putfield 47, 3) := by decide +kernel
theorem dX8_drop_20 : decode (me_b mX8_drop) 20 = .ok (.aload_n 0, 1) := by decide +kernel
theorem dX8_drop_21 : decode (me_b mX8_drop) 21 = .ok (.iconst 0, 1) := by decide +kernel
theorem dX8_drop_22 : decode (me_b mX8_drop) 22 = .ok (.putfield 78, 3) := by decide +kernel
theorem dX8_drop_25 : decode (me_b mX8_drop) 25 = .ok (.aload_n 0, 1) := by decide +kernel
theorem dX8_drop_26 : decode (me_b mX8_drop) 26 = .ok (.getfield 47, 3) := by decide +kernel
theorem dX8_drop_29 : decode (me_b mX8_drop) 29 = .ok (.ireturn, 1) := by decide +kernel
theorem dX8_has_0 : decode (me_b mX8_has) 0 = .ok (.iconst 0, 1) := by decide +kernel
theorem dX8_has_1 : decode (me_b mX8_has) 1 = .ok (.istore_n 3, 1) := by decide +kernel
theorem dX8_has_2 : decode (me_b mX8_has) 2 = .ok (.bipush 60, 2) := by decide +kernel
theorem dX8_has_4 : decode (me_b mX8_has) 4 = .ok (.iload_n 1, 1) := by decide +kernel
theorem dX8_has_5 : decode (me_b mX8_has) 5 = .ok (.imul, 1) := by decide +kernel
theorem dX8_has_6 : decode (me_b mX8_has) 6 = .ok (.istore 4, 2) := by decide +kernel
theorem dX8_has_8 : decode (me_b mX8_has) 8 = .ok (.iload 4, 2) := by decide +kernel
theorem dX8_has_10 : decode (me_b mX8_has) 10 = .ok (.bipush 60, 2) := by decide +kernel
theorem dX8_has_12 : decode (me_b mX8_has) 12 = .ok (.iload_n 1, 1) := by decide +kernel
theorem dX8_has_13 : decode (me_b mX8_has) 13 = .ok (.imul, 1) := by decide +kernel
theorem dX8_has_14 : decode (me_b mX8_has) 14 = .ok (.aload_n 0, 1) := by decide +kernel
theorem dX8_has_15 : decode (me_b mX8_has) 15 = .ok (.getfield 19, 3) := by decide +kernel
theorem dX8_has_18 : decode (me_b mX8_has) 18 = .ok (.iload_n 1, 1) := by decide +kernel
theorem dX8_has_19 : decode (me_b mX8_has) 19 = .ok (.iaload, 1) := by decide +kernel
theorem dX8_has_20 : decode (me_b mX8_has) 20 = .ok (.iadd, 1) := by decide +kernel
theorem dX8_has_21 : decode (me_b mX8_has) 21 = .ok (.if_icmp .ge 30, 3) := by decide +kernel
theorem dX8_has_24 : decode (me_b mX8_has) 24 = .ok (.iload_n 3, 1) := by decide +kernel
theorem dX8_has_25 : decode (me_b mX8_has) 25 = .ok (.ifCond .ne 14, 3) := by decide +kernel
theorem dX8_has_28 : decode (me_b mX8_has) 28 = .ok (.aload_n 0, 1) := by decide +kernel
theorem dX8_has_29 : decode (me_b mX8_has) 29 = .ok (.getfield 16, 3) := by decide +kernel
theorem dX8_has_32 : decode (me_b mX8_has) 32 = .ok (.iload 4, 2) := by decide +kernel
theorem dX8_has_34 : decode (me_b mX8_has) 34 = .ok (.iaload, 1) := by decide +kernel
theorem dX8_has_35 : decode (me_b mX8_has) 35 = .ok (.iload_n 2, 1) := by decide +kernel
theorem dX8_has_36 : decode (me_b mX8_has) 36 = .ok (.if_icmp .ne 7, 3) := by decide +kernel
theorem dX8_has_39 : decode (me_b mX8_has) 39 = .ok (.iconst 1, 1) := by decide +kernel
theorem dX8_has_40 : decode (me_b mX8_has) 40 = .ok (.goto 4, 3) := by decide +kernel
theorem dX8_has_43 : decode (me_b mX8_has) 43 = .ok (.iconst 0, 1) := by decide +kernel
theorem dX8_has_44 : decode (me_b mX8_has) 44 = .ok (.istore_n 3, 1) := by decide +kernel
theorem dX8_has_45 : decode (me_b mX8_has) 45 = .ok (.iinc 4 1, 3) := by decide +kernel
theorem dX8_has_48 : decode (me_b mX8_has) 48 = .ok (.goto (-40), 3) := by decide +kernel
theorem dX8_has_51 : decode (me_b mX8_has) 51 = .ok (.iload_n 3, 1) := by decide +kernel
theorem dX8_has_52 : decode (me_b mX8_has) 52 = .ok (.ireturn, 1) := by decide +kernel
theorem dX8_cell_0 : decode (me_b mX8_cell) 0 = .ok (.bipush 16, 2) := by decide +kernel
theorem dX8_cell_2 : decode (me_b mX8_cell) 2 = .ok (.iload_n 1, 1) := by decide +kernel
theorem dX8_cell_3 : decode (me_b mX8_cell) 3 = .ok (.imul, 1) := by decide +kernel
theorem dX8_cell_4 : decode (me_b mX8_cell) 4 = .ok (.istore_n 2, 1) := by decide +kernel
theorem dX8_cell_5 : decode (me_b mX8_cell) 5 = .ok (.iconst 1, 1) := by decide +kernel
theorem dX8_cell_6 : decode (me_b mX8_cell) 6 = .ok (.istore_n 3, 1) := by decide +kernel
theorem dX8_cell_7 : decode (me_b mX8_cell) 7 = .ok (.iconst 0, 1) := by decide +kernel
theorem dX8_cell_8 : decode (me_b mX8_cell) 8 = .ok (.istore 4, 2) := by decide +kernel
theorem dX8_cell_10 : decode (me_b mX8_cell) 10 = .ok (.iload 4, 2) := by decide +kernel
theorem dX8_cell_12 : decode (me_b mX8_cell) 12 = .ok (.aload_n 0, 1) := by decide +kernel
theorem dX8_cell_13 : decode (me_b mX8_cell) 13 = .ok (.getfield 7, 3) := by decide +kernel
theorem dX8_cell_16 : decode (me_b mX8_cell) 16 = .ok (.iload_n 1, 1) := by decide +kernel
theorem dX8_cell_17 : decode (me_b mX8_cell) 17 = .ok (.iaload, 1) := by decide +kernel
theorem dX8_cell_18 : decode (me_b mX8_cell) 18 = .ok (.if_icmp .ge 96, 3) := by decide +kernel
theorem dX8_cell_21 : decode (me_b mX8_cell) 21 = .ok (.aload_n 0, 1) := by decide +kernel
theorem dX8_cell_22 : decode (me_b mX8_cell) 22 = .ok (.dup, 1) := by decide +kernel
theorem dX8_cell_23 : decode (me_b mX8_cell) 23 = .ok (.getfield 81, 3) := by decide +kernel
theorem dX8_cell_26 : decode (me_b mX8_cell) 26 = .ok (.iconst 1, 1) := by decide +kernel
theorem dX8_cell_27 : decode (me_b mX8_cell) 27 = .ok (.isub, 1) := by decide +kernel
theorem dX8_cell_28 : decode (me_b mX8_cell) 28 = .ok (.putfield 81, 3) := by decide +kernel
theorem dX8_cell_31 : decode (me_b mX8_cell) 31 = .ok (.iload_n 3, 1) := by decide +kernel
theorem dX8_cell_32 : decode (me_b mX8_cell) 32 = .ok (.ifCond .eq 19, 3) := by decide +kernel
theorem dX8_cell_35 : decode (me_b mX8_cell) 35 = .ok (.aload_n 0, 1) := by decide +kernel
theorem dX8_cell_36 : decode (me_b mX8_cell) 36 = .ok (.getfield 40, 3) := by decide +kernel
theorem dX8_cell_39 : decode (me_b mX8_cell) 39 = .ok (.aload_n 0, 1) := by decide +kernel
theorem dX8_cell_40 : decode (me_b mX8_cell) 40 = .ok (.getfield 81, 3) := by decide +kernel
theorem dX8_cell_43 : decode (me_b mX8_cell) 43 = .ok (.iaload, 1) := by decide +kernel
theorem dX8_cell_44 : decode (me_b mX8_cell) 44 = .ok (.ifCond .lt 7, 3) := by decide +kernel
theorem dX8_cell_47 : decode (me_b mX8_cell) 47 = .ok (.iconst 1, 1) := by decide +kernel
theorem dX8_cell_48 : decode (me_b mX8_cell) 48 = .ok (.goto 4, 3) := by decide +kernel
theorem dX8_cell_51 : decode (me_b mX8_cell) 51 = .ok (.iconst 0, 1) := by decide +kernel
theorem dX8_cell_52 : decode (me_b mX8_cell) 52 = .ok (.istore_n 3, 1) := by decide +kernel
theorem dX8_cell_53 : decode (me_b mX8_cell) 53 = .ok (.iload_n 2, 1) := by decide +kernel
theorem dX8_cell_54 : decode (me_b mX8_cell) 54 = .ok (.iload_n 3, 1) := by decide +kernel
theorem dX8_cell_55 : decode (me_b mX8_cell) 55 = .ok (.ifCond .eq 50, 3) := by decide +kernel
theorem dX8_cell_58 : decode (me_b mX8_cell) 58 = .ok (.aload_n 0, 1) := by decide +kernel
theorem dX8_cell_59 : decode (me_b mX8_cell) 59 = .ok (.getfield 40, 3) := by decide +kernel
theorem dX8_cell_62 : decode (me_b mX8_cell) 62 = .ok (.aload_n 0, 1) := by decide +kernel
theorem dX8_cell_63 : decode (me_b mX8_cell) 63 = .ok (.getfield 81, 3) := by decide +kernel
theorem dX8_cell_66 : decode (me_b mX8_cell) 66 = .ok (.iaload, 1) := by decide +kernel
theorem dX8_cell_67 : decode (me_b mX8_cell) 67 = .ok (.aload_n 0, 1) := by decide +kernel
theorem dX8_cell_68 : decode (me_b mX8_cell) 68 = .ok (.getfield 7, 3) := by decide +kernel
theorem dX8_cell_71 : decode (me_b mX8_cell) 71 = .ok (.iload_n 1, 1) := by decide +kernel
theorem dX8_cell_72 : decode (me_b mX8_cell) 72 = .ok (.iaload, 1) := by decide +kernel
theorem dX8_cell_73 : decode (me_b mX8_cell) 73 = .ok (.iconst 2, 1) := by decide +kernel
theorem dX8_cell_74 : decode (me_b mX8_cell) 74 = .ok (.if_icmp .ne 12, 3) := by decide +kernel
theorem dX8_cell_77 : decode (me_b mX8_cell) 77 = .ok (.iload 4, 2) := by decide +kernel
theorem dX8_cell_79 : decode (me_b mX8_cell) 79 = .ok (.ifCond .ne 7, 3) := by decide +kernel
theorem dX8_cell_82 : decode (me_b mX8_cell) 82 = .ok (.iconst 4, 1) := by decide +kernel
theorem dX8_cell_83 : decode (me_b mX8_cell) 83 = .ok (.goto 18, 3) := by decide +kernel
theorem dX8_cell_86 : decode (me_b mX8_cell) 86 = .ok (.aload_n 0, 1) := by decide +kernel
theorem dX8_cell_87 : decode (me_b mX8_cell) 87 = .ok (.getfield 7, 3) := by decide +kernel
theorem dX8_cell_90 : decode (me_b mX8_cell) 90 = .ok (.iload_n 1, 1) := by decide +kernel
theorem dX8_cell_91 : decode (me_b mX8_cell) 91 = .ok (.iaload, 1) := by decide +kernel
theorem dX8_cell_92 : decode (me_b mX8_cell) 92 = .ok (.iconst 1, 1) := by decide +kernel
theorem dX8_cell_93 : decode (me_b mX8_cell) 93 = .ok (.if_icmp .ne 7, 3) := by decide +kernel
theorem dX8_cell_96 : decode (me_b mX8_cell) 96 = .ok (.iconst 4, 1) := by decide +kernel
theorem dX8_cell_97 : decode (me_b mX8_cell) 97 = .ok (.goto 4, 3) := by decide +kernel
theorem dX8_cell_100 : decode (me_b mX8_cell) 100 = .ok (.iconst 1, 1) := by decide +kernel
theorem dX8_cell_101 : decode (me_b mX8_cell) 101 = .ok (.imul, 1) := by decide +kernel
theorem dX8_cell_102 : decode (me_b mX8_cell) 102 = .ok (.goto 4, 3) := by decide +kernel
theorem dX8_cell_105 : decode (me_b mX8_cell) 105 = .ok (.iconst 0, 1) := by decide +kernel
theorem dX8_cell_106 : decode (me_b mX8_cell) 106 = .ok (.iadd, 1) := by decide +kernel
theorem dX8_cell_107 : decode (me_b mX8_cell) 107 = .ok (.istore_n 2, 1) := by decide +kernel
theorem dX8_cell_108 : decode (me_b mX8_cell) 108 = .ok (.iinc 4 1, 3) := by decide +kernel
theorem dX8_cell_111 : decode (me_b mX8_cell) 111 = .ok (.goto (-101), 3) := by decide +kernel
theorem dX8_cell_114 : decode (me_b mX8_cell) 114 = .ok (.iload_n 3, 1) := by decide +kernel
theorem dX8_cell_115 : decode (me_b mX8_cell) 115 = .ok (.ifCond .eq 12, 3) := by decide +kernel
theorem dX8_cell_118 : decode (me_b mX8_cell) 118 = .ok (.aload_n 0, 1) := by decide +kernel
theorem dX8_cell_119 : decode (me_b mX8_cell) 119 = .ok (.getfield 22, 3) := by decide +kernel
theorem dX8_cell_122 : decode (me_b mX8_cell) 122 = .ok (.iload_n 2, 1) := by decide +kernel
theorem dX8_cell_123 : decode (me_b mX8_cell) 123 = .ok (.iaload, 1) := by decide +kernel
theorem dX8_cell_124 : decode (me_b mX8_cell) 124 = .ok (.goto 4, 3) := by decide +kernel
theorem dX8_cell_127 : decode (me_b mX8_cell) 127 = .ok (.iconst (-1), 1) := by decide +kernel
theorem dX8_cell_128 : decode (me_b mX8_cell) 128 = .ok (.ireturn, 1) := by decide +kernel
theorem dX8_step_0 : decode (me_b mX8_step) 0 = .ok (.iload_n 1, 1) := by decide +kernel
theorem dX8_step_1 : decode (me_b mX8_step) 1 = .ok (.invokestatic 43, 3) := by decide +kernel
theorem dX8_step_4 : decode (me_b mX8_step) 4 = .ok (.istore_n 2, 1) := by decide +kernel
theorem dX8_step_5 : decode (me_b mX8_step) 5 = .ok (.iload_n 1, 1) := by decide +kernel
theorem dX8_step_6 : decode (me_b mX8_step) 6 = .ok (.bipush 120, 2) := by decide +kernel
theorem dX8_step_8 : decode (me_b mX8_step) 8 = .ok (.if_icmp .lt 30, 3) := by decide +kernel
theorem dX8_step_11 : decode (me_b mX8_step) 11 = .ok (.iload_n 1, 1) := by decide +kernel
theorem dX8_step_12 : decode (me_b mX8_step) 12 = .ok (.bipush 122, 2) := by decide +kernel
theorem dX8_step_14 : decode (me_b mX8_step) 14 = .ok (.if_icmp .gt 24, 3) := by decide +kernel
theorem dX8_step_17 : decode (me_b mX8_step) 17 = .ok (.aload_n 0, 1) := by decide +kernel
theorem dX8_step_18 : decode (me_b mX8_step) 18 = .ok (.getfield 40, 3) := by decide +kernel
theorem dX8_step_21 : decode (me_b mX8_step) 21 = .ok (.aload_n 0, 1) := by decide +kernel
theorem dX8_step_22 : decode (me_b mX8_step) 22 = .ok (.getfield 81, 3) := by decide +kernel
theorem dX8_step_25 : decode (me_b mX8_step) 25 = .ok (.aload_n 0, 1) := by decide +kernel
theorem dX8_step_26 : decode (me_b mX8_step) 26 = .ok (.getfield 34, 3) := by decide +kernel
theorem dX8_step_29 : decode (me_b mX8_step) 29 = .ok (.iload_n 1, 1) := by decide +kernel
theorem dX8_step_30 : decode (me_b mX8_step) 30 = .ok (.bipush 120, 2) := by decide +kernel
theorem dX8_step_32 : decode (me_b mX8_step) 32 = .ok (.isub, 1) := by decide +kernel
theorem dX8_step_33 : decode (me_b mX8_step) 33 = .ok (.iaload, 1) := by decide +kernel
theorem dX8_step_34 : decode (me_b mX8_step) 34 = .ok (.iastore, 1) := by decide +kernel
theorem dX8_step_35 : decode (me_b mX8_step) 35 = .ok (.goto 147, 3) := by decide +kernel
theorem dX8_step_38 : decode (me_b mX8_step) 38 = .ok (.iload_n 2, 1) := by decide +kernel
theorem dX8_step_39 : decode (me_b mX8_step) 39 = .ok (.ifCond .lt 22, 3) := by decide +kernel
theorem dX8_step_42 : decode (me_b mX8_step) 42 = .ok (.aload_n 0, 1) := by decide +kernel
theorem dX8_step_43 : decode (me_b mX8_step) 43 = .ok (.iload_n 2, 1) := by decide +kernel
theorem dX8_step_44 : decode (me_b mX8_step) 44 = .ok (.invokevirtual 84, 3) := by decide +kernel
theorem dX8_step_47 : decode (me_b mX8_step) 47 = .ok (.istore_n 3, 1) := by decide +kernel
theorem dX8_step_48 : decode (me_b mX8_step) 48 = .ok (.aload_n 0, 1) := by decide +kernel
theorem dX8_step_49 : decode (me_b mX8_step) 49 = .ok (.getfield 40, 3) := by decide +kernel
theorem dX8_step_52 : decode (me_b mX8_step) 52 = .ok (.aload_n 0, 1) := by decide +kernel
theorem dX8_step_53 : decode (me_b mX8_step) 53 = .ok (.getfield 81, 3) := by decide +kernel
theorem dX8_step_56 : decode (me_b mX8_step) 56 = .ok (.iload_n 3, 1) := by decide +kernel
theorem dX8_step_57 : decode (me_b mX8_step) 57 = .ok (.iastore, 1) := by decide +kernel
theorem dX8_step_58 : decode (me_b mX8_step) 58 = .ok (.goto 124, 3) := by decide +kernel
theorem dX8_step_61 : decode (me_b mX8_step) 61 = .ok (.iload_n 1, 1) := by decide +kernel
theorem dX8_step_62 : decode (me_b mX8_step) 62 = .ok (.bipush 61, 2) := by decide +kernel
theorem dX8_step_64 : decode (me_b mX8_step) 64 = .ok (.if_icmp .ne 72, 3) := by decide +kernel
theorem dX8_step_67 : decode (me_b mX8_step) 67 = .ok (.aload_n 0, 1) := by decide +kernel
theorem dX8_step_68 : decode (me_b mX8_step) 68 = .ok (.dup, 1) := by decide +kernel
theorem dX8_step_69 : decode (me_b mX8_step) 69 = .ok (.getfield 81, 3) := by decide +kernel
theorem dX8_step_72 : decode (me_b mX8_step) 72 = .ok (.iconst 2, 1) := by decide +kernel
theorem dX8_step_73 : decode (me_b mX8_step) 73 = .ok (.isub, 1) := by decide +kernel
theorem dX8_step_74 : decode (me_b mX8_step) 74 = .ok (.putfield 81, 3) := by decide +kernel
theorem dX8_step_77 : decode (me_b mX8_step) 77 = .ok (.aload_n 0, 1) := by decide +kernel
theorem dX8_step_78 : decode (me_b mX8_step) 78 = .ok (.getfield 40, 3) := by decide +kernel
theorem dX8_step_81 : decode (me_b mX8_step) 81 = .ok (.aload_n 0, 1) := by decide +kernel
theorem dX8_step_82 : decode (me_b mX8_step) 82 = .ok (.getfield 81, 3) := by decide +kernel
theorem dX8_step_85 : decode (me_b mX8_step) 85 = .ok (.iaload, 1) := by decide +kernel
theorem dX8_step_86 : decode (me_b mX8_step) 86 = .ok (.istore_n 3, 1) := by decide +kernel
theorem dX8_step_87 : decode (me_b mX8_step) 87 = .ok (.aload_n 0, 1) := by decide +kernel
theorem dX8_step_88 : decode (me_b mX8_step) 88 = .ok (.getfield 40, 3) := by decide +kernel
theorem dX8_step_91 : decode (me_b mX8_step) 91 = .ok (.aload_n 0, 1) := by decide +kernel
theorem dX8_step_92 : decode (me_b mX8_step) 92 = .ok (.getfield 81, 3) := by decide +kernel
theorem dX8_step_95 : decode (me_b mX8_step) 95 = .ok (.iconst 1, 1) := by decide +kernel
theorem dX8_step_96 : decode (me_b mX8_step) 96 = .ok (.iadd, 1) := by decide +kernel
theorem dX8_step_97 : decode (me_b mX8_step) 97 = .ok (.iaload, 1) := by decide +kernel
theorem dX8_step_98 : decode (me_b mX8_step) 98 = .ok (.istore 4, 2) := by decide +kernel
theorem dX8_step_100 : decode (me_b mX8_step) 100 = .ok (.aload_n 0, 1) := by decide +kernel
theorem dX8_step_101 : decode (me_b mX8_step) 101 = .ok (.getfield 40, 3) := by decide +kernel
theorem dX8_step_104 : decode (me_b mX8_step) 104 = .ok (.aload_n 0, 1) := by decide +kernel
theorem dX8_step_105 : decode (me_b mX8_step) 105 = .ok (.getfield 81, 3) := by decide +kernel
theorem dX8_step_108 : decode (me_b mX8_step) 108 = .ok (.iload_n 3, 1) := by decide +kernel
theorem dX8_step_109 : decode (me_b mX8_step) 109 = .ok (.ifCond .lt 8, 3) := by decide +kernel
theorem dX8_step_112 : decode (me_b mX8_step) 112 = .ok (.iload 4, 2) := by decide +kernel
theorem dX8_step_114 : decode (me_b mX8_step) 114 = .ok (.ifCond .ge 7, 3) := by decide +kernel
theorem dX8_step_117 : decode (me_b mX8_step) 117 = .ok (.iconst (-1), 1) := by decide +kernel
theorem dX8_step_118 : decode (me_b mX8_step) 118 = .ok (.goto 14, 3) := by decide +kernel
theorem dX8_step_121 : decode (me_b mX8_step) 121 = .ok (.iload_n 3, 1) := by decide +kernel
theorem dX8_step_122 : decode (me_b mX8_step) 122 = .ok (.iload 4, 2) := by decide +kernel
theorem dX8_step_124 : decode (me_b mX8_step) 124 = .ok (.if_icmp .ne 7, 3) := by decide +kernel
theorem dX8_step_127 : decode (me_b mX8_step) 127 = .ok (.iconst 1, 1) := by decide +kernel
theorem dX8_step_128 : decode (me_b mX8_step) 128 = .ok (.goto 4, 3) := by decide +kernel
theorem dX8_step_131 : decode (me_b mX8_step) 131 = .ok (.iconst 0, 1) := by decide +kernel
theorem dX8_step_132 : decode (me_b mX8_step) 132 = .ok (.iastore, 1) := by decide +kernel
theorem dX8_step_133 : decode (me_b mX8_step) 133 = .ok (.goto 49, 3) := by decide +kernel
theorem dX8_step_136 : decode (me_b mX8_step) 136 = .ok (.aload_n 0, 1) := by decide +kernel
theorem dX8_step_137 : decode (me_b mX8_step) 137 = .ok (.dup, 1) := by decide +kernel
theorem dX8_step_138 : decode (me_b mX8_step) 138 = .ok (.getfield 81, 3) := by decide +kernel
theorem dX8_step_141 : decode (me_b mX8_step) 141 = .ok (.iconst 1, 1) := by decide +kernel
theorem dX8_step_142 : decode (me_b mX8_step) 142 = .ok (.isub, 1) := by decide +kernel
theorem dX8_step_143 : decode (me_b mX8_step) 143 = .ok (.putfield 81, 3) := by decide +kernel
theorem dX8_step_146 : decode (me_b mX8_step) 146 = .ok (.aload_n 0, 1) := by decide +kernel
theorem dX8_step_147 : decode (me_b mX8_step) 147 = .ok (.getfield 40, 3) := by decide +kernel
theorem dX8_step_150 : decode (me_b mX8_step) 150 = .ok (.aload_n 0, 1) := by decide +kernel
theorem dX8_step_151 : decode (me_b mX8_step) 151 = .ok (.getfield 81, 3) := by decide +kernel
theorem dX8_step_154 : decode (me_b mX8_step) 154 = .ok (.aload_n 0, 1) := by decide +kernel
theorem dX8_step_155 : decode (me_b mX8_step) 155 = .ok (.getfield 40, 3) := by decide +kernel
theorem dX8_step_158 : decode (me_b mX8_step) 158 = .ok (.aload_n 0, 1) := by decide +kernel
theorem dX8_step_159 : decode (me_b mX8_step) 159 = .ok (.getfield 81, 3) := by decide +kernel
theorem dX8_step_162 : decode (me_b mX8_step) 162 = .ok (.iaload, 1) := by decide +kernel
theorem dX8_step_163 : decode (me_b mX8_step) 163 = .ok (.ifCond .ge 7, 3) := by decide +kernel
theorem dX8_step_166 : decode (me_b mX8_step) 166 = .ok (.iconst (-1), 1) := by decide +kernel
theorem dX8_step_167 : decode (me_b mX8_step) 167 = .ok (.goto 14, 3) := by decide +kernel
theorem dX8_step_170 : decode (me_b mX8_step) 170 = .ok (.iconst 1, 1) := by decide +kernel
theorem dX8_step_171 : decode (me_b mX8_step) 171 = .ok (.aload_n 0, 1) := by decide +kernel
theorem dX8_step_172 : decode (me_b mX8_step) 172 = .ok (.getfield 40, 3) := by decide +kernel
theorem dX8_step_175 : decode (me_b mX8_step) 175 = .ok (.aload_n 0, 1) := by decide +kernel
theorem dX8_step_176 : decode (me_b mX8_step) 176 = .ok (.getfield 81, 3) := by decide +kernel
theorem dX8_step_179 : decode (me_b mX8_step) 179 = .ok (.iaload, 1) := by decide +kernel
theorem dX8_step_180 : decode (me_b mX8_step) 180 = .ok (.isub, 1) := by decide +kernel
theorem dX8_step_181 : decode (me_b mX8_step) 181 = .ok (.iastore, 1) := by decide +kernel
theorem dX8_step_182 : decode (me_b mX8_step) 182 = .ok (.aload_n 0, 1) := by decide +kernel
theorem dX8_step_183 : decode (me_b mX8_step) 183 = .ok (.dup, 1) := by decide +kernel
theorem dX8_step_184 : decode (me_b mX8_step) 184 = .ok (.getfield 81, 3) := by decide +kernel
theorem dX8_step_187 : decode (me_b mX8_step) 187 = .ok (.iconst 1, 1) := by decide +kernel
theorem dX8_step_188 : decode (me_b mX8_step) 188 = .ok (.iadd, 1) := by decide +kernel
theorem dX8_step_189 : decode (me_b mX8_step) 189 = .ok (.putfield 81, 3) := by decide +kernel
theorem dX8_step_192 : decode (me_b mX8_step) 192 = .ok (.return_, 1) := by decide +kernel
theorem dX8_isBroken_0 : decode (me_b mX8_isBroken) 0 = .ok (.aload_n 0, 1) := by decide +kernel
theorem dX8_isBroken_1 : decode (me_b mX8_isBroken) 1 = .ok (.iconst 0, 1) := by decide +kernel
theorem dX8_isBroken_2 : decode (me_b mX8_isBroken) 2 = .ok (.putfield 81, 3) := by decide +kernel
theorem dX8_isBroken_5 : decode (me_b mX8_isBroken) 5 = .ok (.iconst 1, 1) := by decide +kernel
theorem dX8_isBroken_6 : decode (me_b mX8_isBroken) 6 = .ok (.istore_n 2, 1) := by decide +kernel
theorem dX8_isBroken_7 : decode (me_b mX8_isBroken) 7 = .ok (.aload_n 0, 1) := by decide +kernel
theorem dX8_isBroken_8 : decode (me_b mX8_isBroken) 8 = .ok (.getfield 19, 3) := by decide +kernel
theorem dX8_isBroken_11 : decode (me_b mX8_isBroken) 11 = .ok (.iload_n 1, 1) := by decide +kernel
theorem dX8_isBroken_12 : decode (me_b mX8_isBroken) 12 = .ok (.iaload, 1) := by decide +kernel
theorem dX8_isBroken_13 : decode (me_b mX8_isBroken) 13 = .ok (.iconst 1, 1) := by decide +kernel
theorem dX8_isBroken_14 : decode (me_b mX8_isBroken) 14 = .ok (.isub, 1) := by decide +kernel
theorem dX8_isBroken_15 : decode (me_b mX8_isBroken) 15 = .ok (.istore_n 3, 1) := by decide +kernel
theorem dX8_isBroken_16 : decode (me_b mX8_isBroken) 16 = .ok (.iload_n 3, 1) := by decide +kernel
theorem dX8_isBroken_17 : decode (me_b mX8_isBroken) 17 = .ok (.ifCond .lt 62, 3) := by decide +kernel
theorem dX8_isBroken_20 : decode (me_b mX8_isBroken) 20 = .ok (.iload_n 2, 1) := by decide +kernel
theorem dX8_isBroken_21 : decode (me_b mX8_isBroken) 21 = .ok (.ifCond .eq 58, 3) := by decide +kernel
theorem dX8_isBroken_24 : decode (me_b mX8_isBroken) 24 = .ok (.aload_n 0, 1) := by decide +kernel
theorem dX8_isBroken_25 : decode (me_b mX8_isBroken) 25 = .ok (.getfield 16, 3) := by decide +kernel
theorem dX8_isBroken_28 : decode (me_b mX8_isBroken) 28 = .ok (.bipush 60, 2) := by decide +kernel
theorem dX8_isBroken_30 : decode (me_b mX8_isBroken) 30 = .ok (.iload_n 1, 1) := by decide +kernel
theorem dX8_isBroken_31 : decode (me_b mX8_isBroken) 31 = .ok (.imul, 1) := by decide +kernel
theorem dX8_isBroken_32 : decode (me_b mX8_isBroken) 32 = .ok (.iload_n 3, 1) := by decide +kernel
theorem dX8_isBroken_33 : decode (me_b mX8_isBroken) 33 = .ok (.iadd, 1) := by decide +kernel
theorem dX8_isBroken_34 : decode (me_b mX8_isBroken) 34 = .ok (.iaload, 1) := by decide +kernel
theorem dX8_isBroken_35 : decode (me_b mX8_isBroken) 35 = .ok (.istore 4, 2) := by decide +kernel
theorem dX8_isBroken_37 : decode (me_b mX8_isBroken) 37 = .ok (.iload 4, 2) := by decide +kernel
theorem dX8_isBroken_39 : decode (me_b mX8_isBroken) 39 = .ok (.bipush 124, 2) := by decide +kernel
theorem dX8_isBroken_41 : decode (me_b mX8_isBroken) 41 = .ok (.if_icmp .ne 26, 3) := by decide +kernel
theorem dX8_isBroken_44 : decode (me_b mX8_isBroken) 44 = .ok (.aload_n 0, 1) := by decide +kernel
theorem dX8_isBroken_45 : decode (me_b mX8_isBroken) 45 = .ok (.getfield 40, 3) := by decide +kernel
theorem dX8_isBroken_48 : decode (me_b mX8_isBroken) 48 = .ok (.iconst 0, 1) := by decide +kernel
theorem dX8_isBroken_49 : decode (me_b mX8_isBroken) 49 = .ok (.iaload, 1) := by decide +kernel
theorem dX8_isBroken_50 : decode (me_b mX8_isBroken) 50 = .ok (.ifCond .ne 7, 3) := by decide +kernel
theorem dX8_isBroken_53 : decode (me_b mX8_isBroken) 53 = .ok (.iconst 1, 1) := by decide +kernel
theorem dX8_isBroken_54 : decode (me_b mX8_isBroken) 54 = .ok (.goto 4, 3) := by decide +kernel
theorem dX8_isBroken_57 : decode (me_b mX8_isBroken) 57 = .ok (.iconst 0, 1) := by decide +kernel
theorem dX8_isBroken_58 : decode (me_b mX8_isBroken) 58 = .ok (.istore_n 2, 1) := by decide +kernel
theorem dX8_isBroken_59 : decode (me_b mX8_isBroken) 59 = .ok (.aload_n 0, 1) := by decide +kernel
theorem dX8_isBroken_60 : decode (me_b mX8_isBroken) 60 = .ok (.iconst 0, 1) := by decide +kernel
theorem dX8_isBroken_61 : decode (me_b mX8_isBroken) 61 = .ok (.putfield 81, 3) := by decide +kernel
theorem dX8_isBroken_64 : decode (me_b mX8_isBroken) 64 = .ok (.goto 9, 3) := by decide +kernel
theorem dX8_isBroken_67 : decode (me_b mX8_isBroken) 67 = .ok (.aload_n 0, 1) := by decide +kernel
theorem dX8_isBroken_68 : decode (me_b mX8_isBroken) 68 = .ok (.iload 4, 2) := by decide +kernel
theorem dX8_isBroken_70 : decode (me_b mX8_isBroken) 70 = .ok (.invokevirtual 87, 3) := by decide +kernel
theorem dX8_isBroken_73 : decode (me_b mX8_isBroken) 73 = .ok (.iinc 3 (-1), 3) := by decide +kernel
theorem dX8_isBroken_76 : decode (me_b mX8_isBroken) 76 = .ok (.goto (-60), 3) := by decide +kernel
theorem dX8_isBroken_79 : decode (me_b mX8_isBroken) 79 = .ok (.iload_n 2, 1) := by decide +kernel
theorem dX8_isBroken_80 : decode (me_b mX8_isBroken) 80 = .ok (.ifCond .eq 16, 3) := by decide +kernel
theorem dX8_isBroken_83 : decode (me_b mX8_isBroken) 83 = .ok (.aload_n 0, 1) := by decide +kernel
theorem dX8_isBroken_84 : decode (me_b mX8_isBroken) 84 = .ok (.getfield 40, 3) := by decide +kernel
theorem dX8_isBroken_87 : decode (me_b mX8_isBroken) 87 = .ok (.iconst 0, 1) := by decide +kernel
theorem dX8_isBroken_88 : decode (me_b mX8_isBroken) 88 = .ok (.iaload, 1) := by decide +kernel
theorem dX8_isBroken_89 : decode (me_b mX8_isBroken) 89 = .ok (.ifCond .ne 7, 3) := by decide +kernel
theorem dX8_isBroken_92 : decode (me_b mX8_isBroken) 92 = .ok (.iconst 1, 1) := by decide +kernel
theorem dX8_isBroken_93 : decode (me_b mX8_isBroken) 93 = .ok (.goto 4, 3) := by decide +kernel
theorem dX8_isBroken_96 : decode (me_b mX8_isBroken) 96 = .ok (.iconst 0, 1) := by decide +kernel
theorem dX8_isBroken_97 : decode (me_b mX8_isBroken) 97 = .ok (.ireturn, 1) := by decide +kernel
theorem dX8_breaks_0 : decode (me_b mX8_breaks) 0 = .ok (.aload_n 0, 1) := by decide +kernel
theorem dX8_breaks_1 : decode (me_b mX8_breaks) 1 = .ok (.iload_n 1, 1) := by decide +kernel
theorem dX8_breaks_2 : decode (me_b mX8_breaks) 2 = .ok (.bipush 120, 2) := by decide +kernel
theorem dX8_breaks_4 : decode (me_b mX8_breaks) 4 = .ok (.invokevirtual 90, 3) := by decide +kernel
theorem dX8_breaks_7 : decode (me_b mX8_breaks) 7 = .ok (.ifCond .eq 10, 3) := by decide +kernel
theorem dX8_breaks_10 : decode (me_b mX8_breaks) 10 = .ok (.aload_n 0, 1) := by decide +kernel
theorem dX8_breaks_11 : decode (me_b mX8_breaks) 11 = .ok (.getfield 94, 3) := by decide +kernel
theorem dX8_breaks_14 : decode (me_b mX8_breaks) 14 = .ok (.goto 4, 3) := by decide +kernel
theorem dX8_breaks_17 : decode (me_b mX8_breaks) 17 = .ok (.iconst 1, 1) := by decide +kernel
theorem dX8_breaks_18 : decode (me_b mX8_breaks) 18 = .ok (.istore_n 2, 1) := by decide +kernel
theorem dX8_breaks_19 : decode (me_b mX8_breaks) 19 = .ok (.aload_n 0, 1) := by decide +kernel
theorem dX8_breaks_20 : decode (me_b mX8_breaks) 20 = .ok (.iload_n 1, 1) := by decide +kernel
theorem dX8_breaks_21 : decode (me_b mX8_breaks) 21 = .ok (.bipush 121, 2) := by decide +kernel
theorem dX8_breaks_23 : decode (me_b mX8_breaks) 23 = .ok (.invokevirtual 90, 3) := by decide +kernel
theorem dX8_breaks_26 : decode (me_b mX8_breaks) 26 = .ok (.ifCond .eq 10, 3) := by decide +kernel
theorem dX8_breaks_29 : decode (me_b mX8_breaks) 29 = .ok (.aload_n 0, 1) := by decide +kernel
theorem dX8_breaks_30 : decode (me_b mX8_breaks) 30 = .ok (.getfield 94, 3) := by decide +kernel
theorem dX8_breaks_33 : decode (me_b mX8_breaks) 33 = .ok (.goto 4, 3) := by decide +kernel
theorem dX8_breaks_36 : decode (me_b mX8_breaks) 36 = .ok (.iconst 1, 1) := by decide +kernel
theorem dX8_breaks_37 : decode (me_b mX8_breaks) 37 = .ok (.istore_n 3, 1) := by decide +kernel
theorem dX8_breaks_38 : decode (me_b mX8_breaks) 38 = .ok (.aload_n 0, 1) := by decide +kernel
theorem dX8_breaks_39 : decode (me_b mX8_breaks) 39 = .ok (.iload_n 1, 1) := by decide +kernel
theorem dX8_breaks_40 : decode (me_b mX8_breaks) 40 = .ok (.bipush 122, 2) := by decide +kernel
theorem dX8_breaks_42 : decode (me_b mX8_breaks) 42 = .ok (.invokevirtual 90, 3) := by decide +kernel
theorem dX8_breaks_45 : decode (me_b mX8_breaks) 45 = .ok (.ifCond .eq 10, 3) := by decide +kernel
theorem dX8_breaks_48 : decode (me_b mX8_breaks) 48 = .ok (.aload_n 0, 1) := by decide +kernel
theorem dX8_breaks_49 : decode (me_b mX8_breaks) 49 = .ok (.getfield 94, 3) := by decide +kernel
theorem dX8_breaks_52 : decode (me_b mX8_breaks) 52 = .ok (.goto 4, 3) := by decide +kernel
theorem dX8_breaks_55 : decode (me_b mX8_breaks) 55 = .ok (.iconst 1, 1) := by decide +kernel
theorem dX8_breaks_56 : decode (me_b mX8_breaks) 56 = .ok (.istore 4, 2) := by decide +kernel
theorem dX8_breaks_58 : decode (me_b mX8_breaks) 58 = .ok (.iconst 0, 1) := by decide +kernel
theorem dX8_breaks_59 : decode (me_b mX8_breaks) 59 = .ok (.istore 5, 2) := by decide +kernel
theorem dX8_breaks_61 : decode (me_b mX8_breaks) 61 = .ok (.iload 5, 2) := by decide +kernel
theorem dX8_breaks_63 : decode (me_b mX8_breaks) 63 = .ok (.iload_n 2, 1) := by decide +kernel
theorem dX8_breaks_64 : decode (me_b mX8_breaks) 64 = .ok (.iload_n 3, 1) := by decide +kernel
theorem dX8_breaks_65 : decode (me_b mX8_breaks) 65 = .ok (.imul, 1) := by decide +kernel
theorem dX8_breaks_66 : decode (me_b mX8_breaks) 66 = .ok (.iload 4, 2) := by decide +kernel
theorem dX8_breaks_68 : decode (me_b mX8_breaks) 68 = .ok (.imul, 1) := by decide +kernel
theorem dX8_breaks_69 : decode (me_b mX8_breaks) 69 = .ok (.if_icmp .ge 56, 3) := by decide +kernel
theorem dX8_breaks_72 : decode (me_b mX8_breaks) 72 = .ok (.aload_n 0, 1) := by decide +kernel
theorem dX8_breaks_73 : decode (me_b mX8_breaks) 73 = .ok (.getfield 34, 3) := by decide +kernel
theorem dX8_breaks_76 : decode (me_b mX8_breaks) 76 = .ok (.iconst 0, 1) := by decide +kernel
theorem dX8_breaks_77 : decode (me_b mX8_breaks) 77 = .ok (.iload 5, 2) := by decide +kernel
theorem dX8_breaks_79 : decode (me_b mX8_breaks) 79 = .ok (.iload_n 3, 1) := by decide +kernel
theorem dX8_breaks_80 : decode (me_b mX8_breaks) 80 = .ok (.iload 4, 2) := by decide +kernel
theorem dX8_breaks_82 : decode (me_b mX8_breaks) 82 = .ok (.imul, 1) := by decide +kernel
theorem dX8_breaks_83 : decode (me_b mX8_breaks) 83 = .ok (.idiv, 1) := by decide +kernel
theorem dX8_breaks_84 : decode (me_b mX8_breaks) 84 = .ok (.iastore, 1) := by decide +kernel
theorem dX8_breaks_85 : decode (me_b mX8_breaks) 85 = .ok (.aload_n 0, 1) := by decide +kernel
theorem dX8_breaks_86 : decode (me_b mX8_breaks) 86 = .ok (.getfield 34, 3) := by decide +kernel
theorem dX8_breaks_89 : decode (me_b mX8_breaks) 89 = .ok (.iconst 1, 1) := by decide +kernel
theorem dX8_breaks_90 : decode (me_b mX8_breaks) 90 = .ok (.iload 5, 2) := by decide +kernel
theorem dX8_breaks_92 : decode (me_b mX8_breaks) 92 = .ok (.iload 4, 2) := by decide +kernel
theorem dX8_breaks_94 : decode (me_b mX8_breaks) 94 = .ok (.idiv, 1) := by decide +kernel
theorem dX8_breaks_95 : decode (me_b mX8_breaks) 95 = .ok (.iload_n 3, 1) := by decide +kernel
theorem dX8_breaks_96 : decode (me_b mX8_breaks) 96 = .ok (.irem, 1) := by decide +kernel
theorem dX8_breaks_97 : decode (me_b mX8_breaks) 97 = .ok (.iastore, 1) := by decide +kernel
theorem dX8_breaks_98 : decode (me_b mX8_breaks) 98 = .ok (.aload_n 0, 1) := by decide +kernel
theorem dX8_breaks_99 : decode (me_b mX8_breaks) 99 = .ok (.getfield 34, 3) := by decide +kernel
theorem dX8_breaks_102 : decode (me_b mX8_breaks) 102 = .ok (.iconst 2, 1) := by decide +kernel
theorem dX8_breaks_103 : decode (me_b mX8_breaks) 103 = .ok (.iload 5, 2) := by decide +kernel
theorem dX8_breaks_105 : decode (me_b mX8_breaks) 105 = .ok (.iload 4, 2) := by decide +kernel
theorem dX8_breaks_107 : decode (me_b mX8_breaks) 107 = .ok (.irem, 1) := by decide +kernel
theorem dX8_breaks_108 : decode (me_b mX8_breaks) 108 = .ok (.iastore, 1) := by decide +kernel
theorem dX8_breaks_109 : decode (me_b mX8_breaks) 109 = .ok (.aload_n 0, 1) := by decide +kernel
theorem dX8_breaks_110 : decode (me_b mX8_breaks) 110 = .ok (.iload_n 1, 1) := by decide +kernel
theorem dX8_breaks_111 : decode (me_b mX8_breaks) 111 = .ok (.invokevirtual 97, 3) := by decide +kernel
theorem dX8_breaks_114 : decode (me_b mX8_breaks) 114 = .ok (.ifCond .eq 5, 3) := by decide +kernel
theorem dX8_breaks_117 : decode (me_b mX8_breaks) 117 = .ok (.iconst 1, 1) := by decide +kernel
theorem dX8_breaks_118 : decode (me_b mX8_breaks) 118 = .ok (.ireturn, 1) := by decide +kernel
theorem dX8_breaks_119 : decode (me_b mX8_breaks) 119 = .ok (.iinc 5 1, 3) := by decide +kernel
theorem dX8_breaks_122 : decode (me_b mX8_breaks) 122 = .ok (.goto (-61), 3) := by decide +kernel
theorem dX8_breaks_125 : decode (me_b mX8_breaks) 125 = .ok (.iconst 0, 1) := by decide +kernel
theorem dX8_breaks_126 : decode (me_b mX8_breaks) 126 = .ok (.ireturn, 1) := by decide +kernel
theorem dX8_letterOf_0 : decode (me_b mX8_letterOf) 0 = .ok (.iload_n 0, 1) := by decide +kernel
theorem dX8_letterOf_1 : decode (me_b mX8_letterOf) 1 = .ok (.iconst 4, 1) := by decide +kernel
theorem dX8_letterOf_2 : decode (me_b mX8_letterOf) 2 = .ok (.if_icmp .ge 10, 3) := by decide +kernel
theorem dX8_letterOf_5 : decode (me_b mX8_letterOf) 5 = .ok (.bipush 97, 2) := by decide +kernel
theorem dX8_letterOf_7 : decode (me_b mX8_letterOf) 7 = .ok (.iload_n 0, 1) := by decide +kernel
theorem dX8_letterOf_8 : decode (me_b mX8_letterOf) 8 = .ok (.iadd, 1) := by decide +kernel
theorem dX8_letterOf_9 : decode (me_b mX8_letterOf) 9 = .ok (.goto 9, 3) := by decide +kernel
theorem dX8_letterOf_12 : decode (me_b mX8_letterOf) 12 = .ok (.bipush 80, 2) := by decide +kernel
theorem dX8_letterOf_14 : decode (me_b mX8_letterOf) 14 = .ok (.iload_n 0, 1) := by decide +kernel
theorem dX8_letterOf_15 : decode (me_b mX8_letterOf) 15 = .ok (.iadd, 1) := by decide +kernel
theorem dX8_letterOf_16 : decode (me_b mX8_letterOf) 16 = .ok (.iconst 4, 1) := by decide +kernel
theorem dX8_letterOf_17 : decode (me_b mX8_letterOf) 17 = .ok (.isub, 1) := by decide +kernel
theorem dX8_letterOf_18 : decode (me_b mX8_letterOf) 18 = .ok (.ireturn, 1) := by decide +kernel
theorem dX8_someBreaks_0 : decode (me_b mX8_someBreaks) 0 = .ok (.iconst 0, 1) := by decide +kernel
theorem dX8_someBreaks_1 : decode (me_b mX8_someBreaks) 1 = .ok (.istore_n 2, 1) := by decide +kernel
theorem dX8_someBreaks_2 : decode (me_b mX8_someBreaks) 2 = .ok (.iconst 0, 1) := by decide +kernel
theorem dX8_someBreaks_3 : decode (me_b mX8_someBreaks) 3 = .ok (.istore_n 3, 1) := by decide +kernel
theorem dX8_someBreaks_4 : decode (me_b mX8_someBreaks) 4 = .ok (.iload_n 3, 1) := by decide +kernel
theorem dX8_someBreaks_5 : decode (me_b mX8_someBreaks) 5 = .ok (.aload_n 0, 1) := by decide +kernel
theorem dX8_someBreaks_6 : decode (me_b mX8_someBreaks) 6 = .ok (.getfield 47, 3) := by decide +kernel
theorem dX8_someBreaks_9 : decode (me_b mX8_someBreaks) 9 = .ok (.if_icmp .ge 43, 3) := by decide +kernel
theorem dX8_someBreaks_12 : decode (me_b mX8_someBreaks) 12 = .ok (.iload_n 2, 1) := by decide +kernel
theorem dX8_someBreaks_13 : decode (me_b mX8_someBreaks) 13 = .ok (.ifCond .ne 39, 3) := by decide +kernel
theorem dX8_someBreaks_16 : decode (me_b mX8_someBreaks) 16 = .ok (.iload_n 1, 1) := by decide +kernel
theorem dX8_someBreaks_17 : decode (me_b mX8_someBreaks) 17 = .ok (.ifCond .lt 15, 3) := by decide +kernel
theorem dX8_someBreaks_20 : decode (me_b mX8_someBreaks) 20 = .ok (.aload_n 0, 1) := by decide +kernel
theorem dX8_someBreaks_21 : decode (me_b mX8_someBreaks) 21 = .ok (.iload_n 3, 1) := by decide +kernel
theorem dX8_someBreaks_22 : decode (me_b mX8_someBreaks) 22 = .ok (.iload_n 1, 1) := by decide +kernel
theorem dX8_someBreaks_23 : decode (me_b mX8_someBreaks) 23 = .ok (.invokestatic 101, 3) := by decide +kernel
theorem dX8_someBreaks_26 : decode (me_b mX8_someBreaks) 26 = .ok (.invokevirtual 90, 3) := by decide +kernel
theorem dX8_someBreaks_29 : decode (me_b mX8_someBreaks) 29 = .ok (.ifCond .eq 15, 3) := by decide +kernel
theorem dX8_someBreaks_32 : decode (me_b mX8_someBreaks) 32 = .ok (.aload_n 0, 1) := by decide +kernel
theorem dX8_someBreaks_33 : decode (me_b mX8_someBreaks) 33 = .ok (.iload_n 3, 1) := by decide +kernel
theorem dX8_someBreaks_34 : decode (me_b mX8_someBreaks) 34 = .ok (.invokevirtual 104, 3) := by decide +kernel
theorem dX8_someBreaks_37 : decode (me_b mX8_someBreaks) 37 = .ok (.ifCond .eq 7, 3) := by decide +kernel
theorem dX8_someBreaks_40 : decode (me_b mX8_someBreaks) 40 = .ok (.iconst 1, 1) := by decide +kernel
theorem dX8_someBreaks_41 : decode (me_b mX8_someBreaks) 41 = .ok (.goto 4, 3) := by decide +kernel
theorem dX8_someBreaks_44 : decode (me_b mX8_someBreaks) 44 = .ok (.iconst 0, 1) := by decide +kernel
theorem dX8_someBreaks_45 : decode (me_b mX8_someBreaks) 45 = .ok (.istore_n 2, 1) := by decide +kernel
theorem dX8_someBreaks_46 : decode (me_b mX8_someBreaks) 46 = .ok (.iinc 3 1, 3) := by decide +kernel
theorem dX8_someBreaks_49 : decode (me_b mX8_someBreaks) 49 = .ok (.goto (-45), 3) := by decide +kernel
theorem dX8_someBreaks_52 : decode (me_b mX8_someBreaks) 52 = .ok (.iload_n 2, 1) := by decide +kernel
theorem dX8_someBreaks_53 : decode (me_b mX8_someBreaks) 53 = .ok (.ireturn, 1) := by decide +kernel
theorem dX8_put_0 : decode (me_b mX8_put) 0 = .ok (.aload_n 0, 1) := by decide +kernel
theorem dX8_put_1 : decode (me_b mX8_put) 1 = .ok (.getfield 25, 3) := by decide +kernel
theorem dX8_put_4 : decode (me_b mX8_put) 4 = .ok (.aload_n 0, 1) := by decide +kernel
theorem dX8_put_5 : decode (me_b mX8_put) 5 = .ok (.getfield 107, 3) := by decide +kernel
theorem dX8_put_8 : decode (me_b mX8_put) 8 = .ok (.iload_n 1, 1) := by decide +kernel
theorem dX8_put_9 : decode (me_b mX8_put) 9 = .ok (.iastore, 1) := by decide +kernel
theorem dX8_put_10 : decode (me_b mX8_put) 10 = .ok (.aload_n 0, 1) := by decide +kernel
theorem dX8_put_11 : decode (me_b mX8_put) 11 = .ok (.getfield 28, 3) := by decide +kernel
theorem dX8_put_14 : decode (me_b mX8_put) 14 = .ok (.aload_n 0, 1) := by decide +kernel
theorem dX8_put_15 : decode (me_b mX8_put) 15 = .ok (.getfield 107, 3) := by decide +kernel
theorem dX8_put_18 : decode (me_b mX8_put) 18 = .ok (.iload_n 2, 1) := by decide +kernel
theorem dX8_put_19 : decode (me_b mX8_put) 19 = .ok (.iastore, 1) := by decide +kernel
theorem dX8_put_20 : decode (me_b mX8_put) 20 = .ok (.aload_n 0, 1) := by decide +kernel
theorem dX8_put_21 : decode (me_b mX8_put) 21 = .ok (.getfield 31, 3) := by decide +kernel
theorem dX8_put_24 : decode (me_b mX8_put) 24 = .ok (.aload_n 0, 1) := by decide +kernel
theorem dX8_put_25 : decode (me_b mX8_put) 25 = .ok (.getfield 107, 3) := by decide +kernel
theorem dX8_put_28 : decode (me_b mX8_put) 28 = .ok (.iload_n 3, 1) := by decide +kernel
theorem dX8_put_29 : decode (me_b mX8_put) 29 = .ok (.iastore, 1) := by decide +kernel
theorem dX8_put_30 : decode (me_b mX8_put) 30 = .ok (.aload_n 0, 1) := by decide +kernel
theorem dX8_put_31 : decode (me_b mX8_put) 31 = .ok (.dup, 1) := by decide +kernel
theorem dX8_put_32 : decode (me_b mX8_put) 32 = .ok (.getfield 107, 3) := by decide +kernel
theorem dX8_put_35 : decode (me_b mX8_put) 35 = .ok (.iconst 1, 1) := by decide +kernel
theorem dX8_put_36 : decode (me_b mX8_put) 36 = .ok (.iadd, 1) := by decide +kernel
theorem dX8_put_37 : decode (me_b mX8_put) 37 = .ok (.putfield 107, 3) := by decide +kernel
theorem dX8_put_40 : decode (me_b mX8_put) 40 = .ok (.return_, 1) := by decide +kernel
theorem dX8_list_0 : decode (me_b mX8_list) 0 = .ok (.aload_n 0, 1) := by decide +kernel
theorem dX8_list_1 : decode (me_b mX8_list) 1 = .ok (.iload_n 1, 1) := by decide +kernel
theorem dX8_list_2 : decode (me_b mX8_list) 2 = .ok (.putfield 94, 3) := by decide +kernel
theorem dX8_list_5 : decode (me_b mX8_list) 5 = .ok (.aload_n 0, 1) := by decide +kernel
theorem dX8_list_6 : decode (me_b mX8_list) 6 = .ok (.iconst 0, 1) := by decide +kernel
theorem dX8_list_7 : decode (me_b mX8_list) 7 = .ok (.putfield 107, 3) := by decide +kernel
theorem dX8_list_10 : decode (me_b mX8_list) 10 = .ok (.iconst 0, 1) := by decide +kernel
theorem dX8_list_11 : decode (me_b mX8_list) 11 = .ok (.istore_n 2, 1) := by decide +kernel
theorem dX8_list_12 : decode (me_b mX8_list) 12 = .ok (.iload_n 2, 1) := by decide +kernel
theorem dX8_list_13 : decode (me_b mX8_list) 13 = .ok (.bipush 8, 2) := by decide +kernel
theorem dX8_list_15 : decode (me_b mX8_list) 15 = .ok (.if_icmp .ge 25, 3) := by decide +kernel
theorem dX8_list_18 : decode (me_b mX8_list) 18 = .ok (.aload_n 0, 1) := by decide +kernel
theorem dX8_list_19 : decode (me_b mX8_list) 19 = .ok (.getfield 7, 3) := by decide +kernel
theorem dX8_list_22 : decode (me_b mX8_list) 22 = .ok (.iload_n 2, 1) := by decide +kernel
theorem dX8_list_23 : decode (me_b mX8_list) 23 = .ok (.iaload, 1) := by decide +kernel
theorem dX8_list_24 : decode (me_b mX8_list) 24 = .ok (.ifCond .ne 10, 3) := by decide +kernel
theorem dX8_list_27 : decode (me_b mX8_list) 27 = .ok (.aload_n 0, 1) := by decide +kernel
theorem dX8_list_28 : decode (me_b mX8_list) 28 = .ok (.iload_n 2, 1) := by decide +kernel
theorem dX8_list_29 : decode (me_b mX8_list) 29 = .ok (.iconst 0, 1) := by decide +kernel
theorem dX8_list_30 : decode (me_b mX8_list) 30 = .ok (.iconst 0, 1) := by decide +kernel
theorem dX8_list_31 : decode (me_b mX8_list) 31 = .ok (.invokevirtual 110, 3) := by decide +kernel
theorem dX8_list_34 : decode (me_b mX8_list) 34 = .ok (.iinc 2 1, 3) := by decide +kernel
theorem dX8_list_37 : decode (me_b mX8_list) 37 = .ok (.goto (-25), 3) := by decide +kernel
theorem dX8_list_40 : decode (me_b mX8_list) 40 = .ok (.iconst 0, 1) := by decide +kernel
theorem dX8_list_41 : decode (me_b mX8_list) 41 = .ok (.istore_n 2, 1) := by decide +kernel
theorem dX8_list_42 : decode (me_b mX8_list) 42 = .ok (.iload_n 2, 1) := by decide +kernel
theorem dX8_list_43 : decode (me_b mX8_list) 43 = .ok (.aload_n 0, 1) := by decide +kernel
theorem dX8_list_44 : decode (me_b mX8_list) 44 = .ok (.getfield 94, 3) := by decide +kernel
theorem dX8_list_47 : decode (me_b mX8_list) 47 = .ok (.if_icmp .ge 118, 3) := by decide +kernel
theorem dX8_list_50 : decode (me_b mX8_list) 50 = .ok (.iconst 0, 1) := by decide +kernel
theorem dX8_list_51 : decode (me_b mX8_list) 51 = .ok (.istore_n 3, 1) := by decide +kernel
theorem dX8_list_52 : decode (me_b mX8_list) 52 = .ok (.iload_n 3, 1) := by decide +kernel
theorem dX8_list_53 : decode (me_b mX8_list) 53 = .ok (.bipush 8, 2) := by decide +kernel
theorem dX8_list_55 : decode (me_b mX8_list) 55 = .ok (.if_icmp .ge 104, 3) := by decide +kernel
theorem dX8_list_58 : decode (me_b mX8_list) 58 = .ok (.aload_n 0, 1) := by decide +kernel
theorem dX8_list_59 : decode (me_b mX8_list) 59 = .ok (.getfield 7, 3) := by decide +kernel
theorem dX8_list_62 : decode (me_b mX8_list) 62 = .ok (.iload_n 3, 1) := by decide +kernel
theorem dX8_list_63 : decode (me_b mX8_list) 63 = .ok (.iaload, 1) := by decide +kernel
theorem dX8_list_64 : decode (me_b mX8_list) 64 = .ok (.iconst 1, 1) := by decide +kernel
theorem dX8_list_65 : decode (me_b mX8_list) 65 = .ok (.if_icmp .ne 10, 3) := by decide +kernel
theorem dX8_list_68 : decode (me_b mX8_list) 68 = .ok (.aload_n 0, 1) := by decide +kernel
theorem dX8_list_69 : decode (me_b mX8_list) 69 = .ok (.iload_n 3, 1) := by decide +kernel
theorem dX8_list_70 : decode (me_b mX8_list) 70 = .ok (.iload_n 2, 1) := by decide +kernel
theorem dX8_list_71 : decode (me_b mX8_list) 71 = .ok (.iconst 0, 1) := by decide +kernel
theorem dX8_list_72 : decode (me_b mX8_list) 72 = .ok (.invokevirtual 110, 3) := by decide +kernel
theorem dX8_list_75 : decode (me_b mX8_list) 75 = .ok (.iconst 0, 1) := by decide +kernel
theorem dX8_list_76 : decode (me_b mX8_list) 76 = .ok (.istore 4, 2) := by decide +kernel
theorem dX8_list_78 : decode (me_b mX8_list) 78 = .ok (.iload 4, 2) := by decide +kernel
theorem dX8_list_80 : decode (me_b mX8_list) 80 = .ok (.aload_n 0, 1) := by decide +kernel
theorem dX8_list_81 : decode (me_b mX8_list) 81 = .ok (.getfield 94, 3) := by decide +kernel
theorem dX8_list_84 : decode (me_b mX8_list) 84 = .ok (.aload_n 0, 1) := by decide +kernel
theorem dX8_list_85 : decode (me_b mX8_list) 85 = .ok (.getfield 94, 3) := by decide +kernel
theorem dX8_list_88 : decode (me_b mX8_list) 88 = .ok (.imul, 1) := by decide +kernel
theorem dX8_list_89 : decode (me_b mX8_list) 89 = .ok (.if_icmp .ge 64, 3) := by decide +kernel
theorem dX8_list_92 : decode (me_b mX8_list) 92 = .ok (.aload_n 0, 1) := by decide +kernel
theorem dX8_list_93 : decode (me_b mX8_list) 93 = .ok (.getfield 7, 3) := by decide +kernel
theorem dX8_list_96 : decode (me_b mX8_list) 96 = .ok (.iload_n 3, 1) := by decide +kernel
theorem dX8_list_97 : decode (me_b mX8_list) 97 = .ok (.iaload, 1) := by decide +kernel
theorem dX8_list_98 : decode (me_b mX8_list) 98 = .ok (.iconst 2, 1) := by decide +kernel
theorem dX8_list_99 : decode (me_b mX8_list) 99 = .ok (.if_icmp .ne 54, 3) := by decide +kernel
theorem dX8_list_102 : decode (me_b mX8_list) 102 = .ok (.iload 4, 2) := by decide +kernel
theorem dX8_list_104 : decode (me_b mX8_list) 104 = .ok (.aload_n 0, 1) := by decide +kernel
theorem dX8_list_105 : decode (me_b mX8_list) 105 = .ok (.getfield 94, 3) := by decide +kernel
theorem dX8_list_108 : decode (me_b mX8_list) 108 = .ok (.idiv, 1) := by decide +kernel
theorem dX8_list_109 : decode (me_b mX8_list) 109 = .ok (.istore 5, 2) := by decide +kernel
theorem dX8_list_111 : decode (me_b mX8_list) 111 = .ok (.iload 4, 2) := by decide +kernel
theorem dX8_list_113 : decode (me_b mX8_list) 113 = .ok (.aload_n 0, 1) := by decide +kernel
theorem dX8_list_114 : decode (me_b mX8_list) 114 = .ok (.getfield 94, 3) := by decide +kernel
theorem dX8_list_117 : decode (me_b mX8_list) 117 = .ok (.irem, 1) := by decide +kernel
theorem dX8_list_118 : decode (me_b mX8_list) 118 = .ok (.istore 6, 2) := by decide +kernel
theorem dX8_list_120 : decode (me_b mX8_list) 120 = .ok (.iload 5, 2) := by decide +kernel
theorem dX8_list_122 : decode (me_b mX8_list) 122 = .ok (.iload 6, 2) := by decide +kernel
theorem dX8_list_124 : decode (me_b mX8_list) 124 = .ok (.if_icmp .le 8, 3) := by decide +kernel
theorem dX8_list_127 : decode (me_b mX8_list) 127 = .ok (.iload 5, 2) := by decide +kernel
theorem dX8_list_129 : decode (me_b mX8_list) 129 = .ok (.goto 5, 3) := by decide +kernel
theorem dX8_list_132 : decode (me_b mX8_list) 132 = .ok (.iload 6, 2) := by decide +kernel
theorem dX8_list_134 : decode (me_b mX8_list) 134 = .ok (.iload_n 2, 1) := by decide +kernel
theorem dX8_list_135 : decode (me_b mX8_list) 135 = .ok (.if_icmp .ne 12, 3) := by decide +kernel
theorem dX8_list_138 : decode (me_b mX8_list) 138 = .ok (.aload_n 0, 1) := by decide +kernel
theorem dX8_list_139 : decode (me_b mX8_list) 139 = .ok (.iload_n 3, 1) := by decide +kernel
theorem dX8_list_140 : decode (me_b mX8_list) 140 = .ok (.iload 5, 2) := by decide +kernel
theorem dX8_list_142 : decode (me_b mX8_list) 142 = .ok (.iload 6, 2) := by decide +kernel
theorem dX8_list_144 : decode (me_b mX8_list) 144 = .ok (.invokevirtual 110, 3) := by decide +kernel
theorem dX8_list_147 : decode (me_b mX8_list) 147 = .ok (.iinc 4 1, 3) := by decide +kernel
theorem dX8_list_150 : decode (me_b mX8_list) 150 = .ok (.goto (-72), 3) := by decide +kernel
theorem dX8_list_153 : decode (me_b mX8_list) 153 = .ok (.iinc 3 1, 3) := by decide +kernel
theorem dX8_list_156 : decode (me_b mX8_list) 156 = .ok (.goto (-104), 3) := by decide +kernel
theorem dX8_list_159 : decode (me_b mX8_list) 159 = .ok (.iinc 2 1, 3) := by decide +kernel
theorem dX8_list_162 : decode (me_b mX8_list) 162 = .ok (.goto (-120), 3) := by decide +kernel
theorem dX8_list_165 : decode (me_b mX8_list) 165 = .ok (.iconst 0, 1) := by decide +kernel
theorem dX8_list_166 : decode (me_b mX8_list) 166 = .ok (.istore_n 2, 1) := by decide +kernel
theorem dX8_list_167 : decode (me_b mX8_list) 167 = .ok (.iload_n 2, 1) := by decide +kernel
theorem dX8_list_168 : decode (me_b mX8_list) 168 = .ok (.sipush 128, 3) := by decide +kernel
theorem dX8_list_171 : decode (me_b mX8_list) 171 = .ok (.if_icmp .ge 16, 3) := by decide +kernel
theorem dX8_list_174 : decode (me_b mX8_list) 174 = .ok (.aload_n 0, 1) := by decide +kernel
theorem dX8_list_175 : decode (me_b mX8_list) 175 = .ok (.getfield 22, 3) := by decide +kernel
theorem dX8_list_178 : decode (me_b mX8_list) 178 = .ok (.iload_n 2, 1) := by decide +kernel
theorem dX8_list_179 : decode (me_b mX8_list) 179 = .ok (.iconst (-1), 1) := by decide +kernel
theorem dX8_list_180 : decode (me_b mX8_list) 180 = .ok (.iastore, 1) := by decide +kernel
theorem dX8_list_181 : decode (me_b mX8_list) 181 = .ok (.iinc 2 1, 3) := by decide +kernel
theorem dX8_list_184 : decode (me_b mX8_list) 184 = .ok (.goto (-17), 3) := by decide +kernel
theorem dX8_list_187 : decode (me_b mX8_list) 187 = .ok (.return_, 1) := by decide +kernel
theorem dX8_placeOf_0 : decode (me_b mX8_placeOf) 0 = .ok (.bipush 16, 2) := by decide +kernel
theorem dX8_placeOf_2 : decode (me_b mX8_placeOf) 2 = .ok (.aload_n 0, 1) := by decide +kernel
theorem dX8_placeOf_3 : decode (me_b mX8_placeOf) 3 = .ok (.getfield 25, 3) := by decide +kernel
theorem dX8_placeOf_6 : decode (me_b mX8_placeOf) 6 = .ok (.iload_n 1, 1) := by decide +kernel
theorem dX8_placeOf_7 : decode (me_b mX8_placeOf) 7 = .ok (.iaload, 1) := by decide +kernel
theorem dX8_placeOf_8 : decode (me_b mX8_placeOf) 8 = .ok (.imul, 1) := by decide +kernel
theorem dX8_placeOf_9 : decode (me_b mX8_placeOf) 9 = .ok (.iconst 4, 1) := by decide +kernel
theorem dX8_placeOf_10 : decode (me_b mX8_placeOf) 10 = .ok (.aload_n 0, 1) := by decide +kernel
theorem dX8_placeOf_11 : decode (me_b mX8_placeOf) 11 = .ok (.getfield 28, 3) := by decide +kernel
theorem dX8_placeOf_14 : decode (me_b mX8_placeOf) 14 = .ok (.iload_n 1, 1) := by decide +kernel
theorem dX8_placeOf_15 : decode (me_b mX8_placeOf) 15 = .ok (.iaload, 1) := by decide +kernel
theorem dX8_placeOf_16 : decode (me_b mX8_placeOf) 16 = .ok (.imul, 1) := by decide +kernel
theorem dX8_placeOf_17 : decode (me_b mX8_placeOf) 17 = .ok (.iadd, 1) := by decide +kernel
theorem dX8_placeOf_18 : decode (me_b mX8_placeOf) 18 = .ok (.aload_n 0, 1) := by decide +kernel
theorem dX8_placeOf_19 : decode (me_b mX8_placeOf) 19 = .ok (.getfield 31, 3) := by decide +kernel
theorem dX8_placeOf_22 : decode (me_b mX8_placeOf) 22 = .ok (.iload_n 1, 1) := by decide +kernel
theorem dX8_placeOf_23 : decode (me_b mX8_placeOf) 23 = .ok (.iaload, 1) := by decide +kernel
theorem dX8_placeOf_24 : decode (me_b mX8_placeOf) 24 = .ok (.iadd, 1) := by decide +kernel
theorem dX8_placeOf_25 : decode (me_b mX8_placeOf) 25 = .ok (.ireturn, 1) := by decide +kernel
theorem dX8_limit_0 : decode (me_b mX8_limit) 0 = .ok (.aload_n 0, 1) := by decide +kernel
theorem dX8_limit_1 : decode (me_b mX8_limit) 1 = .ok (.getfield 25, 3) := by decide +kernel
theorem dX8_limit_4 : decode (me_b mX8_limit) 4 = .ok (.iload_n 1, 1) := by decide +kernel
theorem dX8_limit_5 : decode (me_b mX8_limit) 5 = .ok (.iaload, 1) := by decide +kernel
theorem dX8_limit_6 : decode (me_b mX8_limit) 6 = .ok (.iconst 3, 1) := by decide +kernel
theorem dX8_limit_7 : decode (me_b mX8_limit) 7 = .ok (.if_icmp .le 5, 3) := by decide +kernel
theorem dX8_limit_10 : decode (me_b mX8_limit) 10 = .ok (.iconst 1, 1) := by decide +kernel
theorem dX8_limit_11 : decode (me_b mX8_limit) 11 = .ok (.ireturn, 1) := by decide +kernel
theorem dX8_limit_12 : decode (me_b mX8_limit) 12 = .ok (.iconst (-1), 1) := by decide +kernel
theorem dX8_limit_13 : decode (me_b mX8_limit) 13 = .ok (.istore_n 2, 1) := by decide +kernel
theorem dX8_limit_14 : decode (me_b mX8_limit) 14 = .ok (.aload_n 0, 1) := by decide +kernel
theorem dX8_limit_15 : decode (me_b mX8_limit) 15 = .ok (.getfield 7, 3) := by decide +kernel
theorem dX8_limit_18 : decode (me_b mX8_limit) 18 = .ok (.aload_n 0, 1) := by decide +kernel
theorem dX8_limit_19 : decode (me_b mX8_limit) 19 = .ok (.getfield 25, 3) := by decide +kernel
theorem dX8_limit_22 : decode (me_b mX8_limit) 22 = .ok (.iload_n 1, 1) := by decide +kernel
theorem dX8_limit_23 : decode (me_b mX8_limit) 23 = .ok (.iaload, 1) := by decide +kernel
theorem dX8_limit_24 : decode (me_b mX8_limit) 24 = .ok (.iaload, 1) := by decide +kernel
theorem dX8_limit_25 : decode (me_b mX8_limit) 25 = .ok (.istore_n 3, 1) := by decide +kernel
theorem dX8_limit_26 : decode (me_b mX8_limit) 26 = .ok (.iload_n 3, 1) := by decide +kernel
theorem dX8_limit_27 : decode (me_b mX8_limit) 27 = .ok (.ifCond .le 10, 3) := by decide +kernel
theorem dX8_limit_30 : decode (me_b mX8_limit) 30 = .ok (.aload_n 0, 1) := by decide +kernel
theorem dX8_limit_31 : decode (me_b mX8_limit) 31 = .ok (.getfield 28, 3) := by decide +kernel
theorem dX8_limit_34 : decode (me_b mX8_limit) 34 = .ok (.iload_n 1, 1) := by decide +kernel
theorem dX8_limit_35 : decode (me_b mX8_limit) 35 = .ok (.iaload, 1) := by decide +kernel
theorem dX8_limit_36 : decode (me_b mX8_limit) 36 = .ok (.istore_n 2, 1) := by decide +kernel
theorem dX8_limit_37 : decode (me_b mX8_limit) 37 = .ok (.iload_n 3, 1) := by decide +kernel
theorem dX8_limit_38 : decode (me_b mX8_limit) 38 = .ok (.iconst 1, 1) := by decide +kernel
theorem dX8_limit_39 : decode (me_b mX8_limit) 39 = .ok (.if_icmp .le 20, 3) := by decide +kernel
theorem dX8_limit_42 : decode (me_b mX8_limit) 42 = .ok (.aload_n 0, 1) := by decide +kernel
theorem dX8_limit_43 : decode (me_b mX8_limit) 43 = .ok (.getfield 31, 3) := by decide +kernel
theorem dX8_limit_46 : decode (me_b mX8_limit) 46 = .ok (.iload_n 1, 1) := by decide +kernel
theorem dX8_limit_47 : decode (me_b mX8_limit) 47 = .ok (.iaload, 1) := by decide +kernel
theorem dX8_limit_48 : decode (me_b mX8_limit) 48 = .ok (.iload_n 2, 1) := by decide +kernel
theorem dX8_limit_49 : decode (me_b mX8_limit) 49 = .ok (.if_icmp .le 10, 3) := by decide +kernel
theorem dX8_limit_52 : decode (me_b mX8_limit) 52 = .ok (.aload_n 0, 1) := by decide +kernel
theorem dX8_limit_53 : decode (me_b mX8_limit) 53 = .ok (.getfield 31, 3) := by decide +kernel
theorem dX8_limit_56 : decode (me_b mX8_limit) 56 = .ok (.iload_n 1, 1) := by decide +kernel
theorem dX8_limit_57 : decode (me_b mX8_limit) 57 = .ok (.iaload, 1) := by decide +kernel
theorem dX8_limit_58 : decode (me_b mX8_limit) 58 = .ok (.istore_n 2, 1) := by decide +kernel
theorem dX8_limit_59 : decode (me_b mX8_limit) 59 = .ok (.iconst 0, 1) := by decide +kernel
theorem dX8_limit_60 : decode (me_b mX8_limit) 60 = .ok (.istore 4, 2) := by decide +kernel
theorem dX8_limit_62 : decode (me_b mX8_limit) 62 = .ok (.iload 4, 2) := by decide +kernel
theorem dX8_limit_64 : decode (me_b mX8_limit) 64 = .ok (.iload_n 1, 1) := by decide +kernel
theorem dX8_limit_65 : decode (me_b mX8_limit) 65 = .ok (.if_icmp .ge 46, 3) := by decide +kernel
theorem dX8_limit_68 : decode (me_b mX8_limit) 68 = .ok (.aload_n 0, 1) := by decide +kernel
theorem dX8_limit_69 : decode (me_b mX8_limit) 69 = .ok (.getfield 22, 3) := by decide +kernel
theorem dX8_limit_72 : decode (me_b mX8_limit) 72 = .ok (.aload_n 0, 1) := by decide +kernel
theorem dX8_limit_73 : decode (me_b mX8_limit) 73 = .ok (.iload 4, 2) := by decide +kernel
theorem dX8_limit_75 : decode (me_b mX8_limit) 75 = .ok (.invokevirtual 114, 3) := by decide +kernel
theorem dX8_limit_78 : decode (me_b mX8_limit) 78 = .ok (.iaload, 1) := by decide +kernel
theorem dX8_limit_79 : decode (me_b mX8_limit) 79 = .ok (.istore 5, 2) := by decide +kernel
theorem dX8_limit_81 : decode (me_b mX8_limit) 81 = .ok (.aload_n 0, 1) := by decide +kernel
theorem dX8_limit_82 : decode (me_b mX8_limit) 82 = .ok (.getfield 25, 3) := by decide +kernel
theorem dX8_limit_85 : decode (me_b mX8_limit) 85 = .ok (.iload 4, 2) := by decide +kernel
theorem dX8_limit_87 : decode (me_b mX8_limit) 87 = .ok (.iaload, 1) := by decide +kernel
theorem dX8_limit_88 : decode (me_b mX8_limit) 88 = .ok (.iconst 4, 1) := by decide +kernel
theorem dX8_limit_89 : decode (me_b mX8_limit) 89 = .ok (.if_icmp .ge 14, 3) := by decide +kernel
theorem dX8_limit_92 : decode (me_b mX8_limit) 92 = .ok (.iload 5, 2) := by decide +kernel
theorem dX8_limit_94 : decode (me_b mX8_limit) 94 = .ok (.iload_n 2, 1) := by decide +kernel
theorem dX8_limit_95 : decode (me_b mX8_limit) 95 = .ok (.if_icmp .le 8, 3) := by decide +kernel
theorem dX8_limit_98 : decode (me_b mX8_limit) 98 = .ok (.iload 5, 2) := by decide +kernel
theorem dX8_limit_100 : decode (me_b mX8_limit) 100 = .ok (.goto 4, 3) := by decide +kernel
theorem dX8_limit_103 : decode (me_b mX8_limit) 103 = .ok (.iload_n 2, 1) := by decide +kernel
theorem dX8_limit_104 : decode (me_b mX8_limit) 104 = .ok (.istore_n 2, 1) := by decide +kernel
theorem dX8_limit_105 : decode (me_b mX8_limit) 105 = .ok (.iinc 4 1, 3) := by decide +kernel
theorem dX8_limit_108 : decode (me_b mX8_limit) 108 = .ok (.goto (-46), 3) := by decide +kernel
theorem dX8_limit_111 : decode (me_b mX8_limit) 111 = .ok (.iload_n 2, 1) := by decide +kernel
theorem dX8_limit_112 : decode (me_b mX8_limit) 112 = .ok (.iconst 1, 1) := by decide +kernel
theorem dX8_limit_113 : decode (me_b mX8_limit) 113 = .ok (.iadd, 1) := by decide +kernel
theorem dX8_limit_114 : decode (me_b mX8_limit) 114 = .ok (.aload_n 0, 1) := by decide +kernel
theorem dX8_limit_115 : decode (me_b mX8_limit) 115 = .ok (.getfield 94, 3) := by decide +kernel
theorem dX8_limit_118 : decode (me_b mX8_limit) 118 = .ok (.iconst 1, 1) := by decide +kernel
theorem dX8_limit_119 : decode (me_b mX8_limit) 119 = .ok (.isub, 1) := by decide +kernel
theorem dX8_limit_120 : decode (me_b mX8_limit) 120 = .ok (.if_icmp .ge 9, 3) := by decide +kernel
theorem dX8_limit_123 : decode (me_b mX8_limit) 123 = .ok (.iload_n 2, 1) := by decide +kernel
theorem dX8_limit_124 : decode (me_b mX8_limit) 124 = .ok (.iconst 1, 1) := by decide +kernel
theorem dX8_limit_125 : decode (me_b mX8_limit) 125 = .ok (.iadd, 1) := by decide +kernel
theorem dX8_limit_126 : decode (me_b mX8_limit) 126 = .ok (.goto 9, 3) := by decide +kernel
theorem dX8_limit_129 : decode (me_b mX8_limit) 129 = .ok (.aload_n 0, 1) := by decide +kernel
theorem dX8_limit_130 : decode (me_b mX8_limit) 130 = .ok (.getfield 94, 3) := by decide +kernel
theorem dX8_limit_133 : decode (me_b mX8_limit) 133 = .ok (.iconst 1, 1) := by decide +kernel
theorem dX8_limit_134 : decode (me_b mX8_limit) 134 = .ok (.isub, 1) := by decide +kernel
theorem dX8_limit_135 : decode (me_b mX8_limit) 135 = .ok (.ireturn, 1) := by decide +kernel
theorem dX8_walk_0 : decode (me_b mX8_walk) 0 = .ok (.iload_n 1, 1) := by decide +kernel
theorem dX8_walk_1 : decode (me_b mX8_walk) 1 = .ok (.istore_n 2, 1) := by decide +kernel
theorem dX8_walk_2 : decode (me_b mX8_walk) 2 = .ok (.iload_n 2, 1) := by decide +kernel
theorem dX8_walk_3 : decode (me_b mX8_walk) 3 = .ok (.ifCond .lt 108, 3) := by decide +kernel
theorem dX8_walk_6 : decode (me_b mX8_walk) 6 = .ok (.iload_n 2, 1) := by decide +kernel
theorem dX8_walk_7 : decode (me_b mX8_walk) 7 = .ok (.aload_n 0, 1) := by decide +kernel
theorem dX8_walk_8 : decode (me_b mX8_walk) 8 = .ok (.getfield 107, 3) := by decide +kernel
theorem dX8_walk_11 : decode (me_b mX8_walk) 11 = .ok (.if_icmp .ge 100, 3) := by decide +kernel
theorem dX8_walk_14 : decode (me_b mX8_walk) 14 = .ok (.aload_n 0, 1) := by decide +kernel
theorem dX8_walk_15 : decode (me_b mX8_walk) 15 = .ok (.getfield 22, 3) := by decide +kernel
theorem dX8_walk_18 : decode (me_b mX8_walk) 18 = .ok (.aload_n 0, 1) := by decide +kernel
theorem dX8_walk_19 : decode (me_b mX8_walk) 19 = .ok (.iload_n 2, 1) := by decide +kernel
theorem dX8_walk_20 : decode (me_b mX8_walk) 20 = .ok (.invokevirtual 114, 3) := by decide +kernel
theorem dX8_walk_23 : decode (me_b mX8_walk) 23 = .ok (.iaload, 1) := by decide +kernel
theorem dX8_walk_24 : decode (me_b mX8_walk) 24 = .ok (.iconst 1, 1) := by decide +kernel
theorem dX8_walk_25 : decode (me_b mX8_walk) 25 = .ok (.iadd, 1) := by decide +kernel
theorem dX8_walk_26 : decode (me_b mX8_walk) 26 = .ok (.istore_n 3, 1) := by decide +kernel
theorem dX8_walk_27 : decode (me_b mX8_walk) 27 = .ok (.iload_n 3, 1) := by decide +kernel
theorem dX8_walk_28 : decode (me_b mX8_walk) 28 = .ok (.aload_n 0, 1) := by decide +kernel
theorem dX8_walk_29 : decode (me_b mX8_walk) 29 = .ok (.iload_n 2, 1) := by decide +kernel
theorem dX8_walk_30 : decode (me_b mX8_walk) 30 = .ok (.invokevirtual 117, 3) := by decide +kernel
theorem dX8_walk_33 : decode (me_b mX8_walk) 33 = .ok (.if_icmp .le 20, 3) := by decide +kernel
theorem dX8_walk_36 : decode (me_b mX8_walk) 36 = .ok (.aload_n 0, 1) := by decide +kernel
theorem dX8_walk_37 : decode (me_b mX8_walk) 37 = .ok (.getfield 22, 3) := by decide +kernel
theorem dX8_walk_40 : decode (me_b mX8_walk) 40 = .ok (.aload_n 0, 1) := by decide +kernel
theorem dX8_walk_41 : decode (me_b mX8_walk) 41 = .ok (.iload_n 2, 1) := by decide +kernel
theorem dX8_walk_42 : decode (me_b mX8_walk) 42 = .ok (.invokevirtual 114, 3) := by decide +kernel
theorem dX8_walk_45 : decode (me_b mX8_walk) 45 = .ok (.iconst (-1), 1) := by decide +kernel
theorem dX8_walk_46 : decode (me_b mX8_walk) 46 = .ok (.iastore, 1) := by decide +kernel
theorem dX8_walk_47 : decode (me_b mX8_walk) 47 = .ok (.iinc 2 (-1), 3) := by decide +kernel
theorem dX8_walk_50 : decode (me_b mX8_walk) 50 = .ok (.goto 58, 3) := by decide +kernel
theorem dX8_walk_53 : decode (me_b mX8_walk) 53 = .ok (.aload_n 0, 1) := by decide +kernel
theorem dX8_walk_54 : decode (me_b mX8_walk) 54 = .ok (.getfield 120, 3) := by decide +kernel
theorem dX8_walk_57 : decode (me_b mX8_walk) 57 = .ok (.sipush 3000, 3) := by decide +kernel
theorem dX8_walk_60 : decode (me_b mX8_walk) 60 = .ok (.if_icmp .ne 6, 3) := by decide +kernel
theorem dX8_walk_63 : decode (me_b mX8_walk) 63 = .ok (.bipush (-4), 2) := by decide +kernel
theorem dX8_walk_65 : decode (me_b mX8_walk) 65 = .ok (.ireturn, 1) := by decide +kernel
theorem dX8_walk_66 : decode (me_b mX8_walk) 66 = .ok (.aload_n 0, 1) := by decide +kernel
theorem dX8_walk_67 : decode (me_b mX8_walk) 67 = .ok (.dup, 1) := by decide +kernel
theorem dX8_walk_68 : decode (me_b mX8_walk) 68 = .ok (.getfield 120, 3) := by decide +kernel
theorem dX8_walk_71 : decode (me_b mX8_walk) 71 = .ok (.iconst 1, 1) := by decide +kernel
theorem dX8_walk_72 : decode (me_b mX8_walk) 72 = .ok (.iadd, 1) := by decide +kernel
theorem dX8_walk_73 : decode (me_b mX8_walk) 73 = .ok (.putfield 120, 3) := by decide +kernel
theorem dX8_walk_76 : decode (me_b mX8_walk) 76 = .ok (.aload_n 0, 1) := by decide +kernel
theorem dX8_walk_77 : decode (me_b mX8_walk) 77 = .ok (.getfield 22, 3) := by decide +kernel
theorem dX8_walk_80 : decode (me_b mX8_walk) 80 = .ok (.aload_n 0, 1) := by decide +kernel
theorem dX8_walk_81 : decode (me_b mX8_walk) 81 = .ok (.iload_n 2, 1) := by decide +kernel
theorem dX8_walk_82 : decode (me_b mX8_walk) 82 = .ok (.invokevirtual 114, 3) := by decide +kernel
theorem dX8_walk_85 : decode (me_b mX8_walk) 85 = .ok (.iload_n 3, 1) := by decide +kernel
theorem dX8_walk_86 : decode (me_b mX8_walk) 86 = .ok (.iastore, 1) := by decide +kernel
theorem dX8_walk_87 : decode (me_b mX8_walk) 87 = .ok (.iload_n 2, 1) := by decide +kernel
theorem dX8_walk_88 : decode (me_b mX8_walk) 88 = .ok (.aload_n 0, 1) := by decide +kernel
theorem dX8_walk_89 : decode (me_b mX8_walk) 89 = .ok (.aload_n 0, 1) := by decide +kernel
theorem dX8_walk_90 : decode (me_b mX8_walk) 90 = .ok (.getfield 25, 3) := by decide +kernel
theorem dX8_walk_93 : decode (me_b mX8_walk) 93 = .ok (.iload_n 2, 1) := by decide +kernel
theorem dX8_walk_94 : decode (me_b mX8_walk) 94 = .ok (.iaload, 1) := by decide +kernel
theorem dX8_walk_95 : decode (me_b mX8_walk) 95 = .ok (.invokevirtual 123, 3) := by decide +kernel
theorem dX8_walk_98 : decode (me_b mX8_walk) 98 = .ok (.ifCond .eq 7, 3) := by decide +kernel
theorem dX8_walk_101 : decode (me_b mX8_walk) 101 = .ok (.iconst 0, 1) := by decide +kernel
theorem dX8_walk_102 : decode (me_b mX8_walk) 102 = .ok (.goto 4, 3) := by decide +kernel
theorem dX8_walk_105 : decode (me_b mX8_walk) 105 = .ok (.iconst 1, 1) := by decide +kernel
theorem dX8_walk_106 : decode (me_b mX8_walk) 106 = .ok (.iadd, 1) := by decide +kernel
theorem dX8_walk_107 : decode (me_b mX8_walk) 107 = .ok (.istore_n 2, 1) := by decide +kernel
theorem dX8_walk_108 : decode (me_b mX8_walk) 108 = .ok (.goto (-106), 3) := by decide +kernel
theorem dX8_walk_111 : decode (me_b mX8_walk) 111 = .ok (.iload_n 2, 1) := by decide +kernel
theorem dX8_walk_112 : decode (me_b mX8_walk) 112 = .ok (.ifCond .ge 7, 3) := by decide +kernel
theorem dX8_walk_115 : decode (me_b mX8_walk) 115 = .ok (.iconst 0, 1) := by decide +kernel
theorem dX8_walk_116 : decode (me_b mX8_walk) 116 = .ok (.goto 4, 3) := by decide +kernel
theorem dX8_walk_119 : decode (me_b mX8_walk) 119 = .ok (.iconst 1, 1) := by decide +kernel
theorem dX8_walk_120 : decode (me_b mX8_walk) 120 = .ok (.ireturn, 1) := by decide +kernel
theorem dX8_find_0 : decode (me_b mX8_find) 0 = .ok (.iload_n 1, 1) := by decide +kernel
theorem dX8_find_1 : decode (me_b mX8_find) 1 = .ok (.iconst 1, 1) := by decide +kernel
theorem dX8_find_2 : decode (me_b mX8_find) 2 = .ok (.if_icmp .lt 8, 3) := by decide +kernel
theorem dX8_find_5 : decode (me_b mX8_find) 5 = .ok (.iload_n 1, 1) := by decide +kernel
theorem dX8_find_6 : decode (me_b mX8_find) 6 = .ok (.iconst 4, 1) := by decide +kernel
theorem dX8_find_7 : decode (me_b mX8_find) 7 = .ok (.if_icmp .le 5, 3) := by decide +kernel
theorem dX8_find_10 : decode (me_b mX8_find) 10 = .ok (.iconst (-1), 1) := by decide +kernel
theorem dX8_find_11 : decode (me_b mX8_find) 11 = .ok (.ireturn, 1) := by decide +kernel
theorem dX8_find_12 : decode (me_b mX8_find) 12 = .ok (.aload_n 0, 1) := by decide +kernel
theorem dX8_find_13 : decode (me_b mX8_find) 13 = .ok (.iconst 0, 1) := by decide +kernel
theorem dX8_find_14 : decode (me_b mX8_find) 14 = .ok (.putfield 120, 3) := by decide +kernel
theorem dX8_find_17 : decode (me_b mX8_find) 17 = .ok (.aload_n 0, 1) := by decide +kernel
theorem dX8_find_18 : decode (me_b mX8_find) 18 = .ok (.iconst 0, 1) := by decide +kernel
theorem dX8_find_19 : decode (me_b mX8_find) 19 = .ok (.putfield 51, 3) := by decide +kernel
theorem dX8_find_22 : decode (me_b mX8_find) 22 = .ok (.iconst 0, 1) := by decide +kernel
theorem dX8_find_23 : decode (me_b mX8_find) 23 = .ok (.istore_n 2, 1) := by decide +kernel
theorem dX8_find_24 : decode (me_b mX8_find) 24 = .ok (.iconst 1, 1) := by decide +kernel
theorem dX8_find_25 : decode (me_b mX8_find) 25 = .ok (.istore_n 3, 1) := by decide +kernel
theorem dX8_find_26 : decode (me_b mX8_find) 26 = .ok (.iload_n 3, 1) := by decide +kernel
theorem dX8_find_27 : decode (me_b mX8_find) 27 = .ok (.iload_n 1, 1) := by decide +kernel
theorem dX8_find_28 : decode (me_b mX8_find) 28 = .ok (.if_icmp .gt 32, 3) := by decide +kernel
theorem dX8_find_31 : decode (me_b mX8_find) 31 = .ok (.iload_n 2, 1) := by decide +kernel
theorem dX8_find_32 : decode (me_b mX8_find) 32 = .ok (.ifCond .ne 28, 3) := by decide +kernel
theorem dX8_find_35 : decode (me_b mX8_find) 35 = .ok (.aload_n 0, 1) := by decide +kernel
theorem dX8_find_36 : decode (me_b mX8_find) 36 = .ok (.iload_n 3, 1) := by decide +kernel
theorem dX8_find_37 : decode (me_b mX8_find) 37 = .ok (.invokevirtual 126, 3) := by decide +kernel
theorem dX8_find_40 : decode (me_b mX8_find) 40 = .ok (.aload_n 0, 1) := by decide +kernel
theorem dX8_find_41 : decode (me_b mX8_find) 41 = .ok (.iconst (-1), 1) := by decide +kernel
theorem dX8_find_42 : decode (me_b mX8_find) 42 = .ok (.invokevirtual 123, 3) := by decide +kernel
theorem dX8_find_45 : decode (me_b mX8_find) 45 = .ok (.ifCond .ne 9, 3) := by decide +kernel
theorem dX8_find_48 : decode (me_b mX8_find) 48 = .ok (.aload_n 0, 1) := by decide +kernel
theorem dX8_find_49 : decode (me_b mX8_find) 49 = .ok (.iconst 0, 1) := by decide +kernel
theorem dX8_find_50 : decode (me_b mX8_find) 50 = .ok (.invokevirtual 129, 3) := by decide +kernel
theorem dX8_find_53 : decode (me_b mX8_find) 53 = .ok (.istore_n 2, 1) := by decide +kernel
theorem dX8_find_54 : decode (me_b mX8_find) 54 = .ok (.iinc 3 1, 3) := by decide +kernel
theorem dX8_find_57 : decode (me_b mX8_find) 57 = .ok (.goto (-31), 3) := by decide +kernel
theorem dX8_find_60 : decode (me_b mX8_find) 60 = .ok (.aload_n 0, 1) := by decide +kernel
theorem dX8_find_61 : decode (me_b mX8_find) 61 = .ok (.iload_n 2, 1) := by decide +kernel
theorem dX8_find_62 : decode (me_b mX8_find) 62 = .ok (.iconst 1, 1) := by decide +kernel
theorem dX8_find_63 : decode (me_b mX8_find) 63 = .ok (.if_icmp .ne 7, 3) := by decide +kernel
theorem dX8_find_66 : decode (me_b mX8_find) 66 = .ok (.iconst 1, 1) := by decide +kernel
theorem dX8_find_67 : decode (me_b mX8_find) 67 = .ok (.goto 4, 3) := by decide +kernel
theorem dX8_find_70 : decode (me_b mX8_find) 70 = .ok (.iconst 0, 1) := by decide +kernel
theorem dX8_find_71 : decode (me_b mX8_find) 71 = .ok (.putfield 51, 3) := by decide +kernel
theorem dX8_find_74 : decode (me_b mX8_find) 74 = .ok (.aload_n 0, 1) := by decide +kernel
theorem dX8_find_75 : decode (me_b mX8_find) 75 = .ok (.aload_n 0, 1) := by decide +kernel
theorem dX8_find_76 : decode (me_b mX8_find) 76 = .ok (.getfield 51, 3) := by decide +kernel
theorem dX8_find_79 : decode (me_b mX8_find) 79 = .ok (.putfield 78, 3) := by decide +kernel
theorem dX8_find_82 : decode (me_b mX8_find) 82 = .ok (.iload_n 2, 1) := by decide +kernel
theorem dX8_find_83 : decode (me_b mX8_find) 83 = .ok (.iconst 1, 1) := by decide +kernel
theorem dX8_find_84 : decode (me_b mX8_find) 84 = .ok (.if_icmp .ne 10, 3) := by decide +kernel
theorem dX8_find_87 : decode (me_b mX8_find) 87 = .ok (.aload_n 0, 1) := by decide +kernel
theorem dX8_find_88 : decode (me_b mX8_find) 88 = .ok (.getfield 94, 3) := by decide +kernel
theorem dX8_find_91 : decode (me_b mX8_find) 91 = .ok (.goto 4, 3) := by decide +kernel
theorem dX8_find_94 : decode (me_b mX8_find) 94 = .ok (.iload_n 2, 1) := by decide +kernel
theorem dX8_find_95 : decode (me_b mX8_find) 95 = .ok (.ireturn, 1) := by decide +kernel
theorem dX8_more_0 : decode (me_b mX8_more) 0 = .ok (.aload_n 0, 1) := by decide +kernel
theorem dX8_more_1 : decode (me_b mX8_more) 1 = .ok (.getfield 51, 3) := by decide +kernel
theorem dX8_more_4 : decode (me_b mX8_more) 4 = .ok (.ifCond .eq 10, 3) := by decide +kernel
theorem dX8_more_7 : decode (me_b mX8_more) 7 = .ok (.aload_n 0, 1) := by decide +kernel
theorem dX8_more_8 : decode (me_b mX8_more) 8 = .ok (.getfield 78, 3) := by decide +kernel
theorem dX8_more_11 : decode (me_b mX8_more) 11 = .ok (.ifCond .ne 6, 3) := by decide +kernel
theorem dX8_more_14 : decode (me_b mX8_more) 14 = .ok (.bipush (-2), 2) := by decide +kernel
theorem dX8_more_16 : decode (me_b mX8_more) 16 = .ok (.ireturn, 1) := by decide +kernel
theorem dX8_more_17 : decode (me_b mX8_more) 17 = .ok (.aload_n 0, 1) := by decide +kernel
theorem dX8_more_18 : decode (me_b mX8_more) 18 = .ok (.iconst 0, 1) := by decide +kernel
theorem dX8_more_19 : decode (me_b mX8_more) 19 = .ok (.putfield 120, 3) := by decide +kernel
theorem dX8_more_22 : decode (me_b mX8_more) 22 = .ok (.aload_n 0, 1) := by decide +kernel
theorem dX8_more_23 : decode (me_b mX8_more) 23 = .ok (.aload_n 0, 1) := by decide +kernel
theorem dX8_more_24 : decode (me_b mX8_more) 24 = .ok (.getfield 107, 3) := by decide +kernel
theorem dX8_more_27 : decode (me_b mX8_more) 27 = .ok (.iconst 1, 1) := by decide +kernel
theorem dX8_more_28 : decode (me_b mX8_more) 28 = .ok (.isub, 1) := by decide +kernel
theorem dX8_more_29 : decode (me_b mX8_more) 29 = .ok (.invokevirtual 129, 3) := by decide +kernel
theorem dX8_more_32 : decode (me_b mX8_more) 32 = .ok (.istore_n 1, 1) := by decide +kernel
theorem dX8_more_33 : decode (me_b mX8_more) 33 = .ok (.aload_n 0, 1) := by decide +kernel
theorem dX8_more_34 : decode (me_b mX8_more) 34 = .ok (.iload_n 1, 1) := by decide +kernel
theorem dX8_more_35 : decode (me_b mX8_more) 35 = .ok (.iconst 1, 1) := by decide +kernel
theorem dX8_more_36 : decode (me_b mX8_more) 36 = .ok (.if_icmp .ne 7, 3) := by decide +kernel
theorem dX8_more_39 : decode (me_b mX8_more) 39 = .ok (.iconst 1, 1) := by decide +kernel
theorem dX8_more_40 : decode (me_b mX8_more) 40 = .ok (.goto 4, 3) := by decide +kernel
theorem dX8_more_43 : decode (me_b mX8_more) 43 = .ok (.iconst 0, 1) := by decide +kernel
theorem dX8_more_44 : decode (me_b mX8_more) 44 = .ok (.putfield 51, 3) := by decide +kernel
theorem dX8_more_47 : decode (me_b mX8_more) 47 = .ok (.iload_n 1, 1) := by decide +kernel
theorem dX8_more_48 : decode (me_b mX8_more) 48 = .ok (.ireturn, 1) := by decide +kernel
theorem dX8_size_0 : decode (me_b mX8_size) 0 = .ok (.aload_n 0, 1) := by decide +kernel
theorem dX8_size_1 : decode (me_b mX8_size) 1 = .ok (.getfield 51, 3) := by decide +kernel
theorem dX8_size_4 : decode (me_b mX8_size) 4 = .ok (.ifCond .eq 10, 3) := by decide +kernel
theorem dX8_size_7 : decode (me_b mX8_size) 7 = .ok (.aload_n 0, 1) := by decide +kernel
theorem dX8_size_8 : decode (me_b mX8_size) 8 = .ok (.getfield 94, 3) := by decide +kernel
theorem dX8_size_11 : decode (me_b mX8_size) 11 = .ok (.goto 4, 3) := by decide +kernel
theorem dX8_size_14 : decode (me_b mX8_size) 14 = .ok (.iconst 0, 1) := by decide +kernel
theorem dX8_size_15 : decode (me_b mX8_size) 15 = .ok (.ireturn, 1) := by decide +kernel
theorem dX8_value_0 : decode (me_b mX8_value) 0 = .ok (.iload_n 1, 1) := by decide +kernel
theorem dX8_value_1 : decode (me_b mX8_value) 1 = .ok (.invokestatic 43, 3) := by decide +kernel
theorem dX8_value_4 : decode (me_b mX8_value) 4 = .ok (.istore 4, 2) := by decide +kernel
theorem dX8_value_6 : decode (me_b mX8_value) 6 = .ok (.aload_n 0, 1) := by decide +kernel
theorem dX8_value_7 : decode (me_b mX8_value) 7 = .ok (.getfield 51, 3) := by decide +kernel
theorem dX8_value_10 : decode (me_b mX8_value) 10 = .ok (.ifCond .eq 18, 3) := by decide +kernel
theorem dX8_value_13 : decode (me_b mX8_value) 13 = .ok (.iload 4, 2) := by decide +kernel
theorem dX8_value_15 : decode (me_b mX8_value) 15 = .ok (.ifCond .lt 13, 3) := by decide +kernel
theorem dX8_value_18 : decode (me_b mX8_value) 18 = .ok (.aload_n 0, 1) := by decide +kernel
theorem dX8_value_19 : decode (me_b mX8_value) 19 = .ok (.getfield 7, 3) := by decide +kernel
theorem dX8_value_22 : decode (me_b mX8_value) 22 = .ok (.iload 4, 2) := by decide +kernel
theorem dX8_value_24 : decode (me_b mX8_value) 24 = .ok (.iaload, 1) := by decide +kernel
theorem dX8_value_25 : decode (me_b mX8_value) 25 = .ok (.ifCond .ge 5, 3) := by decide +kernel
theorem dX8_value_28 : decode (me_b mX8_value) 28 = .ok (.iconst (-1), 1) := by decide +kernel
theorem dX8_value_29 : decode (me_b mX8_value) 29 = .ok (.ireturn, 1) := by decide +kernel
theorem dX8_value_30 : decode (me_b mX8_value) 30 = .ok (.aload_n 0, 1) := by decide +kernel
theorem dX8_value_31 : decode (me_b mX8_value) 31 = .ok (.getfield 7, 3) := by decide +kernel
theorem dX8_value_34 : decode (me_b mX8_value) 34 = .ok (.iload 4, 2) := by decide +kernel
theorem dX8_value_36 : decode (me_b mX8_value) 36 = .ok (.iaload, 1) := by decide +kernel
theorem dX8_value_37 : decode (me_b mX8_value) 37 = .ok (.ifCond .le 15, 3) := by decide +kernel
theorem dX8_value_40 : decode (me_b mX8_value) 40 = .ok (.iload_n 2, 1) := by decide +kernel
theorem dX8_value_41 : decode (me_b mX8_value) 41 = .ok (.ifCond .lt 34, 3) := by decide +kernel
theorem dX8_value_44 : decode (me_b mX8_value) 44 = .ok (.iload_n 2, 1) := by decide +kernel
theorem dX8_value_45 : decode (me_b mX8_value) 45 = .ok (.aload_n 0, 1) := by decide +kernel
theorem dX8_value_46 : decode (me_b mX8_value) 46 = .ok (.getfield 94, 3) := by decide +kernel
theorem dX8_value_49 : decode (me_b mX8_value) 49 = .ok (.if_icmp .ge 26, 3) := by decide +kernel
theorem dX8_value_52 : decode (me_b mX8_value) 52 = .ok (.aload_n 0, 1) := by decide +kernel
theorem dX8_value_53 : decode (me_b mX8_value) 53 = .ok (.getfield 7, 3) := by decide +kernel
theorem dX8_value_56 : decode (me_b mX8_value) 56 = .ok (.iload 4, 2) := by decide +kernel
theorem dX8_value_58 : decode (me_b mX8_value) 58 = .ok (.iaload, 1) := by decide +kernel
theorem dX8_value_59 : decode (me_b mX8_value) 59 = .ok (.iconst 1, 1) := by decide +kernel
theorem dX8_value_60 : decode (me_b mX8_value) 60 = .ok (.if_icmp .le 17, 3) := by decide +kernel
theorem dX8_value_63 : decode (me_b mX8_value) 63 = .ok (.iload_n 3, 1) := by decide +kernel
theorem dX8_value_64 : decode (me_b mX8_value) 64 = .ok (.ifCond .lt 11, 3) := by decide +kernel
theorem dX8_value_67 : decode (me_b mX8_value) 67 = .ok (.iload_n 3, 1) := by decide +kernel
theorem dX8_value_68 : decode (me_b mX8_value) 68 = .ok (.aload_n 0, 1) := by decide +kernel
theorem dX8_value_69 : decode (me_b mX8_value) 69 = .ok (.getfield 94, 3) := by decide +kernel
theorem dX8_value_72 : decode (me_b mX8_value) 72 = .ok (.if_icmp .lt 5, 3) := by decide +kernel
theorem dX8_value_75 : decode (me_b mX8_value) 75 = .ok (.iconst (-1), 1) := by decide +kernel
theorem dX8_value_76 : decode (me_b mX8_value) 76 = .ok (.ireturn, 1) := by decide +kernel
theorem dX8_value_77 : decode (me_b mX8_value) 77 = .ok (.aload_n 0, 1) := by decide +kernel
theorem dX8_value_78 : decode (me_b mX8_value) 78 = .ok (.getfield 22, 3) := by decide +kernel
theorem dX8_value_81 : decode (me_b mX8_value) 81 = .ok (.bipush 16, 2) := by decide +kernel
theorem dX8_value_83 : decode (me_b mX8_value) 83 = .ok (.iload 4, 2) := by decide +kernel
theorem dX8_value_85 : decode (me_b mX8_value) 85 = .ok (.imul, 1) := by decide +kernel
theorem dX8_value_86 : decode (me_b mX8_value) 86 = .ok (.aload_n 0, 1) := by decide +kernel
theorem dX8_value_87 : decode (me_b mX8_value) 87 = .ok (.getfield 7, 3) := by decide +kernel
theorem dX8_value_90 : decode (me_b mX8_value) 90 = .ok (.iload 4, 2) := by decide +kernel
theorem dX8_value_92 : decode (me_b mX8_value) 92 = .ok (.iaload, 1) := by decide +kernel
theorem dX8_value_93 : decode (me_b mX8_value) 93 = .ok (.ifCond .le 9, 3) := by decide +kernel
theorem dX8_value_96 : decode (me_b mX8_value) 96 = .ok (.iconst 4, 1) := by decide +kernel
theorem dX8_value_97 : decode (me_b mX8_value) 97 = .ok (.iload_n 2, 1) := by decide +kernel
theorem dX8_value_98 : decode (me_b mX8_value) 98 = .ok (.imul, 1) := by decide +kernel
theorem dX8_value_99 : decode (me_b mX8_value) 99 = .ok (.goto 4, 3) := by decide +kernel
theorem dX8_value_102 : decode (me_b mX8_value) 102 = .ok (.iconst 0, 1) := by decide +kernel
theorem dX8_value_103 : decode (me_b mX8_value) 103 = .ok (.iadd, 1) := by decide +kernel
theorem dX8_value_104 : decode (me_b mX8_value) 104 = .ok (.aload_n 0, 1) := by decide +kernel
theorem dX8_value_105 : decode (me_b mX8_value) 105 = .ok (.getfield 7, 3) := by decide +kernel
theorem dX8_value_108 : decode (me_b mX8_value) 108 = .ok (.iload 4, 2) := by decide +kernel
theorem dX8_value_110 : decode (me_b mX8_value) 110 = .ok (.iaload, 1) := by decide +kernel
theorem dX8_value_111 : decode (me_b mX8_value) 111 = .ok (.iconst 1, 1) := by decide +kernel
theorem dX8_value_112 : decode (me_b mX8_value) 112 = .ok (.if_icmp .le 7, 3) := by decide +kernel
theorem dX8_value_115 : decode (me_b mX8_value) 115 = .ok (.iload_n 3, 1) := by decide +kernel
theorem dX8_value_116 : decode (me_b mX8_value) 116 = .ok (.goto 4, 3) := by decide +kernel
theorem dX8_value_119 : decode (me_b mX8_value) 119 = .ok (.iconst 0, 1) := by decide +kernel
theorem dX8_value_120 : decode (me_b mX8_value) 120 = .ok (.iadd, 1) := by decide +kernel
theorem dX8_value_121 : decode (me_b mX8_value) 121 = .ok (.iaload, 1) := by decide +kernel
theorem dX8_value_122 : decode (me_b mX8_value) 122 = .ok (.ireturn, 1) := by decide +kernel
theorem dX8_tries_0 : decode (me_b mX8_tries) 0 = .ok (.aload_n 0, 1) := by decide +kernel
theorem dX8_tries_1 : decode (me_b mX8_tries) 1 = .ok (.getfield 120, 3) := by decide +kernel
theorem dX8_tries_4 : decode (me_b mX8_tries) 4 = .ok (.ireturn, 1) := by decide +kernel
theorem dX8_check_0 : decode (me_b mX8_check) 0 = .ok (.aload_n 0, 1) := by decide +kernel
theorem dX8_check_1 : decode (me_b mX8_check) 1 = .ok (.invokevirtual 70, 3) := by decide +kernel
theorem dX8_check_4 : decode (me_b mX8_check) 4 = .ok (.istore_n 1, 1) := by decide +kernel
theorem dX8_check_5 : decode (me_b mX8_check) 5 = .ok (.iload_n 1, 1) := by decide +kernel
theorem dX8_check_6 : decode (me_b mX8_check) 6 = .ok (.ifCond .ge 10, 3) := by decide +kernel
theorem dX8_check_9 : decode (me_b mX8_check) 9 = .ok (.aload_n 0, 1) := by decide +kernel
theorem dX8_check_10 : decode (me_b mX8_check) 10 = .ok (.getfield 51, 3) := by decide +kernel
theorem dX8_check_13 : decode (me_b mX8_check) 13 = .ok (.ifCond .ne 22, 3) := by decide +kernel
theorem dX8_check_16 : decode (me_b mX8_check) 16 = .ok (.aload_n 0, 1) := by decide +kernel
theorem dX8_check_17 : decode (me_b mX8_check) 17 = .ok (.iconst 0, 1) := by decide +kernel
theorem dX8_check_18 : decode (me_b mX8_check) 18 = .ok (.putfield 61, 3) := by decide +kernel
theorem dX8_check_21 : decode (me_b mX8_check) 21 = .ok (.iload_n 1, 1) := by decide +kernel
theorem dX8_check_22 : decode (me_b mX8_check) 22 = .ok (.ifCond .lt 10, 3) := by decide +kernel
theorem dX8_check_25 : decode (me_b mX8_check) 25 = .ok (.bipush (-100), 2) := by decide +kernel
theorem dX8_check_27 : decode (me_b mX8_check) 27 = .ok (.iload_n 1, 1) := by decide +kernel
theorem dX8_check_28 : decode (me_b mX8_check) 28 = .ok (.isub, 1) := by decide +kernel
theorem dX8_check_29 : decode (me_b mX8_check) 29 = .ok (.goto 5, 3) := by decide +kernel
theorem dX8_check_32 : decode (me_b mX8_check) 32 = .ok (.bipush (-2), 2) := by decide +kernel
theorem dX8_check_34 : decode (me_b mX8_check) 34 = .ok (.ireturn, 1) := by decide +kernel
theorem dX8_check_35 : decode (me_b mX8_check) 35 = .ok (.aload_n 0, 1) := by decide +kernel
theorem dX8_check_36 : decode (me_b mX8_check) 36 = .ok (.bipush 8, 2) := by decide +kernel
theorem dX8_check_38 : decode (me_b mX8_check) 38 = .ok (.invokevirtual 74, 3) := by decide +kernel
theorem dX8_check_41 : decode (me_b mX8_check) 41 = .ok (.aload_n 0, 1) := by decide +kernel
theorem dX8_check_42 : decode (me_b mX8_check) 42 = .ok (.bipush 8, 2) := by decide +kernel
theorem dX8_check_44 : decode (me_b mX8_check) 44 = .ok (.invokevirtual 104, 3) := by decide +kernel
theorem dX8_check_47 : decode (me_b mX8_check) 47 = .ok (.ifCond .ne 5, 3) := by decide +kernel
theorem dX8_check_50 : decode (me_b mX8_check) 50 = .ok (.iconst 1, 1) := by decide +kernel
theorem dX8_check_51 : decode (me_b mX8_check) 51 = .ok (.ireturn, 1) := by decide +kernel
theorem dX8_check_52 : decode (me_b mX8_check) 52 = .ok (.iconst 0, 1) := by decide +kernel
theorem dX8_check_53 : decode (me_b mX8_check) 53 = .ok (.istore_n 2, 1) := by decide +kernel
theorem dX8_check_54 : decode (me_b mX8_check) 54 = .ok (.iload_n 2, 1) := by decide +kernel
theorem dX8_check_55 : decode (me_b mX8_check) 55 = .ok (.iconst 3, 1) := by decide +kernel
theorem dX8_check_56 : decode (me_b mX8_check) 56 = .ok (.if_icmp .ge 21, 3) := by decide +kernel
theorem dX8_check_59 : decode (me_b mX8_check) 59 = .ok (.aload_n 0, 1) := by decide +kernel
theorem dX8_check_60 : decode (me_b mX8_check) 60 = .ok (.getfield 37, 3) := by decide +kernel
theorem dX8_check_63 : decode (me_b mX8_check) 63 = .ok (.iload_n 2, 1) := by decide +kernel
theorem dX8_check_64 : decode (me_b mX8_check) 64 = .ok (.aload_n 0, 1) := by decide +kernel
theorem dX8_check_65 : decode (me_b mX8_check) 65 = .ok (.getfield 34, 3) := by decide +kernel
theorem dX8_check_68 : decode (me_b mX8_check) 68 = .ok (.iload_n 2, 1) := by decide +kernel
theorem dX8_check_69 : decode (me_b mX8_check) 69 = .ok (.iaload, 1) := by decide +kernel
theorem dX8_check_70 : decode (me_b mX8_check) 70 = .ok (.iastore, 1) := by decide +kernel
theorem dX8_check_71 : decode (me_b mX8_check) 71 = .ok (.iinc 2 1, 3) := by decide +kernel
theorem dX8_check_74 : decode (me_b mX8_check) 74 = .ok (.goto (-20), 3) := by decide +kernel
theorem dX8_check_77 : decode (me_b mX8_check) 77 = .ok (.iconst 0, 1) := by decide +kernel
theorem dX8_check_78 : decode (me_b mX8_check) 78 = .ok (.ireturn, 1) := by decide +kernel
theorem dX8_caseOf_0 : decode (me_b mX8_caseOf) 0 = .ok (.iload_n 1, 1) := by decide +kernel
theorem dX8_caseOf_1 : decode (me_b mX8_caseOf) 1 = .ok (.ifCond .lt 17, 3) := by decide +kernel
theorem dX8_caseOf_4 : decode (me_b mX8_caseOf) 4 = .ok (.iload_n 1, 1) := by decide +kernel
theorem dX8_caseOf_5 : decode (me_b mX8_caseOf) 5 = .ok (.iconst 2, 1) := by decide +kernel
theorem dX8_caseOf_6 : decode (me_b mX8_caseOf) 6 = .ok (.if_icmp .gt 12, 3) := by decide +kernel
theorem dX8_caseOf_9 : decode (me_b mX8_caseOf) 9 = .ok (.aload_n 0, 1) := by decide +kernel
theorem dX8_caseOf_10 : decode (me_b mX8_caseOf) 10 = .ok (.getfield 37, 3) := by decide +kernel
theorem dX8_caseOf_13 : decode (me_b mX8_caseOf) 13 = .ok (.iload_n 1, 1) := by decide +kernel
theorem dX8_caseOf_14 : decode (me_b mX8_caseOf) 14 = .ok (.iaload, 1) := by decide +kernel
theorem dX8_caseOf_15 : decode (me_b mX8_caseOf) 15 = .ok (.goto 4, 3) := by decide +kernel
theorem dX8_caseOf_18 : decode (me_b mX8_caseOf) 18 = .ok (.iconst (-1), 1) := by decide +kernel
theorem dX8_caseOf_19 : decode (me_b mX8_caseOf) 19 = .ok (.ireturn, 1) := by decide +kernel
theorem dX8_clauses_0 : decode (me_b mX8_clauses) 0 = .ok (.aload_n 0, 1) := by decide +kernel
theorem dX8_clauses_1 : decode (me_b mX8_clauses) 1 = .ok (.getfield 47, 3) := by decide +kernel
theorem dX8_clauses_4 : decode (me_b mX8_clauses) 4 = .ok (.ireturn, 1) := by decide +kernel
set_option maxRecDepth 20000 in
theorem s_X8_symbol_0 {σ : ab_M} {Q : Option ab_V → ab_M → Prop} {x1 : Int32} {x2 : Int32}
    (k : evm mX8_symbolOf [.inl x1] σ (fun v τ1 => ∃ r2 : Int32, v = some (.inl r2) ∧ ((r2 < 0 → Q (some (.inl 0)) τ1) ∧ (¬ r2 < 0 → ((x2 < (-1) → Q (some (.inl 0)) τ1) ∧ (¬ x2 < (-1) → ((x2 ≤ 2 → ab_in r2 8 = true ∧ Q (some (.inl 1)) (ab_upd (ab_upd (ab_upd τ1 51 r2.toNatClampNeg x2) 50 5 0) 50 12 0)) ∧ (¬ x2 ≤ 2 → Q (some (.inl 0)) τ1)))))))) :
    ev mX8_symbol 0 [some (.inr (.inr 50)), some (.inl x1), some (.inl x2), none] [] σ Q := by
  refine ev_p (pc' := 1) (ls' := [some (.inr (.inr 50)), some (.inl x1), some (.inl x2), none]) (st' := [.inl x1]) dX8_symbol_0 rfl ?_
  refine ev_call (y := 85) (as := [.inl x1]) (r := []) (M' := mX8_symbolOf) (pc' := 4) dX8_symbol_1 rfl rfl ⟨rfl, rfl⟩ rfl k rfl (fun v τ1 hq => ?_)
  obtain ⟨r2, hv, k⟩ := hq
  rw [hv]
  change ev mX8_symbol 4 [some (.inr (.inr 50)), some (.inl x1), some (.inl x2), none] [.inl r2] τ1 _
  refine ev_p (pc' := 5) (ls' := [some (.inr (.inr 50)), some (.inl x1), some (.inl x2), some (.inl r2)]) (st' := []) dX8_symbol_4 rfl ?_
  refine ev_p (pc' := 6) (ls' := [some (.inr (.inr 50)), some (.inl x1), some (.inl x2), some (.inl r2)]) (st' := [.inl r2]) dX8_symbol_5 rfl ?_
  refine ev_if_lt (tgt := 19) (pc' := 9) dX8_symbol_6 (by decide) rfl (fun h1 => ?_) (fun h1 => ?_)
  · have k := k.1 h1
    refine ev_cst (v := 0) (pc' := 20) dX8_symbol_19 (by decide) rfl ?_
    exact ev_retZ dX8_symbol_20 rfl rfl k
  · have k := k.2 h1
    refine ev_p (pc' := 10) (ls' := [some (.inr (.inr 50)), some (.inl x1), some (.inl x2), some (.inl r2)]) (st' := [.inl x2]) dX8_symbol_9 rfl ?_
    refine ev_cst (v := (-1)) (pc' := 11) dX8_symbol_10 (by decide) rfl ?_
    refine ev_ic_lt (tgt := 19) (pc' := 14) dX8_symbol_11 (by decide) rfl (fun h2 => ?_) (fun h2 => ?_)
    · have k := k.1 h2
      refine ev_cst (v := 0) (pc' := 20) dX8_symbol_19 (by decide) rfl ?_
      exact ev_retZ dX8_symbol_20 rfl rfl k
    · have k := k.2 h2
      refine ev_p (pc' := 15) (ls' := [some (.inr (.inr 50)), some (.inl x1), some (.inl x2), some (.inl r2)]) (st' := [.inl x2]) dX8_symbol_14 rfl ?_
      refine ev_cst (v := 2) (pc' := 16) dX8_symbol_15 (by decide) rfl ?_
      refine ev_ic_le (tgt := 21) (pc' := 19) dX8_symbol_16 (by decide) rfl (fun h3 => ?_) (fun h3 => ?_)
      · have k := k.1 h3
        refine ev_p (pc' := 22) (ls' := [some (.inr (.inr 50)), some (.inl x1), some (.inl x2), some (.inl r2)]) (st' := [.inr (.inr 50)]) dX8_symbol_21 rfl ?_
        refine ev_getA (pc' := 25) (z := 51) dX8_symbol_22 rfl rfl rfl rfl ?_
        refine ev_p (pc' := 26) (ls' := [some (.inr (.inr 50)), some (.inl x1), some (.inl x2), some (.inl r2)]) (st' := [.inl r2, .inr (.inr 51)]) dX8_symbol_25 rfl ?_
        refine ev_p (pc' := 27) (ls' := [some (.inr (.inr 50)), some (.inl x1), some (.inl x2), some (.inl r2)]) (st' := [.inl x2, .inl r2, .inr (.inr 51)]) dX8_symbol_26 rfl ?_
        refine ev_stor (pc' := 28) (z := x2) rfl dX8_symbol_27 rfl rfl k.1 rfl rfl ?_
        have k := k.2
        refine ev_p (pc' := 29) (ls' := [some (.inr (.inr 50)), some (.inl x1), some (.inl x2), some (.inl r2)]) (st' := [.inr (.inr 50)]) dX8_symbol_28 rfl ?_
        refine ev_cst (v := 0) (pc' := 30) dX8_symbol_29 (by decide) rfl ?_
        refine ev_putI (pc' := 33) dX8_symbol_30 rfl rfl rfl rfl rfl rfl ?_
        refine ev_p (pc' := 34) (ls' := [some (.inr (.inr 50)), some (.inl x1), some (.inl x2), some (.inl r2)]) (st' := [.inr (.inr 50)]) dX8_symbol_33 rfl ?_
        refine ev_cst (v := 0) (pc' := 35) dX8_symbol_34 (by decide) rfl ?_
        refine ev_putI (pc' := 38) dX8_symbol_35 rfl rfl rfl rfl rfl rfl ?_
        refine ev_cst (v := 1) (pc' := 39) dX8_symbol_38 (by decide) rfl ?_
        exact ev_retZ dX8_symbol_39 rfl rfl k
      · have k := k.2 h3
        refine ev_cst (v := 0) (pc' := 20) dX8_symbol_19 (by decide) rfl ?_
        exact ev_retZ dX8_symbol_20 rfl rfl k
set_option maxRecDepth 20000 in
theorem s_X8_symbolOf_0 {σ : ab_M} {Q : Option ab_V → ab_M → Prop} {x0 : Int32}
    (k : ((x0 < 97 → ((x0 < 80 → Q (some (.inl (-1))) σ) ∧ (¬ x0 < 80 → ((83 < x0 → Q (some (.inl (-1))) σ) ∧ (¬ 83 < x0 → Q (some (.inl ((4 + x0) - 80))) σ))))) ∧ (¬ x0 < 97 → ((100 < x0 → ((x0 < 80 → Q (some (.inl (-1))) σ) ∧ (¬ x0 < 80 → ((83 < x0 → Q (some (.inl (-1))) σ) ∧ (¬ 83 < x0 → Q (some (.inl ((4 + x0) - 80))) σ))))) ∧ (¬ 100 < x0 → Q (some (.inl (x0 - 97))) σ))))) :
    ev mX8_symbolOf 0 [some (.inl x0)] [] σ Q := by
  refine ev_p (pc' := 1) (ls' := [some (.inl x0)]) (st' := [.inl x0]) dX8_symbolOf_0 rfl ?_
  refine ev_cst (v := 97) (pc' := 3) dX8_symbolOf_1 (by decide) rfl ?_
  refine ev_ic_lt (tgt := 19) (pc' := 6) dX8_symbolOf_3 (by decide) rfl (fun h1 => ?_) (fun h1 => ?_)
  · have k := k.1 h1
    refine ev_p (pc' := 20) (ls' := [some (.inl x0)]) (st' := [.inl x0]) dX8_symbolOf_19 rfl ?_
    refine ev_cst (v := 80) (pc' := 22) dX8_symbolOf_20 (by decide) rfl ?_
    refine ev_ic_lt (tgt := 40) (pc' := 25) dX8_symbolOf_22 (by decide) rfl (fun h2 => ?_) (fun h2 => ?_)
    · have k := k.1 h2
      refine ev_cst (v := (-1)) (pc' := 41) dX8_symbolOf_40 (by decide) rfl ?_
      exact ev_ret dX8_symbolOf_41 rfl k
    · have k := k.2 h2
      refine ev_p (pc' := 26) (ls' := [some (.inl x0)]) (st' := [.inl x0]) dX8_symbolOf_25 rfl ?_
      refine ev_cst (v := 83) (pc' := 28) dX8_symbolOf_26 (by decide) rfl ?_
      refine ev_ic_gt (tgt := 40) (pc' := 31) dX8_symbolOf_28 (by decide) rfl (fun h3 => ?_) (fun h3 => ?_)
      · have k := k.1 h3
        refine ev_cst (v := (-1)) (pc' := 41) dX8_symbolOf_40 (by decide) rfl ?_
        exact ev_ret dX8_symbolOf_41 rfl k
      · have k := k.2 h3
        refine ev_cst (v := 4) (pc' := 32) dX8_symbolOf_31 (by decide) rfl ?_
        refine ev_p (pc' := 33) (ls' := [some (.inl x0)]) (st' := [.inl x0, .inl 4]) dX8_symbolOf_32 rfl ?_
        refine ev_p (pc' := 34) (ls' := [some (.inl x0)]) (st' := [.inl (4 + x0)]) dX8_symbolOf_33 rfl ?_
        refine ev_cst (v := 80) (pc' := 36) dX8_symbolOf_34 (by decide) rfl ?_
        refine ev_p (pc' := 37) (ls' := [some (.inl x0)]) (st' := [.inl ((4 + x0) - 80)]) dX8_symbolOf_36 rfl ?_
        refine ev_go (tgt := 41) dX8_symbolOf_37 (by decide) ?_
        exact ev_ret dX8_symbolOf_41 rfl k
  · have k := k.2 h1
    refine ev_p (pc' := 7) (ls' := [some (.inl x0)]) (st' := [.inl x0]) dX8_symbolOf_6 rfl ?_
    refine ev_cst (v := 100) (pc' := 9) dX8_symbolOf_7 (by decide) rfl ?_
    refine ev_ic_gt (tgt := 19) (pc' := 12) dX8_symbolOf_9 (by decide) rfl (fun h4 => ?_) (fun h4 => ?_)
    · have k := k.1 h4
      refine ev_p (pc' := 20) (ls' := [some (.inl x0)]) (st' := [.inl x0]) dX8_symbolOf_19 rfl ?_
      refine ev_cst (v := 80) (pc' := 22) dX8_symbolOf_20 (by decide) rfl ?_
      refine ev_ic_lt (tgt := 40) (pc' := 25) dX8_symbolOf_22 (by decide) rfl (fun h5 => ?_) (fun h5 => ?_)
      · have k := k.1 h5
        refine ev_cst (v := (-1)) (pc' := 41) dX8_symbolOf_40 (by decide) rfl ?_
        exact ev_ret dX8_symbolOf_41 rfl k
      · have k := k.2 h5
        refine ev_p (pc' := 26) (ls' := [some (.inl x0)]) (st' := [.inl x0]) dX8_symbolOf_25 rfl ?_
        refine ev_cst (v := 83) (pc' := 28) dX8_symbolOf_26 (by decide) rfl ?_
        refine ev_ic_gt (tgt := 40) (pc' := 31) dX8_symbolOf_28 (by decide) rfl (fun h6 => ?_) (fun h6 => ?_)
        · have k := k.1 h6
          refine ev_cst (v := (-1)) (pc' := 41) dX8_symbolOf_40 (by decide) rfl ?_
          exact ev_ret dX8_symbolOf_41 rfl k
        · have k := k.2 h6
          refine ev_cst (v := 4) (pc' := 32) dX8_symbolOf_31 (by decide) rfl ?_
          refine ev_p (pc' := 33) (ls' := [some (.inl x0)]) (st' := [.inl x0, .inl 4]) dX8_symbolOf_32 rfl ?_
          refine ev_p (pc' := 34) (ls' := [some (.inl x0)]) (st' := [.inl (4 + x0)]) dX8_symbolOf_33 rfl ?_
          refine ev_cst (v := 80) (pc' := 36) dX8_symbolOf_34 (by decide) rfl ?_
          refine ev_p (pc' := 37) (ls' := [some (.inl x0)]) (st' := [.inl ((4 + x0) - 80)]) dX8_symbolOf_36 rfl ?_
          refine ev_go (tgt := 41) dX8_symbolOf_37 (by decide) ?_
          exact ev_ret dX8_symbolOf_41 rfl k
    · have k := k.2 h4
      refine ev_p (pc' := 13) (ls' := [some (.inl x0)]) (st' := [.inl x0]) dX8_symbolOf_12 rfl ?_
      refine ev_cst (v := 97) (pc' := 15) dX8_symbolOf_13 (by decide) rfl ?_
      refine ev_p (pc' := 16) (ls' := [some (.inl x0)]) (st' := [.inl (x0 - 97)]) dX8_symbolOf_15 rfl ?_
      refine ev_go (tgt := 41) dX8_symbolOf_16 (by decide) ?_
      exact ev_ret dX8_symbolOf_41 rfl k
set_option maxRecDepth 20000 in
theorem s_X8_type_0 {σ : ab_M} {Q : Option ab_V → ab_M → Prop} {x1 : Int64} {x3 : Int32}
    (k : ((x3 < 1 → ev mX8_type 21 [some (.inr (.inr 50)), some (.inr (.inl x1)), none, some (.inl x3), some (.inl 0), some (.inl 0), none, none] [] σ Q) ∧ (¬ x3 < 1 → ((8 < x3 → ev mX8_type 21 [some (.inr (.inr 50)), some (.inr (.inl x1)), none, some (.inl x3), some (.inl 0), some (.inl 0), none, none] [] σ Q) ∧ (¬ 8 < x3 → ev mX8_type 21 [some (.inr (.inr 50)), some (.inr (.inl x1)), none, some (.inl x3), some (.inl 1), some (.inl 0), none, none] [] σ Q))))) :
    ev mX8_type 0 [some (.inr (.inr 50)), some (.inr (.inl x1)), none, some (.inl x3), none, none, none, none] [] σ Q := by
  refine ev_p (pc' := 1) (ls' := [some (.inr (.inr 50)), some (.inr (.inl x1)), none, some (.inl x3), none, none, none, none]) (st' := [.inl x3]) dX8_type_0 rfl ?_
  refine ev_cst (v := 1) (pc' := 2) dX8_type_1 (by decide) rfl ?_
  refine ev_ic_lt (tgt := 15) (pc' := 5) dX8_type_2 (by decide) rfl (fun h1 => ?_) (fun h1 => ?_)
  · have k := k.1 h1
    refine ev_cst (v := 0) (pc' := 16) dX8_type_15 (by decide) rfl ?_
    refine ev_p (pc' := 18) (ls' := [some (.inr (.inr 50)), some (.inr (.inl x1)), none, some (.inl x3), some (.inl 0), none, none, none]) (st' := []) dX8_type_16 rfl ?_
    refine ev_cst (v := 0) (pc' := 19) dX8_type_18 (by decide) rfl ?_
    refine ev_p (pc' := 21) (ls' := [some (.inr (.inr 50)), some (.inr (.inl x1)), none, some (.inl x3), some (.inl 0), some (.inl 0), none, none]) (st' := []) dX8_type_19 rfl ?_
    exact k
  · have k := k.2 h1
    refine ev_p (pc' := 6) (ls' := [some (.inr (.inr 50)), some (.inr (.inl x1)), none, some (.inl x3), none, none, none, none]) (st' := [.inl x3]) dX8_type_5 rfl ?_
    refine ev_cst (v := 8) (pc' := 8) dX8_type_6 (by decide) rfl ?_
    refine ev_ic_gt (tgt := 15) (pc' := 11) dX8_type_8 (by decide) rfl (fun h2 => ?_) (fun h2 => ?_)
    · have k := k.1 h2
      refine ev_cst (v := 0) (pc' := 16) dX8_type_15 (by decide) rfl ?_
      refine ev_p (pc' := 18) (ls' := [some (.inr (.inr 50)), some (.inr (.inl x1)), none, some (.inl x3), some (.inl 0), none, none, none]) (st' := []) dX8_type_16 rfl ?_
      refine ev_cst (v := 0) (pc' := 19) dX8_type_18 (by decide) rfl ?_
      refine ev_p (pc' := 21) (ls' := [some (.inr (.inr 50)), some (.inr (.inl x1)), none, some (.inl x3), some (.inl 0), some (.inl 0), none, none]) (st' := []) dX8_type_19 rfl ?_
      exact k
    · have k := k.2 h2
      refine ev_cst (v := 1) (pc' := 12) dX8_type_11 (by decide) rfl ?_
      refine ev_go (tgt := 16) dX8_type_12 (by decide) ?_
      refine ev_p (pc' := 18) (ls' := [some (.inr (.inr 50)), some (.inr (.inl x1)), none, some (.inl x3), some (.inl 1), none, none, none]) (st' := []) dX8_type_16 rfl ?_
      refine ev_cst (v := 0) (pc' := 19) dX8_type_18 (by decide) rfl ?_
      refine ev_p (pc' := 21) (ls' := [some (.inr (.inr 50)), some (.inr (.inl x1)), none, some (.inl x3), some (.inl 1), some (.inl 0), none, none]) (st' := []) dX8_type_19 rfl ?_
      exact k
set_option maxRecDepth 20000 in
theorem s_X8_type_21 {σ : ab_M} {Q : Option ab_V → ab_M → Prop} {x1 : Int64} {x3 : Int32} {x4 : Int32} {x5 : Int32} {o6 : Option ab_V} {o7 : Option ab_V}
    (k : ((x3 ≤ x5 → ((x4 = 0 → Q (some (.inl (-1))) σ) ∧ (¬ x4 = 0 → ((((σ 50 2) + x3) ≤ 60 → ev mX8_type 102 [some (.inr (.inr 50)), some (.inr (.inl x1)), none, some (.inl x3), some (.inl x4), some (.inl (x3 - 1)), o6, o7] [] σ Q) ∧ (¬ ((σ 50 2) + x3) ≤ 60 → Q (some (.inl (-3))) σ))))) ∧ (¬ x3 ≤ x5 → ((x4 = 0 → ((x4 = 0 → Q (some (.inl (-1))) σ) ∧ (¬ x4 = 0 → ((((σ 50 2) + x3) ≤ 60 → ev mX8_type 102 [some (.inr (.inr 50)), some (.inr (.inl x1)), none, some (.inl x3), some (.inl x4), some (.inl (x3 - 1)), o6, o7] [] σ Q) ∧ (¬ ((σ 50 2) + x3) ≤ 60 → Q (some (.inl (-3))) σ))))) ∧ (¬ x4 = 0 → (((lg_cmp ((x1 >>> ((8 * x5).toInt64 &&& 63)) &&& 255) 33) < 0 → ev mX8_type 21 [some (.inr (.inr 50)), some (.inr (.inl x1)), none, some (.inl x3), some (.inl 0), some (.inl (x5 + 1)), some (.inr (.inl ((x1 >>> ((8 * x5).toInt64 &&& 63)) &&& 255))), none] [] σ Q) ∧ (¬ (lg_cmp ((x1 >>> ((8 * x5).toInt64 &&& 63)) &&& 255) 33) < 0 → ((0 < (lg_cmp ((x1 >>> ((8 * x5).toInt64 &&& 63)) &&& 255) 126) → ev mX8_type 21 [some (.inr (.inr 50)), some (.inr (.inl x1)), none, some (.inl x3), some (.inl 0), some (.inl (x5 + 1)), some (.inr (.inl ((x1 >>> ((8 * x5).toInt64 &&& 63)) &&& 255))), none] [] σ Q) ∧ (¬ 0 < (lg_cmp ((x1 >>> ((8 * x5).toInt64 &&& 63)) &&& 255) 126) → ev mX8_type 21 [some (.inr (.inr 50)), some (.inr (.inl x1)), none, some (.inl x3), some (.inl 1), some (.inl (x5 + 1)), some (.inr (.inl ((x1 >>> ((8 * x5).toInt64 &&& 63)) &&& 255))), none] [] σ Q))))))))) :
    ev mX8_type 21 [some (.inr (.inr 50)), some (.inr (.inl x1)), none, some (.inl x3), some (.inl x4), some (.inl x5), o6, o7] [] σ Q := by
  refine ev_p (pc' := 23) (ls' := [some (.inr (.inr 50)), some (.inr (.inl x1)), none, some (.inl x3), some (.inl x4), some (.inl x5), o6, o7]) (st' := [.inl x5]) dX8_type_21 rfl ?_
  refine ev_p (pc' := 24) (ls' := [some (.inr (.inr 50)), some (.inr (.inl x1)), none, some (.inl x3), some (.inl x4), some (.inl x5), o6, o7]) (st' := [.inl x3, .inl x5]) dX8_type_23 rfl ?_
  refine ev_ic_ge (tgt := 76) (pc' := 27) dX8_type_24 (by decide) rfl (fun h1 => ?_) (fun h1 => ?_)
  · have k := k.1 h1
    refine ev_p (pc' := 78) (ls' := [some (.inr (.inr 50)), some (.inr (.inl x1)), none, some (.inl x3), some (.inl x4), some (.inl x5), o6, o7]) (st' := [.inl x4]) dX8_type_76 rfl ?_
    refine ev_if_ne (tgt := 83) (pc' := 81) dX8_type_78 (by decide) rfl (fun h2 => ?_) (fun h2 => ?_)
    · have k := k.2 h2
      refine ev_p (pc' := 84) (ls' := [some (.inr (.inr 50)), some (.inr (.inl x1)), none, some (.inl x3), some (.inl x4), some (.inl x5), o6, o7]) (st' := [.inr (.inr 50)]) dX8_type_83 rfl ?_
      refine ev_getI (pc' := 87) dX8_type_84 rfl rfl rfl rfl ?_
      refine ev_p (pc' := 88) (ls' := [some (.inr (.inr 50)), some (.inr (.inl x1)), none, some (.inl x3), some (.inl x4), some (.inl x5), o6, o7]) (st' := [.inl x3, .inl (σ 50 2)]) dX8_type_87 rfl ?_
      refine ev_p (pc' := 89) (ls' := [some (.inr (.inr 50)), some (.inr (.inl x1)), none, some (.inl x3), some (.inl x4), some (.inl x5), o6, o7]) (st' := [.inl ((σ 50 2) + x3)]) dX8_type_88 rfl ?_
      refine ev_cst (v := 60) (pc' := 91) dX8_type_89 (by decide) rfl ?_
      refine ev_ic_le (tgt := 97) (pc' := 94) dX8_type_91 (by decide) rfl (fun h3 => ?_) (fun h3 => ?_)
      · have k := k.1 h3
        refine ev_p (pc' := 98) (ls' := [some (.inr (.inr 50)), some (.inr (.inl x1)), none, some (.inl x3), some (.inl x4), some (.inl x5), o6, o7]) (st' := [.inl x3]) dX8_type_97 rfl ?_
        refine ev_cst (v := 1) (pc' := 99) dX8_type_98 (by decide) rfl ?_
        refine ev_p (pc' := 100) (ls' := [some (.inr (.inr 50)), some (.inr (.inl x1)), none, some (.inl x3), some (.inl x4), some (.inl x5), o6, o7]) (st' := [.inl (x3 - 1)]) dX8_type_99 rfl ?_
        refine ev_p (pc' := 102) (ls' := [some (.inr (.inr 50)), some (.inr (.inl x1)), none, some (.inl x3), some (.inl x4), some (.inl (x3 - 1)), o6, o7]) (st' := []) dX8_type_100 rfl ?_
        exact k
      · have k := k.2 h3
        refine ev_cst (v := (-3)) (pc' := 96) dX8_type_94 (by decide) rfl ?_
        exact ev_ret dX8_type_96 rfl k
    · have k := k.1 h2
      refine ev_cst (v := (-1)) (pc' := 82) dX8_type_81 (by decide) rfl ?_
      exact ev_ret dX8_type_82 rfl k
  · have k := k.2 h1
    refine ev_p (pc' := 29) (ls' := [some (.inr (.inr 50)), some (.inr (.inl x1)), none, some (.inl x3), some (.inl x4), some (.inl x5), o6, o7]) (st' := [.inl x4]) dX8_type_27 rfl ?_
    refine ev_if_eq (tgt := 76) (pc' := 32) dX8_type_29 (by decide) rfl (fun h4 => ?_) (fun h4 => ?_)
    · have k := k.1 h4
      refine ev_p (pc' := 78) (ls' := [some (.inr (.inr 50)), some (.inr (.inl x1)), none, some (.inl x3), some (.inl x4), some (.inl x5), o6, o7]) (st' := [.inl x4]) dX8_type_76 rfl ?_
      refine ev_if_ne (tgt := 83) (pc' := 81) dX8_type_78 (by decide) rfl (fun h5 => ?_) (fun h5 => ?_)
      · have k := k.2 h5
        refine ev_p (pc' := 84) (ls' := [some (.inr (.inr 50)), some (.inr (.inl x1)), none, some (.inl x3), some (.inl x4), some (.inl x5), o6, o7]) (st' := [.inr (.inr 50)]) dX8_type_83 rfl ?_
        refine ev_getI (pc' := 87) dX8_type_84 rfl rfl rfl rfl ?_
        refine ev_p (pc' := 88) (ls' := [some (.inr (.inr 50)), some (.inr (.inl x1)), none, some (.inl x3), some (.inl x4), some (.inl x5), o6, o7]) (st' := [.inl x3, .inl (σ 50 2)]) dX8_type_87 rfl ?_
        refine ev_p (pc' := 89) (ls' := [some (.inr (.inr 50)), some (.inr (.inl x1)), none, some (.inl x3), some (.inl x4), some (.inl x5), o6, o7]) (st' := [.inl ((σ 50 2) + x3)]) dX8_type_88 rfl ?_
        refine ev_cst (v := 60) (pc' := 91) dX8_type_89 (by decide) rfl ?_
        refine ev_ic_le (tgt := 97) (pc' := 94) dX8_type_91 (by decide) rfl (fun h6 => ?_) (fun h6 => ?_)
        · have k := k.1 h6
          refine ev_p (pc' := 98) (ls' := [some (.inr (.inr 50)), some (.inr (.inl x1)), none, some (.inl x3), some (.inl x4), some (.inl x5), o6, o7]) (st' := [.inl x3]) dX8_type_97 rfl ?_
          refine ev_cst (v := 1) (pc' := 99) dX8_type_98 (by decide) rfl ?_
          refine ev_p (pc' := 100) (ls' := [some (.inr (.inr 50)), some (.inr (.inl x1)), none, some (.inl x3), some (.inl x4), some (.inl x5), o6, o7]) (st' := [.inl (x3 - 1)]) dX8_type_99 rfl ?_
          refine ev_p (pc' := 102) (ls' := [some (.inr (.inr 50)), some (.inr (.inl x1)), none, some (.inl x3), some (.inl x4), some (.inl (x3 - 1)), o6, o7]) (st' := []) dX8_type_100 rfl ?_
          exact k
        · have k := k.2 h6
          refine ev_cst (v := (-3)) (pc' := 96) dX8_type_94 (by decide) rfl ?_
          exact ev_ret dX8_type_96 rfl k
      · have k := k.1 h5
        refine ev_cst (v := (-1)) (pc' := 82) dX8_type_81 (by decide) rfl ?_
        exact ev_ret dX8_type_82 rfl k
    · have k := k.2 h4
      refine ev_p (pc' := 33) (ls' := [some (.inr (.inr 50)), some (.inr (.inl x1)), none, some (.inl x3), some (.inl x4), some (.inl x5), o6, o7]) (st' := [.inr (.inl x1)]) dX8_type_32 rfl ?_
      refine ev_cst (v := 8) (pc' := 35) dX8_type_33 (by decide) rfl ?_
      refine ev_p (pc' := 37) (ls' := [some (.inr (.inr 50)), some (.inr (.inl x1)), none, some (.inl x3), some (.inl x4), some (.inl x5), o6, o7]) (st' := [.inl x5, .inl 8, .inr (.inl x1)]) dX8_type_35 rfl ?_
      refine ev_p (pc' := 38) (ls' := [some (.inr (.inr 50)), some (.inr (.inl x1)), none, some (.inl x3), some (.inl x4), some (.inl x5), o6, o7]) (st' := [.inl (8 * x5), .inr (.inl x1)]) dX8_type_37 rfl ?_
      refine ev_p (pc' := 39) (ls' := [some (.inr (.inr 50)), some (.inr (.inl x1)), none, some (.inl x3), some (.inl x4), some (.inl x5), o6, o7]) (st' := [.inr (.inl (x1 >>> ((8 * x5).toInt64 &&& 63)))]) dX8_type_38 rfl ?_
      refine ev_p (pc' := 42) (ls' := [some (.inr (.inr 50)), some (.inr (.inl x1)), none, some (.inl x3), some (.inl x4), some (.inl x5), o6, o7]) (st' := [.inr (.inl 255), .inr (.inl (x1 >>> ((8 * x5).toInt64 &&& 63)))]) dX8_type_39 rfl ?_
      refine ev_p (pc' := 43) (ls' := [some (.inr (.inr 50)), some (.inr (.inl x1)), none, some (.inl x3), some (.inl x4), some (.inl x5), o6, o7]) (st' := [.inr (.inl ((x1 >>> ((8 * x5).toInt64 &&& 63)) &&& 255))]) dX8_type_42 rfl ?_
      refine ev_p (pc' := 45) (ls' := [some (.inr (.inr 50)), some (.inr (.inl x1)), none, some (.inl x3), some (.inl x4), some (.inl x5), some (.inr (.inl ((x1 >>> ((8 * x5).toInt64 &&& 63)) &&& 255))), none]) (st' := []) dX8_type_43 rfl ?_
      refine ev_p (pc' := 47) (ls' := [some (.inr (.inr 50)), some (.inr (.inl x1)), none, some (.inl x3), some (.inl x4), some (.inl x5), some (.inr (.inl ((x1 >>> ((8 * x5).toInt64 &&& 63)) &&& 255))), none]) (st' := [.inr (.inl ((x1 >>> ((8 * x5).toInt64 &&& 63)) &&& 255))]) dX8_type_45 rfl ?_
      refine ev_p (pc' := 50) (ls' := [some (.inr (.inr 50)), some (.inr (.inl x1)), none, some (.inl x3), some (.inl x4), some (.inl x5), some (.inr (.inl ((x1 >>> ((8 * x5).toInt64 &&& 63)) &&& 255))), none]) (st' := [.inr (.inl 33), .inr (.inl ((x1 >>> ((8 * x5).toInt64 &&& 63)) &&& 255))]) dX8_type_47 rfl ?_
      refine ev_p (pc' := 51) (ls' := [some (.inr (.inr 50)), some (.inr (.inl x1)), none, some (.inl x3), some (.inl x4), some (.inl x5), some (.inr (.inl ((x1 >>> ((8 * x5).toInt64 &&& 63)) &&& 255))), none]) (st' := [.inl (lg_cmp ((x1 >>> ((8 * x5).toInt64 &&& 63)) &&& 255) 33)]) dX8_type_50 rfl ?_
      refine ev_if_lt (tgt := 67) (pc' := 54) dX8_type_51 (by decide) rfl (fun h7 => ?_) (fun h7 => ?_)
      · have k := k.1 h7
        refine ev_cst (v := 0) (pc' := 68) dX8_type_67 (by decide) rfl ?_
        refine ev_p (pc' := 70) (ls' := [some (.inr (.inr 50)), some (.inr (.inl x1)), none, some (.inl x3), some (.inl 0), some (.inl x5), some (.inr (.inl ((x1 >>> ((8 * x5).toInt64 &&& 63)) &&& 255))), none]) (st' := []) dX8_type_68 rfl ?_
        refine ev_p (pc' := 73) (ls' := [some (.inr (.inr 50)), some (.inr (.inl x1)), none, some (.inl x3), some (.inl 0), some (.inl (x5 + 1)), some (.inr (.inl ((x1 >>> ((8 * x5).toInt64 &&& 63)) &&& 255))), none]) (st' := []) dX8_type_70 rfl ?_
        refine ev_go (tgt := 21) dX8_type_73 (by decide) ?_
        exact k
      · have k := k.2 h7
        refine ev_p (pc' := 56) (ls' := [some (.inr (.inr 50)), some (.inr (.inl x1)), none, some (.inl x3), some (.inl x4), some (.inl x5), some (.inr (.inl ((x1 >>> ((8 * x5).toInt64 &&& 63)) &&& 255))), none]) (st' := [.inr (.inl ((x1 >>> ((8 * x5).toInt64 &&& 63)) &&& 255))]) dX8_type_54 rfl ?_
        refine ev_p (pc' := 59) (ls' := [some (.inr (.inr 50)), some (.inr (.inl x1)), none, some (.inl x3), some (.inl x4), some (.inl x5), some (.inr (.inl ((x1 >>> ((8 * x5).toInt64 &&& 63)) &&& 255))), none]) (st' := [.inr (.inl 126), .inr (.inl ((x1 >>> ((8 * x5).toInt64 &&& 63)) &&& 255))]) dX8_type_56 rfl ?_
        refine ev_p (pc' := 60) (ls' := [some (.inr (.inr 50)), some (.inr (.inl x1)), none, some (.inl x3), some (.inl x4), some (.inl x5), some (.inr (.inl ((x1 >>> ((8 * x5).toInt64 &&& 63)) &&& 255))), none]) (st' := [.inl (lg_cmp ((x1 >>> ((8 * x5).toInt64 &&& 63)) &&& 255) 126)]) dX8_type_59 rfl ?_
        refine ev_if_gt (tgt := 67) (pc' := 63) dX8_type_60 (by decide) rfl (fun h8 => ?_) (fun h8 => ?_)
        · have k := k.1 h8
          refine ev_cst (v := 0) (pc' := 68) dX8_type_67 (by decide) rfl ?_
          refine ev_p (pc' := 70) (ls' := [some (.inr (.inr 50)), some (.inr (.inl x1)), none, some (.inl x3), some (.inl 0), some (.inl x5), some (.inr (.inl ((x1 >>> ((8 * x5).toInt64 &&& 63)) &&& 255))), none]) (st' := []) dX8_type_68 rfl ?_
          refine ev_p (pc' := 73) (ls' := [some (.inr (.inr 50)), some (.inr (.inl x1)), none, some (.inl x3), some (.inl 0), some (.inl (x5 + 1)), some (.inr (.inl ((x1 >>> ((8 * x5).toInt64 &&& 63)) &&& 255))), none]) (st' := []) dX8_type_70 rfl ?_
          refine ev_go (tgt := 21) dX8_type_73 (by decide) ?_
          exact k
        · have k := k.2 h8
          refine ev_cst (v := 1) (pc' := 64) dX8_type_63 (by decide) rfl ?_
          refine ev_go (tgt := 68) dX8_type_64 (by decide) ?_
          refine ev_p (pc' := 70) (ls' := [some (.inr (.inr 50)), some (.inr (.inl x1)), none, some (.inl x3), some (.inl 1), some (.inl x5), some (.inr (.inl ((x1 >>> ((8 * x5).toInt64 &&& 63)) &&& 255))), none]) (st' := []) dX8_type_68 rfl ?_
          refine ev_p (pc' := 73) (ls' := [some (.inr (.inr 50)), some (.inr (.inl x1)), none, some (.inl x3), some (.inl 1), some (.inl (x5 + 1)), some (.inr (.inl ((x1 >>> ((8 * x5).toInt64 &&& 63)) &&& 255))), none]) (st' := []) dX8_type_70 rfl ?_
          refine ev_go (tgt := 21) dX8_type_73 (by decide) ?_
          exact k
set_option maxRecDepth 20000 in
theorem s_X8_type_102 {σ : ab_M} {Q : Option ab_V → ab_M → Prop} {x1 : Int64} {x3 : Int32} {x4 : Int32} {x5 : Int32} {o6 : Option ab_V} {o7 : Option ab_V}
    (k : ((x5 < 0 → Q (some (.inl (σ 50 2))) σ) ∧ (¬ x5 < 0 → ab_in (σ 50 2) 60 = true ∧ ev mX8_type 102 [some (.inr (.inr 50)), some (.inr (.inl x1)), none, some (.inl x3), some (.inl x4), some (.inl (x5 + (-1))), o6, o7] [] (ab_upd (ab_upd σ 52 (σ 50 2).toNatClampNeg (((x1 >>> ((8 * x5).toInt64 &&& 63)) &&& 255).toInt32)) 50 2 (((ab_upd σ 52 (σ 50 2).toNatClampNeg (((x1 >>> ((8 * x5).toInt64 &&& 63)) &&& 255).toInt32)) 50 2) + 1)) Q))) :
    ev mX8_type 102 [some (.inr (.inr 50)), some (.inr (.inl x1)), none, some (.inl x3), some (.inl x4), some (.inl x5), o6, o7] [] σ Q := by
  refine ev_p (pc' := 104) (ls' := [some (.inr (.inr 50)), some (.inr (.inl x1)), none, some (.inl x3), some (.inl x4), some (.inl x5), o6, o7]) (st' := [.inl x5]) dX8_type_102 rfl ?_
  refine ev_if_lt (tgt := 144) (pc' := 107) dX8_type_104 (by decide) rfl (fun h1 => ?_) (fun h1 => ?_)
  · have k := k.1 h1
    refine ev_p (pc' := 145) (ls' := [some (.inr (.inr 50)), some (.inr (.inl x1)), none, some (.inl x3), some (.inl x4), some (.inl x5), o6, o7]) (st' := [.inr (.inr 50)]) dX8_type_144 rfl ?_
    refine ev_getI (pc' := 148) dX8_type_145 rfl rfl rfl rfl ?_
    exact ev_ret dX8_type_148 rfl k
  · have k := k.2 h1
    refine ev_p (pc' := 108) (ls' := [some (.inr (.inr 50)), some (.inr (.inl x1)), none, some (.inl x3), some (.inl x4), some (.inl x5), o6, o7]) (st' := [.inr (.inr 50)]) dX8_type_107 rfl ?_
    refine ev_getA (pc' := 111) (z := 52) dX8_type_108 rfl rfl rfl rfl ?_
    refine ev_p (pc' := 112) (ls' := [some (.inr (.inr 50)), some (.inr (.inl x1)), none, some (.inl x3), some (.inl x4), some (.inl x5), o6, o7]) (st' := [.inr (.inr 50), .inr (.inr 52)]) dX8_type_111 rfl ?_
    refine ev_getI (pc' := 115) dX8_type_112 rfl rfl rfl rfl ?_
    refine ev_p (pc' := 116) (ls' := [some (.inr (.inr 50)), some (.inr (.inl x1)), none, some (.inl x3), some (.inl x4), some (.inl x5), o6, o7]) (st' := [.inr (.inl x1), .inl (σ 50 2), .inr (.inr 52)]) dX8_type_115 rfl ?_
    refine ev_cst (v := 8) (pc' := 118) dX8_type_116 (by decide) rfl ?_
    refine ev_p (pc' := 120) (ls' := [some (.inr (.inr 50)), some (.inr (.inl x1)), none, some (.inl x3), some (.inl x4), some (.inl x5), o6, o7]) (st' := [.inl x5, .inl 8, .inr (.inl x1), .inl (σ 50 2), .inr (.inr 52)]) dX8_type_118 rfl ?_
    refine ev_p (pc' := 121) (ls' := [some (.inr (.inr 50)), some (.inr (.inl x1)), none, some (.inl x3), some (.inl x4), some (.inl x5), o6, o7]) (st' := [.inl (8 * x5), .inr (.inl x1), .inl (σ 50 2), .inr (.inr 52)]) dX8_type_120 rfl ?_
    refine ev_p (pc' := 122) (ls' := [some (.inr (.inr 50)), some (.inr (.inl x1)), none, some (.inl x3), some (.inl x4), some (.inl x5), o6, o7]) (st' := [.inr (.inl (x1 >>> ((8 * x5).toInt64 &&& 63))), .inl (σ 50 2), .inr (.inr 52)]) dX8_type_121 rfl ?_
    refine ev_p (pc' := 125) (ls' := [some (.inr (.inr 50)), some (.inr (.inl x1)), none, some (.inl x3), some (.inl x4), some (.inl x5), o6, o7]) (st' := [.inr (.inl 255), .inr (.inl (x1 >>> ((8 * x5).toInt64 &&& 63))), .inl (σ 50 2), .inr (.inr 52)]) dX8_type_122 rfl ?_
    refine ev_p (pc' := 126) (ls' := [some (.inr (.inr 50)), some (.inr (.inl x1)), none, some (.inl x3), some (.inl x4), some (.inl x5), o6, o7]) (st' := [.inr (.inl ((x1 >>> ((8 * x5).toInt64 &&& 63)) &&& 255)), .inl (σ 50 2), .inr (.inr 52)]) dX8_type_125 rfl ?_
    refine ev_p (pc' := 127) (ls' := [some (.inr (.inr 50)), some (.inr (.inl x1)), none, some (.inl x3), some (.inl x4), some (.inl x5), o6, o7]) (st' := [.inl (((x1 >>> ((8 * x5).toInt64 &&& 63)) &&& 255).toInt32), .inl (σ 50 2), .inr (.inr 52)]) dX8_type_126 rfl ?_
    refine ev_stor (pc' := 128) (z := (((x1 >>> ((8 * x5).toInt64 &&& 63)) &&& 255).toInt32)) rfl dX8_type_127 rfl rfl k.1 rfl rfl ?_
    have k := k.2
    refine ev_p (pc' := 129) (ls' := [some (.inr (.inr 50)), some (.inr (.inl x1)), none, some (.inl x3), some (.inl x4), some (.inl x5), o6, o7]) (st' := [.inr (.inr 50)]) dX8_type_128 rfl ?_
    refine ev_p (pc' := 130) (ls' := [some (.inr (.inr 50)), some (.inr (.inl x1)), none, some (.inl x3), some (.inl x4), some (.inl x5), o6, o7]) (st' := [.inr (.inr 50), .inr (.inr 50)]) dX8_type_129 rfl ?_
    refine ev_getI (pc' := 133) dX8_type_130 rfl rfl rfl rfl ?_
    refine ev_cst (v := 1) (pc' := 134) dX8_type_133 (by decide) rfl ?_
    refine ev_p (pc' := 135) (ls' := [some (.inr (.inr 50)), some (.inr (.inl x1)), none, some (.inl x3), some (.inl x4), some (.inl x5), o6, o7]) (st' := [.inl (((ab_upd σ 52 (σ 50 2).toNatClampNeg (((x1 >>> ((8 * x5).toInt64 &&& 63)) &&& 255).toInt32)) 50 2) + 1), .inr (.inr 50)]) dX8_type_134 rfl ?_
    refine ev_putI (pc' := 138) dX8_type_135 rfl rfl rfl rfl rfl rfl ?_
    refine ev_p (pc' := 141) (ls' := [some (.inr (.inr 50)), some (.inr (.inl x1)), none, some (.inl x3), some (.inl x4), some (.inl (x5 + (-1))), o6, o7]) (st' := []) dX8_type_138 rfl ?_
    refine ev_go (tgt := 102) dX8_type_141 (by decide) ?_
    exact k
set_option maxRecDepth 20000 in
theorem s_X8_clause_0 {σ : ab_M} {Q : Option ab_V → ab_M → Prop} 
    (k : evm mX8_wrong [.inr (.inr 50)] σ (fun v τ1 => ∃ r2 : Int32, v = some (.inl r2) ∧ ((0 ≤ r2 → ((r2 < 0 → Q (some (.inl (-3))) (ab_upd τ1 50 2 0)) ∧ (¬ r2 < 0 → Q (some (.inl ((-100) - r2))) (ab_upd τ1 50 2 0)))) ∧ (¬ 0 ≤ r2 → (((τ1 50 5) = 8 → ((r2 < 0 → Q (some (.inl (-3))) (ab_upd τ1 50 2 0)) ∧ (¬ r2 < 0 → Q (some (.inl ((-100) - r2))) (ab_upd τ1 50 2 0)))) ∧ (¬ (τ1 50 5) = 8 → evm mX8_keep [.inr (.inr 50), .inl (τ1 50 5)] τ1 (fun v τ3 => v = none ∧ Q (some (.inl ((ab_upd (ab_upd τ3 50 5 ((τ3 50 5) + 1)) 50 13 0) 50 5))) (ab_upd (ab_upd τ3 50 5 ((τ3 50 5) + 1)) 50 13 0)))))))) :
    ev mX8_clause 0 [some (.inr (.inr 50)), none] [] σ Q := by
  refine ev_p (pc' := 1) (ls' := [some (.inr (.inr 50)), none]) (st' := [.inr (.inr 50)]) dX8_clause_0 rfl ?_
  refine ev_call (y := 88) (as := [.inr (.inr 50)]) (r := []) (M' := mX8_wrong) (pc' := 4) dX8_clause_1 rfl rfl ⟨rfl, rfl⟩ rfl k rfl (fun v τ1 hq => ?_)
  obtain ⟨r2, hv, k⟩ := hq
  rw [hv]
  change ev mX8_clause 4 [some (.inr (.inr 50)), none] [.inl r2] τ1 _
  refine ev_p (pc' := 5) (ls' := [some (.inr (.inr 50)), some (.inl r2)]) (st' := []) dX8_clause_4 rfl ?_
  refine ev_p (pc' := 6) (ls' := [some (.inr (.inr 50)), some (.inl r2)]) (st' := [.inl r2]) dX8_clause_5 rfl ?_
  refine ev_if_ge (tgt := 18) (pc' := 9) dX8_clause_6 (by decide) rfl (fun h1 => ?_) (fun h1 => ?_)
  · have k := k.1 h1
    refine ev_p (pc' := 19) (ls' := [some (.inr (.inr 50)), some (.inl r2)]) (st' := [.inr (.inr 50)]) dX8_clause_18 rfl ?_
    refine ev_cst (v := 0) (pc' := 20) dX8_clause_19 (by decide) rfl ?_
    refine ev_putI (pc' := 23) dX8_clause_20 rfl rfl rfl rfl rfl rfl ?_
    refine ev_p (pc' := 24) (ls' := [some (.inr (.inr 50)), some (.inl r2)]) (st' := [.inl r2]) dX8_clause_23 rfl ?_
    refine ev_if_lt (tgt := 34) (pc' := 27) dX8_clause_24 (by decide) rfl (fun h2 => ?_) (fun h2 => ?_)
    · have k := k.1 h2
      refine ev_cst (v := (-3)) (pc' := 36) dX8_clause_34 (by decide) rfl ?_
      exact ev_ret dX8_clause_36 rfl k
    · have k := k.2 h2
      refine ev_cst (v := (-100)) (pc' := 29) dX8_clause_27 (by decide) rfl ?_
      refine ev_p (pc' := 30) (ls' := [some (.inr (.inr 50)), some (.inl r2)]) (st' := [.inl r2, .inl (-100)]) dX8_clause_29 rfl ?_
      refine ev_p (pc' := 31) (ls' := [some (.inr (.inr 50)), some (.inl r2)]) (st' := [.inl ((-100) - r2)]) dX8_clause_30 rfl ?_
      refine ev_go (tgt := 36) dX8_clause_31 (by decide) ?_
      exact ev_ret dX8_clause_36 rfl k
  · have k := k.2 h1
    refine ev_p (pc' := 10) (ls' := [some (.inr (.inr 50)), some (.inl r2)]) (st' := [.inr (.inr 50)]) dX8_clause_9 rfl ?_
    refine ev_getI (pc' := 13) dX8_clause_10 rfl rfl rfl rfl ?_
    refine ev_cst (v := 8) (pc' := 15) dX8_clause_13 (by decide) rfl ?_
    refine ev_ic_ne (tgt := 37) (pc' := 18) dX8_clause_15 (by decide) rfl (fun h3 => ?_) (fun h3 => ?_)
    · have k := k.2 h3
      refine ev_p (pc' := 38) (ls' := [some (.inr (.inr 50)), some (.inl r2)]) (st' := [.inr (.inr 50)]) dX8_clause_37 rfl ?_
      refine ev_p (pc' := 39) (ls' := [some (.inr (.inr 50)), some (.inl r2)]) (st' := [.inr (.inr 50), .inr (.inr 50)]) dX8_clause_38 rfl ?_
      refine ev_getI (pc' := 42) dX8_clause_39 rfl rfl rfl rfl ?_
      refine ev_call (y := 91) (as := [.inr (.inr 50), .inl (τ1 50 5)]) (r := []) (M' := mX8_keep) (pc' := 45) dX8_clause_42 rfl rfl ⟨rfl, rfl⟩ rfl k rfl (fun v τ3 hq => ?_)
      obtain ⟨hv, k⟩ := hq
      rw [hv]
      change ev mX8_clause 45 [some (.inr (.inr 50)), some (.inl r2)] [] τ3 _
      refine ev_p (pc' := 46) (ls' := [some (.inr (.inr 50)), some (.inl r2)]) (st' := [.inr (.inr 50)]) dX8_clause_45 rfl ?_
      refine ev_p (pc' := 47) (ls' := [some (.inr (.inr 50)), some (.inl r2)]) (st' := [.inr (.inr 50), .inr (.inr 50)]) dX8_clause_46 rfl ?_
      refine ev_getI (pc' := 50) dX8_clause_47 rfl rfl rfl rfl ?_
      refine ev_cst (v := 1) (pc' := 51) dX8_clause_50 (by decide) rfl ?_
      refine ev_p (pc' := 52) (ls' := [some (.inr (.inr 50)), some (.inl r2)]) (st' := [.inl ((τ3 50 5) + 1), .inr (.inr 50)]) dX8_clause_51 rfl ?_
      refine ev_putI (pc' := 55) dX8_clause_52 rfl rfl rfl rfl rfl rfl ?_
      refine ev_p (pc' := 56) (ls' := [some (.inr (.inr 50)), some (.inl r2)]) (st' := [.inr (.inr 50)]) dX8_clause_55 rfl ?_
      refine ev_cst (v := 0) (pc' := 57) dX8_clause_56 (by decide) rfl ?_
      refine ev_putI (pc' := 60) dX8_clause_57 rfl rfl rfl rfl rfl rfl ?_
      refine ev_p (pc' := 61) (ls' := [some (.inr (.inr 50)), some (.inl r2)]) (st' := [.inr (.inr 50)]) dX8_clause_60 rfl ?_
      refine ev_getI (pc' := 64) dX8_clause_61 rfl rfl rfl rfl ?_
      exact ev_ret dX8_clause_64 rfl k
    · have k := k.1 h3
      refine ev_p (pc' := 19) (ls' := [some (.inr (.inr 50)), some (.inl r2)]) (st' := [.inr (.inr 50)]) dX8_clause_18 rfl ?_
      refine ev_cst (v := 0) (pc' := 20) dX8_clause_19 (by decide) rfl ?_
      refine ev_putI (pc' := 23) dX8_clause_20 rfl rfl rfl rfl rfl rfl ?_
      refine ev_p (pc' := 24) (ls' := [some (.inr (.inr 50)), some (.inl r2)]) (st' := [.inl r2]) dX8_clause_23 rfl ?_
      refine ev_if_lt (tgt := 34) (pc' := 27) dX8_clause_24 (by decide) rfl (fun h4 => ?_) (fun h4 => ?_)
      · have k := k.1 h4
        refine ev_cst (v := (-3)) (pc' := 36) dX8_clause_34 (by decide) rfl ?_
        exact ev_ret dX8_clause_36 rfl k
      · have k := k.2 h4
        refine ev_cst (v := (-100)) (pc' := 29) dX8_clause_27 (by decide) rfl ?_
        refine ev_p (pc' := 30) (ls' := [some (.inr (.inr 50)), some (.inl r2)]) (st' := [.inl r2, .inl (-100)]) dX8_clause_29 rfl ?_
        refine ev_p (pc' := 31) (ls' := [some (.inr (.inr 50)), some (.inl r2)]) (st' := [.inl ((-100) - r2)]) dX8_clause_30 rfl ?_
        refine ev_go (tgt := 36) dX8_clause_31 (by decide) ?_
        exact ev_ret dX8_clause_36 rfl k
set_option maxRecDepth 20000 in
theorem s_X8_wrong_0 {σ : ab_M} {Q : Option ab_V → ab_M → Prop} 
    (k : ev mX8_wrong 5 [some (.inr (.inr 50)), some (.inl (-2)), some (.inl 0), none, none] [] σ Q) :
    ev mX8_wrong 0 [some (.inr (.inr 50)), none, none, none, none] [] σ Q := by
  refine ev_cst (v := (-2)) (pc' := 2) dX8_wrong_0 (by decide) rfl ?_
  refine ev_p (pc' := 3) (ls' := [some (.inr (.inr 50)), some (.inl (-2)), none, none, none]) (st' := []) dX8_wrong_2 rfl ?_
  refine ev_cst (v := 0) (pc' := 4) dX8_wrong_3 (by decide) rfl ?_
  refine ev_p (pc' := 5) (ls' := [some (.inr (.inr 50)), some (.inl (-2)), some (.inl 0), none, none]) (st' := []) dX8_wrong_4 rfl ?_
  exact k
set_option maxRecDepth 20000 in
theorem s_X8_wrong_5 {σ : ab_M} {Q : Option ab_V → ab_M → Prop} {x1 : Int32} {x2 : Int32} {o3 : Option ab_V} {o4 : Option ab_V}
    (k : (((σ 50 2) ≤ x2 → ((x1 = 0 → Q (some (.inl (-1))) σ) ∧ (¬ x1 = 0 → Q (some (.inl (σ 50 2))) σ))) ∧ (¬ (σ 50 2) ≤ x2 → ab_in x2 60 = true ∧ ((x1 = 0 → (((σ 52 x2.toNatClampNeg) = 124 → ev mX8_wrong 5 [some (.inr (.inr 50)), some (.inl (-2)), some (.inl (x2 + 1)), some (.inl (σ 52 x2.toNatClampNeg)), o4] [] σ Q) ∧ (¬ (σ 52 x2.toNatClampNeg) = 124 → Q (some (.inl x2)) σ))) ∧ (¬ x1 = 0 → ((x1 = (-2) → (((σ 52 x2.toNatClampNeg) = 33 → ev mX8_wrong 5 [some (.inr (.inr 50)), some (.inl (-1)), some (.inl (x2 + 1)), some (.inl (σ 52 x2.toNatClampNeg)), o4] [] σ Q) ∧ (¬ (σ 52 x2.toNatClampNeg) = 33 → ((0 ≤ x1 → evm mX8_termWants [.inr (.inr 50), .inl (σ 52 x2.toNatClampNeg)] σ (fun v τ1 => ∃ r2 : Int32, v = some (.inl r2) ∧ ((0 ≤ r2 → ((0 ≤ x1 → ev mX8_wrong 5 [some (.inr (.inr 50)), some (.inl ((x1 - 1) + r2)), some (.inl (x2 + 1)), some (.inl (σ 52 x2.toNatClampNeg)), some (.inl r2)] [] τ1 Q) ∧ (¬ 0 ≤ x1 → ev mX8_wrong 5 [some (.inr (.inr 50)), some (.inl r2), some (.inl (x2 + 1)), some (.inl (σ 52 x2.toNatClampNeg)), some (.inl r2)] [] τ1 Q))) ∧ (¬ 0 ≤ r2 → Q (some (.inl x2)) τ1)))) ∧ (¬ 0 ≤ x1 → evm mX8_atomWants [.inr (.inr 50), .inl (σ 52 x2.toNatClampNeg)] σ (fun v τ1 => ∃ r2 : Int32, v = some (.inl r2) ∧ ((0 ≤ r2 → ((0 ≤ x1 → ev mX8_wrong 5 [some (.inr (.inr 50)), some (.inl ((x1 - 1) + r2)), some (.inl (x2 + 1)), some (.inl (σ 52 x2.toNatClampNeg)), some (.inl r2)] [] τ1 Q) ∧ (¬ 0 ≤ x1 → ev mX8_wrong 5 [some (.inr (.inr 50)), some (.inl r2), some (.inl (x2 + 1)), some (.inl (σ 52 x2.toNatClampNeg)), some (.inl r2)] [] τ1 Q))) ∧ (¬ 0 ≤ r2 → Q (some (.inl x2)) τ1)))))))) ∧ (¬ x1 = (-2) → ((0 ≤ x1 → evm mX8_termWants [.inr (.inr 50), .inl (σ 52 x2.toNatClampNeg)] σ (fun v τ1 => ∃ r2 : Int32, v = some (.inl r2) ∧ ((0 ≤ r2 → ((0 ≤ x1 → ev mX8_wrong 5 [some (.inr (.inr 50)), some (.inl ((x1 - 1) + r2)), some (.inl (x2 + 1)), some (.inl (σ 52 x2.toNatClampNeg)), some (.inl r2)] [] τ1 Q) ∧ (¬ 0 ≤ x1 → ev mX8_wrong 5 [some (.inr (.inr 50)), some (.inl r2), some (.inl (x2 + 1)), some (.inl (σ 52 x2.toNatClampNeg)), some (.inl r2)] [] τ1 Q))) ∧ (¬ 0 ≤ r2 → Q (some (.inl x2)) τ1)))) ∧ (¬ 0 ≤ x1 → evm mX8_atomWants [.inr (.inr 50), .inl (σ 52 x2.toNatClampNeg)] σ (fun v τ1 => ∃ r2 : Int32, v = some (.inl r2) ∧ ((0 ≤ r2 → ((0 ≤ x1 → ev mX8_wrong 5 [some (.inr (.inr 50)), some (.inl ((x1 - 1) + r2)), some (.inl (x2 + 1)), some (.inl (σ 52 x2.toNatClampNeg)), some (.inl r2)] [] τ1 Q) ∧ (¬ 0 ≤ x1 → ev mX8_wrong 5 [some (.inr (.inr 50)), some (.inl r2), some (.inl (x2 + 1)), some (.inl (σ 52 x2.toNatClampNeg)), some (.inl r2)] [] τ1 Q))) ∧ (¬ 0 ≤ r2 → Q (some (.inl x2)) τ1)))))))))))) :
    ev mX8_wrong 5 [some (.inr (.inr 50)), some (.inl x1), some (.inl x2), o3, o4] [] σ Q := by
  refine ev_p (pc' := 6) (ls' := [some (.inr (.inr 50)), some (.inl x1), some (.inl x2), o3, o4]) (st' := [.inl x2]) dX8_wrong_5 rfl ?_
  refine ev_p (pc' := 7) (ls' := [some (.inr (.inr 50)), some (.inl x1), some (.inl x2), o3, o4]) (st' := [.inr (.inr 50), .inl x2]) dX8_wrong_6 rfl ?_
  refine ev_getI (pc' := 10) dX8_wrong_7 rfl rfl rfl rfl ?_
  refine ev_ic_ge (tgt := 103) (pc' := 13) dX8_wrong_10 (by decide) rfl (fun h1 => ?_) (fun h1 => ?_)
  · have k := k.1 h1
    refine ev_p (pc' := 104) (ls' := [some (.inr (.inr 50)), some (.inl x1), some (.inl x2), o3, o4]) (st' := [.inl x1]) dX8_wrong_103 rfl ?_
    refine ev_if_ne (tgt := 111) (pc' := 107) dX8_wrong_104 (by decide) rfl (fun h2 => ?_) (fun h2 => ?_)
    · have k := k.2 h2
      refine ev_p (pc' := 112) (ls' := [some (.inr (.inr 50)), some (.inl x1), some (.inl x2), o3, o4]) (st' := [.inr (.inr 50)]) dX8_wrong_111 rfl ?_
      refine ev_getI (pc' := 115) dX8_wrong_112 rfl rfl rfl rfl ?_
      exact ev_ret dX8_wrong_115 rfl k
    · have k := k.1 h2
      refine ev_cst (v := (-1)) (pc' := 108) dX8_wrong_107 (by decide) rfl ?_
      refine ev_go (tgt := 115) dX8_wrong_108 (by decide) ?_
      exact ev_ret dX8_wrong_115 rfl k
  · have k := k.2 h1
    refine ev_p (pc' := 14) (ls' := [some (.inr (.inr 50)), some (.inl x1), some (.inl x2), o3, o4]) (st' := [.inr (.inr 50)]) dX8_wrong_13 rfl ?_
    refine ev_getA (pc' := 17) (z := 52) dX8_wrong_14 rfl rfl rfl rfl ?_
    refine ev_p (pc' := 18) (ls' := [some (.inr (.inr 50)), some (.inl x1), some (.inl x2), o3, o4]) (st' := [.inl x2, .inr (.inr 52)]) dX8_wrong_17 rfl ?_
    refine ev_load (pc' := 19) rfl dX8_wrong_18 rfl rfl k.1 rfl ?_
    have k := k.2
    refine ev_p (pc' := 20) (ls' := [some (.inr (.inr 50)), some (.inl x1), some (.inl x2), some (.inl (σ 52 x2.toNatClampNeg)), o4]) (st' := []) dX8_wrong_19 rfl ?_
    refine ev_p (pc' := 21) (ls' := [some (.inr (.inr 50)), some (.inl x1), some (.inl x2), some (.inl (σ 52 x2.toNatClampNeg)), o4]) (st' := [.inl x1]) dX8_wrong_20 rfl ?_
    refine ev_if_ne (tgt := 38) (pc' := 24) dX8_wrong_21 (by decide) rfl (fun h3 => ?_) (fun h3 => ?_)
    · have k := k.2 h3
      refine ev_p (pc' := 39) (ls' := [some (.inr (.inr 50)), some (.inl x1), some (.inl x2), some (.inl (σ 52 x2.toNatClampNeg)), o4]) (st' := [.inl x1]) dX8_wrong_38 rfl ?_
      refine ev_cst (v := (-2)) (pc' := 41) dX8_wrong_39 (by decide) rfl ?_
      refine ev_ic_ne (tgt := 55) (pc' := 44) dX8_wrong_41 (by decide) rfl (fun h4 => ?_) (fun h4 => ?_)
      · have k := k.2 h4
        refine ev_p (pc' := 56) (ls' := [some (.inr (.inr 50)), some (.inl x1), some (.inl x2), some (.inl (σ 52 x2.toNatClampNeg)), o4]) (st' := [.inl x1]) dX8_wrong_55 rfl ?_
        refine ev_if_ge (tgt := 67) (pc' := 59) dX8_wrong_56 (by decide) rfl (fun h5 => ?_) (fun h5 => ?_)
        · have k := k.1 h5
          refine ev_p (pc' := 68) (ls' := [some (.inr (.inr 50)), some (.inl x1), some (.inl x2), some (.inl (σ 52 x2.toNatClampNeg)), o4]) (st' := [.inr (.inr 50)]) dX8_wrong_67 rfl ?_
          refine ev_p (pc' := 69) (ls' := [some (.inr (.inr 50)), some (.inl x1), some (.inl x2), some (.inl (σ 52 x2.toNatClampNeg)), o4]) (st' := [.inl (σ 52 x2.toNatClampNeg), .inr (.inr 50)]) dX8_wrong_68 rfl ?_
          refine ev_call (y := 90) (as := [.inr (.inr 50), .inl (σ 52 x2.toNatClampNeg)]) (r := []) (M' := mX8_termWants) (pc' := 72) dX8_wrong_69 rfl rfl ⟨rfl, rfl⟩ rfl k rfl (fun v τ1 hq => ?_)
          obtain ⟨r2, hv, k⟩ := hq
          rw [hv]
          change ev mX8_wrong 72 [some (.inr (.inr 50)), some (.inl x1), some (.inl x2), some (.inl (σ 52 x2.toNatClampNeg)), o4] [.inl r2] τ1 _
          refine ev_p (pc' := 74) (ls' := [some (.inr (.inr 50)), some (.inl x1), some (.inl x2), some (.inl (σ 52 x2.toNatClampNeg)), some (.inl r2)]) (st' := []) dX8_wrong_72 rfl ?_
          refine ev_p (pc' := 76) (ls' := [some (.inr (.inr 50)), some (.inl x1), some (.inl x2), some (.inl (σ 52 x2.toNatClampNeg)), some (.inl r2)]) (st' := [.inl r2]) dX8_wrong_74 rfl ?_
          refine ev_if_ge (tgt := 81) (pc' := 79) dX8_wrong_76 (by decide) rfl (fun h6 => ?_) (fun h6 => ?_)
          · have k := k.1 h6
            refine ev_p (pc' := 82) (ls' := [some (.inr (.inr 50)), some (.inl x1), some (.inl x2), some (.inl (σ 52 x2.toNatClampNeg)), some (.inl r2)]) (st' := [.inl x1]) dX8_wrong_81 rfl ?_
            refine ev_if_ge (tgt := 90) (pc' := 85) dX8_wrong_82 (by decide) rfl (fun h7 => ?_) (fun h7 => ?_)
            · have k := k.1 h7
              refine ev_p (pc' := 91) (ls' := [some (.inr (.inr 50)), some (.inl x1), some (.inl x2), some (.inl (σ 52 x2.toNatClampNeg)), some (.inl r2)]) (st' := [.inl x1]) dX8_wrong_90 rfl ?_
              refine ev_cst (v := 1) (pc' := 92) dX8_wrong_91 (by decide) rfl ?_
              refine ev_p (pc' := 93) (ls' := [some (.inr (.inr 50)), some (.inl x1), some (.inl x2), some (.inl (σ 52 x2.toNatClampNeg)), some (.inl r2)]) (st' := [.inl (x1 - 1)]) dX8_wrong_92 rfl ?_
              refine ev_p (pc' := 95) (ls' := [some (.inr (.inr 50)), some (.inl x1), some (.inl x2), some (.inl (σ 52 x2.toNatClampNeg)), some (.inl r2)]) (st' := [.inl r2, .inl (x1 - 1)]) dX8_wrong_93 rfl ?_
              refine ev_p (pc' := 96) (ls' := [some (.inr (.inr 50)), some (.inl x1), some (.inl x2), some (.inl (σ 52 x2.toNatClampNeg)), some (.inl r2)]) (st' := [.inl ((x1 - 1) + r2)]) dX8_wrong_95 rfl ?_
              refine ev_p (pc' := 97) (ls' := [some (.inr (.inr 50)), some (.inl ((x1 - 1) + r2)), some (.inl x2), some (.inl (σ 52 x2.toNatClampNeg)), some (.inl r2)]) (st' := []) dX8_wrong_96 rfl ?_
              refine ev_p (pc' := 100) (ls' := [some (.inr (.inr 50)), some (.inl ((x1 - 1) + r2)), some (.inl (x2 + 1)), some (.inl (σ 52 x2.toNatClampNeg)), some (.inl r2)]) (st' := []) dX8_wrong_97 rfl ?_
              refine ev_go (tgt := 5) dX8_wrong_100 (by decide) ?_
              exact k
            · have k := k.2 h7
              refine ev_p (pc' := 87) (ls' := [some (.inr (.inr 50)), some (.inl x1), some (.inl x2), some (.inl (σ 52 x2.toNatClampNeg)), some (.inl r2)]) (st' := [.inl r2]) dX8_wrong_85 rfl ?_
              refine ev_go (tgt := 96) dX8_wrong_87 (by decide) ?_
              refine ev_p (pc' := 97) (ls' := [some (.inr (.inr 50)), some (.inl r2), some (.inl x2), some (.inl (σ 52 x2.toNatClampNeg)), some (.inl r2)]) (st' := []) dX8_wrong_96 rfl ?_
              refine ev_p (pc' := 100) (ls' := [some (.inr (.inr 50)), some (.inl r2), some (.inl (x2 + 1)), some (.inl (σ 52 x2.toNatClampNeg)), some (.inl r2)]) (st' := []) dX8_wrong_97 rfl ?_
              refine ev_go (tgt := 5) dX8_wrong_100 (by decide) ?_
              exact k
          · have k := k.2 h6
            refine ev_p (pc' := 80) (ls' := [some (.inr (.inr 50)), some (.inl x1), some (.inl x2), some (.inl (σ 52 x2.toNatClampNeg)), some (.inl r2)]) (st' := [.inl x2]) dX8_wrong_79 rfl ?_
            exact ev_ret dX8_wrong_80 rfl k
        · have k := k.2 h5
          refine ev_p (pc' := 60) (ls' := [some (.inr (.inr 50)), some (.inl x1), some (.inl x2), some (.inl (σ 52 x2.toNatClampNeg)), o4]) (st' := [.inr (.inr 50)]) dX8_wrong_59 rfl ?_
          refine ev_p (pc' := 61) (ls' := [some (.inr (.inr 50)), some (.inl x1), some (.inl x2), some (.inl (σ 52 x2.toNatClampNeg)), o4]) (st' := [.inl (σ 52 x2.toNatClampNeg), .inr (.inr 50)]) dX8_wrong_60 rfl ?_
          refine ev_call (y := 89) (as := [.inr (.inr 50), .inl (σ 52 x2.toNatClampNeg)]) (r := []) (M' := mX8_atomWants) (pc' := 64) dX8_wrong_61 rfl rfl ⟨rfl, rfl⟩ rfl k rfl (fun v τ1 hq => ?_)
          obtain ⟨r2, hv, k⟩ := hq
          rw [hv]
          change ev mX8_wrong 64 [some (.inr (.inr 50)), some (.inl x1), some (.inl x2), some (.inl (σ 52 x2.toNatClampNeg)), o4] [.inl r2] τ1 _
          refine ev_go (tgt := 72) dX8_wrong_64 (by decide) ?_
          refine ev_p (pc' := 74) (ls' := [some (.inr (.inr 50)), some (.inl x1), some (.inl x2), some (.inl (σ 52 x2.toNatClampNeg)), some (.inl r2)]) (st' := []) dX8_wrong_72 rfl ?_
          refine ev_p (pc' := 76) (ls' := [some (.inr (.inr 50)), some (.inl x1), some (.inl x2), some (.inl (σ 52 x2.toNatClampNeg)), some (.inl r2)]) (st' := [.inl r2]) dX8_wrong_74 rfl ?_
          refine ev_if_ge (tgt := 81) (pc' := 79) dX8_wrong_76 (by decide) rfl (fun h8 => ?_) (fun h8 => ?_)
          · have k := k.1 h8
            refine ev_p (pc' := 82) (ls' := [some (.inr (.inr 50)), some (.inl x1), some (.inl x2), some (.inl (σ 52 x2.toNatClampNeg)), some (.inl r2)]) (st' := [.inl x1]) dX8_wrong_81 rfl ?_
            refine ev_if_ge (tgt := 90) (pc' := 85) dX8_wrong_82 (by decide) rfl (fun h9 => ?_) (fun h9 => ?_)
            · have k := k.1 h9
              refine ev_p (pc' := 91) (ls' := [some (.inr (.inr 50)), some (.inl x1), some (.inl x2), some (.inl (σ 52 x2.toNatClampNeg)), some (.inl r2)]) (st' := [.inl x1]) dX8_wrong_90 rfl ?_
              refine ev_cst (v := 1) (pc' := 92) dX8_wrong_91 (by decide) rfl ?_
              refine ev_p (pc' := 93) (ls' := [some (.inr (.inr 50)), some (.inl x1), some (.inl x2), some (.inl (σ 52 x2.toNatClampNeg)), some (.inl r2)]) (st' := [.inl (x1 - 1)]) dX8_wrong_92 rfl ?_
              refine ev_p (pc' := 95) (ls' := [some (.inr (.inr 50)), some (.inl x1), some (.inl x2), some (.inl (σ 52 x2.toNatClampNeg)), some (.inl r2)]) (st' := [.inl r2, .inl (x1 - 1)]) dX8_wrong_93 rfl ?_
              refine ev_p (pc' := 96) (ls' := [some (.inr (.inr 50)), some (.inl x1), some (.inl x2), some (.inl (σ 52 x2.toNatClampNeg)), some (.inl r2)]) (st' := [.inl ((x1 - 1) + r2)]) dX8_wrong_95 rfl ?_
              refine ev_p (pc' := 97) (ls' := [some (.inr (.inr 50)), some (.inl ((x1 - 1) + r2)), some (.inl x2), some (.inl (σ 52 x2.toNatClampNeg)), some (.inl r2)]) (st' := []) dX8_wrong_96 rfl ?_
              refine ev_p (pc' := 100) (ls' := [some (.inr (.inr 50)), some (.inl ((x1 - 1) + r2)), some (.inl (x2 + 1)), some (.inl (σ 52 x2.toNatClampNeg)), some (.inl r2)]) (st' := []) dX8_wrong_97 rfl ?_
              refine ev_go (tgt := 5) dX8_wrong_100 (by decide) ?_
              exact k
            · have k := k.2 h9
              refine ev_p (pc' := 87) (ls' := [some (.inr (.inr 50)), some (.inl x1), some (.inl x2), some (.inl (σ 52 x2.toNatClampNeg)), some (.inl r2)]) (st' := [.inl r2]) dX8_wrong_85 rfl ?_
              refine ev_go (tgt := 96) dX8_wrong_87 (by decide) ?_
              refine ev_p (pc' := 97) (ls' := [some (.inr (.inr 50)), some (.inl r2), some (.inl x2), some (.inl (σ 52 x2.toNatClampNeg)), some (.inl r2)]) (st' := []) dX8_wrong_96 rfl ?_
              refine ev_p (pc' := 100) (ls' := [some (.inr (.inr 50)), some (.inl r2), some (.inl (x2 + 1)), some (.inl (σ 52 x2.toNatClampNeg)), some (.inl r2)]) (st' := []) dX8_wrong_97 rfl ?_
              refine ev_go (tgt := 5) dX8_wrong_100 (by decide) ?_
              exact k
          · have k := k.2 h8
            refine ev_p (pc' := 80) (ls' := [some (.inr (.inr 50)), some (.inl x1), some (.inl x2), some (.inl (σ 52 x2.toNatClampNeg)), some (.inl r2)]) (st' := [.inl x2]) dX8_wrong_79 rfl ?_
            exact ev_ret dX8_wrong_80 rfl k
      · have k := k.1 h4
        refine ev_p (pc' := 45) (ls' := [some (.inr (.inr 50)), some (.inl x1), some (.inl x2), some (.inl (σ 52 x2.toNatClampNeg)), o4]) (st' := [.inl (σ 52 x2.toNatClampNeg)]) dX8_wrong_44 rfl ?_
        refine ev_cst (v := 33) (pc' := 47) dX8_wrong_45 (by decide) rfl ?_
        refine ev_ic_ne (tgt := 55) (pc' := 50) dX8_wrong_47 (by decide) rfl (fun h10 => ?_) (fun h10 => ?_)
        · have k := k.2 h10
          refine ev_p (pc' := 56) (ls' := [some (.inr (.inr 50)), some (.inl x1), some (.inl x2), some (.inl (σ 52 x2.toNatClampNeg)), o4]) (st' := [.inl x1]) dX8_wrong_55 rfl ?_
          refine ev_if_ge (tgt := 67) (pc' := 59) dX8_wrong_56 (by decide) rfl (fun h11 => ?_) (fun h11 => ?_)
          · have k := k.1 h11
            refine ev_p (pc' := 68) (ls' := [some (.inr (.inr 50)), some (.inl x1), some (.inl x2), some (.inl (σ 52 x2.toNatClampNeg)), o4]) (st' := [.inr (.inr 50)]) dX8_wrong_67 rfl ?_
            refine ev_p (pc' := 69) (ls' := [some (.inr (.inr 50)), some (.inl x1), some (.inl x2), some (.inl (σ 52 x2.toNatClampNeg)), o4]) (st' := [.inl (σ 52 x2.toNatClampNeg), .inr (.inr 50)]) dX8_wrong_68 rfl ?_
            refine ev_call (y := 90) (as := [.inr (.inr 50), .inl (σ 52 x2.toNatClampNeg)]) (r := []) (M' := mX8_termWants) (pc' := 72) dX8_wrong_69 rfl rfl ⟨rfl, rfl⟩ rfl k rfl (fun v τ1 hq => ?_)
            obtain ⟨r2, hv, k⟩ := hq
            rw [hv]
            change ev mX8_wrong 72 [some (.inr (.inr 50)), some (.inl x1), some (.inl x2), some (.inl (σ 52 x2.toNatClampNeg)), o4] [.inl r2] τ1 _
            refine ev_p (pc' := 74) (ls' := [some (.inr (.inr 50)), some (.inl x1), some (.inl x2), some (.inl (σ 52 x2.toNatClampNeg)), some (.inl r2)]) (st' := []) dX8_wrong_72 rfl ?_
            refine ev_p (pc' := 76) (ls' := [some (.inr (.inr 50)), some (.inl x1), some (.inl x2), some (.inl (σ 52 x2.toNatClampNeg)), some (.inl r2)]) (st' := [.inl r2]) dX8_wrong_74 rfl ?_
            refine ev_if_ge (tgt := 81) (pc' := 79) dX8_wrong_76 (by decide) rfl (fun h12 => ?_) (fun h12 => ?_)
            · have k := k.1 h12
              refine ev_p (pc' := 82) (ls' := [some (.inr (.inr 50)), some (.inl x1), some (.inl x2), some (.inl (σ 52 x2.toNatClampNeg)), some (.inl r2)]) (st' := [.inl x1]) dX8_wrong_81 rfl ?_
              refine ev_if_ge (tgt := 90) (pc' := 85) dX8_wrong_82 (by decide) rfl (fun h13 => ?_) (fun h13 => ?_)
              · have k := k.1 h13
                refine ev_p (pc' := 91) (ls' := [some (.inr (.inr 50)), some (.inl x1), some (.inl x2), some (.inl (σ 52 x2.toNatClampNeg)), some (.inl r2)]) (st' := [.inl x1]) dX8_wrong_90 rfl ?_
                refine ev_cst (v := 1) (pc' := 92) dX8_wrong_91 (by decide) rfl ?_
                refine ev_p (pc' := 93) (ls' := [some (.inr (.inr 50)), some (.inl x1), some (.inl x2), some (.inl (σ 52 x2.toNatClampNeg)), some (.inl r2)]) (st' := [.inl (x1 - 1)]) dX8_wrong_92 rfl ?_
                refine ev_p (pc' := 95) (ls' := [some (.inr (.inr 50)), some (.inl x1), some (.inl x2), some (.inl (σ 52 x2.toNatClampNeg)), some (.inl r2)]) (st' := [.inl r2, .inl (x1 - 1)]) dX8_wrong_93 rfl ?_
                refine ev_p (pc' := 96) (ls' := [some (.inr (.inr 50)), some (.inl x1), some (.inl x2), some (.inl (σ 52 x2.toNatClampNeg)), some (.inl r2)]) (st' := [.inl ((x1 - 1) + r2)]) dX8_wrong_95 rfl ?_
                refine ev_p (pc' := 97) (ls' := [some (.inr (.inr 50)), some (.inl ((x1 - 1) + r2)), some (.inl x2), some (.inl (σ 52 x2.toNatClampNeg)), some (.inl r2)]) (st' := []) dX8_wrong_96 rfl ?_
                refine ev_p (pc' := 100) (ls' := [some (.inr (.inr 50)), some (.inl ((x1 - 1) + r2)), some (.inl (x2 + 1)), some (.inl (σ 52 x2.toNatClampNeg)), some (.inl r2)]) (st' := []) dX8_wrong_97 rfl ?_
                refine ev_go (tgt := 5) dX8_wrong_100 (by decide) ?_
                exact k
              · have k := k.2 h13
                refine ev_p (pc' := 87) (ls' := [some (.inr (.inr 50)), some (.inl x1), some (.inl x2), some (.inl (σ 52 x2.toNatClampNeg)), some (.inl r2)]) (st' := [.inl r2]) dX8_wrong_85 rfl ?_
                refine ev_go (tgt := 96) dX8_wrong_87 (by decide) ?_
                refine ev_p (pc' := 97) (ls' := [some (.inr (.inr 50)), some (.inl r2), some (.inl x2), some (.inl (σ 52 x2.toNatClampNeg)), some (.inl r2)]) (st' := []) dX8_wrong_96 rfl ?_
                refine ev_p (pc' := 100) (ls' := [some (.inr (.inr 50)), some (.inl r2), some (.inl (x2 + 1)), some (.inl (σ 52 x2.toNatClampNeg)), some (.inl r2)]) (st' := []) dX8_wrong_97 rfl ?_
                refine ev_go (tgt := 5) dX8_wrong_100 (by decide) ?_
                exact k
            · have k := k.2 h12
              refine ev_p (pc' := 80) (ls' := [some (.inr (.inr 50)), some (.inl x1), some (.inl x2), some (.inl (σ 52 x2.toNatClampNeg)), some (.inl r2)]) (st' := [.inl x2]) dX8_wrong_79 rfl ?_
              exact ev_ret dX8_wrong_80 rfl k
          · have k := k.2 h11
            refine ev_p (pc' := 60) (ls' := [some (.inr (.inr 50)), some (.inl x1), some (.inl x2), some (.inl (σ 52 x2.toNatClampNeg)), o4]) (st' := [.inr (.inr 50)]) dX8_wrong_59 rfl ?_
            refine ev_p (pc' := 61) (ls' := [some (.inr (.inr 50)), some (.inl x1), some (.inl x2), some (.inl (σ 52 x2.toNatClampNeg)), o4]) (st' := [.inl (σ 52 x2.toNatClampNeg), .inr (.inr 50)]) dX8_wrong_60 rfl ?_
            refine ev_call (y := 89) (as := [.inr (.inr 50), .inl (σ 52 x2.toNatClampNeg)]) (r := []) (M' := mX8_atomWants) (pc' := 64) dX8_wrong_61 rfl rfl ⟨rfl, rfl⟩ rfl k rfl (fun v τ1 hq => ?_)
            obtain ⟨r2, hv, k⟩ := hq
            rw [hv]
            change ev mX8_wrong 64 [some (.inr (.inr 50)), some (.inl x1), some (.inl x2), some (.inl (σ 52 x2.toNatClampNeg)), o4] [.inl r2] τ1 _
            refine ev_go (tgt := 72) dX8_wrong_64 (by decide) ?_
            refine ev_p (pc' := 74) (ls' := [some (.inr (.inr 50)), some (.inl x1), some (.inl x2), some (.inl (σ 52 x2.toNatClampNeg)), some (.inl r2)]) (st' := []) dX8_wrong_72 rfl ?_
            refine ev_p (pc' := 76) (ls' := [some (.inr (.inr 50)), some (.inl x1), some (.inl x2), some (.inl (σ 52 x2.toNatClampNeg)), some (.inl r2)]) (st' := [.inl r2]) dX8_wrong_74 rfl ?_
            refine ev_if_ge (tgt := 81) (pc' := 79) dX8_wrong_76 (by decide) rfl (fun h14 => ?_) (fun h14 => ?_)
            · have k := k.1 h14
              refine ev_p (pc' := 82) (ls' := [some (.inr (.inr 50)), some (.inl x1), some (.inl x2), some (.inl (σ 52 x2.toNatClampNeg)), some (.inl r2)]) (st' := [.inl x1]) dX8_wrong_81 rfl ?_
              refine ev_if_ge (tgt := 90) (pc' := 85) dX8_wrong_82 (by decide) rfl (fun h15 => ?_) (fun h15 => ?_)
              · have k := k.1 h15
                refine ev_p (pc' := 91) (ls' := [some (.inr (.inr 50)), some (.inl x1), some (.inl x2), some (.inl (σ 52 x2.toNatClampNeg)), some (.inl r2)]) (st' := [.inl x1]) dX8_wrong_90 rfl ?_
                refine ev_cst (v := 1) (pc' := 92) dX8_wrong_91 (by decide) rfl ?_
                refine ev_p (pc' := 93) (ls' := [some (.inr (.inr 50)), some (.inl x1), some (.inl x2), some (.inl (σ 52 x2.toNatClampNeg)), some (.inl r2)]) (st' := [.inl (x1 - 1)]) dX8_wrong_92 rfl ?_
                refine ev_p (pc' := 95) (ls' := [some (.inr (.inr 50)), some (.inl x1), some (.inl x2), some (.inl (σ 52 x2.toNatClampNeg)), some (.inl r2)]) (st' := [.inl r2, .inl (x1 - 1)]) dX8_wrong_93 rfl ?_
                refine ev_p (pc' := 96) (ls' := [some (.inr (.inr 50)), some (.inl x1), some (.inl x2), some (.inl (σ 52 x2.toNatClampNeg)), some (.inl r2)]) (st' := [.inl ((x1 - 1) + r2)]) dX8_wrong_95 rfl ?_
                refine ev_p (pc' := 97) (ls' := [some (.inr (.inr 50)), some (.inl ((x1 - 1) + r2)), some (.inl x2), some (.inl (σ 52 x2.toNatClampNeg)), some (.inl r2)]) (st' := []) dX8_wrong_96 rfl ?_
                refine ev_p (pc' := 100) (ls' := [some (.inr (.inr 50)), some (.inl ((x1 - 1) + r2)), some (.inl (x2 + 1)), some (.inl (σ 52 x2.toNatClampNeg)), some (.inl r2)]) (st' := []) dX8_wrong_97 rfl ?_
                refine ev_go (tgt := 5) dX8_wrong_100 (by decide) ?_
                exact k
              · have k := k.2 h15
                refine ev_p (pc' := 87) (ls' := [some (.inr (.inr 50)), some (.inl x1), some (.inl x2), some (.inl (σ 52 x2.toNatClampNeg)), some (.inl r2)]) (st' := [.inl r2]) dX8_wrong_85 rfl ?_
                refine ev_go (tgt := 96) dX8_wrong_87 (by decide) ?_
                refine ev_p (pc' := 97) (ls' := [some (.inr (.inr 50)), some (.inl r2), some (.inl x2), some (.inl (σ 52 x2.toNatClampNeg)), some (.inl r2)]) (st' := []) dX8_wrong_96 rfl ?_
                refine ev_p (pc' := 100) (ls' := [some (.inr (.inr 50)), some (.inl r2), some (.inl (x2 + 1)), some (.inl (σ 52 x2.toNatClampNeg)), some (.inl r2)]) (st' := []) dX8_wrong_97 rfl ?_
                refine ev_go (tgt := 5) dX8_wrong_100 (by decide) ?_
                exact k
            · have k := k.2 h14
              refine ev_p (pc' := 80) (ls' := [some (.inr (.inr 50)), some (.inl x1), some (.inl x2), some (.inl (σ 52 x2.toNatClampNeg)), some (.inl r2)]) (st' := [.inl x2]) dX8_wrong_79 rfl ?_
              exact ev_ret dX8_wrong_80 rfl k
        · have k := k.1 h10
          refine ev_cst (v := (-1)) (pc' := 51) dX8_wrong_50 (by decide) rfl ?_
          refine ev_p (pc' := 52) (ls' := [some (.inr (.inr 50)), some (.inl (-1)), some (.inl x2), some (.inl (σ 52 x2.toNatClampNeg)), o4]) (st' := []) dX8_wrong_51 rfl ?_
          refine ev_go (tgt := 97) dX8_wrong_52 (by decide) ?_
          refine ev_p (pc' := 100) (ls' := [some (.inr (.inr 50)), some (.inl (-1)), some (.inl (x2 + 1)), some (.inl (σ 52 x2.toNatClampNeg)), o4]) (st' := []) dX8_wrong_97 rfl ?_
          refine ev_go (tgt := 5) dX8_wrong_100 (by decide) ?_
          exact k
    · have k := k.1 h3
      refine ev_p (pc' := 25) (ls' := [some (.inr (.inr 50)), some (.inl x1), some (.inl x2), some (.inl (σ 52 x2.toNatClampNeg)), o4]) (st' := [.inl (σ 52 x2.toNatClampNeg)]) dX8_wrong_24 rfl ?_
      refine ev_cst (v := 124) (pc' := 27) dX8_wrong_25 (by decide) rfl ?_
      refine ev_ic_eq (tgt := 32) (pc' := 30) dX8_wrong_27 (by decide) rfl (fun h16 => ?_) (fun h16 => ?_)
      · have k := k.1 h16
        refine ev_cst (v := (-2)) (pc' := 34) dX8_wrong_32 (by decide) rfl ?_
        refine ev_p (pc' := 35) (ls' := [some (.inr (.inr 50)), some (.inl (-2)), some (.inl x2), some (.inl (σ 52 x2.toNatClampNeg)), o4]) (st' := []) dX8_wrong_34 rfl ?_
        refine ev_go (tgt := 97) dX8_wrong_35 (by decide) ?_
        refine ev_p (pc' := 100) (ls' := [some (.inr (.inr 50)), some (.inl (-2)), some (.inl (x2 + 1)), some (.inl (σ 52 x2.toNatClampNeg)), o4]) (st' := []) dX8_wrong_97 rfl ?_
        refine ev_go (tgt := 5) dX8_wrong_100 (by decide) ?_
        exact k
      · have k := k.2 h16
        refine ev_p (pc' := 31) (ls' := [some (.inr (.inr 50)), some (.inl x1), some (.inl x2), some (.inl (σ 52 x2.toNatClampNeg)), o4]) (st' := [.inl x2]) dX8_wrong_30 rfl ?_
        exact ev_ret dX8_wrong_31 rfl k
set_option maxRecDepth 20000 in
theorem s_X8_atomWants_0 {σ : ab_M} {Q : Option ab_V → ab_M → Prop} {x1 : Int32}
    (k : ((x1 = 61 → Q (some (.inl 2)) σ) ∧ (¬ x1 = 61 → evm mX8_symbolOf [.inl x1] σ (fun v τ1 => ∃ r2 : Int32, v = some (.inl r2) ∧ ((r2 < 4 → Q (some (.inl (-1))) τ1) ∧ (¬ r2 < 4 → ab_in r2 8 = true ∧ Q (some (.inl (τ1 51 r2.toNatClampNeg))) τ1)))))) :
    ev mX8_atomWants 0 [some (.inr (.inr 50)), some (.inl x1), none] [] σ Q := by
  refine ev_p (pc' := 1) (ls' := [some (.inr (.inr 50)), some (.inl x1), none]) (st' := [.inl x1]) dX8_atomWants_0 rfl ?_
  refine ev_cst (v := 61) (pc' := 3) dX8_atomWants_1 (by decide) rfl ?_
  refine ev_ic_ne (tgt := 8) (pc' := 6) dX8_atomWants_3 (by decide) rfl (fun h1 => ?_) (fun h1 => ?_)
  · have k := k.2 h1
    refine ev_p (pc' := 9) (ls' := [some (.inr (.inr 50)), some (.inl x1), none]) (st' := [.inl x1]) dX8_atomWants_8 rfl ?_
    refine ev_call (y := 85) (as := [.inl x1]) (r := []) (M' := mX8_symbolOf) (pc' := 12) dX8_atomWants_9 rfl rfl ⟨rfl, rfl⟩ rfl k rfl (fun v τ1 hq => ?_)
    obtain ⟨r2, hv, k⟩ := hq
    rw [hv]
    change ev mX8_atomWants 12 [some (.inr (.inr 50)), some (.inl x1), none] [.inl r2] τ1 _
    refine ev_p (pc' := 13) (ls' := [some (.inr (.inr 50)), some (.inl x1), some (.inl r2)]) (st' := []) dX8_atomWants_12 rfl ?_
    refine ev_p (pc' := 14) (ls' := [some (.inr (.inr 50)), some (.inl x1), some (.inl r2)]) (st' := [.inl r2]) dX8_atomWants_13 rfl ?_
    refine ev_cst (v := 4) (pc' := 15) dX8_atomWants_14 (by decide) rfl ?_
    refine ev_ic_lt (tgt := 27) (pc' := 18) dX8_atomWants_15 (by decide) rfl (fun h2 => ?_) (fun h2 => ?_)
    · have k := k.1 h2
      refine ev_cst (v := (-1)) (pc' := 28) dX8_atomWants_27 (by decide) rfl ?_
      exact ev_ret dX8_atomWants_28 rfl k
    · have k := k.2 h2
      refine ev_p (pc' := 19) (ls' := [some (.inr (.inr 50)), some (.inl x1), some (.inl r2)]) (st' := [.inr (.inr 50)]) dX8_atomWants_18 rfl ?_
      refine ev_getA (pc' := 22) (z := 51) dX8_atomWants_19 rfl rfl rfl rfl ?_
      refine ev_p (pc' := 23) (ls' := [some (.inr (.inr 50)), some (.inl x1), some (.inl r2)]) (st' := [.inl r2, .inr (.inr 51)]) dX8_atomWants_22 rfl ?_
      refine ev_load (pc' := 24) rfl dX8_atomWants_23 rfl rfl k.1 rfl ?_
      have k := k.2
      refine ev_go (tgt := 28) dX8_atomWants_24 (by decide) ?_
      exact ev_ret dX8_atomWants_28 rfl k
  · have k := k.1 h1
    refine ev_cst (v := 2) (pc' := 7) dX8_atomWants_6 (by decide) rfl ?_
    exact ev_ret dX8_atomWants_7 rfl k
set_option maxRecDepth 20000 in
theorem s_X8_termWants_0 {σ : ab_M} {Q : Option ab_V → ab_M → Prop} {x1 : Int32}
    (k : ((x1 < 120 → evm mX8_symbolOf [.inl x1] σ (fun v τ1 => ∃ r2 : Int32, v = some (.inl r2) ∧ ((r2 < 0 → Q (some (.inl (-1))) τ1) ∧ (¬ r2 < 0 → ((4 ≤ r2 → Q (some (.inl (-1))) τ1) ∧ (¬ 4 ≤ r2 → ab_in r2 8 = true ∧ Q (some (.inl (τ1 51 r2.toNatClampNeg))) τ1)))))) ∧ (¬ x1 < 120 → ((122 < x1 → evm mX8_symbolOf [.inl x1] σ (fun v τ1 => ∃ r2 : Int32, v = some (.inl r2) ∧ ((r2 < 0 → Q (some (.inl (-1))) τ1) ∧ (¬ r2 < 0 → ((4 ≤ r2 → Q (some (.inl (-1))) τ1) ∧ (¬ 4 ≤ r2 → ab_in r2 8 = true ∧ Q (some (.inl (τ1 51 r2.toNatClampNeg))) τ1)))))) ∧ (¬ 122 < x1 → Q (some (.inl 0)) σ))))) :
    ev mX8_termWants 0 [some (.inr (.inr 50)), some (.inl x1), none] [] σ Q := by
  refine ev_p (pc' := 1) (ls' := [some (.inr (.inr 50)), some (.inl x1), none]) (st' := [.inl x1]) dX8_termWants_0 rfl ?_
  refine ev_cst (v := 120) (pc' := 3) dX8_termWants_1 (by decide) rfl ?_
  refine ev_ic_lt (tgt := 14) (pc' := 6) dX8_termWants_3 (by decide) rfl (fun h1 => ?_) (fun h1 => ?_)
  · have k := k.1 h1
    refine ev_p (pc' := 15) (ls' := [some (.inr (.inr 50)), some (.inl x1), none]) (st' := [.inl x1]) dX8_termWants_14 rfl ?_
    refine ev_call (y := 85) (as := [.inl x1]) (r := []) (M' := mX8_symbolOf) (pc' := 18) dX8_termWants_15 rfl rfl ⟨rfl, rfl⟩ rfl k rfl (fun v τ1 hq => ?_)
    obtain ⟨r2, hv, k⟩ := hq
    rw [hv]
    change ev mX8_termWants 18 [some (.inr (.inr 50)), some (.inl x1), none] [.inl r2] τ1 _
    refine ev_p (pc' := 19) (ls' := [some (.inr (.inr 50)), some (.inl x1), some (.inl r2)]) (st' := []) dX8_termWants_18 rfl ?_
    refine ev_p (pc' := 20) (ls' := [some (.inr (.inr 50)), some (.inl x1), some (.inl r2)]) (st' := [.inl r2]) dX8_termWants_19 rfl ?_
    refine ev_if_lt (tgt := 37) (pc' := 23) dX8_termWants_20 (by decide) rfl (fun h2 => ?_) (fun h2 => ?_)
    · have k := k.1 h2
      refine ev_cst (v := (-1)) (pc' := 38) dX8_termWants_37 (by decide) rfl ?_
      exact ev_ret dX8_termWants_38 rfl k
    · have k := k.2 h2
      refine ev_p (pc' := 24) (ls' := [some (.inr (.inr 50)), some (.inl x1), some (.inl r2)]) (st' := [.inl r2]) dX8_termWants_23 rfl ?_
      refine ev_cst (v := 4) (pc' := 25) dX8_termWants_24 (by decide) rfl ?_
      refine ev_ic_ge (tgt := 37) (pc' := 28) dX8_termWants_25 (by decide) rfl (fun h3 => ?_) (fun h3 => ?_)
      · have k := k.1 h3
        refine ev_cst (v := (-1)) (pc' := 38) dX8_termWants_37 (by decide) rfl ?_
        exact ev_ret dX8_termWants_38 rfl k
      · have k := k.2 h3
        refine ev_p (pc' := 29) (ls' := [some (.inr (.inr 50)), some (.inl x1), some (.inl r2)]) (st' := [.inr (.inr 50)]) dX8_termWants_28 rfl ?_
        refine ev_getA (pc' := 32) (z := 51) dX8_termWants_29 rfl rfl rfl rfl ?_
        refine ev_p (pc' := 33) (ls' := [some (.inr (.inr 50)), some (.inl x1), some (.inl r2)]) (st' := [.inl r2, .inr (.inr 51)]) dX8_termWants_32 rfl ?_
        refine ev_load (pc' := 34) rfl dX8_termWants_33 rfl rfl k.1 rfl ?_
        have k := k.2
        refine ev_go (tgt := 38) dX8_termWants_34 (by decide) ?_
        exact ev_ret dX8_termWants_38 rfl k
  · have k := k.2 h1
    refine ev_p (pc' := 7) (ls' := [some (.inr (.inr 50)), some (.inl x1), none]) (st' := [.inl x1]) dX8_termWants_6 rfl ?_
    refine ev_cst (v := 122) (pc' := 9) dX8_termWants_7 (by decide) rfl ?_
    refine ev_ic_gt (tgt := 14) (pc' := 12) dX8_termWants_9 (by decide) rfl (fun h4 => ?_) (fun h4 => ?_)
    · have k := k.1 h4
      refine ev_p (pc' := 15) (ls' := [some (.inr (.inr 50)), some (.inl x1), none]) (st' := [.inl x1]) dX8_termWants_14 rfl ?_
      refine ev_call (y := 85) (as := [.inl x1]) (r := []) (M' := mX8_symbolOf) (pc' := 18) dX8_termWants_15 rfl rfl ⟨rfl, rfl⟩ rfl k rfl (fun v τ1 hq => ?_)
      obtain ⟨r2, hv, k⟩ := hq
      rw [hv]
      change ev mX8_termWants 18 [some (.inr (.inr 50)), some (.inl x1), none] [.inl r2] τ1 _
      refine ev_p (pc' := 19) (ls' := [some (.inr (.inr 50)), some (.inl x1), some (.inl r2)]) (st' := []) dX8_termWants_18 rfl ?_
      refine ev_p (pc' := 20) (ls' := [some (.inr (.inr 50)), some (.inl x1), some (.inl r2)]) (st' := [.inl r2]) dX8_termWants_19 rfl ?_
      refine ev_if_lt (tgt := 37) (pc' := 23) dX8_termWants_20 (by decide) rfl (fun h5 => ?_) (fun h5 => ?_)
      · have k := k.1 h5
        refine ev_cst (v := (-1)) (pc' := 38) dX8_termWants_37 (by decide) rfl ?_
        exact ev_ret dX8_termWants_38 rfl k
      · have k := k.2 h5
        refine ev_p (pc' := 24) (ls' := [some (.inr (.inr 50)), some (.inl x1), some (.inl r2)]) (st' := [.inl r2]) dX8_termWants_23 rfl ?_
        refine ev_cst (v := 4) (pc' := 25) dX8_termWants_24 (by decide) rfl ?_
        refine ev_ic_ge (tgt := 37) (pc' := 28) dX8_termWants_25 (by decide) rfl (fun h6 => ?_) (fun h6 => ?_)
        · have k := k.1 h6
          refine ev_cst (v := (-1)) (pc' := 38) dX8_termWants_37 (by decide) rfl ?_
          exact ev_ret dX8_termWants_38 rfl k
        · have k := k.2 h6
          refine ev_p (pc' := 29) (ls' := [some (.inr (.inr 50)), some (.inl x1), some (.inl r2)]) (st' := [.inr (.inr 50)]) dX8_termWants_28 rfl ?_
          refine ev_getA (pc' := 32) (z := 51) dX8_termWants_29 rfl rfl rfl rfl ?_
          refine ev_p (pc' := 33) (ls' := [some (.inr (.inr 50)), some (.inl x1), some (.inl r2)]) (st' := [.inl r2, .inr (.inr 51)]) dX8_termWants_32 rfl ?_
          refine ev_load (pc' := 34) rfl dX8_termWants_33 rfl rfl k.1 rfl ?_
          have k := k.2
          refine ev_go (tgt := 38) dX8_termWants_34 (by decide) ?_
          exact ev_ret dX8_termWants_38 rfl k
    · have k := k.2 h4
      refine ev_cst (v := 0) (pc' := 13) dX8_termWants_12 (by decide) rfl ?_
      exact ev_ret dX8_termWants_13 rfl k
set_option maxRecDepth 20000 in
theorem s_X8_keep_0 {σ : ab_M} {Q : Option ab_V → ab_M → Prop} {x1 : Int32}
    (k : ev mX8_keep 2 [some (.inr (.inr 50)), some (.inl x1), some (.inl 0)] [] σ Q) :
    ev mX8_keep 0 [some (.inr (.inr 50)), some (.inl x1), none] [] σ Q := by
  refine ev_cst (v := 0) (pc' := 1) dX8_keep_0 (by decide) rfl ?_
  refine ev_p (pc' := 2) (ls' := [some (.inr (.inr 50)), some (.inl x1), some (.inl 0)]) (st' := []) dX8_keep_1 rfl ?_
  exact k
set_option maxRecDepth 20000 in
theorem s_X8_keep_2 {σ : ab_M} {Q : Option ab_V → ab_M → Prop} {x1 : Int32} {x2 : Int32}
    (k : (((σ 50 2) ≤ x2 → ab_in x1 9 = true ∧ Q none (ab_upd (ab_upd σ 54 x1.toNatClampNeg (σ 50 2)) 50 2 0)) ∧ (¬ (σ 50 2) ≤ x2 → ab_in x2 60 = true ∧ ab_in ((60 * x1) + x2) 540 = true ∧ ev mX8_keep 2 [some (.inr (.inr 50)), some (.inl x1), some (.inl (x2 + 1))] [] (ab_upd σ 53 ((60 * x1) + x2).toNatClampNeg (σ 52 x2.toNatClampNeg)) Q))) :
    ev mX8_keep 2 [some (.inr (.inr 50)), some (.inl x1), some (.inl x2)] [] σ Q := by
  refine ev_p (pc' := 3) (ls' := [some (.inr (.inr 50)), some (.inl x1), some (.inl x2)]) (st' := [.inl x2]) dX8_keep_2 rfl ?_
  refine ev_p (pc' := 4) (ls' := [some (.inr (.inr 50)), some (.inl x1), some (.inl x2)]) (st' := [.inr (.inr 50), .inl x2]) dX8_keep_3 rfl ?_
  refine ev_getI (pc' := 7) dX8_keep_4 rfl rfl rfl rfl ?_
  refine ev_ic_ge (tgt := 33) (pc' := 10) dX8_keep_7 (by decide) rfl (fun h1 => ?_) (fun h1 => ?_)
  · have k := k.1 h1
    refine ev_p (pc' := 34) (ls' := [some (.inr (.inr 50)), some (.inl x1), some (.inl x2)]) (st' := [.inr (.inr 50)]) dX8_keep_33 rfl ?_
    refine ev_getA (pc' := 37) (z := 54) dX8_keep_34 rfl rfl rfl rfl ?_
    refine ev_p (pc' := 38) (ls' := [some (.inr (.inr 50)), some (.inl x1), some (.inl x2)]) (st' := [.inl x1, .inr (.inr 54)]) dX8_keep_37 rfl ?_
    refine ev_p (pc' := 39) (ls' := [some (.inr (.inr 50)), some (.inl x1), some (.inl x2)]) (st' := [.inr (.inr 50), .inl x1, .inr (.inr 54)]) dX8_keep_38 rfl ?_
    refine ev_getI (pc' := 42) dX8_keep_39 rfl rfl rfl rfl ?_
    refine ev_stor (pc' := 43) (z := (σ 50 2)) rfl dX8_keep_42 rfl rfl k.1 rfl rfl ?_
    have k := k.2
    refine ev_p (pc' := 44) (ls' := [some (.inr (.inr 50)), some (.inl x1), some (.inl x2)]) (st' := [.inr (.inr 50)]) dX8_keep_43 rfl ?_
    refine ev_cst (v := 0) (pc' := 45) dX8_keep_44 (by decide) rfl ?_
    refine ev_putI (pc' := 48) dX8_keep_45 rfl rfl rfl rfl rfl rfl ?_
    exact ev_ret dX8_keep_48 rfl k
  · have k := k.2 h1
    refine ev_p (pc' := 11) (ls' := [some (.inr (.inr 50)), some (.inl x1), some (.inl x2)]) (st' := [.inr (.inr 50)]) dX8_keep_10 rfl ?_
    refine ev_getA (pc' := 14) (z := 53) dX8_keep_11 rfl rfl rfl rfl ?_
    refine ev_cst (v := 60) (pc' := 16) dX8_keep_14 (by decide) rfl ?_
    refine ev_p (pc' := 17) (ls' := [some (.inr (.inr 50)), some (.inl x1), some (.inl x2)]) (st' := [.inl x1, .inl 60, .inr (.inr 53)]) dX8_keep_16 rfl ?_
    refine ev_p (pc' := 18) (ls' := [some (.inr (.inr 50)), some (.inl x1), some (.inl x2)]) (st' := [.inl (60 * x1), .inr (.inr 53)]) dX8_keep_17 rfl ?_
    refine ev_p (pc' := 19) (ls' := [some (.inr (.inr 50)), some (.inl x1), some (.inl x2)]) (st' := [.inl x2, .inl (60 * x1), .inr (.inr 53)]) dX8_keep_18 rfl ?_
    refine ev_p (pc' := 20) (ls' := [some (.inr (.inr 50)), some (.inl x1), some (.inl x2)]) (st' := [.inl ((60 * x1) + x2), .inr (.inr 53)]) dX8_keep_19 rfl ?_
    refine ev_p (pc' := 21) (ls' := [some (.inr (.inr 50)), some (.inl x1), some (.inl x2)]) (st' := [.inr (.inr 50), .inl ((60 * x1) + x2), .inr (.inr 53)]) dX8_keep_20 rfl ?_
    refine ev_getA (pc' := 24) (z := 52) dX8_keep_21 rfl rfl rfl rfl ?_
    refine ev_p (pc' := 25) (ls' := [some (.inr (.inr 50)), some (.inl x1), some (.inl x2)]) (st' := [.inl x2, .inr (.inr 52), .inl ((60 * x1) + x2), .inr (.inr 53)]) dX8_keep_24 rfl ?_
    refine ev_load (pc' := 26) rfl dX8_keep_25 rfl rfl k.1 rfl ?_
    have k := k.2
    refine ev_stor (pc' := 27) (z := (σ 52 x2.toNatClampNeg)) rfl dX8_keep_26 rfl rfl k.1 rfl rfl ?_
    have k := k.2
    refine ev_p (pc' := 30) (ls' := [some (.inr (.inr 50)), some (.inl x1), some (.inl (x2 + 1))]) (st' := []) dX8_keep_27 rfl ?_
    refine ev_go (tgt := 2) dX8_keep_30 (by decide) ?_
    exact k
set_option maxRecDepth 20000 in
theorem s_X8_drop_0 {σ : ab_M} {Q : Option ab_V → ab_M → Prop} 
    (k : (((σ 50 5) = 0 → Q (some (.inl (-2))) σ) ∧ (¬ (σ 50 5) = 0 → Q (some (.inl ((ab_upd (ab_upd σ 50 5 ((σ 50 5) - 1)) 50 13 0) 50 5))) (ab_upd (ab_upd σ 50 5 ((σ 50 5) - 1)) 50 13 0)))) :
    ev mX8_drop 0 [some (.inr (.inr 50))] [] σ Q := by
  refine ev_p (pc' := 1) (ls' := [some (.inr (.inr 50))]) (st' := [.inr (.inr 50)]) dX8_drop_0 rfl ?_
  refine ev_getI (pc' := 4) dX8_drop_1 rfl rfl rfl rfl ?_
  refine ev_if_ne (tgt := 10) (pc' := 7) dX8_drop_4 (by decide) rfl (fun h1 => ?_) (fun h1 => ?_)
  · have k := k.2 h1
    refine ev_p (pc' := 11) (ls' := [some (.inr (.inr 50))]) (st' := [.inr (.inr 50)]) dX8_drop_10 rfl ?_
    refine ev_p (pc' := 12) (ls' := [some (.inr (.inr 50))]) (st' := [.inr (.inr 50), .inr (.inr 50)]) dX8_drop_11 rfl ?_
    refine ev_getI (pc' := 15) dX8_drop_12 rfl rfl rfl rfl ?_
    refine ev_cst (v := 1) (pc' := 16) dX8_drop_15 (by decide) rfl ?_
    refine ev_p (pc' := 17) (ls' := [some (.inr (.inr 50))]) (st' := [.inl ((σ 50 5) - 1), .inr (.inr 50)]) dX8_drop_16 rfl ?_
    refine ev_putI (pc' := 20) dX8_drop_17 rfl rfl rfl rfl rfl rfl ?_
    refine ev_p (pc' := 21) (ls' := [some (.inr (.inr 50))]) (st' := [.inr (.inr 50)]) dX8_drop_20 rfl ?_
    refine ev_cst (v := 0) (pc' := 22) dX8_drop_21 (by decide) rfl ?_
    refine ev_putI (pc' := 25) dX8_drop_22 rfl rfl rfl rfl rfl rfl ?_
    refine ev_p (pc' := 26) (ls' := [some (.inr (.inr 50))]) (st' := [.inr (.inr 50)]) dX8_drop_25 rfl ?_
    refine ev_getI (pc' := 29) dX8_drop_26 rfl rfl rfl rfl ?_
    exact ev_ret dX8_drop_29 rfl k
  · have k := k.1 h1
    refine ev_cst (v := (-2)) (pc' := 9) dX8_drop_7 (by decide) rfl ?_
    exact ev_ret dX8_drop_9 rfl k
set_option maxRecDepth 20000 in
theorem s_X8_find_0 {σ : ab_M} {Q : Option ab_V → ab_M → Prop} {x1 : Int32}
    (k : ((x1 < 1 → Q (some (.inl (-1))) σ) ∧ (¬ x1 < 1 → ((x1 ≤ 4 → ev mX8_find 26 [some (.inr (.inr 50)), some (.inl x1), some (.inl 0), some (.inl 1)] [] (ab_upd (ab_upd σ 50 14 0) 50 12 0) Q) ∧ (¬ x1 ≤ 4 → Q (some (.inl (-1))) σ))))) :
    ev mX8_find 0 [some (.inr (.inr 50)), some (.inl x1), none, none] [] σ Q := by
  refine ev_p (pc' := 1) (ls' := [some (.inr (.inr 50)), some (.inl x1), none, none]) (st' := [.inl x1]) dX8_find_0 rfl ?_
  refine ev_cst (v := 1) (pc' := 2) dX8_find_1 (by decide) rfl ?_
  refine ev_ic_lt (tgt := 10) (pc' := 5) dX8_find_2 (by decide) rfl (fun h1 => ?_) (fun h1 => ?_)
  · have k := k.1 h1
    refine ev_cst (v := (-1)) (pc' := 11) dX8_find_10 (by decide) rfl ?_
    exact ev_ret dX8_find_11 rfl k
  · have k := k.2 h1
    refine ev_p (pc' := 6) (ls' := [some (.inr (.inr 50)), some (.inl x1), none, none]) (st' := [.inl x1]) dX8_find_5 rfl ?_
    refine ev_cst (v := 4) (pc' := 7) dX8_find_6 (by decide) rfl ?_
    refine ev_ic_le (tgt := 12) (pc' := 10) dX8_find_7 (by decide) rfl (fun h2 => ?_) (fun h2 => ?_)
    · have k := k.1 h2
      refine ev_p (pc' := 13) (ls' := [some (.inr (.inr 50)), some (.inl x1), none, none]) (st' := [.inr (.inr 50)]) dX8_find_12 rfl ?_
      refine ev_cst (v := 0) (pc' := 14) dX8_find_13 (by decide) rfl ?_
      refine ev_putI (pc' := 17) dX8_find_14 rfl rfl rfl rfl rfl rfl ?_
      refine ev_p (pc' := 18) (ls' := [some (.inr (.inr 50)), some (.inl x1), none, none]) (st' := [.inr (.inr 50)]) dX8_find_17 rfl ?_
      refine ev_cst (v := 0) (pc' := 19) dX8_find_18 (by decide) rfl ?_
      refine ev_putI (pc' := 22) dX8_find_19 rfl rfl rfl rfl rfl rfl ?_
      refine ev_cst (v := 0) (pc' := 23) dX8_find_22 (by decide) rfl ?_
      refine ev_p (pc' := 24) (ls' := [some (.inr (.inr 50)), some (.inl x1), some (.inl 0), none]) (st' := []) dX8_find_23 rfl ?_
      refine ev_cst (v := 1) (pc' := 25) dX8_find_24 (by decide) rfl ?_
      refine ev_p (pc' := 26) (ls' := [some (.inr (.inr 50)), some (.inl x1), some (.inl 0), some (.inl 1)]) (st' := []) dX8_find_25 rfl ?_
      exact k
    · have k := k.2 h2
      refine ev_cst (v := (-1)) (pc' := 11) dX8_find_10 (by decide) rfl ?_
      exact ev_ret dX8_find_11 rfl k
set_option maxRecDepth 20000 in
theorem s_X8_find_26 {σ : ab_M} {Q : Option ab_V → ab_M → Prop} {x1 : Int32} {x2 : Int32} {x3 : Int32}
    (k : ((x1 < x3 → ((x2 = 1 → ab_fit .boolean ((ab_upd σ 50 12 1) 50 12) = true ∧ ((x2 = 1 → Q (some (.inl ((ab_upd (ab_upd σ 50 12 1) 50 13 ((ab_upd σ 50 12 1) 50 12)) 50 7))) (ab_upd (ab_upd σ 50 12 1) 50 13 ((ab_upd σ 50 12 1) 50 12))) ∧ (¬ x2 = 1 → Q (some (.inl x2)) (ab_upd (ab_upd σ 50 12 1) 50 13 ((ab_upd σ 50 12 1) 50 12))))) ∧ (¬ x2 = 1 → ab_fit .boolean ((ab_upd σ 50 12 0) 50 12) = true ∧ ((x2 = 1 → Q (some (.inl ((ab_upd (ab_upd σ 50 12 0) 50 13 ((ab_upd σ 50 12 0) 50 12)) 50 7))) (ab_upd (ab_upd σ 50 12 0) 50 13 ((ab_upd σ 50 12 0) 50 12))) ∧ (¬ x2 = 1 → Q (some (.inl x2)) (ab_upd (ab_upd σ 50 12 0) 50 13 ((ab_upd σ 50 12 0) 50 12))))))) ∧ (¬ x1 < x3 → ((x2 = 0 → evm mX8_list [.inr (.inr 50), .inl x3] σ (fun v τ1 => v = none ∧ evm mX8_someBreaks [.inr (.inr 50), .inl (-1)] τ1 (fun v τ2 => ∃ r3 : Int32, v = some (.inl r3) ∧ ((r3 = 0 → evm mX8_walk [.inr (.inr 50), .inl 0] τ2 (fun v τ4 => ∃ r5 : Int32, v = some (.inl r5) ∧ ev mX8_find 26 [some (.inr (.inr 50)), some (.inl x1), some (.inl r5), some (.inl (x3 + 1))] [] τ4 Q)) ∧ (¬ r3 = 0 → ev mX8_find 26 [some (.inr (.inr 50)), some (.inl x1), some (.inl x2), some (.inl (x3 + 1))] [] τ2 Q))))) ∧ (¬ x2 = 0 → ((x2 = 1 → ab_fit .boolean ((ab_upd σ 50 12 1) 50 12) = true ∧ ((x2 = 1 → Q (some (.inl ((ab_upd (ab_upd σ 50 12 1) 50 13 ((ab_upd σ 50 12 1) 50 12)) 50 7))) (ab_upd (ab_upd σ 50 12 1) 50 13 ((ab_upd σ 50 12 1) 50 12))) ∧ (¬ x2 = 1 → Q (some (.inl x2)) (ab_upd (ab_upd σ 50 12 1) 50 13 ((ab_upd σ 50 12 1) 50 12))))) ∧ (¬ x2 = 1 → ab_fit .boolean ((ab_upd σ 50 12 0) 50 12) = true ∧ ((x2 = 1 → Q (some (.inl ((ab_upd (ab_upd σ 50 12 0) 50 13 ((ab_upd σ 50 12 0) 50 12)) 50 7))) (ab_upd (ab_upd σ 50 12 0) 50 13 ((ab_upd σ 50 12 0) 50 12))) ∧ (¬ x2 = 1 → Q (some (.inl x2)) (ab_upd (ab_upd σ 50 12 0) 50 13 ((ab_upd σ 50 12 0) 50 12))))))))))) :
    ev mX8_find 26 [some (.inr (.inr 50)), some (.inl x1), some (.inl x2), some (.inl x3)] [] σ Q := by
  refine ev_p (pc' := 27) (ls' := [some (.inr (.inr 50)), some (.inl x1), some (.inl x2), some (.inl x3)]) (st' := [.inl x3]) dX8_find_26 rfl ?_
  refine ev_p (pc' := 28) (ls' := [some (.inr (.inr 50)), some (.inl x1), some (.inl x2), some (.inl x3)]) (st' := [.inl x1, .inl x3]) dX8_find_27 rfl ?_
  refine ev_ic_gt (tgt := 60) (pc' := 31) dX8_find_28 (by decide) rfl (fun h1 => ?_) (fun h1 => ?_)
  · have k := k.1 h1
    refine ev_p (pc' := 61) (ls' := [some (.inr (.inr 50)), some (.inl x1), some (.inl x2), some (.inl x3)]) (st' := [.inr (.inr 50)]) dX8_find_60 rfl ?_
    refine ev_p (pc' := 62) (ls' := [some (.inr (.inr 50)), some (.inl x1), some (.inl x2), some (.inl x3)]) (st' := [.inl x2, .inr (.inr 50)]) dX8_find_61 rfl ?_
    refine ev_cst (v := 1) (pc' := 63) dX8_find_62 (by decide) rfl ?_
    refine ev_ic_ne (tgt := 70) (pc' := 66) dX8_find_63 (by decide) rfl (fun h2 => ?_) (fun h2 => ?_)
    · have k := k.2 h2
      refine ev_cst (v := 0) (pc' := 71) dX8_find_70 (by decide) rfl ?_
      refine ev_putI (pc' := 74) dX8_find_71 rfl rfl rfl rfl rfl rfl ?_
      refine ev_p (pc' := 75) (ls' := [some (.inr (.inr 50)), some (.inl x1), some (.inl x2), some (.inl x3)]) (st' := [.inr (.inr 50)]) dX8_find_74 rfl ?_
      refine ev_p (pc' := 76) (ls' := [some (.inr (.inr 50)), some (.inl x1), some (.inl x2), some (.inl x3)]) (st' := [.inr (.inr 50), .inr (.inr 50)]) dX8_find_75 rfl ?_
      refine ev_getI (pc' := 79) dX8_find_76 rfl rfl rfl rfl ?_
      refine ev_putI (pc' := 82) dX8_find_79 rfl rfl rfl rfl k.1 rfl ?_
      have k := k.2
      refine ev_p (pc' := 83) (ls' := [some (.inr (.inr 50)), some (.inl x1), some (.inl x2), some (.inl x3)]) (st' := [.inl x2]) dX8_find_82 rfl ?_
      refine ev_cst (v := 1) (pc' := 84) dX8_find_83 (by decide) rfl ?_
      refine ev_ic_ne (tgt := 94) (pc' := 87) dX8_find_84 (by decide) rfl (fun h3 => ?_) (fun h3 => ?_)
      · have k := k.2 h3
        refine ev_p (pc' := 95) (ls' := [some (.inr (.inr 50)), some (.inl x1), some (.inl x2), some (.inl x3)]) (st' := [.inl x2]) dX8_find_94 rfl ?_
        exact ev_ret dX8_find_95 rfl k
      · have k := k.1 h3
        refine ev_p (pc' := 88) (ls' := [some (.inr (.inr 50)), some (.inl x1), some (.inl x2), some (.inl x3)]) (st' := [.inr (.inr 50)]) dX8_find_87 rfl ?_
        refine ev_getI (pc' := 91) dX8_find_88 rfl rfl rfl rfl ?_
        refine ev_go (tgt := 95) dX8_find_91 (by decide) ?_
        exact ev_ret dX8_find_95 rfl k
    · have k := k.1 h2
      refine ev_cst (v := 1) (pc' := 67) dX8_find_66 (by decide) rfl ?_
      refine ev_go (tgt := 71) dX8_find_67 (by decide) ?_
      refine ev_putI (pc' := 74) dX8_find_71 rfl rfl rfl rfl rfl rfl ?_
      refine ev_p (pc' := 75) (ls' := [some (.inr (.inr 50)), some (.inl x1), some (.inl x2), some (.inl x3)]) (st' := [.inr (.inr 50)]) dX8_find_74 rfl ?_
      refine ev_p (pc' := 76) (ls' := [some (.inr (.inr 50)), some (.inl x1), some (.inl x2), some (.inl x3)]) (st' := [.inr (.inr 50), .inr (.inr 50)]) dX8_find_75 rfl ?_
      refine ev_getI (pc' := 79) dX8_find_76 rfl rfl rfl rfl ?_
      refine ev_putI (pc' := 82) dX8_find_79 rfl rfl rfl rfl k.1 rfl ?_
      have k := k.2
      refine ev_p (pc' := 83) (ls' := [some (.inr (.inr 50)), some (.inl x1), some (.inl x2), some (.inl x3)]) (st' := [.inl x2]) dX8_find_82 rfl ?_
      refine ev_cst (v := 1) (pc' := 84) dX8_find_83 (by decide) rfl ?_
      refine ev_ic_ne (tgt := 94) (pc' := 87) dX8_find_84 (by decide) rfl (fun h4 => ?_) (fun h4 => ?_)
      · have k := k.2 h4
        refine ev_p (pc' := 95) (ls' := [some (.inr (.inr 50)), some (.inl x1), some (.inl x2), some (.inl x3)]) (st' := [.inl x2]) dX8_find_94 rfl ?_
        exact ev_ret dX8_find_95 rfl k
      · have k := k.1 h4
        refine ev_p (pc' := 88) (ls' := [some (.inr (.inr 50)), some (.inl x1), some (.inl x2), some (.inl x3)]) (st' := [.inr (.inr 50)]) dX8_find_87 rfl ?_
        refine ev_getI (pc' := 91) dX8_find_88 rfl rfl rfl rfl ?_
        refine ev_go (tgt := 95) dX8_find_91 (by decide) ?_
        exact ev_ret dX8_find_95 rfl k
  · have k := k.2 h1
    refine ev_p (pc' := 32) (ls' := [some (.inr (.inr 50)), some (.inl x1), some (.inl x2), some (.inl x3)]) (st' := [.inl x2]) dX8_find_31 rfl ?_
    refine ev_if_ne (tgt := 60) (pc' := 35) dX8_find_32 (by decide) rfl (fun h5 => ?_) (fun h5 => ?_)
    · have k := k.2 h5
      refine ev_p (pc' := 61) (ls' := [some (.inr (.inr 50)), some (.inl x1), some (.inl x2), some (.inl x3)]) (st' := [.inr (.inr 50)]) dX8_find_60 rfl ?_
      refine ev_p (pc' := 62) (ls' := [some (.inr (.inr 50)), some (.inl x1), some (.inl x2), some (.inl x3)]) (st' := [.inl x2, .inr (.inr 50)]) dX8_find_61 rfl ?_
      refine ev_cst (v := 1) (pc' := 63) dX8_find_62 (by decide) rfl ?_
      refine ev_ic_ne (tgt := 70) (pc' := 66) dX8_find_63 (by decide) rfl (fun h6 => ?_) (fun h6 => ?_)
      · have k := k.2 h6
        refine ev_cst (v := 0) (pc' := 71) dX8_find_70 (by decide) rfl ?_
        refine ev_putI (pc' := 74) dX8_find_71 rfl rfl rfl rfl rfl rfl ?_
        refine ev_p (pc' := 75) (ls' := [some (.inr (.inr 50)), some (.inl x1), some (.inl x2), some (.inl x3)]) (st' := [.inr (.inr 50)]) dX8_find_74 rfl ?_
        refine ev_p (pc' := 76) (ls' := [some (.inr (.inr 50)), some (.inl x1), some (.inl x2), some (.inl x3)]) (st' := [.inr (.inr 50), .inr (.inr 50)]) dX8_find_75 rfl ?_
        refine ev_getI (pc' := 79) dX8_find_76 rfl rfl rfl rfl ?_
        refine ev_putI (pc' := 82) dX8_find_79 rfl rfl rfl rfl k.1 rfl ?_
        have k := k.2
        refine ev_p (pc' := 83) (ls' := [some (.inr (.inr 50)), some (.inl x1), some (.inl x2), some (.inl x3)]) (st' := [.inl x2]) dX8_find_82 rfl ?_
        refine ev_cst (v := 1) (pc' := 84) dX8_find_83 (by decide) rfl ?_
        refine ev_ic_ne (tgt := 94) (pc' := 87) dX8_find_84 (by decide) rfl (fun h7 => ?_) (fun h7 => ?_)
        · have k := k.2 h7
          refine ev_p (pc' := 95) (ls' := [some (.inr (.inr 50)), some (.inl x1), some (.inl x2), some (.inl x3)]) (st' := [.inl x2]) dX8_find_94 rfl ?_
          exact ev_ret dX8_find_95 rfl k
        · have k := k.1 h7
          refine ev_p (pc' := 88) (ls' := [some (.inr (.inr 50)), some (.inl x1), some (.inl x2), some (.inl x3)]) (st' := [.inr (.inr 50)]) dX8_find_87 rfl ?_
          refine ev_getI (pc' := 91) dX8_find_88 rfl rfl rfl rfl ?_
          refine ev_go (tgt := 95) dX8_find_91 (by decide) ?_
          exact ev_ret dX8_find_95 rfl k
      · have k := k.1 h6
        refine ev_cst (v := 1) (pc' := 67) dX8_find_66 (by decide) rfl ?_
        refine ev_go (tgt := 71) dX8_find_67 (by decide) ?_
        refine ev_putI (pc' := 74) dX8_find_71 rfl rfl rfl rfl rfl rfl ?_
        refine ev_p (pc' := 75) (ls' := [some (.inr (.inr 50)), some (.inl x1), some (.inl x2), some (.inl x3)]) (st' := [.inr (.inr 50)]) dX8_find_74 rfl ?_
        refine ev_p (pc' := 76) (ls' := [some (.inr (.inr 50)), some (.inl x1), some (.inl x2), some (.inl x3)]) (st' := [.inr (.inr 50), .inr (.inr 50)]) dX8_find_75 rfl ?_
        refine ev_getI (pc' := 79) dX8_find_76 rfl rfl rfl rfl ?_
        refine ev_putI (pc' := 82) dX8_find_79 rfl rfl rfl rfl k.1 rfl ?_
        have k := k.2
        refine ev_p (pc' := 83) (ls' := [some (.inr (.inr 50)), some (.inl x1), some (.inl x2), some (.inl x3)]) (st' := [.inl x2]) dX8_find_82 rfl ?_
        refine ev_cst (v := 1) (pc' := 84) dX8_find_83 (by decide) rfl ?_
        refine ev_ic_ne (tgt := 94) (pc' := 87) dX8_find_84 (by decide) rfl (fun h8 => ?_) (fun h8 => ?_)
        · have k := k.2 h8
          refine ev_p (pc' := 95) (ls' := [some (.inr (.inr 50)), some (.inl x1), some (.inl x2), some (.inl x3)]) (st' := [.inl x2]) dX8_find_94 rfl ?_
          exact ev_ret dX8_find_95 rfl k
        · have k := k.1 h8
          refine ev_p (pc' := 88) (ls' := [some (.inr (.inr 50)), some (.inl x1), some (.inl x2), some (.inl x3)]) (st' := [.inr (.inr 50)]) dX8_find_87 rfl ?_
          refine ev_getI (pc' := 91) dX8_find_88 rfl rfl rfl rfl ?_
          refine ev_go (tgt := 95) dX8_find_91 (by decide) ?_
          exact ev_ret dX8_find_95 rfl k
    · have k := k.1 h5
      refine ev_p (pc' := 36) (ls' := [some (.inr (.inr 50)), some (.inl x1), some (.inl x2), some (.inl x3)]) (st' := [.inr (.inr 50)]) dX8_find_35 rfl ?_
      refine ev_p (pc' := 37) (ls' := [some (.inr (.inr 50)), some (.inl x1), some (.inl x2), some (.inl x3)]) (st' := [.inl x3, .inr (.inr 50)]) dX8_find_36 rfl ?_
      refine ev_call (y := 94) (as := [.inr (.inr 50), .inl x3]) (r := []) (M' := mX8_list) (pc' := 40) dX8_find_37 rfl rfl ⟨rfl, rfl⟩ rfl k rfl (fun v τ1 hq => ?_)
      obtain ⟨hv, k⟩ := hq
      rw [hv]
      change ev mX8_find 40 [some (.inr (.inr 50)), some (.inl x1), some (.inl x2), some (.inl x3)] [] τ1 _
      refine ev_p (pc' := 41) (ls' := [some (.inr (.inr 50)), some (.inl x1), some (.inl x2), some (.inl x3)]) (st' := [.inr (.inr 50)]) dX8_find_40 rfl ?_
      refine ev_cst (v := (-1)) (pc' := 42) dX8_find_41 (by decide) rfl ?_
      refine ev_call (y := 96) (as := [.inr (.inr 50), .inl (-1)]) (r := []) (M' := mX8_someBreaks) (pc' := 45) dX8_find_42 rfl rfl ⟨rfl, rfl⟩ rfl k rfl (fun v τ2 hq => ?_)
      obtain ⟨r3, hv, k⟩ := hq
      rw [hv]
      change ev mX8_find 45 [some (.inr (.inr 50)), some (.inl x1), some (.inl x2), some (.inl x3)] [.inl r3] τ2 _
      refine ev_if_ne (tgt := 54) (pc' := 48) dX8_find_45 (by decide) rfl (fun h9 => ?_) (fun h9 => ?_)
      · have k := k.2 h9
        refine ev_p (pc' := 57) (ls' := [some (.inr (.inr 50)), some (.inl x1), some (.inl x2), some (.inl (x3 + 1))]) (st' := []) dX8_find_54 rfl ?_
        refine ev_go (tgt := 26) dX8_find_57 (by decide) ?_
        exact k
      · have k := k.1 h9
        refine ev_p (pc' := 49) (ls' := [some (.inr (.inr 50)), some (.inl x1), some (.inl x2), some (.inl x3)]) (st' := [.inr (.inr 50)]) dX8_find_48 rfl ?_
        refine ev_cst (v := 0) (pc' := 50) dX8_find_49 (by decide) rfl ?_
        refine ev_call (y := 103) (as := [.inr (.inr 50), .inl 0]) (r := []) (M' := mX8_walk) (pc' := 53) dX8_find_50 rfl rfl ⟨rfl, rfl⟩ rfl k rfl (fun v τ4 hq => ?_)
        obtain ⟨r5, hv, k⟩ := hq
        rw [hv]
        change ev mX8_find 53 [some (.inr (.inr 50)), some (.inl x1), some (.inl x2), some (.inl x3)] [.inl r5] τ4 _
        refine ev_p (pc' := 54) (ls' := [some (.inr (.inr 50)), some (.inl x1), some (.inl r5), some (.inl x3)]) (st' := []) dX8_find_53 rfl ?_
        refine ev_p (pc' := 57) (ls' := [some (.inr (.inr 50)), some (.inl x1), some (.inl r5), some (.inl (x3 + 1))]) (st' := []) dX8_find_54 rfl ?_
        refine ev_go (tgt := 26) dX8_find_57 (by decide) ?_
        exact k
set_option maxRecDepth 20000 in
theorem s_X8_list_0 {σ : ab_M} {Q : Option ab_V → ab_M → Prop} {x1 : Int32}
    (k : ev mX8_list 12 [some (.inr (.inr 50)), some (.inl x1), some (.inl 0), none, none, none, none] [] (ab_upd (ab_upd σ 50 7 x1) 50 8 0) Q) :
    ev mX8_list 0 [some (.inr (.inr 50)), some (.inl x1), none, none, none, none, none] [] σ Q := by
  refine ev_p (pc' := 1) (ls' := [some (.inr (.inr 50)), some (.inl x1), none, none, none, none, none]) (st' := [.inr (.inr 50)]) dX8_list_0 rfl ?_
  refine ev_p (pc' := 2) (ls' := [some (.inr (.inr 50)), some (.inl x1), none, none, none, none, none]) (st' := [.inl x1, .inr (.inr 50)]) dX8_list_1 rfl ?_
  refine ev_putI (pc' := 5) dX8_list_2 rfl rfl rfl rfl rfl rfl ?_
  refine ev_p (pc' := 6) (ls' := [some (.inr (.inr 50)), some (.inl x1), none, none, none, none, none]) (st' := [.inr (.inr 50)]) dX8_list_5 rfl ?_
  refine ev_cst (v := 0) (pc' := 7) dX8_list_6 (by decide) rfl ?_
  refine ev_putI (pc' := 10) dX8_list_7 rfl rfl rfl rfl rfl rfl ?_
  refine ev_cst (v := 0) (pc' := 11) dX8_list_10 (by decide) rfl ?_
  refine ev_p (pc' := 12) (ls' := [some (.inr (.inr 50)), some (.inl x1), some (.inl 0), none, none, none, none]) (st' := []) dX8_list_11 rfl ?_
  exact k
set_option maxRecDepth 20000 in
theorem s_X8_list_12 {σ : ab_M} {Q : Option ab_V → ab_M → Prop} {x1 : Int32} {x2 : Int32} {o3 : Option ab_V} {o4 : Option ab_V} {o5 : Option ab_V} {o6 : Option ab_V}
    (k : ((8 ≤ x2 → ev mX8_list 42 [some (.inr (.inr 50)), some (.inl x1), some (.inl 0), o3, o4, o5, o6] [] σ Q) ∧ (¬ 8 ≤ x2 → ab_in x2 8 = true ∧ (((σ 51 x2.toNatClampNeg) = 0 → evm mX8_put [.inr (.inr 50), .inl x2, .inl 0, .inl 0] σ (fun v τ1 => v = none ∧ ev mX8_list 12 [some (.inr (.inr 50)), some (.inl x1), some (.inl (x2 + 1)), o3, o4, o5, o6] [] τ1 Q)) ∧ (¬ (σ 51 x2.toNatClampNeg) = 0 → ev mX8_list 12 [some (.inr (.inr 50)), some (.inl x1), some (.inl (x2 + 1)), o3, o4, o5, o6] [] σ Q))))) :
    ev mX8_list 12 [some (.inr (.inr 50)), some (.inl x1), some (.inl x2), o3, o4, o5, o6] [] σ Q := by
  refine ev_p (pc' := 13) (ls' := [some (.inr (.inr 50)), some (.inl x1), some (.inl x2), o3, o4, o5, o6]) (st' := [.inl x2]) dX8_list_12 rfl ?_
  refine ev_cst (v := 8) (pc' := 15) dX8_list_13 (by decide) rfl ?_
  refine ev_ic_ge (tgt := 40) (pc' := 18) dX8_list_15 (by decide) rfl (fun h1 => ?_) (fun h1 => ?_)
  · have k := k.1 h1
    refine ev_cst (v := 0) (pc' := 41) dX8_list_40 (by decide) rfl ?_
    refine ev_p (pc' := 42) (ls' := [some (.inr (.inr 50)), some (.inl x1), some (.inl 0), o3, o4, o5, o6]) (st' := []) dX8_list_41 rfl ?_
    exact k
  · have k := k.2 h1
    refine ev_p (pc' := 19) (ls' := [some (.inr (.inr 50)), some (.inl x1), some (.inl x2), o3, o4, o5, o6]) (st' := [.inr (.inr 50)]) dX8_list_18 rfl ?_
    refine ev_getA (pc' := 22) (z := 51) dX8_list_19 rfl rfl rfl rfl ?_
    refine ev_p (pc' := 23) (ls' := [some (.inr (.inr 50)), some (.inl x1), some (.inl x2), o3, o4, o5, o6]) (st' := [.inl x2, .inr (.inr 51)]) dX8_list_22 rfl ?_
    refine ev_load (pc' := 24) rfl dX8_list_23 rfl rfl k.1 rfl ?_
    have k := k.2
    refine ev_if_ne (tgt := 34) (pc' := 27) dX8_list_24 (by decide) rfl (fun h2 => ?_) (fun h2 => ?_)
    · have k := k.2 h2
      refine ev_p (pc' := 37) (ls' := [some (.inr (.inr 50)), some (.inl x1), some (.inl (x2 + 1)), o3, o4, o5, o6]) (st' := []) dX8_list_34 rfl ?_
      refine ev_go (tgt := 12) dX8_list_37 (by decide) ?_
      exact k
    · have k := k.1 h2
      refine ev_p (pc' := 28) (ls' := [some (.inr (.inr 50)), some (.inl x1), some (.inl x2), o3, o4, o5, o6]) (st' := [.inr (.inr 50)]) dX8_list_27 rfl ?_
      refine ev_p (pc' := 29) (ls' := [some (.inr (.inr 50)), some (.inl x1), some (.inl x2), o3, o4, o5, o6]) (st' := [.inl x2, .inr (.inr 50)]) dX8_list_28 rfl ?_
      refine ev_cst (v := 0) (pc' := 30) dX8_list_29 (by decide) rfl ?_
      refine ev_cst (v := 0) (pc' := 31) dX8_list_30 (by decide) rfl ?_
      refine ev_call (y := 95) (as := [.inr (.inr 50), .inl x2, .inl 0, .inl 0]) (r := []) (M' := mX8_put) (pc' := 34) dX8_list_31 rfl rfl ⟨rfl, rfl⟩ rfl k rfl (fun v τ1 hq => ?_)
      obtain ⟨hv, k⟩ := hq
      rw [hv]
      change ev mX8_list 34 [some (.inr (.inr 50)), some (.inl x1), some (.inl x2), o3, o4, o5, o6] [] τ1 _
      refine ev_p (pc' := 37) (ls' := [some (.inr (.inr 50)), some (.inl x1), some (.inl (x2 + 1)), o3, o4, o5, o6]) (st' := []) dX8_list_34 rfl ?_
      refine ev_go (tgt := 12) dX8_list_37 (by decide) ?_
      exact k
set_option maxRecDepth 20000 in
theorem s_X8_list_42 {σ : ab_M} {Q : Option ab_V → ab_M → Prop} {x1 : Int32} {x2 : Int32} {o3 : Option ab_V} {o4 : Option ab_V} {o5 : Option ab_V} {o6 : Option ab_V}
    (k : (((σ 50 7) ≤ x2 → ev mX8_list 167 [some (.inr (.inr 50)), some (.inl x1), some (.inl 0), o3, o4, o5, o6] [] σ Q) ∧ (¬ (σ 50 7) ≤ x2 → ev mX8_list 52 [some (.inr (.inr 50)), some (.inl x1), some (.inl x2), some (.inl 0), o4, o5, o6] [] σ Q))) :
    ev mX8_list 42 [some (.inr (.inr 50)), some (.inl x1), some (.inl x2), o3, o4, o5, o6] [] σ Q := by
  refine ev_p (pc' := 43) (ls' := [some (.inr (.inr 50)), some (.inl x1), some (.inl x2), o3, o4, o5, o6]) (st' := [.inl x2]) dX8_list_42 rfl ?_
  refine ev_p (pc' := 44) (ls' := [some (.inr (.inr 50)), some (.inl x1), some (.inl x2), o3, o4, o5, o6]) (st' := [.inr (.inr 50), .inl x2]) dX8_list_43 rfl ?_
  refine ev_getI (pc' := 47) dX8_list_44 rfl rfl rfl rfl ?_
  refine ev_ic_ge (tgt := 165) (pc' := 50) dX8_list_47 (by decide) rfl (fun h1 => ?_) (fun h1 => ?_)
  · have k := k.1 h1
    refine ev_cst (v := 0) (pc' := 166) dX8_list_165 (by decide) rfl ?_
    refine ev_p (pc' := 167) (ls' := [some (.inr (.inr 50)), some (.inl x1), some (.inl 0), o3, o4, o5, o6]) (st' := []) dX8_list_166 rfl ?_
    exact k
  · have k := k.2 h1
    refine ev_cst (v := 0) (pc' := 51) dX8_list_50 (by decide) rfl ?_
    refine ev_p (pc' := 52) (ls' := [some (.inr (.inr 50)), some (.inl x1), some (.inl x2), some (.inl 0), o4, o5, o6]) (st' := []) dX8_list_51 rfl ?_
    exact k
set_option maxRecDepth 20000 in
theorem s_X8_list_52 {σ : ab_M} {Q : Option ab_V → ab_M → Prop} {x1 : Int32} {x2 : Int32} {x3 : Int32} {o4 : Option ab_V} {o5 : Option ab_V} {o6 : Option ab_V}
    (k : ((8 ≤ x3 → ev mX8_list 42 [some (.inr (.inr 50)), some (.inl x1), some (.inl (x2 + 1)), some (.inl x3), o4, o5, o6] [] σ Q) ∧ (¬ 8 ≤ x3 → ab_in x3 8 = true ∧ (((σ 51 x3.toNatClampNeg) = 1 → evm mX8_put [.inr (.inr 50), .inl x3, .inl x2, .inl 0] σ (fun v τ1 => v = none ∧ ev mX8_list 78 [some (.inr (.inr 50)), some (.inl x1), some (.inl x2), some (.inl x3), some (.inl 0), o5, o6] [] τ1 Q)) ∧ (¬ (σ 51 x3.toNatClampNeg) = 1 → ev mX8_list 78 [some (.inr (.inr 50)), some (.inl x1), some (.inl x2), some (.inl x3), some (.inl 0), o5, o6] [] σ Q))))) :
    ev mX8_list 52 [some (.inr (.inr 50)), some (.inl x1), some (.inl x2), some (.inl x3), o4, o5, o6] [] σ Q := by
  refine ev_p (pc' := 53) (ls' := [some (.inr (.inr 50)), some (.inl x1), some (.inl x2), some (.inl x3), o4, o5, o6]) (st' := [.inl x3]) dX8_list_52 rfl ?_
  refine ev_cst (v := 8) (pc' := 55) dX8_list_53 (by decide) rfl ?_
  refine ev_ic_ge (tgt := 159) (pc' := 58) dX8_list_55 (by decide) rfl (fun h1 => ?_) (fun h1 => ?_)
  · have k := k.1 h1
    refine ev_p (pc' := 162) (ls' := [some (.inr (.inr 50)), some (.inl x1), some (.inl (x2 + 1)), some (.inl x3), o4, o5, o6]) (st' := []) dX8_list_159 rfl ?_
    refine ev_go (tgt := 42) dX8_list_162 (by decide) ?_
    exact k
  · have k := k.2 h1
    refine ev_p (pc' := 59) (ls' := [some (.inr (.inr 50)), some (.inl x1), some (.inl x2), some (.inl x3), o4, o5, o6]) (st' := [.inr (.inr 50)]) dX8_list_58 rfl ?_
    refine ev_getA (pc' := 62) (z := 51) dX8_list_59 rfl rfl rfl rfl ?_
    refine ev_p (pc' := 63) (ls' := [some (.inr (.inr 50)), some (.inl x1), some (.inl x2), some (.inl x3), o4, o5, o6]) (st' := [.inl x3, .inr (.inr 51)]) dX8_list_62 rfl ?_
    refine ev_load (pc' := 64) rfl dX8_list_63 rfl rfl k.1 rfl ?_
    have k := k.2
    refine ev_cst (v := 1) (pc' := 65) dX8_list_64 (by decide) rfl ?_
    refine ev_ic_ne (tgt := 75) (pc' := 68) dX8_list_65 (by decide) rfl (fun h2 => ?_) (fun h2 => ?_)
    · have k := k.2 h2
      refine ev_cst (v := 0) (pc' := 76) dX8_list_75 (by decide) rfl ?_
      refine ev_p (pc' := 78) (ls' := [some (.inr (.inr 50)), some (.inl x1), some (.inl x2), some (.inl x3), some (.inl 0), o5, o6]) (st' := []) dX8_list_76 rfl ?_
      exact k
    · have k := k.1 h2
      refine ev_p (pc' := 69) (ls' := [some (.inr (.inr 50)), some (.inl x1), some (.inl x2), some (.inl x3), o4, o5, o6]) (st' := [.inr (.inr 50)]) dX8_list_68 rfl ?_
      refine ev_p (pc' := 70) (ls' := [some (.inr (.inr 50)), some (.inl x1), some (.inl x2), some (.inl x3), o4, o5, o6]) (st' := [.inl x3, .inr (.inr 50)]) dX8_list_69 rfl ?_
      refine ev_p (pc' := 71) (ls' := [some (.inr (.inr 50)), some (.inl x1), some (.inl x2), some (.inl x3), o4, o5, o6]) (st' := [.inl x2, .inl x3, .inr (.inr 50)]) dX8_list_70 rfl ?_
      refine ev_cst (v := 0) (pc' := 72) dX8_list_71 (by decide) rfl ?_
      refine ev_call (y := 95) (as := [.inr (.inr 50), .inl x3, .inl x2, .inl 0]) (r := []) (M' := mX8_put) (pc' := 75) dX8_list_72 rfl rfl ⟨rfl, rfl⟩ rfl k rfl (fun v τ1 hq => ?_)
      obtain ⟨hv, k⟩ := hq
      rw [hv]
      change ev mX8_list 75 [some (.inr (.inr 50)), some (.inl x1), some (.inl x2), some (.inl x3), o4, o5, o6] [] τ1 _
      refine ev_cst (v := 0) (pc' := 76) dX8_list_75 (by decide) rfl ?_
      refine ev_p (pc' := 78) (ls' := [some (.inr (.inr 50)), some (.inl x1), some (.inl x2), some (.inl x3), some (.inl 0), o5, o6]) (st' := []) dX8_list_76 rfl ?_
      exact k
set_option maxRecDepth 20000 in
theorem s_X8_list_78 {σ : ab_M} {Q : Option ab_V → ab_M → Prop} {x1 : Int32} {x2 : Int32} {x3 : Int32} {x4 : Int32} {o5 : Option ab_V} {o6 : Option ab_V}
    (k : ((((σ 50 7) * (σ 50 7)) ≤ x4 → ev mX8_list 52 [some (.inr (.inr 50)), some (.inl x1), some (.inl x2), some (.inl (x3 + 1)), some (.inl x4), o5, o6] [] σ Q) ∧ (¬ ((σ 50 7) * (σ 50 7)) ≤ x4 → ab_in x3 8 = true ∧ (((σ 51 x3.toNatClampNeg) = 2 → ¬ (σ 50 7) = 0 ∧ ¬ (σ 50 7) = 0 ∧ (((x4 / (σ 50 7)) ≤ (x4 - x4 / (σ 50 7) * (σ 50 7)) → (((x4 - x4 / (σ 50 7) * (σ 50 7)) = x2 → evm mX8_put [.inr (.inr 50), .inl x3, .inl (x4 / (σ 50 7)), .inl (x4 - x4 / (σ 50 7) * (σ 50 7))] σ (fun v τ1 => v = none ∧ ev mX8_list 78 [some (.inr (.inr 50)), some (.inl x1), some (.inl x2), some (.inl x3), some (.inl (x4 + 1)), some (.inl (x4 / (σ 50 7))), some (.inl (x4 - x4 / (σ 50 7) * (σ 50 7)))] [] τ1 Q)) ∧ (¬ (x4 - x4 / (σ 50 7) * (σ 50 7)) = x2 → ev mX8_list 78 [some (.inr (.inr 50)), some (.inl x1), some (.inl x2), some (.inl x3), some (.inl (x4 + 1)), some (.inl (x4 / (σ 50 7))), some (.inl (x4 - x4 / (σ 50 7) * (σ 50 7)))] [] σ Q))) ∧ (¬ (x4 / (σ 50 7)) ≤ (x4 - x4 / (σ 50 7) * (σ 50 7)) → (((x4 / (σ 50 7)) = x2 → evm mX8_put [.inr (.inr 50), .inl x3, .inl (x4 / (σ 50 7)), .inl (x4 - x4 / (σ 50 7) * (σ 50 7))] σ (fun v τ1 => v = none ∧ ev mX8_list 78 [some (.inr (.inr 50)), some (.inl x1), some (.inl x2), some (.inl x3), some (.inl (x4 + 1)), some (.inl (x4 / (σ 50 7))), some (.inl (x4 - x4 / (σ 50 7) * (σ 50 7)))] [] τ1 Q)) ∧ (¬ (x4 / (σ 50 7)) = x2 → ev mX8_list 78 [some (.inr (.inr 50)), some (.inl x1), some (.inl x2), some (.inl x3), some (.inl (x4 + 1)), some (.inl (x4 / (σ 50 7))), some (.inl (x4 - x4 / (σ 50 7) * (σ 50 7)))] [] σ Q))))) ∧ (¬ (σ 51 x3.toNatClampNeg) = 2 → ev mX8_list 52 [some (.inr (.inr 50)), some (.inl x1), some (.inl x2), some (.inl (x3 + 1)), some (.inl x4), o5, o6] [] σ Q))))) :
    ev mX8_list 78 [some (.inr (.inr 50)), some (.inl x1), some (.inl x2), some (.inl x3), some (.inl x4), o5, o6] [] σ Q := by
  refine ev_p (pc' := 80) (ls' := [some (.inr (.inr 50)), some (.inl x1), some (.inl x2), some (.inl x3), some (.inl x4), o5, o6]) (st' := [.inl x4]) dX8_list_78 rfl ?_
  refine ev_p (pc' := 81) (ls' := [some (.inr (.inr 50)), some (.inl x1), some (.inl x2), some (.inl x3), some (.inl x4), o5, o6]) (st' := [.inr (.inr 50), .inl x4]) dX8_list_80 rfl ?_
  refine ev_getI (pc' := 84) dX8_list_81 rfl rfl rfl rfl ?_
  refine ev_p (pc' := 85) (ls' := [some (.inr (.inr 50)), some (.inl x1), some (.inl x2), some (.inl x3), some (.inl x4), o5, o6]) (st' := [.inr (.inr 50), .inl (σ 50 7), .inl x4]) dX8_list_84 rfl ?_
  refine ev_getI (pc' := 88) dX8_list_85 rfl rfl rfl rfl ?_
  refine ev_p (pc' := 89) (ls' := [some (.inr (.inr 50)), some (.inl x1), some (.inl x2), some (.inl x3), some (.inl x4), o5, o6]) (st' := [.inl ((σ 50 7) * (σ 50 7)), .inl x4]) dX8_list_88 rfl ?_
  refine ev_ic_ge (tgt := 153) (pc' := 92) dX8_list_89 (by decide) rfl (fun h1 => ?_) (fun h1 => ?_)
  · have k := k.1 h1
    refine ev_p (pc' := 156) (ls' := [some (.inr (.inr 50)), some (.inl x1), some (.inl x2), some (.inl (x3 + 1)), some (.inl x4), o5, o6]) (st' := []) dX8_list_153 rfl ?_
    refine ev_go (tgt := 52) dX8_list_156 (by decide) ?_
    exact k
  · have k := k.2 h1
    refine ev_p (pc' := 93) (ls' := [some (.inr (.inr 50)), some (.inl x1), some (.inl x2), some (.inl x3), some (.inl x4), o5, o6]) (st' := [.inr (.inr 50)]) dX8_list_92 rfl ?_
    refine ev_getA (pc' := 96) (z := 51) dX8_list_93 rfl rfl rfl rfl ?_
    refine ev_p (pc' := 97) (ls' := [some (.inr (.inr 50)), some (.inl x1), some (.inl x2), some (.inl x3), some (.inl x4), o5, o6]) (st' := [.inl x3, .inr (.inr 51)]) dX8_list_96 rfl ?_
    refine ev_load (pc' := 98) rfl dX8_list_97 rfl rfl k.1 rfl ?_
    have k := k.2
    refine ev_cst (v := 2) (pc' := 99) dX8_list_98 (by decide) rfl ?_
    refine ev_ic_ne (tgt := 153) (pc' := 102) dX8_list_99 (by decide) rfl (fun h2 => ?_) (fun h2 => ?_)
    · have k := k.2 h2
      refine ev_p (pc' := 156) (ls' := [some (.inr (.inr 50)), some (.inl x1), some (.inl x2), some (.inl (x3 + 1)), some (.inl x4), o5, o6]) (st' := []) dX8_list_153 rfl ?_
      refine ev_go (tgt := 52) dX8_list_156 (by decide) ?_
      exact k
    · have k := k.1 h2
      refine ev_p (pc' := 104) (ls' := [some (.inr (.inr 50)), some (.inl x1), some (.inl x2), some (.inl x3), some (.inl x4), o5, o6]) (st' := [.inl x4]) dX8_list_102 rfl ?_
      refine ev_p (pc' := 105) (ls' := [some (.inr (.inr 50)), some (.inl x1), some (.inl x2), some (.inl x3), some (.inl x4), o5, o6]) (st' := [.inr (.inr 50), .inl x4]) dX8_list_104 rfl ?_
      refine ev_getI (pc' := 108) dX8_list_105 rfl rfl rfl rfl ?_
      refine ev_div (pc' := 109) dX8_list_108 k.1 rfl ?_
      have k := k.2
      refine ev_p (pc' := 111) (ls' := [some (.inr (.inr 50)), some (.inl x1), some (.inl x2), some (.inl x3), some (.inl x4), some (.inl (x4 / (σ 50 7))), o6]) (st' := []) dX8_list_109 rfl ?_
      refine ev_p (pc' := 113) (ls' := [some (.inr (.inr 50)), some (.inl x1), some (.inl x2), some (.inl x3), some (.inl x4), some (.inl (x4 / (σ 50 7))), o6]) (st' := [.inl x4]) dX8_list_111 rfl ?_
      refine ev_p (pc' := 114) (ls' := [some (.inr (.inr 50)), some (.inl x1), some (.inl x2), some (.inl x3), some (.inl x4), some (.inl (x4 / (σ 50 7))), o6]) (st' := [.inr (.inr 50), .inl x4]) dX8_list_113 rfl ?_
      refine ev_getI (pc' := 117) dX8_list_114 rfl rfl rfl rfl ?_
      refine ev_divR (pc' := 118) dX8_list_117 k.1 rfl ?_
      have k := k.2
      refine ev_p (pc' := 120) (ls' := [some (.inr (.inr 50)), some (.inl x1), some (.inl x2), some (.inl x3), some (.inl x4), some (.inl (x4 / (σ 50 7))), some (.inl (x4 - x4 / (σ 50 7) * (σ 50 7)))]) (st' := []) dX8_list_118 rfl ?_
      refine ev_p (pc' := 122) (ls' := [some (.inr (.inr 50)), some (.inl x1), some (.inl x2), some (.inl x3), some (.inl x4), some (.inl (x4 / (σ 50 7))), some (.inl (x4 - x4 / (σ 50 7) * (σ 50 7)))]) (st' := [.inl (x4 / (σ 50 7))]) dX8_list_120 rfl ?_
      refine ev_p (pc' := 124) (ls' := [some (.inr (.inr 50)), some (.inl x1), some (.inl x2), some (.inl x3), some (.inl x4), some (.inl (x4 / (σ 50 7))), some (.inl (x4 - x4 / (σ 50 7) * (σ 50 7)))]) (st' := [.inl (x4 - x4 / (σ 50 7) * (σ 50 7)), .inl (x4 / (σ 50 7))]) dX8_list_122 rfl ?_
      refine ev_ic_le (tgt := 132) (pc' := 127) dX8_list_124 (by decide) rfl (fun h3 => ?_) (fun h3 => ?_)
      · have k := k.1 h3
        refine ev_p (pc' := 134) (ls' := [some (.inr (.inr 50)), some (.inl x1), some (.inl x2), some (.inl x3), some (.inl x4), some (.inl (x4 / (σ 50 7))), some (.inl (x4 - x4 / (σ 50 7) * (σ 50 7)))]) (st' := [.inl (x4 - x4 / (σ 50 7) * (σ 50 7))]) dX8_list_132 rfl ?_
        refine ev_p (pc' := 135) (ls' := [some (.inr (.inr 50)), some (.inl x1), some (.inl x2), some (.inl x3), some (.inl x4), some (.inl (x4 / (σ 50 7))), some (.inl (x4 - x4 / (σ 50 7) * (σ 50 7)))]) (st' := [.inl x2, .inl (x4 - x4 / (σ 50 7) * (σ 50 7))]) dX8_list_134 rfl ?_
        refine ev_ic_ne (tgt := 147) (pc' := 138) dX8_list_135 (by decide) rfl (fun h4 => ?_) (fun h4 => ?_)
        · have k := k.2 h4
          refine ev_p (pc' := 150) (ls' := [some (.inr (.inr 50)), some (.inl x1), some (.inl x2), some (.inl x3), some (.inl (x4 + 1)), some (.inl (x4 / (σ 50 7))), some (.inl (x4 - x4 / (σ 50 7) * (σ 50 7)))]) (st' := []) dX8_list_147 rfl ?_
          refine ev_go (tgt := 78) dX8_list_150 (by decide) ?_
          exact k
        · have k := k.1 h4
          refine ev_p (pc' := 139) (ls' := [some (.inr (.inr 50)), some (.inl x1), some (.inl x2), some (.inl x3), some (.inl x4), some (.inl (x4 / (σ 50 7))), some (.inl (x4 - x4 / (σ 50 7) * (σ 50 7)))]) (st' := [.inr (.inr 50)]) dX8_list_138 rfl ?_
          refine ev_p (pc' := 140) (ls' := [some (.inr (.inr 50)), some (.inl x1), some (.inl x2), some (.inl x3), some (.inl x4), some (.inl (x4 / (σ 50 7))), some (.inl (x4 - x4 / (σ 50 7) * (σ 50 7)))]) (st' := [.inl x3, .inr (.inr 50)]) dX8_list_139 rfl ?_
          refine ev_p (pc' := 142) (ls' := [some (.inr (.inr 50)), some (.inl x1), some (.inl x2), some (.inl x3), some (.inl x4), some (.inl (x4 / (σ 50 7))), some (.inl (x4 - x4 / (σ 50 7) * (σ 50 7)))]) (st' := [.inl (x4 / (σ 50 7)), .inl x3, .inr (.inr 50)]) dX8_list_140 rfl ?_
          refine ev_p (pc' := 144) (ls' := [some (.inr (.inr 50)), some (.inl x1), some (.inl x2), some (.inl x3), some (.inl x4), some (.inl (x4 / (σ 50 7))), some (.inl (x4 - x4 / (σ 50 7) * (σ 50 7)))]) (st' := [.inl (x4 - x4 / (σ 50 7) * (σ 50 7)), .inl (x4 / (σ 50 7)), .inl x3, .inr (.inr 50)]) dX8_list_142 rfl ?_
          refine ev_call (y := 95) (as := [.inr (.inr 50), .inl x3, .inl (x4 / (σ 50 7)), .inl (x4 - x4 / (σ 50 7) * (σ 50 7))]) (r := []) (M' := mX8_put) (pc' := 147) dX8_list_144 rfl rfl ⟨rfl, rfl⟩ rfl k rfl (fun v τ1 hq => ?_)
          obtain ⟨hv, k⟩ := hq
          rw [hv]
          change ev mX8_list 147 [some (.inr (.inr 50)), some (.inl x1), some (.inl x2), some (.inl x3), some (.inl x4), some (.inl (x4 / (σ 50 7))), some (.inl (x4 - x4 / (σ 50 7) * (σ 50 7)))] [] τ1 _
          refine ev_p (pc' := 150) (ls' := [some (.inr (.inr 50)), some (.inl x1), some (.inl x2), some (.inl x3), some (.inl (x4 + 1)), some (.inl (x4 / (σ 50 7))), some (.inl (x4 - x4 / (σ 50 7) * (σ 50 7)))]) (st' := []) dX8_list_147 rfl ?_
          refine ev_go (tgt := 78) dX8_list_150 (by decide) ?_
          exact k
      · have k := k.2 h3
        refine ev_p (pc' := 129) (ls' := [some (.inr (.inr 50)), some (.inl x1), some (.inl x2), some (.inl x3), some (.inl x4), some (.inl (x4 / (σ 50 7))), some (.inl (x4 - x4 / (σ 50 7) * (σ 50 7)))]) (st' := [.inl (x4 / (σ 50 7))]) dX8_list_127 rfl ?_
        refine ev_go (tgt := 134) dX8_list_129 (by decide) ?_
        refine ev_p (pc' := 135) (ls' := [some (.inr (.inr 50)), some (.inl x1), some (.inl x2), some (.inl x3), some (.inl x4), some (.inl (x4 / (σ 50 7))), some (.inl (x4 - x4 / (σ 50 7) * (σ 50 7)))]) (st' := [.inl x2, .inl (x4 / (σ 50 7))]) dX8_list_134 rfl ?_
        refine ev_ic_ne (tgt := 147) (pc' := 138) dX8_list_135 (by decide) rfl (fun h5 => ?_) (fun h5 => ?_)
        · have k := k.2 h5
          refine ev_p (pc' := 150) (ls' := [some (.inr (.inr 50)), some (.inl x1), some (.inl x2), some (.inl x3), some (.inl (x4 + 1)), some (.inl (x4 / (σ 50 7))), some (.inl (x4 - x4 / (σ 50 7) * (σ 50 7)))]) (st' := []) dX8_list_147 rfl ?_
          refine ev_go (tgt := 78) dX8_list_150 (by decide) ?_
          exact k
        · have k := k.1 h5
          refine ev_p (pc' := 139) (ls' := [some (.inr (.inr 50)), some (.inl x1), some (.inl x2), some (.inl x3), some (.inl x4), some (.inl (x4 / (σ 50 7))), some (.inl (x4 - x4 / (σ 50 7) * (σ 50 7)))]) (st' := [.inr (.inr 50)]) dX8_list_138 rfl ?_
          refine ev_p (pc' := 140) (ls' := [some (.inr (.inr 50)), some (.inl x1), some (.inl x2), some (.inl x3), some (.inl x4), some (.inl (x4 / (σ 50 7))), some (.inl (x4 - x4 / (σ 50 7) * (σ 50 7)))]) (st' := [.inl x3, .inr (.inr 50)]) dX8_list_139 rfl ?_
          refine ev_p (pc' := 142) (ls' := [some (.inr (.inr 50)), some (.inl x1), some (.inl x2), some (.inl x3), some (.inl x4), some (.inl (x4 / (σ 50 7))), some (.inl (x4 - x4 / (σ 50 7) * (σ 50 7)))]) (st' := [.inl (x4 / (σ 50 7)), .inl x3, .inr (.inr 50)]) dX8_list_140 rfl ?_
          refine ev_p (pc' := 144) (ls' := [some (.inr (.inr 50)), some (.inl x1), some (.inl x2), some (.inl x3), some (.inl x4), some (.inl (x4 / (σ 50 7))), some (.inl (x4 - x4 / (σ 50 7) * (σ 50 7)))]) (st' := [.inl (x4 - x4 / (σ 50 7) * (σ 50 7)), .inl (x4 / (σ 50 7)), .inl x3, .inr (.inr 50)]) dX8_list_142 rfl ?_
          refine ev_call (y := 95) (as := [.inr (.inr 50), .inl x3, .inl (x4 / (σ 50 7)), .inl (x4 - x4 / (σ 50 7) * (σ 50 7))]) (r := []) (M' := mX8_put) (pc' := 147) dX8_list_144 rfl rfl ⟨rfl, rfl⟩ rfl k rfl (fun v τ1 hq => ?_)
          obtain ⟨hv, k⟩ := hq
          rw [hv]
          change ev mX8_list 147 [some (.inr (.inr 50)), some (.inl x1), some (.inl x2), some (.inl x3), some (.inl x4), some (.inl (x4 / (σ 50 7))), some (.inl (x4 - x4 / (σ 50 7) * (σ 50 7)))] [] τ1 _
          refine ev_p (pc' := 150) (ls' := [some (.inr (.inr 50)), some (.inl x1), some (.inl x2), some (.inl x3), some (.inl (x4 + 1)), some (.inl (x4 / (σ 50 7))), some (.inl (x4 - x4 / (σ 50 7) * (σ 50 7)))]) (st' := []) dX8_list_147 rfl ?_
          refine ev_go (tgt := 78) dX8_list_150 (by decide) ?_
          exact k
set_option maxRecDepth 20000 in
theorem s_X8_list_167 {σ : ab_M} {Q : Option ab_V → ab_M → Prop} {x1 : Int32} {x2 : Int32} {o3 : Option ab_V} {o4 : Option ab_V} {o5 : Option ab_V} {o6 : Option ab_V}
    (k : ((128 ≤ x2 → Q none σ) ∧ (¬ 128 ≤ x2 → ab_in x2 128 = true ∧ ev mX8_list 167 [some (.inr (.inr 50)), some (.inl x1), some (.inl (x2 + 1)), o3, o4, o5, o6] [] (ab_upd σ 55 x2.toNatClampNeg (-1)) Q))) :
    ev mX8_list 167 [some (.inr (.inr 50)), some (.inl x1), some (.inl x2), o3, o4, o5, o6] [] σ Q := by
  refine ev_p (pc' := 168) (ls' := [some (.inr (.inr 50)), some (.inl x1), some (.inl x2), o3, o4, o5, o6]) (st' := [.inl x2]) dX8_list_167 rfl ?_
  refine ev_cst (v := 128) (pc' := 171) dX8_list_168 (by decide) rfl ?_
  refine ev_ic_ge (tgt := 187) (pc' := 174) dX8_list_171 (by decide) rfl (fun h1 => ?_) (fun h1 => ?_)
  · have k := k.1 h1
    exact ev_ret dX8_list_187 rfl k
  · have k := k.2 h1
    refine ev_p (pc' := 175) (ls' := [some (.inr (.inr 50)), some (.inl x1), some (.inl x2), o3, o4, o5, o6]) (st' := [.inr (.inr 50)]) dX8_list_174 rfl ?_
    refine ev_getA (pc' := 178) (z := 55) dX8_list_175 rfl rfl rfl rfl ?_
    refine ev_p (pc' := 179) (ls' := [some (.inr (.inr 50)), some (.inl x1), some (.inl x2), o3, o4, o5, o6]) (st' := [.inl x2, .inr (.inr 55)]) dX8_list_178 rfl ?_
    refine ev_cst (v := (-1)) (pc' := 180) dX8_list_179 (by decide) rfl ?_
    refine ev_stor (pc' := 181) (z := (-1)) rfl dX8_list_180 rfl rfl k.1 rfl rfl ?_
    have k := k.2
    refine ev_p (pc' := 184) (ls' := [some (.inr (.inr 50)), some (.inl x1), some (.inl (x2 + 1)), o3, o4, o5, o6]) (st' := []) dX8_list_181 rfl ?_
    refine ev_go (tgt := 167) dX8_list_184 (by decide) ?_
    exact k
set_option maxRecDepth 20000 in
theorem s_X8_put_0 {σ : ab_M} {Q : Option ab_V → ab_M → Prop} {x1 : Int32} {x2 : Int32} {x3 : Int32}
    (k : ab_in (σ 50 8) 128 = true ∧ ab_in ((ab_upd σ 56 (σ 50 8).toNatClampNeg x1) 50 8) 128 = true ∧ ab_in ((ab_upd (ab_upd σ 56 (σ 50 8).toNatClampNeg x1) 57 ((ab_upd σ 56 (σ 50 8).toNatClampNeg x1) 50 8).toNatClampNeg x2) 50 8) 128 = true ∧ Q none (ab_upd (ab_upd (ab_upd (ab_upd σ 56 (σ 50 8).toNatClampNeg x1) 57 ((ab_upd σ 56 (σ 50 8).toNatClampNeg x1) 50 8).toNatClampNeg x2) 58 ((ab_upd (ab_upd σ 56 (σ 50 8).toNatClampNeg x1) 57 ((ab_upd σ 56 (σ 50 8).toNatClampNeg x1) 50 8).toNatClampNeg x2) 50 8).toNatClampNeg x3) 50 8 (((ab_upd (ab_upd (ab_upd σ 56 (σ 50 8).toNatClampNeg x1) 57 ((ab_upd σ 56 (σ 50 8).toNatClampNeg x1) 50 8).toNatClampNeg x2) 58 ((ab_upd (ab_upd σ 56 (σ 50 8).toNatClampNeg x1) 57 ((ab_upd σ 56 (σ 50 8).toNatClampNeg x1) 50 8).toNatClampNeg x2) 50 8).toNatClampNeg x3) 50 8) + 1))) :
    ev mX8_put 0 [some (.inr (.inr 50)), some (.inl x1), some (.inl x2), some (.inl x3)] [] σ Q := by
  refine ev_p (pc' := 1) (ls' := [some (.inr (.inr 50)), some (.inl x1), some (.inl x2), some (.inl x3)]) (st' := [.inr (.inr 50)]) dX8_put_0 rfl ?_
  refine ev_getA (pc' := 4) (z := 56) dX8_put_1 rfl rfl rfl rfl ?_
  refine ev_p (pc' := 5) (ls' := [some (.inr (.inr 50)), some (.inl x1), some (.inl x2), some (.inl x3)]) (st' := [.inr (.inr 50), .inr (.inr 56)]) dX8_put_4 rfl ?_
  refine ev_getI (pc' := 8) dX8_put_5 rfl rfl rfl rfl ?_
  refine ev_p (pc' := 9) (ls' := [some (.inr (.inr 50)), some (.inl x1), some (.inl x2), some (.inl x3)]) (st' := [.inl x1, .inl (σ 50 8), .inr (.inr 56)]) dX8_put_8 rfl ?_
  refine ev_stor (pc' := 10) (z := x1) rfl dX8_put_9 rfl rfl k.1 rfl rfl ?_
  have k := k.2
  refine ev_p (pc' := 11) (ls' := [some (.inr (.inr 50)), some (.inl x1), some (.inl x2), some (.inl x3)]) (st' := [.inr (.inr 50)]) dX8_put_10 rfl ?_
  refine ev_getA (pc' := 14) (z := 57) dX8_put_11 rfl rfl rfl rfl ?_
  refine ev_p (pc' := 15) (ls' := [some (.inr (.inr 50)), some (.inl x1), some (.inl x2), some (.inl x3)]) (st' := [.inr (.inr 50), .inr (.inr 57)]) dX8_put_14 rfl ?_
  refine ev_getI (pc' := 18) dX8_put_15 rfl rfl rfl rfl ?_
  refine ev_p (pc' := 19) (ls' := [some (.inr (.inr 50)), some (.inl x1), some (.inl x2), some (.inl x3)]) (st' := [.inl x2, .inl ((ab_upd σ 56 (σ 50 8).toNatClampNeg x1) 50 8), .inr (.inr 57)]) dX8_put_18 rfl ?_
  refine ev_stor (pc' := 20) (z := x2) rfl dX8_put_19 rfl rfl k.1 rfl rfl ?_
  have k := k.2
  refine ev_p (pc' := 21) (ls' := [some (.inr (.inr 50)), some (.inl x1), some (.inl x2), some (.inl x3)]) (st' := [.inr (.inr 50)]) dX8_put_20 rfl ?_
  refine ev_getA (pc' := 24) (z := 58) dX8_put_21 rfl rfl rfl rfl ?_
  refine ev_p (pc' := 25) (ls' := [some (.inr (.inr 50)), some (.inl x1), some (.inl x2), some (.inl x3)]) (st' := [.inr (.inr 50), .inr (.inr 58)]) dX8_put_24 rfl ?_
  refine ev_getI (pc' := 28) dX8_put_25 rfl rfl rfl rfl ?_
  refine ev_p (pc' := 29) (ls' := [some (.inr (.inr 50)), some (.inl x1), some (.inl x2), some (.inl x3)]) (st' := [.inl x3, .inl ((ab_upd (ab_upd σ 56 (σ 50 8).toNatClampNeg x1) 57 ((ab_upd σ 56 (σ 50 8).toNatClampNeg x1) 50 8).toNatClampNeg x2) 50 8), .inr (.inr 58)]) dX8_put_28 rfl ?_
  refine ev_stor (pc' := 30) (z := x3) rfl dX8_put_29 rfl rfl k.1 rfl rfl ?_
  have k := k.2
  refine ev_p (pc' := 31) (ls' := [some (.inr (.inr 50)), some (.inl x1), some (.inl x2), some (.inl x3)]) (st' := [.inr (.inr 50)]) dX8_put_30 rfl ?_
  refine ev_p (pc' := 32) (ls' := [some (.inr (.inr 50)), some (.inl x1), some (.inl x2), some (.inl x3)]) (st' := [.inr (.inr 50), .inr (.inr 50)]) dX8_put_31 rfl ?_
  refine ev_getI (pc' := 35) dX8_put_32 rfl rfl rfl rfl ?_
  refine ev_cst (v := 1) (pc' := 36) dX8_put_35 (by decide) rfl ?_
  refine ev_p (pc' := 37) (ls' := [some (.inr (.inr 50)), some (.inl x1), some (.inl x2), some (.inl x3)]) (st' := [.inl (((ab_upd (ab_upd (ab_upd σ 56 (σ 50 8).toNatClampNeg x1) 57 ((ab_upd σ 56 (σ 50 8).toNatClampNeg x1) 50 8).toNatClampNeg x2) 58 ((ab_upd (ab_upd σ 56 (σ 50 8).toNatClampNeg x1) 57 ((ab_upd σ 56 (σ 50 8).toNatClampNeg x1) 50 8).toNatClampNeg x2) 50 8).toNatClampNeg x3) 50 8) + 1), .inr (.inr 50)]) dX8_put_36 rfl ?_
  refine ev_putI (pc' := 40) dX8_put_37 rfl rfl rfl rfl rfl rfl ?_
  exact ev_ret dX8_put_40 rfl k
set_option maxRecDepth 20000 in
theorem s_X8_someBreaks_0 {σ : ab_M} {Q : Option ab_V → ab_M → Prop} {x1 : Int32}
    (k : ev mX8_someBreaks 4 [some (.inr (.inr 50)), some (.inl x1), some (.inl 0), some (.inl 0)] [] σ Q) :
    ev mX8_someBreaks 0 [some (.inr (.inr 50)), some (.inl x1), none, none] [] σ Q := by
  refine ev_cst (v := 0) (pc' := 1) dX8_someBreaks_0 (by decide) rfl ?_
  refine ev_p (pc' := 2) (ls' := [some (.inr (.inr 50)), some (.inl x1), some (.inl 0), none]) (st' := []) dX8_someBreaks_1 rfl ?_
  refine ev_cst (v := 0) (pc' := 3) dX8_someBreaks_2 (by decide) rfl ?_
  refine ev_p (pc' := 4) (ls' := [some (.inr (.inr 50)), some (.inl x1), some (.inl 0), some (.inl 0)]) (st' := []) dX8_someBreaks_3 rfl ?_
  exact k
set_option maxRecDepth 20000 in
theorem s_X8_someBreaks_4 {σ : ab_M} {Q : Option ab_V → ab_M → Prop} {x1 : Int32} {x2 : Int32} {x3 : Int32}
    (k : (((σ 50 5) ≤ x3 → (ab_rok .boolean x2 = true ∧ Q (some (.inl x2)) σ)) ∧ (¬ (σ 50 5) ≤ x3 → ((x2 = 0 → ((x1 < 0 → evm mX8_breaks [.inr (.inr 50), .inl x3] σ (fun v τ1 => ∃ r2 : Int32, v = some (.inl r2) ∧ ((r2 = 0 → ev mX8_someBreaks 4 [some (.inr (.inr 50)), some (.inl x1), some (.inl 0), some (.inl (x3 + 1))] [] τ1 Q) ∧ (¬ r2 = 0 → ev mX8_someBreaks 4 [some (.inr (.inr 50)), some (.inl x1), some (.inl 1), some (.inl (x3 + 1))] [] τ1 Q)))) ∧ (¬ x1 < 0 → evm mX8_letterOf [.inl x1] σ (fun v τ1 => ∃ r2 : Int32, v = some (.inl r2) ∧ evm mX8_has [.inr (.inr 50), .inl x3, .inl r2] τ1 (fun v τ3 => ∃ r4 : Int32, v = some (.inl r4) ∧ ((r4 = 0 → ev mX8_someBreaks 4 [some (.inr (.inr 50)), some (.inl x1), some (.inl 0), some (.inl (x3 + 1))] [] τ3 Q) ∧ (¬ r4 = 0 → evm mX8_breaks [.inr (.inr 50), .inl x3] τ3 (fun v τ5 => ∃ r6 : Int32, v = some (.inl r6) ∧ ((r6 = 0 → ev mX8_someBreaks 4 [some (.inr (.inr 50)), some (.inl x1), some (.inl 0), some (.inl (x3 + 1))] [] τ5 Q) ∧ (¬ r6 = 0 → ev mX8_someBreaks 4 [some (.inr (.inr 50)), some (.inl x1), some (.inl 1), some (.inl (x3 + 1))] [] τ5 Q)))))))))) ∧ (¬ x2 = 0 → (ab_rok .boolean x2 = true ∧ Q (some (.inl x2)) σ)))))) :
    ev mX8_someBreaks 4 [some (.inr (.inr 50)), some (.inl x1), some (.inl x2), some (.inl x3)] [] σ Q := by
  refine ev_p (pc' := 5) (ls' := [some (.inr (.inr 50)), some (.inl x1), some (.inl x2), some (.inl x3)]) (st' := [.inl x3]) dX8_someBreaks_4 rfl ?_
  refine ev_p (pc' := 6) (ls' := [some (.inr (.inr 50)), some (.inl x1), some (.inl x2), some (.inl x3)]) (st' := [.inr (.inr 50), .inl x3]) dX8_someBreaks_5 rfl ?_
  refine ev_getI (pc' := 9) dX8_someBreaks_6 rfl rfl rfl rfl ?_
  refine ev_ic_ge (tgt := 52) (pc' := 12) dX8_someBreaks_9 (by decide) rfl (fun h1 => ?_) (fun h1 => ?_)
  · have k := k.1 h1
    refine ev_p (pc' := 53) (ls' := [some (.inr (.inr 50)), some (.inl x1), some (.inl x2), some (.inl x3)]) (st' := [.inl x2]) dX8_someBreaks_52 rfl ?_
    exact ev_retZ dX8_someBreaks_53 rfl k.1 k.2
  · have k := k.2 h1
    refine ev_p (pc' := 13) (ls' := [some (.inr (.inr 50)), some (.inl x1), some (.inl x2), some (.inl x3)]) (st' := [.inl x2]) dX8_someBreaks_12 rfl ?_
    refine ev_if_ne (tgt := 52) (pc' := 16) dX8_someBreaks_13 (by decide) rfl (fun h2 => ?_) (fun h2 => ?_)
    · have k := k.2 h2
      refine ev_p (pc' := 53) (ls' := [some (.inr (.inr 50)), some (.inl x1), some (.inl x2), some (.inl x3)]) (st' := [.inl x2]) dX8_someBreaks_52 rfl ?_
      exact ev_retZ dX8_someBreaks_53 rfl k.1 k.2
    · have k := k.1 h2
      refine ev_p (pc' := 17) (ls' := [some (.inr (.inr 50)), some (.inl x1), some (.inl x2), some (.inl x3)]) (st' := [.inl x1]) dX8_someBreaks_16 rfl ?_
      refine ev_if_lt (tgt := 32) (pc' := 20) dX8_someBreaks_17 (by decide) rfl (fun h3 => ?_) (fun h3 => ?_)
      · have k := k.1 h3
        refine ev_p (pc' := 33) (ls' := [some (.inr (.inr 50)), some (.inl x1), some (.inl x2), some (.inl x3)]) (st' := [.inr (.inr 50)]) dX8_someBreaks_32 rfl ?_
        refine ev_p (pc' := 34) (ls' := [some (.inr (.inr 50)), some (.inl x1), some (.inl x2), some (.inl x3)]) (st' := [.inl x3, .inr (.inr 50)]) dX8_someBreaks_33 rfl ?_
        refine ev_call (y := 99) (as := [.inr (.inr 50), .inl x3]) (r := []) (M' := mX8_breaks) (pc' := 37) dX8_someBreaks_34 rfl rfl ⟨rfl, rfl⟩ rfl k rfl (fun v τ1 hq => ?_)
        obtain ⟨r2, hv, k⟩ := hq
        rw [hv]
        change ev mX8_someBreaks 37 [some (.inr (.inr 50)), some (.inl x1), some (.inl x2), some (.inl x3)] [.inl r2] τ1 _
        refine ev_if_eq (tgt := 44) (pc' := 40) dX8_someBreaks_37 (by decide) rfl (fun h4 => ?_) (fun h4 => ?_)
        · have k := k.1 h4
          refine ev_cst (v := 0) (pc' := 45) dX8_someBreaks_44 (by decide) rfl ?_
          refine ev_p (pc' := 46) (ls' := [some (.inr (.inr 50)), some (.inl x1), some (.inl 0), some (.inl x3)]) (st' := []) dX8_someBreaks_45 rfl ?_
          refine ev_p (pc' := 49) (ls' := [some (.inr (.inr 50)), some (.inl x1), some (.inl 0), some (.inl (x3 + 1))]) (st' := []) dX8_someBreaks_46 rfl ?_
          refine ev_go (tgt := 4) dX8_someBreaks_49 (by decide) ?_
          exact k
        · have k := k.2 h4
          refine ev_cst (v := 1) (pc' := 41) dX8_someBreaks_40 (by decide) rfl ?_
          refine ev_go (tgt := 45) dX8_someBreaks_41 (by decide) ?_
          refine ev_p (pc' := 46) (ls' := [some (.inr (.inr 50)), some (.inl x1), some (.inl 1), some (.inl x3)]) (st' := []) dX8_someBreaks_45 rfl ?_
          refine ev_p (pc' := 49) (ls' := [some (.inr (.inr 50)), some (.inl x1), some (.inl 1), some (.inl (x3 + 1))]) (st' := []) dX8_someBreaks_46 rfl ?_
          refine ev_go (tgt := 4) dX8_someBreaks_49 (by decide) ?_
          exact k
      · have k := k.2 h3
        refine ev_p (pc' := 21) (ls' := [some (.inr (.inr 50)), some (.inl x1), some (.inl x2), some (.inl x3)]) (st' := [.inr (.inr 50)]) dX8_someBreaks_20 rfl ?_
        refine ev_p (pc' := 22) (ls' := [some (.inr (.inr 50)), some (.inl x1), some (.inl x2), some (.inl x3)]) (st' := [.inl x3, .inr (.inr 50)]) dX8_someBreaks_21 rfl ?_
        refine ev_p (pc' := 23) (ls' := [some (.inr (.inr 50)), some (.inl x1), some (.inl x2), some (.inl x3)]) (st' := [.inl x1, .inl x3, .inr (.inr 50)]) dX8_someBreaks_22 rfl ?_
        refine ev_call (y := 97) (as := [.inl x1]) (r := [.inl x3, .inr (.inr 50)]) (M' := mX8_letterOf) (pc' := 26) dX8_someBreaks_23 rfl rfl ⟨rfl, rfl⟩ rfl k rfl (fun v τ1 hq => ?_)
        obtain ⟨r2, hv, k⟩ := hq
        rw [hv]
        change ev mX8_someBreaks 26 [some (.inr (.inr 50)), some (.inl x1), some (.inl x2), some (.inl x3)] [.inl r2, .inl x3, .inr (.inr 50)] τ1 _
        refine ev_call (y := 98) (as := [.inr (.inr 50), .inl x3, .inl r2]) (r := []) (M' := mX8_has) (pc' := 29) dX8_someBreaks_26 rfl rfl ⟨rfl, rfl⟩ rfl k rfl (fun v τ3 hq => ?_)
        obtain ⟨r4, hv, k⟩ := hq
        rw [hv]
        change ev mX8_someBreaks 29 [some (.inr (.inr 50)), some (.inl x1), some (.inl x2), some (.inl x3)] [.inl r4] τ3 _
        refine ev_if_eq (tgt := 44) (pc' := 32) dX8_someBreaks_29 (by decide) rfl (fun h5 => ?_) (fun h5 => ?_)
        · have k := k.1 h5
          refine ev_cst (v := 0) (pc' := 45) dX8_someBreaks_44 (by decide) rfl ?_
          refine ev_p (pc' := 46) (ls' := [some (.inr (.inr 50)), some (.inl x1), some (.inl 0), some (.inl x3)]) (st' := []) dX8_someBreaks_45 rfl ?_
          refine ev_p (pc' := 49) (ls' := [some (.inr (.inr 50)), some (.inl x1), some (.inl 0), some (.inl (x3 + 1))]) (st' := []) dX8_someBreaks_46 rfl ?_
          refine ev_go (tgt := 4) dX8_someBreaks_49 (by decide) ?_
          exact k
        · have k := k.2 h5
          refine ev_p (pc' := 33) (ls' := [some (.inr (.inr 50)), some (.inl x1), some (.inl x2), some (.inl x3)]) (st' := [.inr (.inr 50)]) dX8_someBreaks_32 rfl ?_
          refine ev_p (pc' := 34) (ls' := [some (.inr (.inr 50)), some (.inl x1), some (.inl x2), some (.inl x3)]) (st' := [.inl x3, .inr (.inr 50)]) dX8_someBreaks_33 rfl ?_
          refine ev_call (y := 99) (as := [.inr (.inr 50), .inl x3]) (r := []) (M' := mX8_breaks) (pc' := 37) dX8_someBreaks_34 rfl rfl ⟨rfl, rfl⟩ rfl k rfl (fun v τ5 hq => ?_)
          obtain ⟨r6, hv, k⟩ := hq
          rw [hv]
          change ev mX8_someBreaks 37 [some (.inr (.inr 50)), some (.inl x1), some (.inl x2), some (.inl x3)] [.inl r6] τ5 _
          refine ev_if_eq (tgt := 44) (pc' := 40) dX8_someBreaks_37 (by decide) rfl (fun h6 => ?_) (fun h6 => ?_)
          · have k := k.1 h6
            refine ev_cst (v := 0) (pc' := 45) dX8_someBreaks_44 (by decide) rfl ?_
            refine ev_p (pc' := 46) (ls' := [some (.inr (.inr 50)), some (.inl x1), some (.inl 0), some (.inl x3)]) (st' := []) dX8_someBreaks_45 rfl ?_
            refine ev_p (pc' := 49) (ls' := [some (.inr (.inr 50)), some (.inl x1), some (.inl 0), some (.inl (x3 + 1))]) (st' := []) dX8_someBreaks_46 rfl ?_
            refine ev_go (tgt := 4) dX8_someBreaks_49 (by decide) ?_
            exact k
          · have k := k.2 h6
            refine ev_cst (v := 1) (pc' := 41) dX8_someBreaks_40 (by decide) rfl ?_
            refine ev_go (tgt := 45) dX8_someBreaks_41 (by decide) ?_
            refine ev_p (pc' := 46) (ls' := [some (.inr (.inr 50)), some (.inl x1), some (.inl 1), some (.inl x3)]) (st' := []) dX8_someBreaks_45 rfl ?_
            refine ev_p (pc' := 49) (ls' := [some (.inr (.inr 50)), some (.inl x1), some (.inl 1), some (.inl (x3 + 1))]) (st' := []) dX8_someBreaks_46 rfl ?_
            refine ev_go (tgt := 4) dX8_someBreaks_49 (by decide) ?_
            exact k
set_option maxRecDepth 20000 in
theorem s_X8_letterOf_0 {σ : ab_M} {Q : Option ab_V → ab_M → Prop} {x0 : Int32}
    (k : ((4 ≤ x0 → Q (some (.inl ((80 + x0) - 4))) σ) ∧ (¬ 4 ≤ x0 → Q (some (.inl (97 + x0))) σ))) :
    ev mX8_letterOf 0 [some (.inl x0)] [] σ Q := by
  refine ev_p (pc' := 1) (ls' := [some (.inl x0)]) (st' := [.inl x0]) dX8_letterOf_0 rfl ?_
  refine ev_cst (v := 4) (pc' := 2) dX8_letterOf_1 (by decide) rfl ?_
  refine ev_ic_ge (tgt := 12) (pc' := 5) dX8_letterOf_2 (by decide) rfl (fun h1 => ?_) (fun h1 => ?_)
  · have k := k.1 h1
    refine ev_cst (v := 80) (pc' := 14) dX8_letterOf_12 (by decide) rfl ?_
    refine ev_p (pc' := 15) (ls' := [some (.inl x0)]) (st' := [.inl x0, .inl 80]) dX8_letterOf_14 rfl ?_
    refine ev_p (pc' := 16) (ls' := [some (.inl x0)]) (st' := [.inl (80 + x0)]) dX8_letterOf_15 rfl ?_
    refine ev_cst (v := 4) (pc' := 17) dX8_letterOf_16 (by decide) rfl ?_
    refine ev_p (pc' := 18) (ls' := [some (.inl x0)]) (st' := [.inl ((80 + x0) - 4)]) dX8_letterOf_17 rfl ?_
    exact ev_ret dX8_letterOf_18 rfl k
  · have k := k.2 h1
    refine ev_cst (v := 97) (pc' := 7) dX8_letterOf_5 (by decide) rfl ?_
    refine ev_p (pc' := 8) (ls' := [some (.inl x0)]) (st' := [.inl x0, .inl 97]) dX8_letterOf_7 rfl ?_
    refine ev_p (pc' := 9) (ls' := [some (.inl x0)]) (st' := [.inl (97 + x0)]) dX8_letterOf_8 rfl ?_
    refine ev_go (tgt := 18) dX8_letterOf_9 (by decide) ?_
    exact ev_ret dX8_letterOf_18 rfl k
set_option maxRecDepth 20000 in
theorem s_X8_has_0 {σ : ab_M} {Q : Option ab_V → ab_M → Prop} {x1 : Int32} {x2 : Int32}
    (k : ev mX8_has 8 [some (.inr (.inr 50)), some (.inl x1), some (.inl x2), some (.inl 0), some (.inl (60 * x1))] [] σ Q) :
    ev mX8_has 0 [some (.inr (.inr 50)), some (.inl x1), some (.inl x2), none, none] [] σ Q := by
  refine ev_cst (v := 0) (pc' := 1) dX8_has_0 (by decide) rfl ?_
  refine ev_p (pc' := 2) (ls' := [some (.inr (.inr 50)), some (.inl x1), some (.inl x2), some (.inl 0), none]) (st' := []) dX8_has_1 rfl ?_
  refine ev_cst (v := 60) (pc' := 4) dX8_has_2 (by decide) rfl ?_
  refine ev_p (pc' := 5) (ls' := [some (.inr (.inr 50)), some (.inl x1), some (.inl x2), some (.inl 0), none]) (st' := [.inl x1, .inl 60]) dX8_has_4 rfl ?_
  refine ev_p (pc' := 6) (ls' := [some (.inr (.inr 50)), some (.inl x1), some (.inl x2), some (.inl 0), none]) (st' := [.inl (60 * x1)]) dX8_has_5 rfl ?_
  refine ev_p (pc' := 8) (ls' := [some (.inr (.inr 50)), some (.inl x1), some (.inl x2), some (.inl 0), some (.inl (60 * x1))]) (st' := []) dX8_has_6 rfl ?_
  exact k
set_option maxRecDepth 20000 in
theorem s_X8_has_8 {σ : ab_M} {Q : Option ab_V → ab_M → Prop} {x1 : Int32} {x2 : Int32} {x3 : Int32} {x4 : Int32}
    (k : ab_in x1 9 = true ∧ ((((60 * x1) + (σ 54 x1.toNatClampNeg)) ≤ x4 → (ab_rok .boolean x3 = true ∧ Q (some (.inl x3)) σ)) ∧ (¬ ((60 * x1) + (σ 54 x1.toNatClampNeg)) ≤ x4 → ((x3 = 0 → ab_in x4 540 = true ∧ (((σ 53 x4.toNatClampNeg) = x2 → ev mX8_has 8 [some (.inr (.inr 50)), some (.inl x1), some (.inl x2), some (.inl 1), some (.inl (x4 + 1))] [] σ Q) ∧ (¬ (σ 53 x4.toNatClampNeg) = x2 → ev mX8_has 8 [some (.inr (.inr 50)), some (.inl x1), some (.inl x2), some (.inl 0), some (.inl (x4 + 1))] [] σ Q))) ∧ (¬ x3 = 0 → ev mX8_has 8 [some (.inr (.inr 50)), some (.inl x1), some (.inl x2), some (.inl 1), some (.inl (x4 + 1))] [] σ Q))))) :
    ev mX8_has 8 [some (.inr (.inr 50)), some (.inl x1), some (.inl x2), some (.inl x3), some (.inl x4)] [] σ Q := by
  refine ev_p (pc' := 10) (ls' := [some (.inr (.inr 50)), some (.inl x1), some (.inl x2), some (.inl x3), some (.inl x4)]) (st' := [.inl x4]) dX8_has_8 rfl ?_
  refine ev_cst (v := 60) (pc' := 12) dX8_has_10 (by decide) rfl ?_
  refine ev_p (pc' := 13) (ls' := [some (.inr (.inr 50)), some (.inl x1), some (.inl x2), some (.inl x3), some (.inl x4)]) (st' := [.inl x1, .inl 60, .inl x4]) dX8_has_12 rfl ?_
  refine ev_p (pc' := 14) (ls' := [some (.inr (.inr 50)), some (.inl x1), some (.inl x2), some (.inl x3), some (.inl x4)]) (st' := [.inl (60 * x1), .inl x4]) dX8_has_13 rfl ?_
  refine ev_p (pc' := 15) (ls' := [some (.inr (.inr 50)), some (.inl x1), some (.inl x2), some (.inl x3), some (.inl x4)]) (st' := [.inr (.inr 50), .inl (60 * x1), .inl x4]) dX8_has_14 rfl ?_
  refine ev_getA (pc' := 18) (z := 54) dX8_has_15 rfl rfl rfl rfl ?_
  refine ev_p (pc' := 19) (ls' := [some (.inr (.inr 50)), some (.inl x1), some (.inl x2), some (.inl x3), some (.inl x4)]) (st' := [.inl x1, .inr (.inr 54), .inl (60 * x1), .inl x4]) dX8_has_18 rfl ?_
  refine ev_load (pc' := 20) rfl dX8_has_19 rfl rfl k.1 rfl ?_
  have k := k.2
  refine ev_p (pc' := 21) (ls' := [some (.inr (.inr 50)), some (.inl x1), some (.inl x2), some (.inl x3), some (.inl x4)]) (st' := [.inl ((60 * x1) + (σ 54 x1.toNatClampNeg)), .inl x4]) dX8_has_20 rfl ?_
  refine ev_ic_ge (tgt := 51) (pc' := 24) dX8_has_21 (by decide) rfl (fun h1 => ?_) (fun h1 => ?_)
  · have k := k.1 h1
    refine ev_p (pc' := 52) (ls' := [some (.inr (.inr 50)), some (.inl x1), some (.inl x2), some (.inl x3), some (.inl x4)]) (st' := [.inl x3]) dX8_has_51 rfl ?_
    exact ev_retZ dX8_has_52 rfl k.1 k.2
  · have k := k.2 h1
    refine ev_p (pc' := 25) (ls' := [some (.inr (.inr 50)), some (.inl x1), some (.inl x2), some (.inl x3), some (.inl x4)]) (st' := [.inl x3]) dX8_has_24 rfl ?_
    refine ev_if_ne (tgt := 39) (pc' := 28) dX8_has_25 (by decide) rfl (fun h2 => ?_) (fun h2 => ?_)
    · have k := k.2 h2
      refine ev_cst (v := 1) (pc' := 40) dX8_has_39 (by decide) rfl ?_
      refine ev_go (tgt := 44) dX8_has_40 (by decide) ?_
      refine ev_p (pc' := 45) (ls' := [some (.inr (.inr 50)), some (.inl x1), some (.inl x2), some (.inl 1), some (.inl x4)]) (st' := []) dX8_has_44 rfl ?_
      refine ev_p (pc' := 48) (ls' := [some (.inr (.inr 50)), some (.inl x1), some (.inl x2), some (.inl 1), some (.inl (x4 + 1))]) (st' := []) dX8_has_45 rfl ?_
      refine ev_go (tgt := 8) dX8_has_48 (by decide) ?_
      exact k
    · have k := k.1 h2
      refine ev_p (pc' := 29) (ls' := [some (.inr (.inr 50)), some (.inl x1), some (.inl x2), some (.inl x3), some (.inl x4)]) (st' := [.inr (.inr 50)]) dX8_has_28 rfl ?_
      refine ev_getA (pc' := 32) (z := 53) dX8_has_29 rfl rfl rfl rfl ?_
      refine ev_p (pc' := 34) (ls' := [some (.inr (.inr 50)), some (.inl x1), some (.inl x2), some (.inl x3), some (.inl x4)]) (st' := [.inl x4, .inr (.inr 53)]) dX8_has_32 rfl ?_
      refine ev_load (pc' := 35) rfl dX8_has_34 rfl rfl k.1 rfl ?_
      have k := k.2
      refine ev_p (pc' := 36) (ls' := [some (.inr (.inr 50)), some (.inl x1), some (.inl x2), some (.inl x3), some (.inl x4)]) (st' := [.inl x2, .inl (σ 53 x4.toNatClampNeg)]) dX8_has_35 rfl ?_
      refine ev_ic_ne (tgt := 43) (pc' := 39) dX8_has_36 (by decide) rfl (fun h3 => ?_) (fun h3 => ?_)
      · have k := k.2 h3
        refine ev_cst (v := 0) (pc' := 44) dX8_has_43 (by decide) rfl ?_
        refine ev_p (pc' := 45) (ls' := [some (.inr (.inr 50)), some (.inl x1), some (.inl x2), some (.inl 0), some (.inl x4)]) (st' := []) dX8_has_44 rfl ?_
        refine ev_p (pc' := 48) (ls' := [some (.inr (.inr 50)), some (.inl x1), some (.inl x2), some (.inl 0), some (.inl (x4 + 1))]) (st' := []) dX8_has_45 rfl ?_
        refine ev_go (tgt := 8) dX8_has_48 (by decide) ?_
        exact k
      · have k := k.1 h3
        refine ev_cst (v := 1) (pc' := 40) dX8_has_39 (by decide) rfl ?_
        refine ev_go (tgt := 44) dX8_has_40 (by decide) ?_
        refine ev_p (pc' := 45) (ls' := [some (.inr (.inr 50)), some (.inl x1), some (.inl x2), some (.inl 1), some (.inl x4)]) (st' := []) dX8_has_44 rfl ?_
        refine ev_p (pc' := 48) (ls' := [some (.inr (.inr 50)), some (.inl x1), some (.inl x2), some (.inl 1), some (.inl (x4 + 1))]) (st' := []) dX8_has_45 rfl ?_
        refine ev_go (tgt := 8) dX8_has_48 (by decide) ?_
        exact k
set_option maxRecDepth 20000 in
theorem s_X8_breaks_0 {σ : ab_M} {Q : Option ab_V → ab_M → Prop} {x1 : Int32}
    (k : evm mX8_has [.inr (.inr 50), .inl x1, .inl 120] σ (fun v τ1 => ∃ r2 : Int32, v = some (.inl r2) ∧ ((r2 = 0 → evm mX8_has [.inr (.inr 50), .inl x1, .inl 121] τ1 (fun v τ3 => ∃ r4 : Int32, v = some (.inl r4) ∧ ((r4 = 0 → evm mX8_has [.inr (.inr 50), .inl x1, .inl 122] τ3 (fun v τ5 => ∃ r6 : Int32, v = some (.inl r6) ∧ ((r6 = 0 → ev mX8_breaks 61 [some (.inr (.inr 50)), some (.inl x1), some (.inl 1), some (.inl 1), some (.inl 1), some (.inl 0)] [] τ5 Q) ∧ (¬ r6 = 0 → ev mX8_breaks 61 [some (.inr (.inr 50)), some (.inl x1), some (.inl 1), some (.inl 1), some (.inl (τ5 50 7)), some (.inl 0)] [] τ5 Q)))) ∧ (¬ r4 = 0 → evm mX8_has [.inr (.inr 50), .inl x1, .inl 122] τ3 (fun v τ5 => ∃ r6 : Int32, v = some (.inl r6) ∧ ((r6 = 0 → ev mX8_breaks 61 [some (.inr (.inr 50)), some (.inl x1), some (.inl 1), some (.inl (τ3 50 7)), some (.inl 1), some (.inl 0)] [] τ5 Q) ∧ (¬ r6 = 0 → ev mX8_breaks 61 [some (.inr (.inr 50)), some (.inl x1), some (.inl 1), some (.inl (τ3 50 7)), some (.inl (τ5 50 7)), some (.inl 0)] [] τ5 Q))))))) ∧ (¬ r2 = 0 → evm mX8_has [.inr (.inr 50), .inl x1, .inl 121] τ1 (fun v τ3 => ∃ r4 : Int32, v = some (.inl r4) ∧ ((r4 = 0 → evm mX8_has [.inr (.inr 50), .inl x1, .inl 122] τ3 (fun v τ5 => ∃ r6 : Int32, v = some (.inl r6) ∧ ((r6 = 0 → ev mX8_breaks 61 [some (.inr (.inr 50)), some (.inl x1), some (.inl (τ1 50 7)), some (.inl 1), some (.inl 1), some (.inl 0)] [] τ5 Q) ∧ (¬ r6 = 0 → ev mX8_breaks 61 [some (.inr (.inr 50)), some (.inl x1), some (.inl (τ1 50 7)), some (.inl 1), some (.inl (τ5 50 7)), some (.inl 0)] [] τ5 Q)))) ∧ (¬ r4 = 0 → evm mX8_has [.inr (.inr 50), .inl x1, .inl 122] τ3 (fun v τ5 => ∃ r6 : Int32, v = some (.inl r6) ∧ ((r6 = 0 → ev mX8_breaks 61 [some (.inr (.inr 50)), some (.inl x1), some (.inl (τ1 50 7)), some (.inl (τ3 50 7)), some (.inl 1), some (.inl 0)] [] τ5 Q) ∧ (¬ r6 = 0 → ev mX8_breaks 61 [some (.inr (.inr 50)), some (.inl x1), some (.inl (τ1 50 7)), some (.inl (τ3 50 7)), some (.inl (τ5 50 7)), some (.inl 0)] [] τ5 Q)))))))))) :
    ev mX8_breaks 0 [some (.inr (.inr 50)), some (.inl x1), none, none, none, none] [] σ Q := by
  refine ev_p (pc' := 1) (ls' := [some (.inr (.inr 50)), some (.inl x1), none, none, none, none]) (st' := [.inr (.inr 50)]) dX8_breaks_0 rfl ?_
  refine ev_p (pc' := 2) (ls' := [some (.inr (.inr 50)), some (.inl x1), none, none, none, none]) (st' := [.inl x1, .inr (.inr 50)]) dX8_breaks_1 rfl ?_
  refine ev_cst (v := 120) (pc' := 4) dX8_breaks_2 (by decide) rfl ?_
  refine ev_call (y := 98) (as := [.inr (.inr 50), .inl x1, .inl 120]) (r := []) (M' := mX8_has) (pc' := 7) dX8_breaks_4 rfl rfl ⟨rfl, rfl⟩ rfl k rfl (fun v τ1 hq => ?_)
  obtain ⟨r2, hv, k⟩ := hq
  rw [hv]
  change ev mX8_breaks 7 [some (.inr (.inr 50)), some (.inl x1), none, none, none, none] [.inl r2] τ1 _
  refine ev_if_eq (tgt := 17) (pc' := 10) dX8_breaks_7 (by decide) rfl (fun h1 => ?_) (fun h1 => ?_)
  · have k := k.1 h1
    refine ev_cst (v := 1) (pc' := 18) dX8_breaks_17 (by decide) rfl ?_
    refine ev_p (pc' := 19) (ls' := [some (.inr (.inr 50)), some (.inl x1), some (.inl 1), none, none, none]) (st' := []) dX8_breaks_18 rfl ?_
    refine ev_p (pc' := 20) (ls' := [some (.inr (.inr 50)), some (.inl x1), some (.inl 1), none, none, none]) (st' := [.inr (.inr 50)]) dX8_breaks_19 rfl ?_
    refine ev_p (pc' := 21) (ls' := [some (.inr (.inr 50)), some (.inl x1), some (.inl 1), none, none, none]) (st' := [.inl x1, .inr (.inr 50)]) dX8_breaks_20 rfl ?_
    refine ev_cst (v := 121) (pc' := 23) dX8_breaks_21 (by decide) rfl ?_
    refine ev_call (y := 98) (as := [.inr (.inr 50), .inl x1, .inl 121]) (r := []) (M' := mX8_has) (pc' := 26) dX8_breaks_23 rfl rfl ⟨rfl, rfl⟩ rfl k rfl (fun v τ3 hq => ?_)
    obtain ⟨r4, hv, k⟩ := hq
    rw [hv]
    change ev mX8_breaks 26 [some (.inr (.inr 50)), some (.inl x1), some (.inl 1), none, none, none] [.inl r4] τ3 _
    refine ev_if_eq (tgt := 36) (pc' := 29) dX8_breaks_26 (by decide) rfl (fun h2 => ?_) (fun h2 => ?_)
    · have k := k.1 h2
      refine ev_cst (v := 1) (pc' := 37) dX8_breaks_36 (by decide) rfl ?_
      refine ev_p (pc' := 38) (ls' := [some (.inr (.inr 50)), some (.inl x1), some (.inl 1), some (.inl 1), none, none]) (st' := []) dX8_breaks_37 rfl ?_
      refine ev_p (pc' := 39) (ls' := [some (.inr (.inr 50)), some (.inl x1), some (.inl 1), some (.inl 1), none, none]) (st' := [.inr (.inr 50)]) dX8_breaks_38 rfl ?_
      refine ev_p (pc' := 40) (ls' := [some (.inr (.inr 50)), some (.inl x1), some (.inl 1), some (.inl 1), none, none]) (st' := [.inl x1, .inr (.inr 50)]) dX8_breaks_39 rfl ?_
      refine ev_cst (v := 122) (pc' := 42) dX8_breaks_40 (by decide) rfl ?_
      refine ev_call (y := 98) (as := [.inr (.inr 50), .inl x1, .inl 122]) (r := []) (M' := mX8_has) (pc' := 45) dX8_breaks_42 rfl rfl ⟨rfl, rfl⟩ rfl k rfl (fun v τ5 hq => ?_)
      obtain ⟨r6, hv, k⟩ := hq
      rw [hv]
      change ev mX8_breaks 45 [some (.inr (.inr 50)), some (.inl x1), some (.inl 1), some (.inl 1), none, none] [.inl r6] τ5 _
      refine ev_if_eq (tgt := 55) (pc' := 48) dX8_breaks_45 (by decide) rfl (fun h3 => ?_) (fun h3 => ?_)
      · have k := k.1 h3
        refine ev_cst (v := 1) (pc' := 56) dX8_breaks_55 (by decide) rfl ?_
        refine ev_p (pc' := 58) (ls' := [some (.inr (.inr 50)), some (.inl x1), some (.inl 1), some (.inl 1), some (.inl 1), none]) (st' := []) dX8_breaks_56 rfl ?_
        refine ev_cst (v := 0) (pc' := 59) dX8_breaks_58 (by decide) rfl ?_
        refine ev_p (pc' := 61) (ls' := [some (.inr (.inr 50)), some (.inl x1), some (.inl 1), some (.inl 1), some (.inl 1), some (.inl 0)]) (st' := []) dX8_breaks_59 rfl ?_
        exact k
      · have k := k.2 h3
        refine ev_p (pc' := 49) (ls' := [some (.inr (.inr 50)), some (.inl x1), some (.inl 1), some (.inl 1), none, none]) (st' := [.inr (.inr 50)]) dX8_breaks_48 rfl ?_
        refine ev_getI (pc' := 52) dX8_breaks_49 rfl rfl rfl rfl ?_
        refine ev_go (tgt := 56) dX8_breaks_52 (by decide) ?_
        refine ev_p (pc' := 58) (ls' := [some (.inr (.inr 50)), some (.inl x1), some (.inl 1), some (.inl 1), some (.inl (τ5 50 7)), none]) (st' := []) dX8_breaks_56 rfl ?_
        refine ev_cst (v := 0) (pc' := 59) dX8_breaks_58 (by decide) rfl ?_
        refine ev_p (pc' := 61) (ls' := [some (.inr (.inr 50)), some (.inl x1), some (.inl 1), some (.inl 1), some (.inl (τ5 50 7)), some (.inl 0)]) (st' := []) dX8_breaks_59 rfl ?_
        exact k
    · have k := k.2 h2
      refine ev_p (pc' := 30) (ls' := [some (.inr (.inr 50)), some (.inl x1), some (.inl 1), none, none, none]) (st' := [.inr (.inr 50)]) dX8_breaks_29 rfl ?_
      refine ev_getI (pc' := 33) dX8_breaks_30 rfl rfl rfl rfl ?_
      refine ev_go (tgt := 37) dX8_breaks_33 (by decide) ?_
      refine ev_p (pc' := 38) (ls' := [some (.inr (.inr 50)), some (.inl x1), some (.inl 1), some (.inl (τ3 50 7)), none, none]) (st' := []) dX8_breaks_37 rfl ?_
      refine ev_p (pc' := 39) (ls' := [some (.inr (.inr 50)), some (.inl x1), some (.inl 1), some (.inl (τ3 50 7)), none, none]) (st' := [.inr (.inr 50)]) dX8_breaks_38 rfl ?_
      refine ev_p (pc' := 40) (ls' := [some (.inr (.inr 50)), some (.inl x1), some (.inl 1), some (.inl (τ3 50 7)), none, none]) (st' := [.inl x1, .inr (.inr 50)]) dX8_breaks_39 rfl ?_
      refine ev_cst (v := 122) (pc' := 42) dX8_breaks_40 (by decide) rfl ?_
      refine ev_call (y := 98) (as := [.inr (.inr 50), .inl x1, .inl 122]) (r := []) (M' := mX8_has) (pc' := 45) dX8_breaks_42 rfl rfl ⟨rfl, rfl⟩ rfl k rfl (fun v τ5 hq => ?_)
      obtain ⟨r6, hv, k⟩ := hq
      rw [hv]
      change ev mX8_breaks 45 [some (.inr (.inr 50)), some (.inl x1), some (.inl 1), some (.inl (τ3 50 7)), none, none] [.inl r6] τ5 _
      refine ev_if_eq (tgt := 55) (pc' := 48) dX8_breaks_45 (by decide) rfl (fun h4 => ?_) (fun h4 => ?_)
      · have k := k.1 h4
        refine ev_cst (v := 1) (pc' := 56) dX8_breaks_55 (by decide) rfl ?_
        refine ev_p (pc' := 58) (ls' := [some (.inr (.inr 50)), some (.inl x1), some (.inl 1), some (.inl (τ3 50 7)), some (.inl 1), none]) (st' := []) dX8_breaks_56 rfl ?_
        refine ev_cst (v := 0) (pc' := 59) dX8_breaks_58 (by decide) rfl ?_
        refine ev_p (pc' := 61) (ls' := [some (.inr (.inr 50)), some (.inl x1), some (.inl 1), some (.inl (τ3 50 7)), some (.inl 1), some (.inl 0)]) (st' := []) dX8_breaks_59 rfl ?_
        exact k
      · have k := k.2 h4
        refine ev_p (pc' := 49) (ls' := [some (.inr (.inr 50)), some (.inl x1), some (.inl 1), some (.inl (τ3 50 7)), none, none]) (st' := [.inr (.inr 50)]) dX8_breaks_48 rfl ?_
        refine ev_getI (pc' := 52) dX8_breaks_49 rfl rfl rfl rfl ?_
        refine ev_go (tgt := 56) dX8_breaks_52 (by decide) ?_
        refine ev_p (pc' := 58) (ls' := [some (.inr (.inr 50)), some (.inl x1), some (.inl 1), some (.inl (τ3 50 7)), some (.inl (τ5 50 7)), none]) (st' := []) dX8_breaks_56 rfl ?_
        refine ev_cst (v := 0) (pc' := 59) dX8_breaks_58 (by decide) rfl ?_
        refine ev_p (pc' := 61) (ls' := [some (.inr (.inr 50)), some (.inl x1), some (.inl 1), some (.inl (τ3 50 7)), some (.inl (τ5 50 7)), some (.inl 0)]) (st' := []) dX8_breaks_59 rfl ?_
        exact k
  · have k := k.2 h1
    refine ev_p (pc' := 11) (ls' := [some (.inr (.inr 50)), some (.inl x1), none, none, none, none]) (st' := [.inr (.inr 50)]) dX8_breaks_10 rfl ?_
    refine ev_getI (pc' := 14) dX8_breaks_11 rfl rfl rfl rfl ?_
    refine ev_go (tgt := 18) dX8_breaks_14 (by decide) ?_
    refine ev_p (pc' := 19) (ls' := [some (.inr (.inr 50)), some (.inl x1), some (.inl (τ1 50 7)), none, none, none]) (st' := []) dX8_breaks_18 rfl ?_
    refine ev_p (pc' := 20) (ls' := [some (.inr (.inr 50)), some (.inl x1), some (.inl (τ1 50 7)), none, none, none]) (st' := [.inr (.inr 50)]) dX8_breaks_19 rfl ?_
    refine ev_p (pc' := 21) (ls' := [some (.inr (.inr 50)), some (.inl x1), some (.inl (τ1 50 7)), none, none, none]) (st' := [.inl x1, .inr (.inr 50)]) dX8_breaks_20 rfl ?_
    refine ev_cst (v := 121) (pc' := 23) dX8_breaks_21 (by decide) rfl ?_
    refine ev_call (y := 98) (as := [.inr (.inr 50), .inl x1, .inl 121]) (r := []) (M' := mX8_has) (pc' := 26) dX8_breaks_23 rfl rfl ⟨rfl, rfl⟩ rfl k rfl (fun v τ3 hq => ?_)
    obtain ⟨r4, hv, k⟩ := hq
    rw [hv]
    change ev mX8_breaks 26 [some (.inr (.inr 50)), some (.inl x1), some (.inl (τ1 50 7)), none, none, none] [.inl r4] τ3 _
    refine ev_if_eq (tgt := 36) (pc' := 29) dX8_breaks_26 (by decide) rfl (fun h5 => ?_) (fun h5 => ?_)
    · have k := k.1 h5
      refine ev_cst (v := 1) (pc' := 37) dX8_breaks_36 (by decide) rfl ?_
      refine ev_p (pc' := 38) (ls' := [some (.inr (.inr 50)), some (.inl x1), some (.inl (τ1 50 7)), some (.inl 1), none, none]) (st' := []) dX8_breaks_37 rfl ?_
      refine ev_p (pc' := 39) (ls' := [some (.inr (.inr 50)), some (.inl x1), some (.inl (τ1 50 7)), some (.inl 1), none, none]) (st' := [.inr (.inr 50)]) dX8_breaks_38 rfl ?_
      refine ev_p (pc' := 40) (ls' := [some (.inr (.inr 50)), some (.inl x1), some (.inl (τ1 50 7)), some (.inl 1), none, none]) (st' := [.inl x1, .inr (.inr 50)]) dX8_breaks_39 rfl ?_
      refine ev_cst (v := 122) (pc' := 42) dX8_breaks_40 (by decide) rfl ?_
      refine ev_call (y := 98) (as := [.inr (.inr 50), .inl x1, .inl 122]) (r := []) (M' := mX8_has) (pc' := 45) dX8_breaks_42 rfl rfl ⟨rfl, rfl⟩ rfl k rfl (fun v τ5 hq => ?_)
      obtain ⟨r6, hv, k⟩ := hq
      rw [hv]
      change ev mX8_breaks 45 [some (.inr (.inr 50)), some (.inl x1), some (.inl (τ1 50 7)), some (.inl 1), none, none] [.inl r6] τ5 _
      refine ev_if_eq (tgt := 55) (pc' := 48) dX8_breaks_45 (by decide) rfl (fun h6 => ?_) (fun h6 => ?_)
      · have k := k.1 h6
        refine ev_cst (v := 1) (pc' := 56) dX8_breaks_55 (by decide) rfl ?_
        refine ev_p (pc' := 58) (ls' := [some (.inr (.inr 50)), some (.inl x1), some (.inl (τ1 50 7)), some (.inl 1), some (.inl 1), none]) (st' := []) dX8_breaks_56 rfl ?_
        refine ev_cst (v := 0) (pc' := 59) dX8_breaks_58 (by decide) rfl ?_
        refine ev_p (pc' := 61) (ls' := [some (.inr (.inr 50)), some (.inl x1), some (.inl (τ1 50 7)), some (.inl 1), some (.inl 1), some (.inl 0)]) (st' := []) dX8_breaks_59 rfl ?_
        exact k
      · have k := k.2 h6
        refine ev_p (pc' := 49) (ls' := [some (.inr (.inr 50)), some (.inl x1), some (.inl (τ1 50 7)), some (.inl 1), none, none]) (st' := [.inr (.inr 50)]) dX8_breaks_48 rfl ?_
        refine ev_getI (pc' := 52) dX8_breaks_49 rfl rfl rfl rfl ?_
        refine ev_go (tgt := 56) dX8_breaks_52 (by decide) ?_
        refine ev_p (pc' := 58) (ls' := [some (.inr (.inr 50)), some (.inl x1), some (.inl (τ1 50 7)), some (.inl 1), some (.inl (τ5 50 7)), none]) (st' := []) dX8_breaks_56 rfl ?_
        refine ev_cst (v := 0) (pc' := 59) dX8_breaks_58 (by decide) rfl ?_
        refine ev_p (pc' := 61) (ls' := [some (.inr (.inr 50)), some (.inl x1), some (.inl (τ1 50 7)), some (.inl 1), some (.inl (τ5 50 7)), some (.inl 0)]) (st' := []) dX8_breaks_59 rfl ?_
        exact k
    · have k := k.2 h5
      refine ev_p (pc' := 30) (ls' := [some (.inr (.inr 50)), some (.inl x1), some (.inl (τ1 50 7)), none, none, none]) (st' := [.inr (.inr 50)]) dX8_breaks_29 rfl ?_
      refine ev_getI (pc' := 33) dX8_breaks_30 rfl rfl rfl rfl ?_
      refine ev_go (tgt := 37) dX8_breaks_33 (by decide) ?_
      refine ev_p (pc' := 38) (ls' := [some (.inr (.inr 50)), some (.inl x1), some (.inl (τ1 50 7)), some (.inl (τ3 50 7)), none, none]) (st' := []) dX8_breaks_37 rfl ?_
      refine ev_p (pc' := 39) (ls' := [some (.inr (.inr 50)), some (.inl x1), some (.inl (τ1 50 7)), some (.inl (τ3 50 7)), none, none]) (st' := [.inr (.inr 50)]) dX8_breaks_38 rfl ?_
      refine ev_p (pc' := 40) (ls' := [some (.inr (.inr 50)), some (.inl x1), some (.inl (τ1 50 7)), some (.inl (τ3 50 7)), none, none]) (st' := [.inl x1, .inr (.inr 50)]) dX8_breaks_39 rfl ?_
      refine ev_cst (v := 122) (pc' := 42) dX8_breaks_40 (by decide) rfl ?_
      refine ev_call (y := 98) (as := [.inr (.inr 50), .inl x1, .inl 122]) (r := []) (M' := mX8_has) (pc' := 45) dX8_breaks_42 rfl rfl ⟨rfl, rfl⟩ rfl k rfl (fun v τ5 hq => ?_)
      obtain ⟨r6, hv, k⟩ := hq
      rw [hv]
      change ev mX8_breaks 45 [some (.inr (.inr 50)), some (.inl x1), some (.inl (τ1 50 7)), some (.inl (τ3 50 7)), none, none] [.inl r6] τ5 _
      refine ev_if_eq (tgt := 55) (pc' := 48) dX8_breaks_45 (by decide) rfl (fun h7 => ?_) (fun h7 => ?_)
      · have k := k.1 h7
        refine ev_cst (v := 1) (pc' := 56) dX8_breaks_55 (by decide) rfl ?_
        refine ev_p (pc' := 58) (ls' := [some (.inr (.inr 50)), some (.inl x1), some (.inl (τ1 50 7)), some (.inl (τ3 50 7)), some (.inl 1), none]) (st' := []) dX8_breaks_56 rfl ?_
        refine ev_cst (v := 0) (pc' := 59) dX8_breaks_58 (by decide) rfl ?_
        refine ev_p (pc' := 61) (ls' := [some (.inr (.inr 50)), some (.inl x1), some (.inl (τ1 50 7)), some (.inl (τ3 50 7)), some (.inl 1), some (.inl 0)]) (st' := []) dX8_breaks_59 rfl ?_
        exact k
      · have k := k.2 h7
        refine ev_p (pc' := 49) (ls' := [some (.inr (.inr 50)), some (.inl x1), some (.inl (τ1 50 7)), some (.inl (τ3 50 7)), none, none]) (st' := [.inr (.inr 50)]) dX8_breaks_48 rfl ?_
        refine ev_getI (pc' := 52) dX8_breaks_49 rfl rfl rfl rfl ?_
        refine ev_go (tgt := 56) dX8_breaks_52 (by decide) ?_
        refine ev_p (pc' := 58) (ls' := [some (.inr (.inr 50)), some (.inl x1), some (.inl (τ1 50 7)), some (.inl (τ3 50 7)), some (.inl (τ5 50 7)), none]) (st' := []) dX8_breaks_56 rfl ?_
        refine ev_cst (v := 0) (pc' := 59) dX8_breaks_58 (by decide) rfl ?_
        refine ev_p (pc' := 61) (ls' := [some (.inr (.inr 50)), some (.inl x1), some (.inl (τ1 50 7)), some (.inl (τ3 50 7)), some (.inl (τ5 50 7)), some (.inl 0)]) (st' := []) dX8_breaks_59 rfl ?_
        exact k
set_option maxRecDepth 20000 in
theorem s_X8_breaks_61 {σ : ab_M} {Q : Option ab_V → ab_M → Prop} {x1 : Int32} {x2 : Int32} {x3 : Int32} {x4 : Int32} {x5 : Int32}
    (k : ((((x2 * x3) * x4) ≤ x5 → Q (some (.inl 0)) σ) ∧ (¬ ((x2 * x3) * x4) ≤ x5 → ¬ (x3 * x4) = 0 ∧ ab_in 0 3 = true ∧ ¬ x4 = 0 ∧ ¬ x3 = 0 ∧ ab_in 1 3 = true ∧ ¬ x4 = 0 ∧ ab_in 2 3 = true ∧ evm mX8_isBroken [.inr (.inr 50), .inl x1] (ab_upd (ab_upd (ab_upd σ 59 (0 : Int32).toNatClampNeg (x5 / (x3 * x4))) 59 (1 : Int32).toNatClampNeg ((x5 / x4) - (x5 / x4) / x3 * x3)) 59 (2 : Int32).toNatClampNeg (x5 - x5 / x4 * x4)) (fun v τ1 => ∃ r2 : Int32, v = some (.inl r2) ∧ ((r2 = 0 → ev mX8_breaks 61 [some (.inr (.inr 50)), some (.inl x1), some (.inl x2), some (.inl x3), some (.inl x4), some (.inl (x5 + 1))] [] τ1 Q) ∧ (¬ r2 = 0 → Q (some (.inl 1)) τ1)))))) :
    ev mX8_breaks 61 [some (.inr (.inr 50)), some (.inl x1), some (.inl x2), some (.inl x3), some (.inl x4), some (.inl x5)] [] σ Q := by
  refine ev_p (pc' := 63) (ls' := [some (.inr (.inr 50)), some (.inl x1), some (.inl x2), some (.inl x3), some (.inl x4), some (.inl x5)]) (st' := [.inl x5]) dX8_breaks_61 rfl ?_
  refine ev_p (pc' := 64) (ls' := [some (.inr (.inr 50)), some (.inl x1), some (.inl x2), some (.inl x3), some (.inl x4), some (.inl x5)]) (st' := [.inl x2, .inl x5]) dX8_breaks_63 rfl ?_
  refine ev_p (pc' := 65) (ls' := [some (.inr (.inr 50)), some (.inl x1), some (.inl x2), some (.inl x3), some (.inl x4), some (.inl x5)]) (st' := [.inl x3, .inl x2, .inl x5]) dX8_breaks_64 rfl ?_
  refine ev_p (pc' := 66) (ls' := [some (.inr (.inr 50)), some (.inl x1), some (.inl x2), some (.inl x3), some (.inl x4), some (.inl x5)]) (st' := [.inl (x2 * x3), .inl x5]) dX8_breaks_65 rfl ?_
  refine ev_p (pc' := 68) (ls' := [some (.inr (.inr 50)), some (.inl x1), some (.inl x2), some (.inl x3), some (.inl x4), some (.inl x5)]) (st' := [.inl x4, .inl (x2 * x3), .inl x5]) dX8_breaks_66 rfl ?_
  refine ev_p (pc' := 69) (ls' := [some (.inr (.inr 50)), some (.inl x1), some (.inl x2), some (.inl x3), some (.inl x4), some (.inl x5)]) (st' := [.inl ((x2 * x3) * x4), .inl x5]) dX8_breaks_68 rfl ?_
  refine ev_ic_ge (tgt := 125) (pc' := 72) dX8_breaks_69 (by decide) rfl (fun h1 => ?_) (fun h1 => ?_)
  · have k := k.1 h1
    refine ev_cst (v := 0) (pc' := 126) dX8_breaks_125 (by decide) rfl ?_
    exact ev_retZ dX8_breaks_126 rfl rfl k
  · have k := k.2 h1
    refine ev_p (pc' := 73) (ls' := [some (.inr (.inr 50)), some (.inl x1), some (.inl x2), some (.inl x3), some (.inl x4), some (.inl x5)]) (st' := [.inr (.inr 50)]) dX8_breaks_72 rfl ?_
    refine ev_getA (pc' := 76) (z := 59) dX8_breaks_73 rfl rfl rfl rfl ?_
    refine ev_cst (v := 0) (pc' := 77) dX8_breaks_76 (by decide) rfl ?_
    refine ev_p (pc' := 79) (ls' := [some (.inr (.inr 50)), some (.inl x1), some (.inl x2), some (.inl x3), some (.inl x4), some (.inl x5)]) (st' := [.inl x5, .inl 0, .inr (.inr 59)]) dX8_breaks_77 rfl ?_
    refine ev_p (pc' := 80) (ls' := [some (.inr (.inr 50)), some (.inl x1), some (.inl x2), some (.inl x3), some (.inl x4), some (.inl x5)]) (st' := [.inl x3, .inl x5, .inl 0, .inr (.inr 59)]) dX8_breaks_79 rfl ?_
    refine ev_p (pc' := 82) (ls' := [some (.inr (.inr 50)), some (.inl x1), some (.inl x2), some (.inl x3), some (.inl x4), some (.inl x5)]) (st' := [.inl x4, .inl x3, .inl x5, .inl 0, .inr (.inr 59)]) dX8_breaks_80 rfl ?_
    refine ev_p (pc' := 83) (ls' := [some (.inr (.inr 50)), some (.inl x1), some (.inl x2), some (.inl x3), some (.inl x4), some (.inl x5)]) (st' := [.inl (x3 * x4), .inl x5, .inl 0, .inr (.inr 59)]) dX8_breaks_82 rfl ?_
    refine ev_div (pc' := 84) dX8_breaks_83 k.1 rfl ?_
    have k := k.2
    refine ev_stor (pc' := 85) (z := (x5 / (x3 * x4))) rfl dX8_breaks_84 rfl rfl k.1 rfl rfl ?_
    have k := k.2
    refine ev_p (pc' := 86) (ls' := [some (.inr (.inr 50)), some (.inl x1), some (.inl x2), some (.inl x3), some (.inl x4), some (.inl x5)]) (st' := [.inr (.inr 50)]) dX8_breaks_85 rfl ?_
    refine ev_getA (pc' := 89) (z := 59) dX8_breaks_86 rfl rfl rfl rfl ?_
    refine ev_cst (v := 1) (pc' := 90) dX8_breaks_89 (by decide) rfl ?_
    refine ev_p (pc' := 92) (ls' := [some (.inr (.inr 50)), some (.inl x1), some (.inl x2), some (.inl x3), some (.inl x4), some (.inl x5)]) (st' := [.inl x5, .inl 1, .inr (.inr 59)]) dX8_breaks_90 rfl ?_
    refine ev_p (pc' := 94) (ls' := [some (.inr (.inr 50)), some (.inl x1), some (.inl x2), some (.inl x3), some (.inl x4), some (.inl x5)]) (st' := [.inl x4, .inl x5, .inl 1, .inr (.inr 59)]) dX8_breaks_92 rfl ?_
    refine ev_div (pc' := 95) dX8_breaks_94 k.1 rfl ?_
    have k := k.2
    refine ev_p (pc' := 96) (ls' := [some (.inr (.inr 50)), some (.inl x1), some (.inl x2), some (.inl x3), some (.inl x4), some (.inl x5)]) (st' := [.inl x3, .inl (x5 / x4), .inl 1, .inr (.inr 59)]) dX8_breaks_95 rfl ?_
    refine ev_divR (pc' := 97) dX8_breaks_96 k.1 rfl ?_
    have k := k.2
    refine ev_stor (pc' := 98) (z := ((x5 / x4) - (x5 / x4) / x3 * x3)) rfl dX8_breaks_97 rfl rfl k.1 rfl rfl ?_
    have k := k.2
    refine ev_p (pc' := 99) (ls' := [some (.inr (.inr 50)), some (.inl x1), some (.inl x2), some (.inl x3), some (.inl x4), some (.inl x5)]) (st' := [.inr (.inr 50)]) dX8_breaks_98 rfl ?_
    refine ev_getA (pc' := 102) (z := 59) dX8_breaks_99 rfl rfl rfl rfl ?_
    refine ev_cst (v := 2) (pc' := 103) dX8_breaks_102 (by decide) rfl ?_
    refine ev_p (pc' := 105) (ls' := [some (.inr (.inr 50)), some (.inl x1), some (.inl x2), some (.inl x3), some (.inl x4), some (.inl x5)]) (st' := [.inl x5, .inl 2, .inr (.inr 59)]) dX8_breaks_103 rfl ?_
    refine ev_p (pc' := 107) (ls' := [some (.inr (.inr 50)), some (.inl x1), some (.inl x2), some (.inl x3), some (.inl x4), some (.inl x5)]) (st' := [.inl x4, .inl x5, .inl 2, .inr (.inr 59)]) dX8_breaks_105 rfl ?_
    refine ev_divR (pc' := 108) dX8_breaks_107 k.1 rfl ?_
    have k := k.2
    refine ev_stor (pc' := 109) (z := (x5 - x5 / x4 * x4)) rfl dX8_breaks_108 rfl rfl k.1 rfl rfl ?_
    have k := k.2
    refine ev_p (pc' := 110) (ls' := [some (.inr (.inr 50)), some (.inl x1), some (.inl x2), some (.inl x3), some (.inl x4), some (.inl x5)]) (st' := [.inr (.inr 50)]) dX8_breaks_109 rfl ?_
    refine ev_p (pc' := 111) (ls' := [some (.inr (.inr 50)), some (.inl x1), some (.inl x2), some (.inl x3), some (.inl x4), some (.inl x5)]) (st' := [.inl x1, .inr (.inr 50)]) dX8_breaks_110 rfl ?_
    refine ev_call (y := 100) (as := [.inr (.inr 50), .inl x1]) (r := []) (M' := mX8_isBroken) (pc' := 114) dX8_breaks_111 rfl rfl ⟨rfl, rfl⟩ rfl k rfl (fun v τ1 hq => ?_)
    obtain ⟨r2, hv, k⟩ := hq
    rw [hv]
    change ev mX8_breaks 114 [some (.inr (.inr 50)), some (.inl x1), some (.inl x2), some (.inl x3), some (.inl x4), some (.inl x5)] [.inl r2] τ1 _
    refine ev_if_eq (tgt := 119) (pc' := 117) dX8_breaks_114 (by decide) rfl (fun h2 => ?_) (fun h2 => ?_)
    · have k := k.1 h2
      refine ev_p (pc' := 122) (ls' := [some (.inr (.inr 50)), some (.inl x1), some (.inl x2), some (.inl x3), some (.inl x4), some (.inl (x5 + 1))]) (st' := []) dX8_breaks_119 rfl ?_
      refine ev_go (tgt := 61) dX8_breaks_122 (by decide) ?_
      exact k
    · have k := k.2 h2
      refine ev_cst (v := 1) (pc' := 118) dX8_breaks_117 (by decide) rfl ?_
      exact ev_retZ dX8_breaks_118 rfl rfl k
set_option maxRecDepth 20000 in
theorem s_X8_isBroken_0 {σ : ab_M} {Q : Option ab_V → ab_M → Prop} {x1 : Int32}
    (k : ab_in x1 9 = true ∧ ev mX8_isBroken 16 [some (.inr (.inr 50)), some (.inl x1), some (.inl 1), some (.inl (((ab_upd σ 50 18 0) 54 x1.toNatClampNeg) - 1)), none] [] (ab_upd σ 50 18 0) Q) :
    ev mX8_isBroken 0 [some (.inr (.inr 50)), some (.inl x1), none, none, none] [] σ Q := by
  refine ev_p (pc' := 1) (ls' := [some (.inr (.inr 50)), some (.inl x1), none, none, none]) (st' := [.inr (.inr 50)]) dX8_isBroken_0 rfl ?_
  refine ev_cst (v := 0) (pc' := 2) dX8_isBroken_1 (by decide) rfl ?_
  refine ev_putI (pc' := 5) dX8_isBroken_2 rfl rfl rfl rfl rfl rfl ?_
  refine ev_cst (v := 1) (pc' := 6) dX8_isBroken_5 (by decide) rfl ?_
  refine ev_p (pc' := 7) (ls' := [some (.inr (.inr 50)), some (.inl x1), some (.inl 1), none, none]) (st' := []) dX8_isBroken_6 rfl ?_
  refine ev_p (pc' := 8) (ls' := [some (.inr (.inr 50)), some (.inl x1), some (.inl 1), none, none]) (st' := [.inr (.inr 50)]) dX8_isBroken_7 rfl ?_
  refine ev_getA (pc' := 11) (z := 54) dX8_isBroken_8 rfl rfl rfl rfl ?_
  refine ev_p (pc' := 12) (ls' := [some (.inr (.inr 50)), some (.inl x1), some (.inl 1), none, none]) (st' := [.inl x1, .inr (.inr 54)]) dX8_isBroken_11 rfl ?_
  refine ev_load (pc' := 13) rfl dX8_isBroken_12 rfl rfl k.1 rfl ?_
  have k := k.2
  refine ev_cst (v := 1) (pc' := 14) dX8_isBroken_13 (by decide) rfl ?_
  refine ev_p (pc' := 15) (ls' := [some (.inr (.inr 50)), some (.inl x1), some (.inl 1), none, none]) (st' := [.inl (((ab_upd σ 50 18 0) 54 x1.toNatClampNeg) - 1)]) dX8_isBroken_14 rfl ?_
  refine ev_p (pc' := 16) (ls' := [some (.inr (.inr 50)), some (.inl x1), some (.inl 1), some (.inl (((ab_upd σ 50 18 0) 54 x1.toNatClampNeg) - 1)), none]) (st' := []) dX8_isBroken_15 rfl ?_
  exact k
set_option maxRecDepth 20000 in
theorem s_X8_isBroken_16 {σ : ab_M} {Q : Option ab_V → ab_M → Prop} {x1 : Int32} {x2 : Int32} {x3 : Int32} {o4 : Option ab_V}
    (k : ((x3 < 0 → ((x2 = 0 → Q (some (.inl 0)) σ) ∧ (¬ x2 = 0 → ab_in 0 61 = true ∧ (((σ 61 (0 : Int32).toNatClampNeg) = 0 → Q (some (.inl 1)) σ) ∧ (¬ (σ 61 (0 : Int32).toNatClampNeg) = 0 → Q (some (.inl 0)) σ))))) ∧ (¬ x3 < 0 → ((x2 = 0 → ((x2 = 0 → Q (some (.inl 0)) σ) ∧ (¬ x2 = 0 → ab_in 0 61 = true ∧ (((σ 61 (0 : Int32).toNatClampNeg) = 0 → Q (some (.inl 1)) σ) ∧ (¬ (σ 61 (0 : Int32).toNatClampNeg) = 0 → Q (some (.inl 0)) σ))))) ∧ (¬ x2 = 0 → ab_in ((60 * x1) + x3) 540 = true ∧ (((σ 53 ((60 * x1) + x3).toNatClampNeg) = 124 → ab_in 0 61 = true ∧ (((σ 61 (0 : Int32).toNatClampNeg) = 0 → ev mX8_isBroken 16 [some (.inr (.inr 50)), some (.inl x1), some (.inl 1), some (.inl (x3 + (-1))), some (.inl (σ 53 ((60 * x1) + x3).toNatClampNeg))] [] (ab_upd σ 50 18 0) Q) ∧ (¬ (σ 61 (0 : Int32).toNatClampNeg) = 0 → ev mX8_isBroken 16 [some (.inr (.inr 50)), some (.inl x1), some (.inl 0), some (.inl (x3 + (-1))), some (.inl (σ 53 ((60 * x1) + x3).toNatClampNeg))] [] (ab_upd σ 50 18 0) Q))) ∧ (¬ (σ 53 ((60 * x1) + x3).toNatClampNeg) = 124 → evm mX8_step [.inr (.inr 50), .inl (σ 53 ((60 * x1) + x3).toNatClampNeg)] σ (fun v τ1 => v = none ∧ ev mX8_isBroken 16 [some (.inr (.inr 50)), some (.inl x1), some (.inl x2), some (.inl (x3 + (-1))), some (.inl (σ 53 ((60 * x1) + x3).toNatClampNeg))] [] τ1 Q)))))))) :
    ev mX8_isBroken 16 [some (.inr (.inr 50)), some (.inl x1), some (.inl x2), some (.inl x3), o4] [] σ Q := by
  refine ev_p (pc' := 17) (ls' := [some (.inr (.inr 50)), some (.inl x1), some (.inl x2), some (.inl x3), o4]) (st' := [.inl x3]) dX8_isBroken_16 rfl ?_
  refine ev_if_lt (tgt := 79) (pc' := 20) dX8_isBroken_17 (by decide) rfl (fun h1 => ?_) (fun h1 => ?_)
  · have k := k.1 h1
    refine ev_p (pc' := 80) (ls' := [some (.inr (.inr 50)), some (.inl x1), some (.inl x2), some (.inl x3), o4]) (st' := [.inl x2]) dX8_isBroken_79 rfl ?_
    refine ev_if_eq (tgt := 96) (pc' := 83) dX8_isBroken_80 (by decide) rfl (fun h2 => ?_) (fun h2 => ?_)
    · have k := k.1 h2
      refine ev_cst (v := 0) (pc' := 97) dX8_isBroken_96 (by decide) rfl ?_
      exact ev_retZ dX8_isBroken_97 rfl rfl k
    · have k := k.2 h2
      refine ev_p (pc' := 84) (ls' := [some (.inr (.inr 50)), some (.inl x1), some (.inl x2), some (.inl x3), o4]) (st' := [.inr (.inr 50)]) dX8_isBroken_83 rfl ?_
      refine ev_getA (pc' := 87) (z := 61) dX8_isBroken_84 rfl rfl rfl rfl ?_
      refine ev_cst (v := 0) (pc' := 88) dX8_isBroken_87 (by decide) rfl ?_
      refine ev_load (pc' := 89) rfl dX8_isBroken_88 rfl rfl k.1 rfl ?_
      have k := k.2
      refine ev_if_ne (tgt := 96) (pc' := 92) dX8_isBroken_89 (by decide) rfl (fun h3 => ?_) (fun h3 => ?_)
      · have k := k.2 h3
        refine ev_cst (v := 0) (pc' := 97) dX8_isBroken_96 (by decide) rfl ?_
        exact ev_retZ dX8_isBroken_97 rfl rfl k
      · have k := k.1 h3
        refine ev_cst (v := 1) (pc' := 93) dX8_isBroken_92 (by decide) rfl ?_
        refine ev_go (tgt := 97) dX8_isBroken_93 (by decide) ?_
        exact ev_retZ dX8_isBroken_97 rfl rfl k
  · have k := k.2 h1
    refine ev_p (pc' := 21) (ls' := [some (.inr (.inr 50)), some (.inl x1), some (.inl x2), some (.inl x3), o4]) (st' := [.inl x2]) dX8_isBroken_20 rfl ?_
    refine ev_if_eq (tgt := 79) (pc' := 24) dX8_isBroken_21 (by decide) rfl (fun h4 => ?_) (fun h4 => ?_)
    · have k := k.1 h4
      refine ev_p (pc' := 80) (ls' := [some (.inr (.inr 50)), some (.inl x1), some (.inl x2), some (.inl x3), o4]) (st' := [.inl x2]) dX8_isBroken_79 rfl ?_
      refine ev_if_eq (tgt := 96) (pc' := 83) dX8_isBroken_80 (by decide) rfl (fun h5 => ?_) (fun h5 => ?_)
      · have k := k.1 h5
        refine ev_cst (v := 0) (pc' := 97) dX8_isBroken_96 (by decide) rfl ?_
        exact ev_retZ dX8_isBroken_97 rfl rfl k
      · have k := k.2 h5
        refine ev_p (pc' := 84) (ls' := [some (.inr (.inr 50)), some (.inl x1), some (.inl x2), some (.inl x3), o4]) (st' := [.inr (.inr 50)]) dX8_isBroken_83 rfl ?_
        refine ev_getA (pc' := 87) (z := 61) dX8_isBroken_84 rfl rfl rfl rfl ?_
        refine ev_cst (v := 0) (pc' := 88) dX8_isBroken_87 (by decide) rfl ?_
        refine ev_load (pc' := 89) rfl dX8_isBroken_88 rfl rfl k.1 rfl ?_
        have k := k.2
        refine ev_if_ne (tgt := 96) (pc' := 92) dX8_isBroken_89 (by decide) rfl (fun h6 => ?_) (fun h6 => ?_)
        · have k := k.2 h6
          refine ev_cst (v := 0) (pc' := 97) dX8_isBroken_96 (by decide) rfl ?_
          exact ev_retZ dX8_isBroken_97 rfl rfl k
        · have k := k.1 h6
          refine ev_cst (v := 1) (pc' := 93) dX8_isBroken_92 (by decide) rfl ?_
          refine ev_go (tgt := 97) dX8_isBroken_93 (by decide) ?_
          exact ev_retZ dX8_isBroken_97 rfl rfl k
    · have k := k.2 h4
      refine ev_p (pc' := 25) (ls' := [some (.inr (.inr 50)), some (.inl x1), some (.inl x2), some (.inl x3), o4]) (st' := [.inr (.inr 50)]) dX8_isBroken_24 rfl ?_
      refine ev_getA (pc' := 28) (z := 53) dX8_isBroken_25 rfl rfl rfl rfl ?_
      refine ev_cst (v := 60) (pc' := 30) dX8_isBroken_28 (by decide) rfl ?_
      refine ev_p (pc' := 31) (ls' := [some (.inr (.inr 50)), some (.inl x1), some (.inl x2), some (.inl x3), o4]) (st' := [.inl x1, .inl 60, .inr (.inr 53)]) dX8_isBroken_30 rfl ?_
      refine ev_p (pc' := 32) (ls' := [some (.inr (.inr 50)), some (.inl x1), some (.inl x2), some (.inl x3), o4]) (st' := [.inl (60 * x1), .inr (.inr 53)]) dX8_isBroken_31 rfl ?_
      refine ev_p (pc' := 33) (ls' := [some (.inr (.inr 50)), some (.inl x1), some (.inl x2), some (.inl x3), o4]) (st' := [.inl x3, .inl (60 * x1), .inr (.inr 53)]) dX8_isBroken_32 rfl ?_
      refine ev_p (pc' := 34) (ls' := [some (.inr (.inr 50)), some (.inl x1), some (.inl x2), some (.inl x3), o4]) (st' := [.inl ((60 * x1) + x3), .inr (.inr 53)]) dX8_isBroken_33 rfl ?_
      refine ev_load (pc' := 35) rfl dX8_isBroken_34 rfl rfl k.1 rfl ?_
      have k := k.2
      refine ev_p (pc' := 37) (ls' := [some (.inr (.inr 50)), some (.inl x1), some (.inl x2), some (.inl x3), some (.inl (σ 53 ((60 * x1) + x3).toNatClampNeg))]) (st' := []) dX8_isBroken_35 rfl ?_
      refine ev_p (pc' := 39) (ls' := [some (.inr (.inr 50)), some (.inl x1), some (.inl x2), some (.inl x3), some (.inl (σ 53 ((60 * x1) + x3).toNatClampNeg))]) (st' := [.inl (σ 53 ((60 * x1) + x3).toNatClampNeg)]) dX8_isBroken_37 rfl ?_
      refine ev_cst (v := 124) (pc' := 41) dX8_isBroken_39 (by decide) rfl ?_
      refine ev_ic_ne (tgt := 67) (pc' := 44) dX8_isBroken_41 (by decide) rfl (fun h7 => ?_) (fun h7 => ?_)
      · have k := k.2 h7
        refine ev_p (pc' := 68) (ls' := [some (.inr (.inr 50)), some (.inl x1), some (.inl x2), some (.inl x3), some (.inl (σ 53 ((60 * x1) + x3).toNatClampNeg))]) (st' := [.inr (.inr 50)]) dX8_isBroken_67 rfl ?_
        refine ev_p (pc' := 70) (ls' := [some (.inr (.inr 50)), some (.inl x1), some (.inl x2), some (.inl x3), some (.inl (σ 53 ((60 * x1) + x3).toNatClampNeg))]) (st' := [.inl (σ 53 ((60 * x1) + x3).toNatClampNeg), .inr (.inr 50)]) dX8_isBroken_68 rfl ?_
        refine ev_call (y := 101) (as := [.inr (.inr 50), .inl (σ 53 ((60 * x1) + x3).toNatClampNeg)]) (r := []) (M' := mX8_step) (pc' := 73) dX8_isBroken_70 rfl rfl ⟨rfl, rfl⟩ rfl k rfl (fun v τ1 hq => ?_)
        obtain ⟨hv, k⟩ := hq
        rw [hv]
        change ev mX8_isBroken 73 [some (.inr (.inr 50)), some (.inl x1), some (.inl x2), some (.inl x3), some (.inl (σ 53 ((60 * x1) + x3).toNatClampNeg))] [] τ1 _
        refine ev_p (pc' := 76) (ls' := [some (.inr (.inr 50)), some (.inl x1), some (.inl x2), some (.inl (x3 + (-1))), some (.inl (σ 53 ((60 * x1) + x3).toNatClampNeg))]) (st' := []) dX8_isBroken_73 rfl ?_
        refine ev_go (tgt := 16) dX8_isBroken_76 (by decide) ?_
        exact k
      · have k := k.1 h7
        refine ev_p (pc' := 45) (ls' := [some (.inr (.inr 50)), some (.inl x1), some (.inl x2), some (.inl x3), some (.inl (σ 53 ((60 * x1) + x3).toNatClampNeg))]) (st' := [.inr (.inr 50)]) dX8_isBroken_44 rfl ?_
        refine ev_getA (pc' := 48) (z := 61) dX8_isBroken_45 rfl rfl rfl rfl ?_
        refine ev_cst (v := 0) (pc' := 49) dX8_isBroken_48 (by decide) rfl ?_
        refine ev_load (pc' := 50) rfl dX8_isBroken_49 rfl rfl k.1 rfl ?_
        have k := k.2
        refine ev_if_ne (tgt := 57) (pc' := 53) dX8_isBroken_50 (by decide) rfl (fun h8 => ?_) (fun h8 => ?_)
        · have k := k.2 h8
          refine ev_cst (v := 0) (pc' := 58) dX8_isBroken_57 (by decide) rfl ?_
          refine ev_p (pc' := 59) (ls' := [some (.inr (.inr 50)), some (.inl x1), some (.inl 0), some (.inl x3), some (.inl (σ 53 ((60 * x1) + x3).toNatClampNeg))]) (st' := []) dX8_isBroken_58 rfl ?_
          refine ev_p (pc' := 60) (ls' := [some (.inr (.inr 50)), some (.inl x1), some (.inl 0), some (.inl x3), some (.inl (σ 53 ((60 * x1) + x3).toNatClampNeg))]) (st' := [.inr (.inr 50)]) dX8_isBroken_59 rfl ?_
          refine ev_cst (v := 0) (pc' := 61) dX8_isBroken_60 (by decide) rfl ?_
          refine ev_putI (pc' := 64) dX8_isBroken_61 rfl rfl rfl rfl rfl rfl ?_
          refine ev_go (tgt := 73) dX8_isBroken_64 (by decide) ?_
          refine ev_p (pc' := 76) (ls' := [some (.inr (.inr 50)), some (.inl x1), some (.inl 0), some (.inl (x3 + (-1))), some (.inl (σ 53 ((60 * x1) + x3).toNatClampNeg))]) (st' := []) dX8_isBroken_73 rfl ?_
          refine ev_go (tgt := 16) dX8_isBroken_76 (by decide) ?_
          exact k
        · have k := k.1 h8
          refine ev_cst (v := 1) (pc' := 54) dX8_isBroken_53 (by decide) rfl ?_
          refine ev_go (tgt := 58) dX8_isBroken_54 (by decide) ?_
          refine ev_p (pc' := 59) (ls' := [some (.inr (.inr 50)), some (.inl x1), some (.inl 1), some (.inl x3), some (.inl (σ 53 ((60 * x1) + x3).toNatClampNeg))]) (st' := []) dX8_isBroken_58 rfl ?_
          refine ev_p (pc' := 60) (ls' := [some (.inr (.inr 50)), some (.inl x1), some (.inl 1), some (.inl x3), some (.inl (σ 53 ((60 * x1) + x3).toNatClampNeg))]) (st' := [.inr (.inr 50)]) dX8_isBroken_59 rfl ?_
          refine ev_cst (v := 0) (pc' := 61) dX8_isBroken_60 (by decide) rfl ?_
          refine ev_putI (pc' := 64) dX8_isBroken_61 rfl rfl rfl rfl rfl rfl ?_
          refine ev_go (tgt := 73) dX8_isBroken_64 (by decide) ?_
          refine ev_p (pc' := 76) (ls' := [some (.inr (.inr 50)), some (.inl x1), some (.inl 1), some (.inl (x3 + (-1))), some (.inl (σ 53 ((60 * x1) + x3).toNatClampNeg))]) (st' := []) dX8_isBroken_73 rfl ?_
          refine ev_go (tgt := 16) dX8_isBroken_76 (by decide) ?_
          exact k
set_option maxRecDepth 20000 in
theorem s_X8_step_0 {σ : ab_M} {Q : Option ab_V → ab_M → Prop} {x1 : Int32}
    (k : evm mX8_symbolOf [.inl x1] σ (fun v τ1 => ∃ r2 : Int32, v = some (.inl r2) ∧ ((x1 < 120 → ((r2 < 0 → ((x1 = 61 → ab_in ((ab_upd τ1 50 18 ((τ1 50 18) - 2)) 50 18) 61 = true ∧ ab_in (((ab_upd τ1 50 18 ((τ1 50 18) - 2)) 50 18) + 1) 61 = true ∧ ((((ab_upd τ1 50 18 ((τ1 50 18) - 2)) 61 ((ab_upd τ1 50 18 ((τ1 50 18) - 2)) 50 18).toNatClampNeg) < 0 → ab_in ((ab_upd τ1 50 18 ((τ1 50 18) - 2)) 50 18) 61 = true ∧ Q none (ab_upd (ab_upd (ab_upd τ1 50 18 ((τ1 50 18) - 2)) 61 ((ab_upd τ1 50 18 ((τ1 50 18) - 2)) 50 18).toNatClampNeg (-1)) 50 18 (((ab_upd (ab_upd τ1 50 18 ((τ1 50 18) - 2)) 61 ((ab_upd τ1 50 18 ((τ1 50 18) - 2)) 50 18).toNatClampNeg (-1)) 50 18) + 1))) ∧ (¬ ((ab_upd τ1 50 18 ((τ1 50 18) - 2)) 61 ((ab_upd τ1 50 18 ((τ1 50 18) - 2)) 50 18).toNatClampNeg) < 0 → ((0 ≤ ((ab_upd τ1 50 18 ((τ1 50 18) - 2)) 61 (((ab_upd τ1 50 18 ((τ1 50 18) - 2)) 50 18) + 1).toNatClampNeg) → ((((ab_upd τ1 50 18 ((τ1 50 18) - 2)) 61 ((ab_upd τ1 50 18 ((τ1 50 18) - 2)) 50 18).toNatClampNeg) = ((ab_upd τ1 50 18 ((τ1 50 18) - 2)) 61 (((ab_upd τ1 50 18 ((τ1 50 18) - 2)) 50 18) + 1).toNatClampNeg) → ab_in ((ab_upd τ1 50 18 ((τ1 50 18) - 2)) 50 18) 61 = true ∧ Q none (ab_upd (ab_upd (ab_upd τ1 50 18 ((τ1 50 18) - 2)) 61 ((ab_upd τ1 50 18 ((τ1 50 18) - 2)) 50 18).toNatClampNeg 1) 50 18 (((ab_upd (ab_upd τ1 50 18 ((τ1 50 18) - 2)) 61 ((ab_upd τ1 50 18 ((τ1 50 18) - 2)) 50 18).toNatClampNeg 1) 50 18) + 1))) ∧ (¬ ((ab_upd τ1 50 18 ((τ1 50 18) - 2)) 61 ((ab_upd τ1 50 18 ((τ1 50 18) - 2)) 50 18).toNatClampNeg) = ((ab_upd τ1 50 18 ((τ1 50 18) - 2)) 61 (((ab_upd τ1 50 18 ((τ1 50 18) - 2)) 50 18) + 1).toNatClampNeg) → ab_in ((ab_upd τ1 50 18 ((τ1 50 18) - 2)) 50 18) 61 = true ∧ Q none (ab_upd (ab_upd (ab_upd τ1 50 18 ((τ1 50 18) - 2)) 61 ((ab_upd τ1 50 18 ((τ1 50 18) - 2)) 50 18).toNatClampNeg 0) 50 18 (((ab_upd (ab_upd τ1 50 18 ((τ1 50 18) - 2)) 61 ((ab_upd τ1 50 18 ((τ1 50 18) - 2)) 50 18).toNatClampNeg 0) 50 18) + 1))))) ∧ (¬ 0 ≤ ((ab_upd τ1 50 18 ((τ1 50 18) - 2)) 61 (((ab_upd τ1 50 18 ((τ1 50 18) - 2)) 50 18) + 1).toNatClampNeg) → ab_in ((ab_upd τ1 50 18 ((τ1 50 18) - 2)) 50 18) 61 = true ∧ Q none (ab_upd (ab_upd (ab_upd τ1 50 18 ((τ1 50 18) - 2)) 61 ((ab_upd τ1 50 18 ((τ1 50 18) - 2)) 50 18).toNatClampNeg (-1)) 50 18 (((ab_upd (ab_upd τ1 50 18 ((τ1 50 18) - 2)) 61 ((ab_upd τ1 50 18 ((τ1 50 18) - 2)) 50 18).toNatClampNeg (-1)) 50 18) + 1))))))) ∧ (¬ x1 = 61 → ab_in ((ab_upd τ1 50 18 ((τ1 50 18) - 1)) 50 18) 61 = true ∧ ((0 ≤ ((ab_upd τ1 50 18 ((τ1 50 18) - 1)) 61 ((ab_upd τ1 50 18 ((τ1 50 18) - 1)) 50 18).toNatClampNeg) → ab_in ((ab_upd τ1 50 18 ((τ1 50 18) - 1)) 50 18) 61 = true ∧ ab_in ((ab_upd τ1 50 18 ((τ1 50 18) - 1)) 50 18) 61 = true ∧ Q none (ab_upd (ab_upd (ab_upd τ1 50 18 ((τ1 50 18) - 1)) 61 ((ab_upd τ1 50 18 ((τ1 50 18) - 1)) 50 18).toNatClampNeg (1 - ((ab_upd τ1 50 18 ((τ1 50 18) - 1)) 61 ((ab_upd τ1 50 18 ((τ1 50 18) - 1)) 50 18).toNatClampNeg))) 50 18 (((ab_upd (ab_upd τ1 50 18 ((τ1 50 18) - 1)) 61 ((ab_upd τ1 50 18 ((τ1 50 18) - 1)) 50 18).toNatClampNeg (1 - ((ab_upd τ1 50 18 ((τ1 50 18) - 1)) 61 ((ab_upd τ1 50 18 ((τ1 50 18) - 1)) 50 18).toNatClampNeg))) 50 18) + 1))) ∧ (¬ 0 ≤ ((ab_upd τ1 50 18 ((τ1 50 18) - 1)) 61 ((ab_upd τ1 50 18 ((τ1 50 18) - 1)) 50 18).toNatClampNeg) → ab_in ((ab_upd τ1 50 18 ((τ1 50 18) - 1)) 50 18) 61 = true ∧ Q none (ab_upd (ab_upd (ab_upd τ1 50 18 ((τ1 50 18) - 1)) 61 ((ab_upd τ1 50 18 ((τ1 50 18) - 1)) 50 18).toNatClampNeg (-1)) 50 18 (((ab_upd (ab_upd τ1 50 18 ((τ1 50 18) - 1)) 61 ((ab_upd τ1 50 18 ((τ1 50 18) - 1)) 50 18).toNatClampNeg (-1)) 50 18) + 1))))))) ∧ (¬ r2 < 0 → evm mX8_cell [.inr (.inr 50), .inl r2] τ1 (fun v τ3 => ∃ r4 : Int32, v = some (.inl r4) ∧ ab_in (τ3 50 18) 61 = true ∧ Q none (ab_upd (ab_upd τ3 61 (τ3 50 18).toNatClampNeg r4) 50 18 (((ab_upd τ3 61 (τ3 50 18).toNatClampNeg r4) 50 18) + 1)))))) ∧ (¬ x1 < 120 → ((122 < x1 → ((r2 < 0 → ((x1 = 61 → ab_in ((ab_upd τ1 50 18 ((τ1 50 18) - 2)) 50 18) 61 = true ∧ ab_in (((ab_upd τ1 50 18 ((τ1 50 18) - 2)) 50 18) + 1) 61 = true ∧ ((((ab_upd τ1 50 18 ((τ1 50 18) - 2)) 61 ((ab_upd τ1 50 18 ((τ1 50 18) - 2)) 50 18).toNatClampNeg) < 0 → ab_in ((ab_upd τ1 50 18 ((τ1 50 18) - 2)) 50 18) 61 = true ∧ Q none (ab_upd (ab_upd (ab_upd τ1 50 18 ((τ1 50 18) - 2)) 61 ((ab_upd τ1 50 18 ((τ1 50 18) - 2)) 50 18).toNatClampNeg (-1)) 50 18 (((ab_upd (ab_upd τ1 50 18 ((τ1 50 18) - 2)) 61 ((ab_upd τ1 50 18 ((τ1 50 18) - 2)) 50 18).toNatClampNeg (-1)) 50 18) + 1))) ∧ (¬ ((ab_upd τ1 50 18 ((τ1 50 18) - 2)) 61 ((ab_upd τ1 50 18 ((τ1 50 18) - 2)) 50 18).toNatClampNeg) < 0 → ((0 ≤ ((ab_upd τ1 50 18 ((τ1 50 18) - 2)) 61 (((ab_upd τ1 50 18 ((τ1 50 18) - 2)) 50 18) + 1).toNatClampNeg) → ((((ab_upd τ1 50 18 ((τ1 50 18) - 2)) 61 ((ab_upd τ1 50 18 ((τ1 50 18) - 2)) 50 18).toNatClampNeg) = ((ab_upd τ1 50 18 ((τ1 50 18) - 2)) 61 (((ab_upd τ1 50 18 ((τ1 50 18) - 2)) 50 18) + 1).toNatClampNeg) → ab_in ((ab_upd τ1 50 18 ((τ1 50 18) - 2)) 50 18) 61 = true ∧ Q none (ab_upd (ab_upd (ab_upd τ1 50 18 ((τ1 50 18) - 2)) 61 ((ab_upd τ1 50 18 ((τ1 50 18) - 2)) 50 18).toNatClampNeg 1) 50 18 (((ab_upd (ab_upd τ1 50 18 ((τ1 50 18) - 2)) 61 ((ab_upd τ1 50 18 ((τ1 50 18) - 2)) 50 18).toNatClampNeg 1) 50 18) + 1))) ∧ (¬ ((ab_upd τ1 50 18 ((τ1 50 18) - 2)) 61 ((ab_upd τ1 50 18 ((τ1 50 18) - 2)) 50 18).toNatClampNeg) = ((ab_upd τ1 50 18 ((τ1 50 18) - 2)) 61 (((ab_upd τ1 50 18 ((τ1 50 18) - 2)) 50 18) + 1).toNatClampNeg) → ab_in ((ab_upd τ1 50 18 ((τ1 50 18) - 2)) 50 18) 61 = true ∧ Q none (ab_upd (ab_upd (ab_upd τ1 50 18 ((τ1 50 18) - 2)) 61 ((ab_upd τ1 50 18 ((τ1 50 18) - 2)) 50 18).toNatClampNeg 0) 50 18 (((ab_upd (ab_upd τ1 50 18 ((τ1 50 18) - 2)) 61 ((ab_upd τ1 50 18 ((τ1 50 18) - 2)) 50 18).toNatClampNeg 0) 50 18) + 1))))) ∧ (¬ 0 ≤ ((ab_upd τ1 50 18 ((τ1 50 18) - 2)) 61 (((ab_upd τ1 50 18 ((τ1 50 18) - 2)) 50 18) + 1).toNatClampNeg) → ab_in ((ab_upd τ1 50 18 ((τ1 50 18) - 2)) 50 18) 61 = true ∧ Q none (ab_upd (ab_upd (ab_upd τ1 50 18 ((τ1 50 18) - 2)) 61 ((ab_upd τ1 50 18 ((τ1 50 18) - 2)) 50 18).toNatClampNeg (-1)) 50 18 (((ab_upd (ab_upd τ1 50 18 ((τ1 50 18) - 2)) 61 ((ab_upd τ1 50 18 ((τ1 50 18) - 2)) 50 18).toNatClampNeg (-1)) 50 18) + 1))))))) ∧ (¬ x1 = 61 → ab_in ((ab_upd τ1 50 18 ((τ1 50 18) - 1)) 50 18) 61 = true ∧ ((0 ≤ ((ab_upd τ1 50 18 ((τ1 50 18) - 1)) 61 ((ab_upd τ1 50 18 ((τ1 50 18) - 1)) 50 18).toNatClampNeg) → ab_in ((ab_upd τ1 50 18 ((τ1 50 18) - 1)) 50 18) 61 = true ∧ ab_in ((ab_upd τ1 50 18 ((τ1 50 18) - 1)) 50 18) 61 = true ∧ Q none (ab_upd (ab_upd (ab_upd τ1 50 18 ((τ1 50 18) - 1)) 61 ((ab_upd τ1 50 18 ((τ1 50 18) - 1)) 50 18).toNatClampNeg (1 - ((ab_upd τ1 50 18 ((τ1 50 18) - 1)) 61 ((ab_upd τ1 50 18 ((τ1 50 18) - 1)) 50 18).toNatClampNeg))) 50 18 (((ab_upd (ab_upd τ1 50 18 ((τ1 50 18) - 1)) 61 ((ab_upd τ1 50 18 ((τ1 50 18) - 1)) 50 18).toNatClampNeg (1 - ((ab_upd τ1 50 18 ((τ1 50 18) - 1)) 61 ((ab_upd τ1 50 18 ((τ1 50 18) - 1)) 50 18).toNatClampNeg))) 50 18) + 1))) ∧ (¬ 0 ≤ ((ab_upd τ1 50 18 ((τ1 50 18) - 1)) 61 ((ab_upd τ1 50 18 ((τ1 50 18) - 1)) 50 18).toNatClampNeg) → ab_in ((ab_upd τ1 50 18 ((τ1 50 18) - 1)) 50 18) 61 = true ∧ Q none (ab_upd (ab_upd (ab_upd τ1 50 18 ((τ1 50 18) - 1)) 61 ((ab_upd τ1 50 18 ((τ1 50 18) - 1)) 50 18).toNatClampNeg (-1)) 50 18 (((ab_upd (ab_upd τ1 50 18 ((τ1 50 18) - 1)) 61 ((ab_upd τ1 50 18 ((τ1 50 18) - 1)) 50 18).toNatClampNeg (-1)) 50 18) + 1))))))) ∧ (¬ r2 < 0 → evm mX8_cell [.inr (.inr 50), .inl r2] τ1 (fun v τ3 => ∃ r4 : Int32, v = some (.inl r4) ∧ ab_in (τ3 50 18) 61 = true ∧ Q none (ab_upd (ab_upd τ3 61 (τ3 50 18).toNatClampNeg r4) 50 18 (((ab_upd τ3 61 (τ3 50 18).toNatClampNeg r4) 50 18) + 1)))))) ∧ (¬ 122 < x1 → ab_in (x1 - 120) 3 = true ∧ ab_in (τ1 50 18) 61 = true ∧ Q none (ab_upd (ab_upd τ1 61 (τ1 50 18).toNatClampNeg (τ1 59 (x1 - 120).toNatClampNeg)) 50 18 (((ab_upd τ1 61 (τ1 50 18).toNatClampNeg (τ1 59 (x1 - 120).toNatClampNeg)) 50 18) + 1)))))))) :
    ev mX8_step 0 [some (.inr (.inr 50)), some (.inl x1), none, none, none] [] σ Q := by
  refine ev_p (pc' := 1) (ls' := [some (.inr (.inr 50)), some (.inl x1), none, none, none]) (st' := [.inl x1]) dX8_step_0 rfl ?_
  refine ev_call (y := 85) (as := [.inl x1]) (r := []) (M' := mX8_symbolOf) (pc' := 4) dX8_step_1 rfl rfl ⟨rfl, rfl⟩ rfl k rfl (fun v τ1 hq => ?_)
  obtain ⟨r2, hv, k⟩ := hq
  rw [hv]
  change ev mX8_step 4 [some (.inr (.inr 50)), some (.inl x1), none, none, none] [.inl r2] τ1 _
  refine ev_p (pc' := 5) (ls' := [some (.inr (.inr 50)), some (.inl x1), some (.inl r2), none, none]) (st' := []) dX8_step_4 rfl ?_
  refine ev_p (pc' := 6) (ls' := [some (.inr (.inr 50)), some (.inl x1), some (.inl r2), none, none]) (st' := [.inl x1]) dX8_step_5 rfl ?_
  refine ev_cst (v := 120) (pc' := 8) dX8_step_6 (by decide) rfl ?_
  refine ev_ic_lt (tgt := 38) (pc' := 11) dX8_step_8 (by decide) rfl (fun h1 => ?_) (fun h1 => ?_)
  · have k := k.1 h1
    refine ev_p (pc' := 39) (ls' := [some (.inr (.inr 50)), some (.inl x1), some (.inl r2), none, none]) (st' := [.inl r2]) dX8_step_38 rfl ?_
    refine ev_if_lt (tgt := 61) (pc' := 42) dX8_step_39 (by decide) rfl (fun h2 => ?_) (fun h2 => ?_)
    · have k := k.1 h2
      refine ev_p (pc' := 62) (ls' := [some (.inr (.inr 50)), some (.inl x1), some (.inl r2), none, none]) (st' := [.inl x1]) dX8_step_61 rfl ?_
      refine ev_cst (v := 61) (pc' := 64) dX8_step_62 (by decide) rfl ?_
      refine ev_ic_ne (tgt := 136) (pc' := 67) dX8_step_64 (by decide) rfl (fun h3 => ?_) (fun h3 => ?_)
      · have k := k.2 h3
        refine ev_p (pc' := 137) (ls' := [some (.inr (.inr 50)), some (.inl x1), some (.inl r2), none, none]) (st' := [.inr (.inr 50)]) dX8_step_136 rfl ?_
        refine ev_p (pc' := 138) (ls' := [some (.inr (.inr 50)), some (.inl x1), some (.inl r2), none, none]) (st' := [.inr (.inr 50), .inr (.inr 50)]) dX8_step_137 rfl ?_
        refine ev_getI (pc' := 141) dX8_step_138 rfl rfl rfl rfl ?_
        refine ev_cst (v := 1) (pc' := 142) dX8_step_141 (by decide) rfl ?_
        refine ev_p (pc' := 143) (ls' := [some (.inr (.inr 50)), some (.inl x1), some (.inl r2), none, none]) (st' := [.inl ((τ1 50 18) - 1), .inr (.inr 50)]) dX8_step_142 rfl ?_
        refine ev_putI (pc' := 146) dX8_step_143 rfl rfl rfl rfl rfl rfl ?_
        refine ev_p (pc' := 147) (ls' := [some (.inr (.inr 50)), some (.inl x1), some (.inl r2), none, none]) (st' := [.inr (.inr 50)]) dX8_step_146 rfl ?_
        refine ev_getA (pc' := 150) (z := 61) dX8_step_147 rfl rfl rfl rfl ?_
        refine ev_p (pc' := 151) (ls' := [some (.inr (.inr 50)), some (.inl x1), some (.inl r2), none, none]) (st' := [.inr (.inr 50), .inr (.inr 61)]) dX8_step_150 rfl ?_
        refine ev_getI (pc' := 154) dX8_step_151 rfl rfl rfl rfl ?_
        refine ev_p (pc' := 155) (ls' := [some (.inr (.inr 50)), some (.inl x1), some (.inl r2), none, none]) (st' := [.inr (.inr 50), .inl ((ab_upd τ1 50 18 ((τ1 50 18) - 1)) 50 18), .inr (.inr 61)]) dX8_step_154 rfl ?_
        refine ev_getA (pc' := 158) (z := 61) dX8_step_155 rfl rfl rfl rfl ?_
        refine ev_p (pc' := 159) (ls' := [some (.inr (.inr 50)), some (.inl x1), some (.inl r2), none, none]) (st' := [.inr (.inr 50), .inr (.inr 61), .inl ((ab_upd τ1 50 18 ((τ1 50 18) - 1)) 50 18), .inr (.inr 61)]) dX8_step_158 rfl ?_
        refine ev_getI (pc' := 162) dX8_step_159 rfl rfl rfl rfl ?_
        refine ev_load (pc' := 163) rfl dX8_step_162 rfl rfl k.1 rfl ?_
        have k := k.2
        refine ev_if_ge (tgt := 170) (pc' := 166) dX8_step_163 (by decide) rfl (fun h4 => ?_) (fun h4 => ?_)
        · have k := k.1 h4
          refine ev_cst (v := 1) (pc' := 171) dX8_step_170 (by decide) rfl ?_
          refine ev_p (pc' := 172) (ls' := [some (.inr (.inr 50)), some (.inl x1), some (.inl r2), none, none]) (st' := [.inr (.inr 50), .inl 1, .inl ((ab_upd τ1 50 18 ((τ1 50 18) - 1)) 50 18), .inr (.inr 61)]) dX8_step_171 rfl ?_
          refine ev_getA (pc' := 175) (z := 61) dX8_step_172 rfl rfl rfl rfl ?_
          refine ev_p (pc' := 176) (ls' := [some (.inr (.inr 50)), some (.inl x1), some (.inl r2), none, none]) (st' := [.inr (.inr 50), .inr (.inr 61), .inl 1, .inl ((ab_upd τ1 50 18 ((τ1 50 18) - 1)) 50 18), .inr (.inr 61)]) dX8_step_175 rfl ?_
          refine ev_getI (pc' := 179) dX8_step_176 rfl rfl rfl rfl ?_
          refine ev_load (pc' := 180) rfl dX8_step_179 rfl rfl k.1 rfl ?_
          have k := k.2
          refine ev_p (pc' := 181) (ls' := [some (.inr (.inr 50)), some (.inl x1), some (.inl r2), none, none]) (st' := [.inl (1 - ((ab_upd τ1 50 18 ((τ1 50 18) - 1)) 61 ((ab_upd τ1 50 18 ((τ1 50 18) - 1)) 50 18).toNatClampNeg)), .inl ((ab_upd τ1 50 18 ((τ1 50 18) - 1)) 50 18), .inr (.inr 61)]) dX8_step_180 rfl ?_
          refine ev_stor (pc' := 182) (z := (1 - ((ab_upd τ1 50 18 ((τ1 50 18) - 1)) 61 ((ab_upd τ1 50 18 ((τ1 50 18) - 1)) 50 18).toNatClampNeg))) rfl dX8_step_181 rfl rfl k.1 rfl rfl ?_
          have k := k.2
          refine ev_p (pc' := 183) (ls' := [some (.inr (.inr 50)), some (.inl x1), some (.inl r2), none, none]) (st' := [.inr (.inr 50)]) dX8_step_182 rfl ?_
          refine ev_p (pc' := 184) (ls' := [some (.inr (.inr 50)), some (.inl x1), some (.inl r2), none, none]) (st' := [.inr (.inr 50), .inr (.inr 50)]) dX8_step_183 rfl ?_
          refine ev_getI (pc' := 187) dX8_step_184 rfl rfl rfl rfl ?_
          refine ev_cst (v := 1) (pc' := 188) dX8_step_187 (by decide) rfl ?_
          refine ev_p (pc' := 189) (ls' := [some (.inr (.inr 50)), some (.inl x1), some (.inl r2), none, none]) (st' := [.inl (((ab_upd (ab_upd τ1 50 18 ((τ1 50 18) - 1)) 61 ((ab_upd τ1 50 18 ((τ1 50 18) - 1)) 50 18).toNatClampNeg (1 - ((ab_upd τ1 50 18 ((τ1 50 18) - 1)) 61 ((ab_upd τ1 50 18 ((τ1 50 18) - 1)) 50 18).toNatClampNeg))) 50 18) + 1), .inr (.inr 50)]) dX8_step_188 rfl ?_
          refine ev_putI (pc' := 192) dX8_step_189 rfl rfl rfl rfl rfl rfl ?_
          exact ev_ret dX8_step_192 rfl k
        · have k := k.2 h4
          refine ev_cst (v := (-1)) (pc' := 167) dX8_step_166 (by decide) rfl ?_
          refine ev_go (tgt := 181) dX8_step_167 (by decide) ?_
          refine ev_stor (pc' := 182) (z := (-1)) rfl dX8_step_181 rfl rfl k.1 rfl rfl ?_
          have k := k.2
          refine ev_p (pc' := 183) (ls' := [some (.inr (.inr 50)), some (.inl x1), some (.inl r2), none, none]) (st' := [.inr (.inr 50)]) dX8_step_182 rfl ?_
          refine ev_p (pc' := 184) (ls' := [some (.inr (.inr 50)), some (.inl x1), some (.inl r2), none, none]) (st' := [.inr (.inr 50), .inr (.inr 50)]) dX8_step_183 rfl ?_
          refine ev_getI (pc' := 187) dX8_step_184 rfl rfl rfl rfl ?_
          refine ev_cst (v := 1) (pc' := 188) dX8_step_187 (by decide) rfl ?_
          refine ev_p (pc' := 189) (ls' := [some (.inr (.inr 50)), some (.inl x1), some (.inl r2), none, none]) (st' := [.inl (((ab_upd (ab_upd τ1 50 18 ((τ1 50 18) - 1)) 61 ((ab_upd τ1 50 18 ((τ1 50 18) - 1)) 50 18).toNatClampNeg (-1)) 50 18) + 1), .inr (.inr 50)]) dX8_step_188 rfl ?_
          refine ev_putI (pc' := 192) dX8_step_189 rfl rfl rfl rfl rfl rfl ?_
          exact ev_ret dX8_step_192 rfl k
      · have k := k.1 h3
        refine ev_p (pc' := 68) (ls' := [some (.inr (.inr 50)), some (.inl x1), some (.inl r2), none, none]) (st' := [.inr (.inr 50)]) dX8_step_67 rfl ?_
        refine ev_p (pc' := 69) (ls' := [some (.inr (.inr 50)), some (.inl x1), some (.inl r2), none, none]) (st' := [.inr (.inr 50), .inr (.inr 50)]) dX8_step_68 rfl ?_
        refine ev_getI (pc' := 72) dX8_step_69 rfl rfl rfl rfl ?_
        refine ev_cst (v := 2) (pc' := 73) dX8_step_72 (by decide) rfl ?_
        refine ev_p (pc' := 74) (ls' := [some (.inr (.inr 50)), some (.inl x1), some (.inl r2), none, none]) (st' := [.inl ((τ1 50 18) - 2), .inr (.inr 50)]) dX8_step_73 rfl ?_
        refine ev_putI (pc' := 77) dX8_step_74 rfl rfl rfl rfl rfl rfl ?_
        refine ev_p (pc' := 78) (ls' := [some (.inr (.inr 50)), some (.inl x1), some (.inl r2), none, none]) (st' := [.inr (.inr 50)]) dX8_step_77 rfl ?_
        refine ev_getA (pc' := 81) (z := 61) dX8_step_78 rfl rfl rfl rfl ?_
        refine ev_p (pc' := 82) (ls' := [some (.inr (.inr 50)), some (.inl x1), some (.inl r2), none, none]) (st' := [.inr (.inr 50), .inr (.inr 61)]) dX8_step_81 rfl ?_
        refine ev_getI (pc' := 85) dX8_step_82 rfl rfl rfl rfl ?_
        refine ev_load (pc' := 86) rfl dX8_step_85 rfl rfl k.1 rfl ?_
        have k := k.2
        refine ev_p (pc' := 87) (ls' := [some (.inr (.inr 50)), some (.inl x1), some (.inl r2), some (.inl ((ab_upd τ1 50 18 ((τ1 50 18) - 2)) 61 ((ab_upd τ1 50 18 ((τ1 50 18) - 2)) 50 18).toNatClampNeg)), none]) (st' := []) dX8_step_86 rfl ?_
        refine ev_p (pc' := 88) (ls' := [some (.inr (.inr 50)), some (.inl x1), some (.inl r2), some (.inl ((ab_upd τ1 50 18 ((τ1 50 18) - 2)) 61 ((ab_upd τ1 50 18 ((τ1 50 18) - 2)) 50 18).toNatClampNeg)), none]) (st' := [.inr (.inr 50)]) dX8_step_87 rfl ?_
        refine ev_getA (pc' := 91) (z := 61) dX8_step_88 rfl rfl rfl rfl ?_
        refine ev_p (pc' := 92) (ls' := [some (.inr (.inr 50)), some (.inl x1), some (.inl r2), some (.inl ((ab_upd τ1 50 18 ((τ1 50 18) - 2)) 61 ((ab_upd τ1 50 18 ((τ1 50 18) - 2)) 50 18).toNatClampNeg)), none]) (st' := [.inr (.inr 50), .inr (.inr 61)]) dX8_step_91 rfl ?_
        refine ev_getI (pc' := 95) dX8_step_92 rfl rfl rfl rfl ?_
        refine ev_cst (v := 1) (pc' := 96) dX8_step_95 (by decide) rfl ?_
        refine ev_p (pc' := 97) (ls' := [some (.inr (.inr 50)), some (.inl x1), some (.inl r2), some (.inl ((ab_upd τ1 50 18 ((τ1 50 18) - 2)) 61 ((ab_upd τ1 50 18 ((τ1 50 18) - 2)) 50 18).toNatClampNeg)), none]) (st' := [.inl (((ab_upd τ1 50 18 ((τ1 50 18) - 2)) 50 18) + 1), .inr (.inr 61)]) dX8_step_96 rfl ?_
        refine ev_load (pc' := 98) rfl dX8_step_97 rfl rfl k.1 rfl ?_
        have k := k.2
        refine ev_p (pc' := 100) (ls' := [some (.inr (.inr 50)), some (.inl x1), some (.inl r2), some (.inl ((ab_upd τ1 50 18 ((τ1 50 18) - 2)) 61 ((ab_upd τ1 50 18 ((τ1 50 18) - 2)) 50 18).toNatClampNeg)), some (.inl ((ab_upd τ1 50 18 ((τ1 50 18) - 2)) 61 (((ab_upd τ1 50 18 ((τ1 50 18) - 2)) 50 18) + 1).toNatClampNeg))]) (st' := []) dX8_step_98 rfl ?_
        refine ev_p (pc' := 101) (ls' := [some (.inr (.inr 50)), some (.inl x1), some (.inl r2), some (.inl ((ab_upd τ1 50 18 ((τ1 50 18) - 2)) 61 ((ab_upd τ1 50 18 ((τ1 50 18) - 2)) 50 18).toNatClampNeg)), some (.inl ((ab_upd τ1 50 18 ((τ1 50 18) - 2)) 61 (((ab_upd τ1 50 18 ((τ1 50 18) - 2)) 50 18) + 1).toNatClampNeg))]) (st' := [.inr (.inr 50)]) dX8_step_100 rfl ?_
        refine ev_getA (pc' := 104) (z := 61) dX8_step_101 rfl rfl rfl rfl ?_
        refine ev_p (pc' := 105) (ls' := [some (.inr (.inr 50)), some (.inl x1), some (.inl r2), some (.inl ((ab_upd τ1 50 18 ((τ1 50 18) - 2)) 61 ((ab_upd τ1 50 18 ((τ1 50 18) - 2)) 50 18).toNatClampNeg)), some (.inl ((ab_upd τ1 50 18 ((τ1 50 18) - 2)) 61 (((ab_upd τ1 50 18 ((τ1 50 18) - 2)) 50 18) + 1).toNatClampNeg))]) (st' := [.inr (.inr 50), .inr (.inr 61)]) dX8_step_104 rfl ?_
        refine ev_getI (pc' := 108) dX8_step_105 rfl rfl rfl rfl ?_
        refine ev_p (pc' := 109) (ls' := [some (.inr (.inr 50)), some (.inl x1), some (.inl r2), some (.inl ((ab_upd τ1 50 18 ((τ1 50 18) - 2)) 61 ((ab_upd τ1 50 18 ((τ1 50 18) - 2)) 50 18).toNatClampNeg)), some (.inl ((ab_upd τ1 50 18 ((τ1 50 18) - 2)) 61 (((ab_upd τ1 50 18 ((τ1 50 18) - 2)) 50 18) + 1).toNatClampNeg))]) (st' := [.inl ((ab_upd τ1 50 18 ((τ1 50 18) - 2)) 61 ((ab_upd τ1 50 18 ((τ1 50 18) - 2)) 50 18).toNatClampNeg), .inl ((ab_upd τ1 50 18 ((τ1 50 18) - 2)) 50 18), .inr (.inr 61)]) dX8_step_108 rfl ?_
        refine ev_if_lt (tgt := 117) (pc' := 112) dX8_step_109 (by decide) rfl (fun h5 => ?_) (fun h5 => ?_)
        · have k := k.1 h5
          refine ev_cst (v := (-1)) (pc' := 118) dX8_step_117 (by decide) rfl ?_
          refine ev_go (tgt := 132) dX8_step_118 (by decide) ?_
          refine ev_stor (pc' := 133) (z := (-1)) rfl dX8_step_132 rfl rfl k.1 rfl rfl ?_
          have k := k.2
          refine ev_go (tgt := 182) dX8_step_133 (by decide) ?_
          refine ev_p (pc' := 183) (ls' := [some (.inr (.inr 50)), some (.inl x1), some (.inl r2), some (.inl ((ab_upd τ1 50 18 ((τ1 50 18) - 2)) 61 ((ab_upd τ1 50 18 ((τ1 50 18) - 2)) 50 18).toNatClampNeg)), some (.inl ((ab_upd τ1 50 18 ((τ1 50 18) - 2)) 61 (((ab_upd τ1 50 18 ((τ1 50 18) - 2)) 50 18) + 1).toNatClampNeg))]) (st' := [.inr (.inr 50)]) dX8_step_182 rfl ?_
          refine ev_p (pc' := 184) (ls' := [some (.inr (.inr 50)), some (.inl x1), some (.inl r2), some (.inl ((ab_upd τ1 50 18 ((τ1 50 18) - 2)) 61 ((ab_upd τ1 50 18 ((τ1 50 18) - 2)) 50 18).toNatClampNeg)), some (.inl ((ab_upd τ1 50 18 ((τ1 50 18) - 2)) 61 (((ab_upd τ1 50 18 ((τ1 50 18) - 2)) 50 18) + 1).toNatClampNeg))]) (st' := [.inr (.inr 50), .inr (.inr 50)]) dX8_step_183 rfl ?_
          refine ev_getI (pc' := 187) dX8_step_184 rfl rfl rfl rfl ?_
          refine ev_cst (v := 1) (pc' := 188) dX8_step_187 (by decide) rfl ?_
          refine ev_p (pc' := 189) (ls' := [some (.inr (.inr 50)), some (.inl x1), some (.inl r2), some (.inl ((ab_upd τ1 50 18 ((τ1 50 18) - 2)) 61 ((ab_upd τ1 50 18 ((τ1 50 18) - 2)) 50 18).toNatClampNeg)), some (.inl ((ab_upd τ1 50 18 ((τ1 50 18) - 2)) 61 (((ab_upd τ1 50 18 ((τ1 50 18) - 2)) 50 18) + 1).toNatClampNeg))]) (st' := [.inl (((ab_upd (ab_upd τ1 50 18 ((τ1 50 18) - 2)) 61 ((ab_upd τ1 50 18 ((τ1 50 18) - 2)) 50 18).toNatClampNeg (-1)) 50 18) + 1), .inr (.inr 50)]) dX8_step_188 rfl ?_
          refine ev_putI (pc' := 192) dX8_step_189 rfl rfl rfl rfl rfl rfl ?_
          exact ev_ret dX8_step_192 rfl k
        · have k := k.2 h5
          refine ev_p (pc' := 114) (ls' := [some (.inr (.inr 50)), some (.inl x1), some (.inl r2), some (.inl ((ab_upd τ1 50 18 ((τ1 50 18) - 2)) 61 ((ab_upd τ1 50 18 ((τ1 50 18) - 2)) 50 18).toNatClampNeg)), some (.inl ((ab_upd τ1 50 18 ((τ1 50 18) - 2)) 61 (((ab_upd τ1 50 18 ((τ1 50 18) - 2)) 50 18) + 1).toNatClampNeg))]) (st' := [.inl ((ab_upd τ1 50 18 ((τ1 50 18) - 2)) 61 (((ab_upd τ1 50 18 ((τ1 50 18) - 2)) 50 18) + 1).toNatClampNeg), .inl ((ab_upd τ1 50 18 ((τ1 50 18) - 2)) 50 18), .inr (.inr 61)]) dX8_step_112 rfl ?_
          refine ev_if_ge (tgt := 121) (pc' := 117) dX8_step_114 (by decide) rfl (fun h6 => ?_) (fun h6 => ?_)
          · have k := k.1 h6
            refine ev_p (pc' := 122) (ls' := [some (.inr (.inr 50)), some (.inl x1), some (.inl r2), some (.inl ((ab_upd τ1 50 18 ((τ1 50 18) - 2)) 61 ((ab_upd τ1 50 18 ((τ1 50 18) - 2)) 50 18).toNatClampNeg)), some (.inl ((ab_upd τ1 50 18 ((τ1 50 18) - 2)) 61 (((ab_upd τ1 50 18 ((τ1 50 18) - 2)) 50 18) + 1).toNatClampNeg))]) (st' := [.inl ((ab_upd τ1 50 18 ((τ1 50 18) - 2)) 61 ((ab_upd τ1 50 18 ((τ1 50 18) - 2)) 50 18).toNatClampNeg), .inl ((ab_upd τ1 50 18 ((τ1 50 18) - 2)) 50 18), .inr (.inr 61)]) dX8_step_121 rfl ?_
            refine ev_p (pc' := 124) (ls' := [some (.inr (.inr 50)), some (.inl x1), some (.inl r2), some (.inl ((ab_upd τ1 50 18 ((τ1 50 18) - 2)) 61 ((ab_upd τ1 50 18 ((τ1 50 18) - 2)) 50 18).toNatClampNeg)), some (.inl ((ab_upd τ1 50 18 ((τ1 50 18) - 2)) 61 (((ab_upd τ1 50 18 ((τ1 50 18) - 2)) 50 18) + 1).toNatClampNeg))]) (st' := [.inl ((ab_upd τ1 50 18 ((τ1 50 18) - 2)) 61 (((ab_upd τ1 50 18 ((τ1 50 18) - 2)) 50 18) + 1).toNatClampNeg), .inl ((ab_upd τ1 50 18 ((τ1 50 18) - 2)) 61 ((ab_upd τ1 50 18 ((τ1 50 18) - 2)) 50 18).toNatClampNeg), .inl ((ab_upd τ1 50 18 ((τ1 50 18) - 2)) 50 18), .inr (.inr 61)]) dX8_step_122 rfl ?_
            refine ev_ic_ne (tgt := 131) (pc' := 127) dX8_step_124 (by decide) rfl (fun h7 => ?_) (fun h7 => ?_)
            · have k := k.2 h7
              refine ev_cst (v := 0) (pc' := 132) dX8_step_131 (by decide) rfl ?_
              refine ev_stor (pc' := 133) (z := 0) rfl dX8_step_132 rfl rfl k.1 rfl rfl ?_
              have k := k.2
              refine ev_go (tgt := 182) dX8_step_133 (by decide) ?_
              refine ev_p (pc' := 183) (ls' := [some (.inr (.inr 50)), some (.inl x1), some (.inl r2), some (.inl ((ab_upd τ1 50 18 ((τ1 50 18) - 2)) 61 ((ab_upd τ1 50 18 ((τ1 50 18) - 2)) 50 18).toNatClampNeg)), some (.inl ((ab_upd τ1 50 18 ((τ1 50 18) - 2)) 61 (((ab_upd τ1 50 18 ((τ1 50 18) - 2)) 50 18) + 1).toNatClampNeg))]) (st' := [.inr (.inr 50)]) dX8_step_182 rfl ?_
              refine ev_p (pc' := 184) (ls' := [some (.inr (.inr 50)), some (.inl x1), some (.inl r2), some (.inl ((ab_upd τ1 50 18 ((τ1 50 18) - 2)) 61 ((ab_upd τ1 50 18 ((τ1 50 18) - 2)) 50 18).toNatClampNeg)), some (.inl ((ab_upd τ1 50 18 ((τ1 50 18) - 2)) 61 (((ab_upd τ1 50 18 ((τ1 50 18) - 2)) 50 18) + 1).toNatClampNeg))]) (st' := [.inr (.inr 50), .inr (.inr 50)]) dX8_step_183 rfl ?_
              refine ev_getI (pc' := 187) dX8_step_184 rfl rfl rfl rfl ?_
              refine ev_cst (v := 1) (pc' := 188) dX8_step_187 (by decide) rfl ?_
              refine ev_p (pc' := 189) (ls' := [some (.inr (.inr 50)), some (.inl x1), some (.inl r2), some (.inl ((ab_upd τ1 50 18 ((τ1 50 18) - 2)) 61 ((ab_upd τ1 50 18 ((τ1 50 18) - 2)) 50 18).toNatClampNeg)), some (.inl ((ab_upd τ1 50 18 ((τ1 50 18) - 2)) 61 (((ab_upd τ1 50 18 ((τ1 50 18) - 2)) 50 18) + 1).toNatClampNeg))]) (st' := [.inl (((ab_upd (ab_upd τ1 50 18 ((τ1 50 18) - 2)) 61 ((ab_upd τ1 50 18 ((τ1 50 18) - 2)) 50 18).toNatClampNeg 0) 50 18) + 1), .inr (.inr 50)]) dX8_step_188 rfl ?_
              refine ev_putI (pc' := 192) dX8_step_189 rfl rfl rfl rfl rfl rfl ?_
              exact ev_ret dX8_step_192 rfl k
            · have k := k.1 h7
              refine ev_cst (v := 1) (pc' := 128) dX8_step_127 (by decide) rfl ?_
              refine ev_go (tgt := 132) dX8_step_128 (by decide) ?_
              refine ev_stor (pc' := 133) (z := 1) rfl dX8_step_132 rfl rfl k.1 rfl rfl ?_
              have k := k.2
              refine ev_go (tgt := 182) dX8_step_133 (by decide) ?_
              refine ev_p (pc' := 183) (ls' := [some (.inr (.inr 50)), some (.inl x1), some (.inl r2), some (.inl ((ab_upd τ1 50 18 ((τ1 50 18) - 2)) 61 ((ab_upd τ1 50 18 ((τ1 50 18) - 2)) 50 18).toNatClampNeg)), some (.inl ((ab_upd τ1 50 18 ((τ1 50 18) - 2)) 61 (((ab_upd τ1 50 18 ((τ1 50 18) - 2)) 50 18) + 1).toNatClampNeg))]) (st' := [.inr (.inr 50)]) dX8_step_182 rfl ?_
              refine ev_p (pc' := 184) (ls' := [some (.inr (.inr 50)), some (.inl x1), some (.inl r2), some (.inl ((ab_upd τ1 50 18 ((τ1 50 18) - 2)) 61 ((ab_upd τ1 50 18 ((τ1 50 18) - 2)) 50 18).toNatClampNeg)), some (.inl ((ab_upd τ1 50 18 ((τ1 50 18) - 2)) 61 (((ab_upd τ1 50 18 ((τ1 50 18) - 2)) 50 18) + 1).toNatClampNeg))]) (st' := [.inr (.inr 50), .inr (.inr 50)]) dX8_step_183 rfl ?_
              refine ev_getI (pc' := 187) dX8_step_184 rfl rfl rfl rfl ?_
              refine ev_cst (v := 1) (pc' := 188) dX8_step_187 (by decide) rfl ?_
              refine ev_p (pc' := 189) (ls' := [some (.inr (.inr 50)), some (.inl x1), some (.inl r2), some (.inl ((ab_upd τ1 50 18 ((τ1 50 18) - 2)) 61 ((ab_upd τ1 50 18 ((τ1 50 18) - 2)) 50 18).toNatClampNeg)), some (.inl ((ab_upd τ1 50 18 ((τ1 50 18) - 2)) 61 (((ab_upd τ1 50 18 ((τ1 50 18) - 2)) 50 18) + 1).toNatClampNeg))]) (st' := [.inl (((ab_upd (ab_upd τ1 50 18 ((τ1 50 18) - 2)) 61 ((ab_upd τ1 50 18 ((τ1 50 18) - 2)) 50 18).toNatClampNeg 1) 50 18) + 1), .inr (.inr 50)]) dX8_step_188 rfl ?_
              refine ev_putI (pc' := 192) dX8_step_189 rfl rfl rfl rfl rfl rfl ?_
              exact ev_ret dX8_step_192 rfl k
          · have k := k.2 h6
            refine ev_cst (v := (-1)) (pc' := 118) dX8_step_117 (by decide) rfl ?_
            refine ev_go (tgt := 132) dX8_step_118 (by decide) ?_
            refine ev_stor (pc' := 133) (z := (-1)) rfl dX8_step_132 rfl rfl k.1 rfl rfl ?_
            have k := k.2
            refine ev_go (tgt := 182) dX8_step_133 (by decide) ?_
            refine ev_p (pc' := 183) (ls' := [some (.inr (.inr 50)), some (.inl x1), some (.inl r2), some (.inl ((ab_upd τ1 50 18 ((τ1 50 18) - 2)) 61 ((ab_upd τ1 50 18 ((τ1 50 18) - 2)) 50 18).toNatClampNeg)), some (.inl ((ab_upd τ1 50 18 ((τ1 50 18) - 2)) 61 (((ab_upd τ1 50 18 ((τ1 50 18) - 2)) 50 18) + 1).toNatClampNeg))]) (st' := [.inr (.inr 50)]) dX8_step_182 rfl ?_
            refine ev_p (pc' := 184) (ls' := [some (.inr (.inr 50)), some (.inl x1), some (.inl r2), some (.inl ((ab_upd τ1 50 18 ((τ1 50 18) - 2)) 61 ((ab_upd τ1 50 18 ((τ1 50 18) - 2)) 50 18).toNatClampNeg)), some (.inl ((ab_upd τ1 50 18 ((τ1 50 18) - 2)) 61 (((ab_upd τ1 50 18 ((τ1 50 18) - 2)) 50 18) + 1).toNatClampNeg))]) (st' := [.inr (.inr 50), .inr (.inr 50)]) dX8_step_183 rfl ?_
            refine ev_getI (pc' := 187) dX8_step_184 rfl rfl rfl rfl ?_
            refine ev_cst (v := 1) (pc' := 188) dX8_step_187 (by decide) rfl ?_
            refine ev_p (pc' := 189) (ls' := [some (.inr (.inr 50)), some (.inl x1), some (.inl r2), some (.inl ((ab_upd τ1 50 18 ((τ1 50 18) - 2)) 61 ((ab_upd τ1 50 18 ((τ1 50 18) - 2)) 50 18).toNatClampNeg)), some (.inl ((ab_upd τ1 50 18 ((τ1 50 18) - 2)) 61 (((ab_upd τ1 50 18 ((τ1 50 18) - 2)) 50 18) + 1).toNatClampNeg))]) (st' := [.inl (((ab_upd (ab_upd τ1 50 18 ((τ1 50 18) - 2)) 61 ((ab_upd τ1 50 18 ((τ1 50 18) - 2)) 50 18).toNatClampNeg (-1)) 50 18) + 1), .inr (.inr 50)]) dX8_step_188 rfl ?_
            refine ev_putI (pc' := 192) dX8_step_189 rfl rfl rfl rfl rfl rfl ?_
            exact ev_ret dX8_step_192 rfl k
    · have k := k.2 h2
      refine ev_p (pc' := 43) (ls' := [some (.inr (.inr 50)), some (.inl x1), some (.inl r2), none, none]) (st' := [.inr (.inr 50)]) dX8_step_42 rfl ?_
      refine ev_p (pc' := 44) (ls' := [some (.inr (.inr 50)), some (.inl x1), some (.inl r2), none, none]) (st' := [.inl r2, .inr (.inr 50)]) dX8_step_43 rfl ?_
      refine ev_call (y := 102) (as := [.inr (.inr 50), .inl r2]) (r := []) (M' := mX8_cell) (pc' := 47) dX8_step_44 rfl rfl ⟨rfl, rfl⟩ rfl k rfl (fun v τ3 hq => ?_)
      obtain ⟨r4, hv, k⟩ := hq
      rw [hv]
      change ev mX8_step 47 [some (.inr (.inr 50)), some (.inl x1), some (.inl r2), none, none] [.inl r4] τ3 _
      refine ev_p (pc' := 48) (ls' := [some (.inr (.inr 50)), some (.inl x1), some (.inl r2), some (.inl r4), none]) (st' := []) dX8_step_47 rfl ?_
      refine ev_p (pc' := 49) (ls' := [some (.inr (.inr 50)), some (.inl x1), some (.inl r2), some (.inl r4), none]) (st' := [.inr (.inr 50)]) dX8_step_48 rfl ?_
      refine ev_getA (pc' := 52) (z := 61) dX8_step_49 rfl rfl rfl rfl ?_
      refine ev_p (pc' := 53) (ls' := [some (.inr (.inr 50)), some (.inl x1), some (.inl r2), some (.inl r4), none]) (st' := [.inr (.inr 50), .inr (.inr 61)]) dX8_step_52 rfl ?_
      refine ev_getI (pc' := 56) dX8_step_53 rfl rfl rfl rfl ?_
      refine ev_p (pc' := 57) (ls' := [some (.inr (.inr 50)), some (.inl x1), some (.inl r2), some (.inl r4), none]) (st' := [.inl r4, .inl (τ3 50 18), .inr (.inr 61)]) dX8_step_56 rfl ?_
      refine ev_stor (pc' := 58) (z := r4) rfl dX8_step_57 rfl rfl k.1 rfl rfl ?_
      have k := k.2
      refine ev_go (tgt := 182) dX8_step_58 (by decide) ?_
      refine ev_p (pc' := 183) (ls' := [some (.inr (.inr 50)), some (.inl x1), some (.inl r2), some (.inl r4), none]) (st' := [.inr (.inr 50)]) dX8_step_182 rfl ?_
      refine ev_p (pc' := 184) (ls' := [some (.inr (.inr 50)), some (.inl x1), some (.inl r2), some (.inl r4), none]) (st' := [.inr (.inr 50), .inr (.inr 50)]) dX8_step_183 rfl ?_
      refine ev_getI (pc' := 187) dX8_step_184 rfl rfl rfl rfl ?_
      refine ev_cst (v := 1) (pc' := 188) dX8_step_187 (by decide) rfl ?_
      refine ev_p (pc' := 189) (ls' := [some (.inr (.inr 50)), some (.inl x1), some (.inl r2), some (.inl r4), none]) (st' := [.inl (((ab_upd τ3 61 (τ3 50 18).toNatClampNeg r4) 50 18) + 1), .inr (.inr 50)]) dX8_step_188 rfl ?_
      refine ev_putI (pc' := 192) dX8_step_189 rfl rfl rfl rfl rfl rfl ?_
      exact ev_ret dX8_step_192 rfl k
  · have k := k.2 h1
    refine ev_p (pc' := 12) (ls' := [some (.inr (.inr 50)), some (.inl x1), some (.inl r2), none, none]) (st' := [.inl x1]) dX8_step_11 rfl ?_
    refine ev_cst (v := 122) (pc' := 14) dX8_step_12 (by decide) rfl ?_
    refine ev_ic_gt (tgt := 38) (pc' := 17) dX8_step_14 (by decide) rfl (fun h8 => ?_) (fun h8 => ?_)
    · have k := k.1 h8
      refine ev_p (pc' := 39) (ls' := [some (.inr (.inr 50)), some (.inl x1), some (.inl r2), none, none]) (st' := [.inl r2]) dX8_step_38 rfl ?_
      refine ev_if_lt (tgt := 61) (pc' := 42) dX8_step_39 (by decide) rfl (fun h9 => ?_) (fun h9 => ?_)
      · have k := k.1 h9
        refine ev_p (pc' := 62) (ls' := [some (.inr (.inr 50)), some (.inl x1), some (.inl r2), none, none]) (st' := [.inl x1]) dX8_step_61 rfl ?_
        refine ev_cst (v := 61) (pc' := 64) dX8_step_62 (by decide) rfl ?_
        refine ev_ic_ne (tgt := 136) (pc' := 67) dX8_step_64 (by decide) rfl (fun h10 => ?_) (fun h10 => ?_)
        · have k := k.2 h10
          refine ev_p (pc' := 137) (ls' := [some (.inr (.inr 50)), some (.inl x1), some (.inl r2), none, none]) (st' := [.inr (.inr 50)]) dX8_step_136 rfl ?_
          refine ev_p (pc' := 138) (ls' := [some (.inr (.inr 50)), some (.inl x1), some (.inl r2), none, none]) (st' := [.inr (.inr 50), .inr (.inr 50)]) dX8_step_137 rfl ?_
          refine ev_getI (pc' := 141) dX8_step_138 rfl rfl rfl rfl ?_
          refine ev_cst (v := 1) (pc' := 142) dX8_step_141 (by decide) rfl ?_
          refine ev_p (pc' := 143) (ls' := [some (.inr (.inr 50)), some (.inl x1), some (.inl r2), none, none]) (st' := [.inl ((τ1 50 18) - 1), .inr (.inr 50)]) dX8_step_142 rfl ?_
          refine ev_putI (pc' := 146) dX8_step_143 rfl rfl rfl rfl rfl rfl ?_
          refine ev_p (pc' := 147) (ls' := [some (.inr (.inr 50)), some (.inl x1), some (.inl r2), none, none]) (st' := [.inr (.inr 50)]) dX8_step_146 rfl ?_
          refine ev_getA (pc' := 150) (z := 61) dX8_step_147 rfl rfl rfl rfl ?_
          refine ev_p (pc' := 151) (ls' := [some (.inr (.inr 50)), some (.inl x1), some (.inl r2), none, none]) (st' := [.inr (.inr 50), .inr (.inr 61)]) dX8_step_150 rfl ?_
          refine ev_getI (pc' := 154) dX8_step_151 rfl rfl rfl rfl ?_
          refine ev_p (pc' := 155) (ls' := [some (.inr (.inr 50)), some (.inl x1), some (.inl r2), none, none]) (st' := [.inr (.inr 50), .inl ((ab_upd τ1 50 18 ((τ1 50 18) - 1)) 50 18), .inr (.inr 61)]) dX8_step_154 rfl ?_
          refine ev_getA (pc' := 158) (z := 61) dX8_step_155 rfl rfl rfl rfl ?_
          refine ev_p (pc' := 159) (ls' := [some (.inr (.inr 50)), some (.inl x1), some (.inl r2), none, none]) (st' := [.inr (.inr 50), .inr (.inr 61), .inl ((ab_upd τ1 50 18 ((τ1 50 18) - 1)) 50 18), .inr (.inr 61)]) dX8_step_158 rfl ?_
          refine ev_getI (pc' := 162) dX8_step_159 rfl rfl rfl rfl ?_
          refine ev_load (pc' := 163) rfl dX8_step_162 rfl rfl k.1 rfl ?_
          have k := k.2
          refine ev_if_ge (tgt := 170) (pc' := 166) dX8_step_163 (by decide) rfl (fun h11 => ?_) (fun h11 => ?_)
          · have k := k.1 h11
            refine ev_cst (v := 1) (pc' := 171) dX8_step_170 (by decide) rfl ?_
            refine ev_p (pc' := 172) (ls' := [some (.inr (.inr 50)), some (.inl x1), some (.inl r2), none, none]) (st' := [.inr (.inr 50), .inl 1, .inl ((ab_upd τ1 50 18 ((τ1 50 18) - 1)) 50 18), .inr (.inr 61)]) dX8_step_171 rfl ?_
            refine ev_getA (pc' := 175) (z := 61) dX8_step_172 rfl rfl rfl rfl ?_
            refine ev_p (pc' := 176) (ls' := [some (.inr (.inr 50)), some (.inl x1), some (.inl r2), none, none]) (st' := [.inr (.inr 50), .inr (.inr 61), .inl 1, .inl ((ab_upd τ1 50 18 ((τ1 50 18) - 1)) 50 18), .inr (.inr 61)]) dX8_step_175 rfl ?_
            refine ev_getI (pc' := 179) dX8_step_176 rfl rfl rfl rfl ?_
            refine ev_load (pc' := 180) rfl dX8_step_179 rfl rfl k.1 rfl ?_
            have k := k.2
            refine ev_p (pc' := 181) (ls' := [some (.inr (.inr 50)), some (.inl x1), some (.inl r2), none, none]) (st' := [.inl (1 - ((ab_upd τ1 50 18 ((τ1 50 18) - 1)) 61 ((ab_upd τ1 50 18 ((τ1 50 18) - 1)) 50 18).toNatClampNeg)), .inl ((ab_upd τ1 50 18 ((τ1 50 18) - 1)) 50 18), .inr (.inr 61)]) dX8_step_180 rfl ?_
            refine ev_stor (pc' := 182) (z := (1 - ((ab_upd τ1 50 18 ((τ1 50 18) - 1)) 61 ((ab_upd τ1 50 18 ((τ1 50 18) - 1)) 50 18).toNatClampNeg))) rfl dX8_step_181 rfl rfl k.1 rfl rfl ?_
            have k := k.2
            refine ev_p (pc' := 183) (ls' := [some (.inr (.inr 50)), some (.inl x1), some (.inl r2), none, none]) (st' := [.inr (.inr 50)]) dX8_step_182 rfl ?_
            refine ev_p (pc' := 184) (ls' := [some (.inr (.inr 50)), some (.inl x1), some (.inl r2), none, none]) (st' := [.inr (.inr 50), .inr (.inr 50)]) dX8_step_183 rfl ?_
            refine ev_getI (pc' := 187) dX8_step_184 rfl rfl rfl rfl ?_
            refine ev_cst (v := 1) (pc' := 188) dX8_step_187 (by decide) rfl ?_
            refine ev_p (pc' := 189) (ls' := [some (.inr (.inr 50)), some (.inl x1), some (.inl r2), none, none]) (st' := [.inl (((ab_upd (ab_upd τ1 50 18 ((τ1 50 18) - 1)) 61 ((ab_upd τ1 50 18 ((τ1 50 18) - 1)) 50 18).toNatClampNeg (1 - ((ab_upd τ1 50 18 ((τ1 50 18) - 1)) 61 ((ab_upd τ1 50 18 ((τ1 50 18) - 1)) 50 18).toNatClampNeg))) 50 18) + 1), .inr (.inr 50)]) dX8_step_188 rfl ?_
            refine ev_putI (pc' := 192) dX8_step_189 rfl rfl rfl rfl rfl rfl ?_
            exact ev_ret dX8_step_192 rfl k
          · have k := k.2 h11
            refine ev_cst (v := (-1)) (pc' := 167) dX8_step_166 (by decide) rfl ?_
            refine ev_go (tgt := 181) dX8_step_167 (by decide) ?_
            refine ev_stor (pc' := 182) (z := (-1)) rfl dX8_step_181 rfl rfl k.1 rfl rfl ?_
            have k := k.2
            refine ev_p (pc' := 183) (ls' := [some (.inr (.inr 50)), some (.inl x1), some (.inl r2), none, none]) (st' := [.inr (.inr 50)]) dX8_step_182 rfl ?_
            refine ev_p (pc' := 184) (ls' := [some (.inr (.inr 50)), some (.inl x1), some (.inl r2), none, none]) (st' := [.inr (.inr 50), .inr (.inr 50)]) dX8_step_183 rfl ?_
            refine ev_getI (pc' := 187) dX8_step_184 rfl rfl rfl rfl ?_
            refine ev_cst (v := 1) (pc' := 188) dX8_step_187 (by decide) rfl ?_
            refine ev_p (pc' := 189) (ls' := [some (.inr (.inr 50)), some (.inl x1), some (.inl r2), none, none]) (st' := [.inl (((ab_upd (ab_upd τ1 50 18 ((τ1 50 18) - 1)) 61 ((ab_upd τ1 50 18 ((τ1 50 18) - 1)) 50 18).toNatClampNeg (-1)) 50 18) + 1), .inr (.inr 50)]) dX8_step_188 rfl ?_
            refine ev_putI (pc' := 192) dX8_step_189 rfl rfl rfl rfl rfl rfl ?_
            exact ev_ret dX8_step_192 rfl k
        · have k := k.1 h10
          refine ev_p (pc' := 68) (ls' := [some (.inr (.inr 50)), some (.inl x1), some (.inl r2), none, none]) (st' := [.inr (.inr 50)]) dX8_step_67 rfl ?_
          refine ev_p (pc' := 69) (ls' := [some (.inr (.inr 50)), some (.inl x1), some (.inl r2), none, none]) (st' := [.inr (.inr 50), .inr (.inr 50)]) dX8_step_68 rfl ?_
          refine ev_getI (pc' := 72) dX8_step_69 rfl rfl rfl rfl ?_
          refine ev_cst (v := 2) (pc' := 73) dX8_step_72 (by decide) rfl ?_
          refine ev_p (pc' := 74) (ls' := [some (.inr (.inr 50)), some (.inl x1), some (.inl r2), none, none]) (st' := [.inl ((τ1 50 18) - 2), .inr (.inr 50)]) dX8_step_73 rfl ?_
          refine ev_putI (pc' := 77) dX8_step_74 rfl rfl rfl rfl rfl rfl ?_
          refine ev_p (pc' := 78) (ls' := [some (.inr (.inr 50)), some (.inl x1), some (.inl r2), none, none]) (st' := [.inr (.inr 50)]) dX8_step_77 rfl ?_
          refine ev_getA (pc' := 81) (z := 61) dX8_step_78 rfl rfl rfl rfl ?_
          refine ev_p (pc' := 82) (ls' := [some (.inr (.inr 50)), some (.inl x1), some (.inl r2), none, none]) (st' := [.inr (.inr 50), .inr (.inr 61)]) dX8_step_81 rfl ?_
          refine ev_getI (pc' := 85) dX8_step_82 rfl rfl rfl rfl ?_
          refine ev_load (pc' := 86) rfl dX8_step_85 rfl rfl k.1 rfl ?_
          have k := k.2
          refine ev_p (pc' := 87) (ls' := [some (.inr (.inr 50)), some (.inl x1), some (.inl r2), some (.inl ((ab_upd τ1 50 18 ((τ1 50 18) - 2)) 61 ((ab_upd τ1 50 18 ((τ1 50 18) - 2)) 50 18).toNatClampNeg)), none]) (st' := []) dX8_step_86 rfl ?_
          refine ev_p (pc' := 88) (ls' := [some (.inr (.inr 50)), some (.inl x1), some (.inl r2), some (.inl ((ab_upd τ1 50 18 ((τ1 50 18) - 2)) 61 ((ab_upd τ1 50 18 ((τ1 50 18) - 2)) 50 18).toNatClampNeg)), none]) (st' := [.inr (.inr 50)]) dX8_step_87 rfl ?_
          refine ev_getA (pc' := 91) (z := 61) dX8_step_88 rfl rfl rfl rfl ?_
          refine ev_p (pc' := 92) (ls' := [some (.inr (.inr 50)), some (.inl x1), some (.inl r2), some (.inl ((ab_upd τ1 50 18 ((τ1 50 18) - 2)) 61 ((ab_upd τ1 50 18 ((τ1 50 18) - 2)) 50 18).toNatClampNeg)), none]) (st' := [.inr (.inr 50), .inr (.inr 61)]) dX8_step_91 rfl ?_
          refine ev_getI (pc' := 95) dX8_step_92 rfl rfl rfl rfl ?_
          refine ev_cst (v := 1) (pc' := 96) dX8_step_95 (by decide) rfl ?_
          refine ev_p (pc' := 97) (ls' := [some (.inr (.inr 50)), some (.inl x1), some (.inl r2), some (.inl ((ab_upd τ1 50 18 ((τ1 50 18) - 2)) 61 ((ab_upd τ1 50 18 ((τ1 50 18) - 2)) 50 18).toNatClampNeg)), none]) (st' := [.inl (((ab_upd τ1 50 18 ((τ1 50 18) - 2)) 50 18) + 1), .inr (.inr 61)]) dX8_step_96 rfl ?_
          refine ev_load (pc' := 98) rfl dX8_step_97 rfl rfl k.1 rfl ?_
          have k := k.2
          refine ev_p (pc' := 100) (ls' := [some (.inr (.inr 50)), some (.inl x1), some (.inl r2), some (.inl ((ab_upd τ1 50 18 ((τ1 50 18) - 2)) 61 ((ab_upd τ1 50 18 ((τ1 50 18) - 2)) 50 18).toNatClampNeg)), some (.inl ((ab_upd τ1 50 18 ((τ1 50 18) - 2)) 61 (((ab_upd τ1 50 18 ((τ1 50 18) - 2)) 50 18) + 1).toNatClampNeg))]) (st' := []) dX8_step_98 rfl ?_
          refine ev_p (pc' := 101) (ls' := [some (.inr (.inr 50)), some (.inl x1), some (.inl r2), some (.inl ((ab_upd τ1 50 18 ((τ1 50 18) - 2)) 61 ((ab_upd τ1 50 18 ((τ1 50 18) - 2)) 50 18).toNatClampNeg)), some (.inl ((ab_upd τ1 50 18 ((τ1 50 18) - 2)) 61 (((ab_upd τ1 50 18 ((τ1 50 18) - 2)) 50 18) + 1).toNatClampNeg))]) (st' := [.inr (.inr 50)]) dX8_step_100 rfl ?_
          refine ev_getA (pc' := 104) (z := 61) dX8_step_101 rfl rfl rfl rfl ?_
          refine ev_p (pc' := 105) (ls' := [some (.inr (.inr 50)), some (.inl x1), some (.inl r2), some (.inl ((ab_upd τ1 50 18 ((τ1 50 18) - 2)) 61 ((ab_upd τ1 50 18 ((τ1 50 18) - 2)) 50 18).toNatClampNeg)), some (.inl ((ab_upd τ1 50 18 ((τ1 50 18) - 2)) 61 (((ab_upd τ1 50 18 ((τ1 50 18) - 2)) 50 18) + 1).toNatClampNeg))]) (st' := [.inr (.inr 50), .inr (.inr 61)]) dX8_step_104 rfl ?_
          refine ev_getI (pc' := 108) dX8_step_105 rfl rfl rfl rfl ?_
          refine ev_p (pc' := 109) (ls' := [some (.inr (.inr 50)), some (.inl x1), some (.inl r2), some (.inl ((ab_upd τ1 50 18 ((τ1 50 18) - 2)) 61 ((ab_upd τ1 50 18 ((τ1 50 18) - 2)) 50 18).toNatClampNeg)), some (.inl ((ab_upd τ1 50 18 ((τ1 50 18) - 2)) 61 (((ab_upd τ1 50 18 ((τ1 50 18) - 2)) 50 18) + 1).toNatClampNeg))]) (st' := [.inl ((ab_upd τ1 50 18 ((τ1 50 18) - 2)) 61 ((ab_upd τ1 50 18 ((τ1 50 18) - 2)) 50 18).toNatClampNeg), .inl ((ab_upd τ1 50 18 ((τ1 50 18) - 2)) 50 18), .inr (.inr 61)]) dX8_step_108 rfl ?_
          refine ev_if_lt (tgt := 117) (pc' := 112) dX8_step_109 (by decide) rfl (fun h12 => ?_) (fun h12 => ?_)
          · have k := k.1 h12
            refine ev_cst (v := (-1)) (pc' := 118) dX8_step_117 (by decide) rfl ?_
            refine ev_go (tgt := 132) dX8_step_118 (by decide) ?_
            refine ev_stor (pc' := 133) (z := (-1)) rfl dX8_step_132 rfl rfl k.1 rfl rfl ?_
            have k := k.2
            refine ev_go (tgt := 182) dX8_step_133 (by decide) ?_
            refine ev_p (pc' := 183) (ls' := [some (.inr (.inr 50)), some (.inl x1), some (.inl r2), some (.inl ((ab_upd τ1 50 18 ((τ1 50 18) - 2)) 61 ((ab_upd τ1 50 18 ((τ1 50 18) - 2)) 50 18).toNatClampNeg)), some (.inl ((ab_upd τ1 50 18 ((τ1 50 18) - 2)) 61 (((ab_upd τ1 50 18 ((τ1 50 18) - 2)) 50 18) + 1).toNatClampNeg))]) (st' := [.inr (.inr 50)]) dX8_step_182 rfl ?_
            refine ev_p (pc' := 184) (ls' := [some (.inr (.inr 50)), some (.inl x1), some (.inl r2), some (.inl ((ab_upd τ1 50 18 ((τ1 50 18) - 2)) 61 ((ab_upd τ1 50 18 ((τ1 50 18) - 2)) 50 18).toNatClampNeg)), some (.inl ((ab_upd τ1 50 18 ((τ1 50 18) - 2)) 61 (((ab_upd τ1 50 18 ((τ1 50 18) - 2)) 50 18) + 1).toNatClampNeg))]) (st' := [.inr (.inr 50), .inr (.inr 50)]) dX8_step_183 rfl ?_
            refine ev_getI (pc' := 187) dX8_step_184 rfl rfl rfl rfl ?_
            refine ev_cst (v := 1) (pc' := 188) dX8_step_187 (by decide) rfl ?_
            refine ev_p (pc' := 189) (ls' := [some (.inr (.inr 50)), some (.inl x1), some (.inl r2), some (.inl ((ab_upd τ1 50 18 ((τ1 50 18) - 2)) 61 ((ab_upd τ1 50 18 ((τ1 50 18) - 2)) 50 18).toNatClampNeg)), some (.inl ((ab_upd τ1 50 18 ((τ1 50 18) - 2)) 61 (((ab_upd τ1 50 18 ((τ1 50 18) - 2)) 50 18) + 1).toNatClampNeg))]) (st' := [.inl (((ab_upd (ab_upd τ1 50 18 ((τ1 50 18) - 2)) 61 ((ab_upd τ1 50 18 ((τ1 50 18) - 2)) 50 18).toNatClampNeg (-1)) 50 18) + 1), .inr (.inr 50)]) dX8_step_188 rfl ?_
            refine ev_putI (pc' := 192) dX8_step_189 rfl rfl rfl rfl rfl rfl ?_
            exact ev_ret dX8_step_192 rfl k
          · have k := k.2 h12
            refine ev_p (pc' := 114) (ls' := [some (.inr (.inr 50)), some (.inl x1), some (.inl r2), some (.inl ((ab_upd τ1 50 18 ((τ1 50 18) - 2)) 61 ((ab_upd τ1 50 18 ((τ1 50 18) - 2)) 50 18).toNatClampNeg)), some (.inl ((ab_upd τ1 50 18 ((τ1 50 18) - 2)) 61 (((ab_upd τ1 50 18 ((τ1 50 18) - 2)) 50 18) + 1).toNatClampNeg))]) (st' := [.inl ((ab_upd τ1 50 18 ((τ1 50 18) - 2)) 61 (((ab_upd τ1 50 18 ((τ1 50 18) - 2)) 50 18) + 1).toNatClampNeg), .inl ((ab_upd τ1 50 18 ((τ1 50 18) - 2)) 50 18), .inr (.inr 61)]) dX8_step_112 rfl ?_
            refine ev_if_ge (tgt := 121) (pc' := 117) dX8_step_114 (by decide) rfl (fun h13 => ?_) (fun h13 => ?_)
            · have k := k.1 h13
              refine ev_p (pc' := 122) (ls' := [some (.inr (.inr 50)), some (.inl x1), some (.inl r2), some (.inl ((ab_upd τ1 50 18 ((τ1 50 18) - 2)) 61 ((ab_upd τ1 50 18 ((τ1 50 18) - 2)) 50 18).toNatClampNeg)), some (.inl ((ab_upd τ1 50 18 ((τ1 50 18) - 2)) 61 (((ab_upd τ1 50 18 ((τ1 50 18) - 2)) 50 18) + 1).toNatClampNeg))]) (st' := [.inl ((ab_upd τ1 50 18 ((τ1 50 18) - 2)) 61 ((ab_upd τ1 50 18 ((τ1 50 18) - 2)) 50 18).toNatClampNeg), .inl ((ab_upd τ1 50 18 ((τ1 50 18) - 2)) 50 18), .inr (.inr 61)]) dX8_step_121 rfl ?_
              refine ev_p (pc' := 124) (ls' := [some (.inr (.inr 50)), some (.inl x1), some (.inl r2), some (.inl ((ab_upd τ1 50 18 ((τ1 50 18) - 2)) 61 ((ab_upd τ1 50 18 ((τ1 50 18) - 2)) 50 18).toNatClampNeg)), some (.inl ((ab_upd τ1 50 18 ((τ1 50 18) - 2)) 61 (((ab_upd τ1 50 18 ((τ1 50 18) - 2)) 50 18) + 1).toNatClampNeg))]) (st' := [.inl ((ab_upd τ1 50 18 ((τ1 50 18) - 2)) 61 (((ab_upd τ1 50 18 ((τ1 50 18) - 2)) 50 18) + 1).toNatClampNeg), .inl ((ab_upd τ1 50 18 ((τ1 50 18) - 2)) 61 ((ab_upd τ1 50 18 ((τ1 50 18) - 2)) 50 18).toNatClampNeg), .inl ((ab_upd τ1 50 18 ((τ1 50 18) - 2)) 50 18), .inr (.inr 61)]) dX8_step_122 rfl ?_
              refine ev_ic_ne (tgt := 131) (pc' := 127) dX8_step_124 (by decide) rfl (fun h14 => ?_) (fun h14 => ?_)
              · have k := k.2 h14
                refine ev_cst (v := 0) (pc' := 132) dX8_step_131 (by decide) rfl ?_
                refine ev_stor (pc' := 133) (z := 0) rfl dX8_step_132 rfl rfl k.1 rfl rfl ?_
                have k := k.2
                refine ev_go (tgt := 182) dX8_step_133 (by decide) ?_
                refine ev_p (pc' := 183) (ls' := [some (.inr (.inr 50)), some (.inl x1), some (.inl r2), some (.inl ((ab_upd τ1 50 18 ((τ1 50 18) - 2)) 61 ((ab_upd τ1 50 18 ((τ1 50 18) - 2)) 50 18).toNatClampNeg)), some (.inl ((ab_upd τ1 50 18 ((τ1 50 18) - 2)) 61 (((ab_upd τ1 50 18 ((τ1 50 18) - 2)) 50 18) + 1).toNatClampNeg))]) (st' := [.inr (.inr 50)]) dX8_step_182 rfl ?_
                refine ev_p (pc' := 184) (ls' := [some (.inr (.inr 50)), some (.inl x1), some (.inl r2), some (.inl ((ab_upd τ1 50 18 ((τ1 50 18) - 2)) 61 ((ab_upd τ1 50 18 ((τ1 50 18) - 2)) 50 18).toNatClampNeg)), some (.inl ((ab_upd τ1 50 18 ((τ1 50 18) - 2)) 61 (((ab_upd τ1 50 18 ((τ1 50 18) - 2)) 50 18) + 1).toNatClampNeg))]) (st' := [.inr (.inr 50), .inr (.inr 50)]) dX8_step_183 rfl ?_
                refine ev_getI (pc' := 187) dX8_step_184 rfl rfl rfl rfl ?_
                refine ev_cst (v := 1) (pc' := 188) dX8_step_187 (by decide) rfl ?_
                refine ev_p (pc' := 189) (ls' := [some (.inr (.inr 50)), some (.inl x1), some (.inl r2), some (.inl ((ab_upd τ1 50 18 ((τ1 50 18) - 2)) 61 ((ab_upd τ1 50 18 ((τ1 50 18) - 2)) 50 18).toNatClampNeg)), some (.inl ((ab_upd τ1 50 18 ((τ1 50 18) - 2)) 61 (((ab_upd τ1 50 18 ((τ1 50 18) - 2)) 50 18) + 1).toNatClampNeg))]) (st' := [.inl (((ab_upd (ab_upd τ1 50 18 ((τ1 50 18) - 2)) 61 ((ab_upd τ1 50 18 ((τ1 50 18) - 2)) 50 18).toNatClampNeg 0) 50 18) + 1), .inr (.inr 50)]) dX8_step_188 rfl ?_
                refine ev_putI (pc' := 192) dX8_step_189 rfl rfl rfl rfl rfl rfl ?_
                exact ev_ret dX8_step_192 rfl k
              · have k := k.1 h14
                refine ev_cst (v := 1) (pc' := 128) dX8_step_127 (by decide) rfl ?_
                refine ev_go (tgt := 132) dX8_step_128 (by decide) ?_
                refine ev_stor (pc' := 133) (z := 1) rfl dX8_step_132 rfl rfl k.1 rfl rfl ?_
                have k := k.2
                refine ev_go (tgt := 182) dX8_step_133 (by decide) ?_
                refine ev_p (pc' := 183) (ls' := [some (.inr (.inr 50)), some (.inl x1), some (.inl r2), some (.inl ((ab_upd τ1 50 18 ((τ1 50 18) - 2)) 61 ((ab_upd τ1 50 18 ((τ1 50 18) - 2)) 50 18).toNatClampNeg)), some (.inl ((ab_upd τ1 50 18 ((τ1 50 18) - 2)) 61 (((ab_upd τ1 50 18 ((τ1 50 18) - 2)) 50 18) + 1).toNatClampNeg))]) (st' := [.inr (.inr 50)]) dX8_step_182 rfl ?_
                refine ev_p (pc' := 184) (ls' := [some (.inr (.inr 50)), some (.inl x1), some (.inl r2), some (.inl ((ab_upd τ1 50 18 ((τ1 50 18) - 2)) 61 ((ab_upd τ1 50 18 ((τ1 50 18) - 2)) 50 18).toNatClampNeg)), some (.inl ((ab_upd τ1 50 18 ((τ1 50 18) - 2)) 61 (((ab_upd τ1 50 18 ((τ1 50 18) - 2)) 50 18) + 1).toNatClampNeg))]) (st' := [.inr (.inr 50), .inr (.inr 50)]) dX8_step_183 rfl ?_
                refine ev_getI (pc' := 187) dX8_step_184 rfl rfl rfl rfl ?_
                refine ev_cst (v := 1) (pc' := 188) dX8_step_187 (by decide) rfl ?_
                refine ev_p (pc' := 189) (ls' := [some (.inr (.inr 50)), some (.inl x1), some (.inl r2), some (.inl ((ab_upd τ1 50 18 ((τ1 50 18) - 2)) 61 ((ab_upd τ1 50 18 ((τ1 50 18) - 2)) 50 18).toNatClampNeg)), some (.inl ((ab_upd τ1 50 18 ((τ1 50 18) - 2)) 61 (((ab_upd τ1 50 18 ((τ1 50 18) - 2)) 50 18) + 1).toNatClampNeg))]) (st' := [.inl (((ab_upd (ab_upd τ1 50 18 ((τ1 50 18) - 2)) 61 ((ab_upd τ1 50 18 ((τ1 50 18) - 2)) 50 18).toNatClampNeg 1) 50 18) + 1), .inr (.inr 50)]) dX8_step_188 rfl ?_
                refine ev_putI (pc' := 192) dX8_step_189 rfl rfl rfl rfl rfl rfl ?_
                exact ev_ret dX8_step_192 rfl k
            · have k := k.2 h13
              refine ev_cst (v := (-1)) (pc' := 118) dX8_step_117 (by decide) rfl ?_
              refine ev_go (tgt := 132) dX8_step_118 (by decide) ?_
              refine ev_stor (pc' := 133) (z := (-1)) rfl dX8_step_132 rfl rfl k.1 rfl rfl ?_
              have k := k.2
              refine ev_go (tgt := 182) dX8_step_133 (by decide) ?_
              refine ev_p (pc' := 183) (ls' := [some (.inr (.inr 50)), some (.inl x1), some (.inl r2), some (.inl ((ab_upd τ1 50 18 ((τ1 50 18) - 2)) 61 ((ab_upd τ1 50 18 ((τ1 50 18) - 2)) 50 18).toNatClampNeg)), some (.inl ((ab_upd τ1 50 18 ((τ1 50 18) - 2)) 61 (((ab_upd τ1 50 18 ((τ1 50 18) - 2)) 50 18) + 1).toNatClampNeg))]) (st' := [.inr (.inr 50)]) dX8_step_182 rfl ?_
              refine ev_p (pc' := 184) (ls' := [some (.inr (.inr 50)), some (.inl x1), some (.inl r2), some (.inl ((ab_upd τ1 50 18 ((τ1 50 18) - 2)) 61 ((ab_upd τ1 50 18 ((τ1 50 18) - 2)) 50 18).toNatClampNeg)), some (.inl ((ab_upd τ1 50 18 ((τ1 50 18) - 2)) 61 (((ab_upd τ1 50 18 ((τ1 50 18) - 2)) 50 18) + 1).toNatClampNeg))]) (st' := [.inr (.inr 50), .inr (.inr 50)]) dX8_step_183 rfl ?_
              refine ev_getI (pc' := 187) dX8_step_184 rfl rfl rfl rfl ?_
              refine ev_cst (v := 1) (pc' := 188) dX8_step_187 (by decide) rfl ?_
              refine ev_p (pc' := 189) (ls' := [some (.inr (.inr 50)), some (.inl x1), some (.inl r2), some (.inl ((ab_upd τ1 50 18 ((τ1 50 18) - 2)) 61 ((ab_upd τ1 50 18 ((τ1 50 18) - 2)) 50 18).toNatClampNeg)), some (.inl ((ab_upd τ1 50 18 ((τ1 50 18) - 2)) 61 (((ab_upd τ1 50 18 ((τ1 50 18) - 2)) 50 18) + 1).toNatClampNeg))]) (st' := [.inl (((ab_upd (ab_upd τ1 50 18 ((τ1 50 18) - 2)) 61 ((ab_upd τ1 50 18 ((τ1 50 18) - 2)) 50 18).toNatClampNeg (-1)) 50 18) + 1), .inr (.inr 50)]) dX8_step_188 rfl ?_
              refine ev_putI (pc' := 192) dX8_step_189 rfl rfl rfl rfl rfl rfl ?_
              exact ev_ret dX8_step_192 rfl k
      · have k := k.2 h9
        refine ev_p (pc' := 43) (ls' := [some (.inr (.inr 50)), some (.inl x1), some (.inl r2), none, none]) (st' := [.inr (.inr 50)]) dX8_step_42 rfl ?_
        refine ev_p (pc' := 44) (ls' := [some (.inr (.inr 50)), some (.inl x1), some (.inl r2), none, none]) (st' := [.inl r2, .inr (.inr 50)]) dX8_step_43 rfl ?_
        refine ev_call (y := 102) (as := [.inr (.inr 50), .inl r2]) (r := []) (M' := mX8_cell) (pc' := 47) dX8_step_44 rfl rfl ⟨rfl, rfl⟩ rfl k rfl (fun v τ3 hq => ?_)
        obtain ⟨r4, hv, k⟩ := hq
        rw [hv]
        change ev mX8_step 47 [some (.inr (.inr 50)), some (.inl x1), some (.inl r2), none, none] [.inl r4] τ3 _
        refine ev_p (pc' := 48) (ls' := [some (.inr (.inr 50)), some (.inl x1), some (.inl r2), some (.inl r4), none]) (st' := []) dX8_step_47 rfl ?_
        refine ev_p (pc' := 49) (ls' := [some (.inr (.inr 50)), some (.inl x1), some (.inl r2), some (.inl r4), none]) (st' := [.inr (.inr 50)]) dX8_step_48 rfl ?_
        refine ev_getA (pc' := 52) (z := 61) dX8_step_49 rfl rfl rfl rfl ?_
        refine ev_p (pc' := 53) (ls' := [some (.inr (.inr 50)), some (.inl x1), some (.inl r2), some (.inl r4), none]) (st' := [.inr (.inr 50), .inr (.inr 61)]) dX8_step_52 rfl ?_
        refine ev_getI (pc' := 56) dX8_step_53 rfl rfl rfl rfl ?_
        refine ev_p (pc' := 57) (ls' := [some (.inr (.inr 50)), some (.inl x1), some (.inl r2), some (.inl r4), none]) (st' := [.inl r4, .inl (τ3 50 18), .inr (.inr 61)]) dX8_step_56 rfl ?_
        refine ev_stor (pc' := 58) (z := r4) rfl dX8_step_57 rfl rfl k.1 rfl rfl ?_
        have k := k.2
        refine ev_go (tgt := 182) dX8_step_58 (by decide) ?_
        refine ev_p (pc' := 183) (ls' := [some (.inr (.inr 50)), some (.inl x1), some (.inl r2), some (.inl r4), none]) (st' := [.inr (.inr 50)]) dX8_step_182 rfl ?_
        refine ev_p (pc' := 184) (ls' := [some (.inr (.inr 50)), some (.inl x1), some (.inl r2), some (.inl r4), none]) (st' := [.inr (.inr 50), .inr (.inr 50)]) dX8_step_183 rfl ?_
        refine ev_getI (pc' := 187) dX8_step_184 rfl rfl rfl rfl ?_
        refine ev_cst (v := 1) (pc' := 188) dX8_step_187 (by decide) rfl ?_
        refine ev_p (pc' := 189) (ls' := [some (.inr (.inr 50)), some (.inl x1), some (.inl r2), some (.inl r4), none]) (st' := [.inl (((ab_upd τ3 61 (τ3 50 18).toNatClampNeg r4) 50 18) + 1), .inr (.inr 50)]) dX8_step_188 rfl ?_
        refine ev_putI (pc' := 192) dX8_step_189 rfl rfl rfl rfl rfl rfl ?_
        exact ev_ret dX8_step_192 rfl k
    · have k := k.2 h8
      refine ev_p (pc' := 18) (ls' := [some (.inr (.inr 50)), some (.inl x1), some (.inl r2), none, none]) (st' := [.inr (.inr 50)]) dX8_step_17 rfl ?_
      refine ev_getA (pc' := 21) (z := 61) dX8_step_18 rfl rfl rfl rfl ?_
      refine ev_p (pc' := 22) (ls' := [some (.inr (.inr 50)), some (.inl x1), some (.inl r2), none, none]) (st' := [.inr (.inr 50), .inr (.inr 61)]) dX8_step_21 rfl ?_
      refine ev_getI (pc' := 25) dX8_step_22 rfl rfl rfl rfl ?_
      refine ev_p (pc' := 26) (ls' := [some (.inr (.inr 50)), some (.inl x1), some (.inl r2), none, none]) (st' := [.inr (.inr 50), .inl (τ1 50 18), .inr (.inr 61)]) dX8_step_25 rfl ?_
      refine ev_getA (pc' := 29) (z := 59) dX8_step_26 rfl rfl rfl rfl ?_
      refine ev_p (pc' := 30) (ls' := [some (.inr (.inr 50)), some (.inl x1), some (.inl r2), none, none]) (st' := [.inl x1, .inr (.inr 59), .inl (τ1 50 18), .inr (.inr 61)]) dX8_step_29 rfl ?_
      refine ev_cst (v := 120) (pc' := 32) dX8_step_30 (by decide) rfl ?_
      refine ev_p (pc' := 33) (ls' := [some (.inr (.inr 50)), some (.inl x1), some (.inl r2), none, none]) (st' := [.inl (x1 - 120), .inr (.inr 59), .inl (τ1 50 18), .inr (.inr 61)]) dX8_step_32 rfl ?_
      refine ev_load (pc' := 34) rfl dX8_step_33 rfl rfl k.1 rfl ?_
      have k := k.2
      refine ev_stor (pc' := 35) (z := (τ1 59 (x1 - 120).toNatClampNeg)) rfl dX8_step_34 rfl rfl k.1 rfl rfl ?_
      have k := k.2
      refine ev_go (tgt := 182) dX8_step_35 (by decide) ?_
      refine ev_p (pc' := 183) (ls' := [some (.inr (.inr 50)), some (.inl x1), some (.inl r2), none, none]) (st' := [.inr (.inr 50)]) dX8_step_182 rfl ?_
      refine ev_p (pc' := 184) (ls' := [some (.inr (.inr 50)), some (.inl x1), some (.inl r2), none, none]) (st' := [.inr (.inr 50), .inr (.inr 50)]) dX8_step_183 rfl ?_
      refine ev_getI (pc' := 187) dX8_step_184 rfl rfl rfl rfl ?_
      refine ev_cst (v := 1) (pc' := 188) dX8_step_187 (by decide) rfl ?_
      refine ev_p (pc' := 189) (ls' := [some (.inr (.inr 50)), some (.inl x1), some (.inl r2), none, none]) (st' := [.inl (((ab_upd τ1 61 (τ1 50 18).toNatClampNeg (τ1 59 (x1 - 120).toNatClampNeg)) 50 18) + 1), .inr (.inr 50)]) dX8_step_188 rfl ?_
      refine ev_putI (pc' := 192) dX8_step_189 rfl rfl rfl rfl rfl rfl ?_
      exact ev_ret dX8_step_192 rfl k
set_option maxRecDepth 20000 in
theorem s_X8_cell_0 {σ : ab_M} {Q : Option ab_V → ab_M → Prop} {x1 : Int32}
    (k : ev mX8_cell 10 [some (.inr (.inr 50)), some (.inl x1), some (.inl (16 * x1)), some (.inl 1), some (.inl 0)] [] σ Q) :
    ev mX8_cell 0 [some (.inr (.inr 50)), some (.inl x1), none, none, none] [] σ Q := by
  refine ev_cst (v := 16) (pc' := 2) dX8_cell_0 (by decide) rfl ?_
  refine ev_p (pc' := 3) (ls' := [some (.inr (.inr 50)), some (.inl x1), none, none, none]) (st' := [.inl x1, .inl 16]) dX8_cell_2 rfl ?_
  refine ev_p (pc' := 4) (ls' := [some (.inr (.inr 50)), some (.inl x1), none, none, none]) (st' := [.inl (16 * x1)]) dX8_cell_3 rfl ?_
  refine ev_p (pc' := 5) (ls' := [some (.inr (.inr 50)), some (.inl x1), some (.inl (16 * x1)), none, none]) (st' := []) dX8_cell_4 rfl ?_
  refine ev_cst (v := 1) (pc' := 6) dX8_cell_5 (by decide) rfl ?_
  refine ev_p (pc' := 7) (ls' := [some (.inr (.inr 50)), some (.inl x1), some (.inl (16 * x1)), some (.inl 1), none]) (st' := []) dX8_cell_6 rfl ?_
  refine ev_cst (v := 0) (pc' := 8) dX8_cell_7 (by decide) rfl ?_
  refine ev_p (pc' := 10) (ls' := [some (.inr (.inr 50)), some (.inl x1), some (.inl (16 * x1)), some (.inl 1), some (.inl 0)]) (st' := []) dX8_cell_8 rfl ?_
  exact k
set_option maxRecDepth 20000 in
theorem s_X8_cell_10 {σ : ab_M} {Q : Option ab_V → ab_M → Prop} {x1 : Int32} {x2 : Int32} {x3 : Int32} {x4 : Int32}
    (k : ab_in x1 8 = true ∧ (((σ 51 x1.toNatClampNeg) ≤ x4 → ((x3 = 0 → Q (some (.inl (-1))) σ) ∧ (¬ x3 = 0 → ab_in x2 128 = true ∧ Q (some (.inl (σ 55 x2.toNatClampNeg))) σ))) ∧ (¬ (σ 51 x1.toNatClampNeg) ≤ x4 → ((x3 = 0 → ev mX8_cell 10 [some (.inr (.inr 50)), some (.inl x1), some (.inl (x2 + 0)), some (.inl 0), some (.inl (x4 + 1))] [] (ab_upd σ 50 18 ((σ 50 18) - 1)) Q) ∧ (¬ x3 = 0 → ab_in ((ab_upd σ 50 18 ((σ 50 18) - 1)) 50 18) 61 = true ∧ ((((ab_upd σ 50 18 ((σ 50 18) - 1)) 61 ((ab_upd σ 50 18 ((σ 50 18) - 1)) 50 18).toNatClampNeg) < 0 → ev mX8_cell 10 [some (.inr (.inr 50)), some (.inl x1), some (.inl (x2 + 0)), some (.inl 0), some (.inl (x4 + 1))] [] (ab_upd σ 50 18 ((σ 50 18) - 1)) Q) ∧ (¬ ((ab_upd σ 50 18 ((σ 50 18) - 1)) 61 ((ab_upd σ 50 18 ((σ 50 18) - 1)) 50 18).toNatClampNeg) < 0 → ab_in ((ab_upd σ 50 18 ((σ 50 18) - 1)) 50 18) 61 = true ∧ ab_in x1 8 = true ∧ ((((ab_upd σ 50 18 ((σ 50 18) - 1)) 51 x1.toNatClampNeg) = 2 → ((x4 = 0 → ev mX8_cell 10 [some (.inr (.inr 50)), some (.inl x1), some (.inl (x2 + (((ab_upd σ 50 18 ((σ 50 18) - 1)) 61 ((ab_upd σ 50 18 ((σ 50 18) - 1)) 50 18).toNatClampNeg) * 4))), some (.inl 1), some (.inl (x4 + 1))] [] (ab_upd σ 50 18 ((σ 50 18) - 1)) Q) ∧ (¬ x4 = 0 → ab_in x1 8 = true ∧ ((((ab_upd σ 50 18 ((σ 50 18) - 1)) 51 x1.toNatClampNeg) = 1 → ev mX8_cell 10 [some (.inr (.inr 50)), some (.inl x1), some (.inl (x2 + (((ab_upd σ 50 18 ((σ 50 18) - 1)) 61 ((ab_upd σ 50 18 ((σ 50 18) - 1)) 50 18).toNatClampNeg) * 4))), some (.inl 1), some (.inl (x4 + 1))] [] (ab_upd σ 50 18 ((σ 50 18) - 1)) Q) ∧ (¬ ((ab_upd σ 50 18 ((σ 50 18) - 1)) 51 x1.toNatClampNeg) = 1 → ev mX8_cell 10 [some (.inr (.inr 50)), some (.inl x1), some (.inl (x2 + (((ab_upd σ 50 18 ((σ 50 18) - 1)) 61 ((ab_upd σ 50 18 ((σ 50 18) - 1)) 50 18).toNatClampNeg) * 1))), some (.inl 1), some (.inl (x4 + 1))] [] (ab_upd σ 50 18 ((σ 50 18) - 1)) Q))))) ∧ (¬ ((ab_upd σ 50 18 ((σ 50 18) - 1)) 51 x1.toNatClampNeg) = 2 → ab_in x1 8 = true ∧ ((((ab_upd σ 50 18 ((σ 50 18) - 1)) 51 x1.toNatClampNeg) = 1 → ev mX8_cell 10 [some (.inr (.inr 50)), some (.inl x1), some (.inl (x2 + (((ab_upd σ 50 18 ((σ 50 18) - 1)) 61 ((ab_upd σ 50 18 ((σ 50 18) - 1)) 50 18).toNatClampNeg) * 4))), some (.inl 1), some (.inl (x4 + 1))] [] (ab_upd σ 50 18 ((σ 50 18) - 1)) Q) ∧ (¬ ((ab_upd σ 50 18 ((σ 50 18) - 1)) 51 x1.toNatClampNeg) = 1 → ev mX8_cell 10 [some (.inr (.inr 50)), some (.inl x1), some (.inl (x2 + (((ab_upd σ 50 18 ((σ 50 18) - 1)) 61 ((ab_upd σ 50 18 ((σ 50 18) - 1)) 50 18).toNatClampNeg) * 1))), some (.inl 1), some (.inl (x4 + 1))] [] (ab_upd σ 50 18 ((σ 50 18) - 1)) Q))))))))))) :
    ev mX8_cell 10 [some (.inr (.inr 50)), some (.inl x1), some (.inl x2), some (.inl x3), some (.inl x4)] [] σ Q := by
  refine ev_p (pc' := 12) (ls' := [some (.inr (.inr 50)), some (.inl x1), some (.inl x2), some (.inl x3), some (.inl x4)]) (st' := [.inl x4]) dX8_cell_10 rfl ?_
  refine ev_p (pc' := 13) (ls' := [some (.inr (.inr 50)), some (.inl x1), some (.inl x2), some (.inl x3), some (.inl x4)]) (st' := [.inr (.inr 50), .inl x4]) dX8_cell_12 rfl ?_
  refine ev_getA (pc' := 16) (z := 51) dX8_cell_13 rfl rfl rfl rfl ?_
  refine ev_p (pc' := 17) (ls' := [some (.inr (.inr 50)), some (.inl x1), some (.inl x2), some (.inl x3), some (.inl x4)]) (st' := [.inl x1, .inr (.inr 51), .inl x4]) dX8_cell_16 rfl ?_
  refine ev_load (pc' := 18) rfl dX8_cell_17 rfl rfl k.1 rfl ?_
  have k := k.2
  refine ev_ic_ge (tgt := 114) (pc' := 21) dX8_cell_18 (by decide) rfl (fun h1 => ?_) (fun h1 => ?_)
  · have k := k.1 h1
    refine ev_p (pc' := 115) (ls' := [some (.inr (.inr 50)), some (.inl x1), some (.inl x2), some (.inl x3), some (.inl x4)]) (st' := [.inl x3]) dX8_cell_114 rfl ?_
    refine ev_if_eq (tgt := 127) (pc' := 118) dX8_cell_115 (by decide) rfl (fun h2 => ?_) (fun h2 => ?_)
    · have k := k.1 h2
      refine ev_cst (v := (-1)) (pc' := 128) dX8_cell_127 (by decide) rfl ?_
      exact ev_ret dX8_cell_128 rfl k
    · have k := k.2 h2
      refine ev_p (pc' := 119) (ls' := [some (.inr (.inr 50)), some (.inl x1), some (.inl x2), some (.inl x3), some (.inl x4)]) (st' := [.inr (.inr 50)]) dX8_cell_118 rfl ?_
      refine ev_getA (pc' := 122) (z := 55) dX8_cell_119 rfl rfl rfl rfl ?_
      refine ev_p (pc' := 123) (ls' := [some (.inr (.inr 50)), some (.inl x1), some (.inl x2), some (.inl x3), some (.inl x4)]) (st' := [.inl x2, .inr (.inr 55)]) dX8_cell_122 rfl ?_
      refine ev_load (pc' := 124) rfl dX8_cell_123 rfl rfl k.1 rfl ?_
      have k := k.2
      refine ev_go (tgt := 128) dX8_cell_124 (by decide) ?_
      exact ev_ret dX8_cell_128 rfl k
  · have k := k.2 h1
    refine ev_p (pc' := 22) (ls' := [some (.inr (.inr 50)), some (.inl x1), some (.inl x2), some (.inl x3), some (.inl x4)]) (st' := [.inr (.inr 50)]) dX8_cell_21 rfl ?_
    refine ev_p (pc' := 23) (ls' := [some (.inr (.inr 50)), some (.inl x1), some (.inl x2), some (.inl x3), some (.inl x4)]) (st' := [.inr (.inr 50), .inr (.inr 50)]) dX8_cell_22 rfl ?_
    refine ev_getI (pc' := 26) dX8_cell_23 rfl rfl rfl rfl ?_
    refine ev_cst (v := 1) (pc' := 27) dX8_cell_26 (by decide) rfl ?_
    refine ev_p (pc' := 28) (ls' := [some (.inr (.inr 50)), some (.inl x1), some (.inl x2), some (.inl x3), some (.inl x4)]) (st' := [.inl ((σ 50 18) - 1), .inr (.inr 50)]) dX8_cell_27 rfl ?_
    refine ev_putI (pc' := 31) dX8_cell_28 rfl rfl rfl rfl rfl rfl ?_
    refine ev_p (pc' := 32) (ls' := [some (.inr (.inr 50)), some (.inl x1), some (.inl x2), some (.inl x3), some (.inl x4)]) (st' := [.inl x3]) dX8_cell_31 rfl ?_
    refine ev_if_eq (tgt := 51) (pc' := 35) dX8_cell_32 (by decide) rfl (fun h3 => ?_) (fun h3 => ?_)
    · have k := k.1 h3
      refine ev_cst (v := 0) (pc' := 52) dX8_cell_51 (by decide) rfl ?_
      refine ev_p (pc' := 53) (ls' := [some (.inr (.inr 50)), some (.inl x1), some (.inl x2), some (.inl 0), some (.inl x4)]) (st' := []) dX8_cell_52 rfl ?_
      refine ev_p (pc' := 54) (ls' := [some (.inr (.inr 50)), some (.inl x1), some (.inl x2), some (.inl 0), some (.inl x4)]) (st' := [.inl x2]) dX8_cell_53 rfl ?_
      refine ev_p (pc' := 55) (ls' := [some (.inr (.inr 50)), some (.inl x1), some (.inl x2), some (.inl 0), some (.inl x4)]) (st' := [.inl 0, .inl x2]) dX8_cell_54 rfl ?_
      refine ev_if_eq (tgt := 105) (pc' := 58) dX8_cell_55 (by decide) rfl (fun _ => ?_) (fun h => absurd h (by decide))
      refine ev_cst (v := 0) (pc' := 106) dX8_cell_105 (by decide) rfl ?_
      refine ev_p (pc' := 107) (ls' := [some (.inr (.inr 50)), some (.inl x1), some (.inl x2), some (.inl 0), some (.inl x4)]) (st' := [.inl (x2 + 0)]) dX8_cell_106 rfl ?_
      refine ev_p (pc' := 108) (ls' := [some (.inr (.inr 50)), some (.inl x1), some (.inl (x2 + 0)), some (.inl 0), some (.inl x4)]) (st' := []) dX8_cell_107 rfl ?_
      refine ev_p (pc' := 111) (ls' := [some (.inr (.inr 50)), some (.inl x1), some (.inl (x2 + 0)), some (.inl 0), some (.inl (x4 + 1))]) (st' := []) dX8_cell_108 rfl ?_
      refine ev_go (tgt := 10) dX8_cell_111 (by decide) ?_
      exact k
    · have k := k.2 h3
      refine ev_p (pc' := 36) (ls' := [some (.inr (.inr 50)), some (.inl x1), some (.inl x2), some (.inl x3), some (.inl x4)]) (st' := [.inr (.inr 50)]) dX8_cell_35 rfl ?_
      refine ev_getA (pc' := 39) (z := 61) dX8_cell_36 rfl rfl rfl rfl ?_
      refine ev_p (pc' := 40) (ls' := [some (.inr (.inr 50)), some (.inl x1), some (.inl x2), some (.inl x3), some (.inl x4)]) (st' := [.inr (.inr 50), .inr (.inr 61)]) dX8_cell_39 rfl ?_
      refine ev_getI (pc' := 43) dX8_cell_40 rfl rfl rfl rfl ?_
      refine ev_load (pc' := 44) rfl dX8_cell_43 rfl rfl k.1 rfl ?_
      have k := k.2
      refine ev_if_lt (tgt := 51) (pc' := 47) dX8_cell_44 (by decide) rfl (fun h4 => ?_) (fun h4 => ?_)
      · have k := k.1 h4
        refine ev_cst (v := 0) (pc' := 52) dX8_cell_51 (by decide) rfl ?_
        refine ev_p (pc' := 53) (ls' := [some (.inr (.inr 50)), some (.inl x1), some (.inl x2), some (.inl 0), some (.inl x4)]) (st' := []) dX8_cell_52 rfl ?_
        refine ev_p (pc' := 54) (ls' := [some (.inr (.inr 50)), some (.inl x1), some (.inl x2), some (.inl 0), some (.inl x4)]) (st' := [.inl x2]) dX8_cell_53 rfl ?_
        refine ev_p (pc' := 55) (ls' := [some (.inr (.inr 50)), some (.inl x1), some (.inl x2), some (.inl 0), some (.inl x4)]) (st' := [.inl 0, .inl x2]) dX8_cell_54 rfl ?_
        refine ev_if_eq (tgt := 105) (pc' := 58) dX8_cell_55 (by decide) rfl (fun _ => ?_) (fun h => absurd h (by decide))
        refine ev_cst (v := 0) (pc' := 106) dX8_cell_105 (by decide) rfl ?_
        refine ev_p (pc' := 107) (ls' := [some (.inr (.inr 50)), some (.inl x1), some (.inl x2), some (.inl 0), some (.inl x4)]) (st' := [.inl (x2 + 0)]) dX8_cell_106 rfl ?_
        refine ev_p (pc' := 108) (ls' := [some (.inr (.inr 50)), some (.inl x1), some (.inl (x2 + 0)), some (.inl 0), some (.inl x4)]) (st' := []) dX8_cell_107 rfl ?_
        refine ev_p (pc' := 111) (ls' := [some (.inr (.inr 50)), some (.inl x1), some (.inl (x2 + 0)), some (.inl 0), some (.inl (x4 + 1))]) (st' := []) dX8_cell_108 rfl ?_
        refine ev_go (tgt := 10) dX8_cell_111 (by decide) ?_
        exact k
      · have k := k.2 h4
        refine ev_cst (v := 1) (pc' := 48) dX8_cell_47 (by decide) rfl ?_
        refine ev_go (tgt := 52) dX8_cell_48 (by decide) ?_
        refine ev_p (pc' := 53) (ls' := [some (.inr (.inr 50)), some (.inl x1), some (.inl x2), some (.inl 1), some (.inl x4)]) (st' := []) dX8_cell_52 rfl ?_
        refine ev_p (pc' := 54) (ls' := [some (.inr (.inr 50)), some (.inl x1), some (.inl x2), some (.inl 1), some (.inl x4)]) (st' := [.inl x2]) dX8_cell_53 rfl ?_
        refine ev_p (pc' := 55) (ls' := [some (.inr (.inr 50)), some (.inl x1), some (.inl x2), some (.inl 1), some (.inl x4)]) (st' := [.inl 1, .inl x2]) dX8_cell_54 rfl ?_
        refine ev_if_eq (tgt := 105) (pc' := 58) dX8_cell_55 (by decide) rfl (fun h => absurd h (by decide)) (fun _ => ?_)
        refine ev_p (pc' := 59) (ls' := [some (.inr (.inr 50)), some (.inl x1), some (.inl x2), some (.inl 1), some (.inl x4)]) (st' := [.inr (.inr 50), .inl x2]) dX8_cell_58 rfl ?_
        refine ev_getA (pc' := 62) (z := 61) dX8_cell_59 rfl rfl rfl rfl ?_
        refine ev_p (pc' := 63) (ls' := [some (.inr (.inr 50)), some (.inl x1), some (.inl x2), some (.inl 1), some (.inl x4)]) (st' := [.inr (.inr 50), .inr (.inr 61), .inl x2]) dX8_cell_62 rfl ?_
        refine ev_getI (pc' := 66) dX8_cell_63 rfl rfl rfl rfl ?_
        refine ev_load (pc' := 67) rfl dX8_cell_66 rfl rfl k.1 rfl ?_
        have k := k.2
        refine ev_p (pc' := 68) (ls' := [some (.inr (.inr 50)), some (.inl x1), some (.inl x2), some (.inl 1), some (.inl x4)]) (st' := [.inr (.inr 50), .inl ((ab_upd σ 50 18 ((σ 50 18) - 1)) 61 ((ab_upd σ 50 18 ((σ 50 18) - 1)) 50 18).toNatClampNeg), .inl x2]) dX8_cell_67 rfl ?_
        refine ev_getA (pc' := 71) (z := 51) dX8_cell_68 rfl rfl rfl rfl ?_
        refine ev_p (pc' := 72) (ls' := [some (.inr (.inr 50)), some (.inl x1), some (.inl x2), some (.inl 1), some (.inl x4)]) (st' := [.inl x1, .inr (.inr 51), .inl ((ab_upd σ 50 18 ((σ 50 18) - 1)) 61 ((ab_upd σ 50 18 ((σ 50 18) - 1)) 50 18).toNatClampNeg), .inl x2]) dX8_cell_71 rfl ?_
        refine ev_load (pc' := 73) rfl dX8_cell_72 rfl rfl k.1 rfl ?_
        have k := k.2
        refine ev_cst (v := 2) (pc' := 74) dX8_cell_73 (by decide) rfl ?_
        refine ev_ic_ne (tgt := 86) (pc' := 77) dX8_cell_74 (by decide) rfl (fun h5 => ?_) (fun h5 => ?_)
        · have k := k.2 h5
          refine ev_p (pc' := 87) (ls' := [some (.inr (.inr 50)), some (.inl x1), some (.inl x2), some (.inl 1), some (.inl x4)]) (st' := [.inr (.inr 50), .inl ((ab_upd σ 50 18 ((σ 50 18) - 1)) 61 ((ab_upd σ 50 18 ((σ 50 18) - 1)) 50 18).toNatClampNeg), .inl x2]) dX8_cell_86 rfl ?_
          refine ev_getA (pc' := 90) (z := 51) dX8_cell_87 rfl rfl rfl rfl ?_
          refine ev_p (pc' := 91) (ls' := [some (.inr (.inr 50)), some (.inl x1), some (.inl x2), some (.inl 1), some (.inl x4)]) (st' := [.inl x1, .inr (.inr 51), .inl ((ab_upd σ 50 18 ((σ 50 18) - 1)) 61 ((ab_upd σ 50 18 ((σ 50 18) - 1)) 50 18).toNatClampNeg), .inl x2]) dX8_cell_90 rfl ?_
          refine ev_load (pc' := 92) rfl dX8_cell_91 rfl rfl k.1 rfl ?_
          have k := k.2
          refine ev_cst (v := 1) (pc' := 93) dX8_cell_92 (by decide) rfl ?_
          refine ev_ic_ne (tgt := 100) (pc' := 96) dX8_cell_93 (by decide) rfl (fun h6 => ?_) (fun h6 => ?_)
          · have k := k.2 h6
            refine ev_cst (v := 1) (pc' := 101) dX8_cell_100 (by decide) rfl ?_
            refine ev_p (pc' := 102) (ls' := [some (.inr (.inr 50)), some (.inl x1), some (.inl x2), some (.inl 1), some (.inl x4)]) (st' := [.inl (((ab_upd σ 50 18 ((σ 50 18) - 1)) 61 ((ab_upd σ 50 18 ((σ 50 18) - 1)) 50 18).toNatClampNeg) * 1), .inl x2]) dX8_cell_101 rfl ?_
            refine ev_go (tgt := 106) dX8_cell_102 (by decide) ?_
            refine ev_p (pc' := 107) (ls' := [some (.inr (.inr 50)), some (.inl x1), some (.inl x2), some (.inl 1), some (.inl x4)]) (st' := [.inl (x2 + (((ab_upd σ 50 18 ((σ 50 18) - 1)) 61 ((ab_upd σ 50 18 ((σ 50 18) - 1)) 50 18).toNatClampNeg) * 1))]) dX8_cell_106 rfl ?_
            refine ev_p (pc' := 108) (ls' := [some (.inr (.inr 50)), some (.inl x1), some (.inl (x2 + (((ab_upd σ 50 18 ((σ 50 18) - 1)) 61 ((ab_upd σ 50 18 ((σ 50 18) - 1)) 50 18).toNatClampNeg) * 1))), some (.inl 1), some (.inl x4)]) (st' := []) dX8_cell_107 rfl ?_
            refine ev_p (pc' := 111) (ls' := [some (.inr (.inr 50)), some (.inl x1), some (.inl (x2 + (((ab_upd σ 50 18 ((σ 50 18) - 1)) 61 ((ab_upd σ 50 18 ((σ 50 18) - 1)) 50 18).toNatClampNeg) * 1))), some (.inl 1), some (.inl (x4 + 1))]) (st' := []) dX8_cell_108 rfl ?_
            refine ev_go (tgt := 10) dX8_cell_111 (by decide) ?_
            exact k
          · have k := k.1 h6
            refine ev_cst (v := 4) (pc' := 97) dX8_cell_96 (by decide) rfl ?_
            refine ev_go (tgt := 101) dX8_cell_97 (by decide) ?_
            refine ev_p (pc' := 102) (ls' := [some (.inr (.inr 50)), some (.inl x1), some (.inl x2), some (.inl 1), some (.inl x4)]) (st' := [.inl (((ab_upd σ 50 18 ((σ 50 18) - 1)) 61 ((ab_upd σ 50 18 ((σ 50 18) - 1)) 50 18).toNatClampNeg) * 4), .inl x2]) dX8_cell_101 rfl ?_
            refine ev_go (tgt := 106) dX8_cell_102 (by decide) ?_
            refine ev_p (pc' := 107) (ls' := [some (.inr (.inr 50)), some (.inl x1), some (.inl x2), some (.inl 1), some (.inl x4)]) (st' := [.inl (x2 + (((ab_upd σ 50 18 ((σ 50 18) - 1)) 61 ((ab_upd σ 50 18 ((σ 50 18) - 1)) 50 18).toNatClampNeg) * 4))]) dX8_cell_106 rfl ?_
            refine ev_p (pc' := 108) (ls' := [some (.inr (.inr 50)), some (.inl x1), some (.inl (x2 + (((ab_upd σ 50 18 ((σ 50 18) - 1)) 61 ((ab_upd σ 50 18 ((σ 50 18) - 1)) 50 18).toNatClampNeg) * 4))), some (.inl 1), some (.inl x4)]) (st' := []) dX8_cell_107 rfl ?_
            refine ev_p (pc' := 111) (ls' := [some (.inr (.inr 50)), some (.inl x1), some (.inl (x2 + (((ab_upd σ 50 18 ((σ 50 18) - 1)) 61 ((ab_upd σ 50 18 ((σ 50 18) - 1)) 50 18).toNatClampNeg) * 4))), some (.inl 1), some (.inl (x4 + 1))]) (st' := []) dX8_cell_108 rfl ?_
            refine ev_go (tgt := 10) dX8_cell_111 (by decide) ?_
            exact k
        · have k := k.1 h5
          refine ev_p (pc' := 79) (ls' := [some (.inr (.inr 50)), some (.inl x1), some (.inl x2), some (.inl 1), some (.inl x4)]) (st' := [.inl x4, .inl ((ab_upd σ 50 18 ((σ 50 18) - 1)) 61 ((ab_upd σ 50 18 ((σ 50 18) - 1)) 50 18).toNatClampNeg), .inl x2]) dX8_cell_77 rfl ?_
          refine ev_if_ne (tgt := 86) (pc' := 82) dX8_cell_79 (by decide) rfl (fun h7 => ?_) (fun h7 => ?_)
          · have k := k.2 h7
            refine ev_p (pc' := 87) (ls' := [some (.inr (.inr 50)), some (.inl x1), some (.inl x2), some (.inl 1), some (.inl x4)]) (st' := [.inr (.inr 50), .inl ((ab_upd σ 50 18 ((σ 50 18) - 1)) 61 ((ab_upd σ 50 18 ((σ 50 18) - 1)) 50 18).toNatClampNeg), .inl x2]) dX8_cell_86 rfl ?_
            refine ev_getA (pc' := 90) (z := 51) dX8_cell_87 rfl rfl rfl rfl ?_
            refine ev_p (pc' := 91) (ls' := [some (.inr (.inr 50)), some (.inl x1), some (.inl x2), some (.inl 1), some (.inl x4)]) (st' := [.inl x1, .inr (.inr 51), .inl ((ab_upd σ 50 18 ((σ 50 18) - 1)) 61 ((ab_upd σ 50 18 ((σ 50 18) - 1)) 50 18).toNatClampNeg), .inl x2]) dX8_cell_90 rfl ?_
            refine ev_load (pc' := 92) rfl dX8_cell_91 rfl rfl k.1 rfl ?_
            have k := k.2
            refine ev_cst (v := 1) (pc' := 93) dX8_cell_92 (by decide) rfl ?_
            refine ev_ic_ne (tgt := 100) (pc' := 96) dX8_cell_93 (by decide) rfl (fun h8 => ?_) (fun h8 => ?_)
            · have k := k.2 h8
              refine ev_cst (v := 1) (pc' := 101) dX8_cell_100 (by decide) rfl ?_
              refine ev_p (pc' := 102) (ls' := [some (.inr (.inr 50)), some (.inl x1), some (.inl x2), some (.inl 1), some (.inl x4)]) (st' := [.inl (((ab_upd σ 50 18 ((σ 50 18) - 1)) 61 ((ab_upd σ 50 18 ((σ 50 18) - 1)) 50 18).toNatClampNeg) * 1), .inl x2]) dX8_cell_101 rfl ?_
              refine ev_go (tgt := 106) dX8_cell_102 (by decide) ?_
              refine ev_p (pc' := 107) (ls' := [some (.inr (.inr 50)), some (.inl x1), some (.inl x2), some (.inl 1), some (.inl x4)]) (st' := [.inl (x2 + (((ab_upd σ 50 18 ((σ 50 18) - 1)) 61 ((ab_upd σ 50 18 ((σ 50 18) - 1)) 50 18).toNatClampNeg) * 1))]) dX8_cell_106 rfl ?_
              refine ev_p (pc' := 108) (ls' := [some (.inr (.inr 50)), some (.inl x1), some (.inl (x2 + (((ab_upd σ 50 18 ((σ 50 18) - 1)) 61 ((ab_upd σ 50 18 ((σ 50 18) - 1)) 50 18).toNatClampNeg) * 1))), some (.inl 1), some (.inl x4)]) (st' := []) dX8_cell_107 rfl ?_
              refine ev_p (pc' := 111) (ls' := [some (.inr (.inr 50)), some (.inl x1), some (.inl (x2 + (((ab_upd σ 50 18 ((σ 50 18) - 1)) 61 ((ab_upd σ 50 18 ((σ 50 18) - 1)) 50 18).toNatClampNeg) * 1))), some (.inl 1), some (.inl (x4 + 1))]) (st' := []) dX8_cell_108 rfl ?_
              refine ev_go (tgt := 10) dX8_cell_111 (by decide) ?_
              exact k
            · have k := k.1 h8
              refine ev_cst (v := 4) (pc' := 97) dX8_cell_96 (by decide) rfl ?_
              refine ev_go (tgt := 101) dX8_cell_97 (by decide) ?_
              refine ev_p (pc' := 102) (ls' := [some (.inr (.inr 50)), some (.inl x1), some (.inl x2), some (.inl 1), some (.inl x4)]) (st' := [.inl (((ab_upd σ 50 18 ((σ 50 18) - 1)) 61 ((ab_upd σ 50 18 ((σ 50 18) - 1)) 50 18).toNatClampNeg) * 4), .inl x2]) dX8_cell_101 rfl ?_
              refine ev_go (tgt := 106) dX8_cell_102 (by decide) ?_
              refine ev_p (pc' := 107) (ls' := [some (.inr (.inr 50)), some (.inl x1), some (.inl x2), some (.inl 1), some (.inl x4)]) (st' := [.inl (x2 + (((ab_upd σ 50 18 ((σ 50 18) - 1)) 61 ((ab_upd σ 50 18 ((σ 50 18) - 1)) 50 18).toNatClampNeg) * 4))]) dX8_cell_106 rfl ?_
              refine ev_p (pc' := 108) (ls' := [some (.inr (.inr 50)), some (.inl x1), some (.inl (x2 + (((ab_upd σ 50 18 ((σ 50 18) - 1)) 61 ((ab_upd σ 50 18 ((σ 50 18) - 1)) 50 18).toNatClampNeg) * 4))), some (.inl 1), some (.inl x4)]) (st' := []) dX8_cell_107 rfl ?_
              refine ev_p (pc' := 111) (ls' := [some (.inr (.inr 50)), some (.inl x1), some (.inl (x2 + (((ab_upd σ 50 18 ((σ 50 18) - 1)) 61 ((ab_upd σ 50 18 ((σ 50 18) - 1)) 50 18).toNatClampNeg) * 4))), some (.inl 1), some (.inl (x4 + 1))]) (st' := []) dX8_cell_108 rfl ?_
              refine ev_go (tgt := 10) dX8_cell_111 (by decide) ?_
              exact k
          · have k := k.1 h7
            refine ev_cst (v := 4) (pc' := 83) dX8_cell_82 (by decide) rfl ?_
            refine ev_go (tgt := 101) dX8_cell_83 (by decide) ?_
            refine ev_p (pc' := 102) (ls' := [some (.inr (.inr 50)), some (.inl x1), some (.inl x2), some (.inl 1), some (.inl x4)]) (st' := [.inl (((ab_upd σ 50 18 ((σ 50 18) - 1)) 61 ((ab_upd σ 50 18 ((σ 50 18) - 1)) 50 18).toNatClampNeg) * 4), .inl x2]) dX8_cell_101 rfl ?_
            refine ev_go (tgt := 106) dX8_cell_102 (by decide) ?_
            refine ev_p (pc' := 107) (ls' := [some (.inr (.inr 50)), some (.inl x1), some (.inl x2), some (.inl 1), some (.inl x4)]) (st' := [.inl (x2 + (((ab_upd σ 50 18 ((σ 50 18) - 1)) 61 ((ab_upd σ 50 18 ((σ 50 18) - 1)) 50 18).toNatClampNeg) * 4))]) dX8_cell_106 rfl ?_
            refine ev_p (pc' := 108) (ls' := [some (.inr (.inr 50)), some (.inl x1), some (.inl (x2 + (((ab_upd σ 50 18 ((σ 50 18) - 1)) 61 ((ab_upd σ 50 18 ((σ 50 18) - 1)) 50 18).toNatClampNeg) * 4))), some (.inl 1), some (.inl x4)]) (st' := []) dX8_cell_107 rfl ?_
            refine ev_p (pc' := 111) (ls' := [some (.inr (.inr 50)), some (.inl x1), some (.inl (x2 + (((ab_upd σ 50 18 ((σ 50 18) - 1)) 61 ((ab_upd σ 50 18 ((σ 50 18) - 1)) 50 18).toNatClampNeg) * 4))), some (.inl 1), some (.inl (x4 + 1))]) (st' := []) dX8_cell_108 rfl ?_
            refine ev_go (tgt := 10) dX8_cell_111 (by decide) ?_
            exact k
set_option maxRecDepth 20000 in
theorem s_X8_walk_0 {σ : ab_M} {Q : Option ab_V → ab_M → Prop} {x1 : Int32}
    (k : ev mX8_walk 2 [some (.inr (.inr 50)), some (.inl x1), some (.inl x1), none] [] σ Q) :
    ev mX8_walk 0 [some (.inr (.inr 50)), some (.inl x1), none, none] [] σ Q := by
  refine ev_p (pc' := 1) (ls' := [some (.inr (.inr 50)), some (.inl x1), none, none]) (st' := [.inl x1]) dX8_walk_0 rfl ?_
  refine ev_p (pc' := 2) (ls' := [some (.inr (.inr 50)), some (.inl x1), some (.inl x1), none]) (st' := []) dX8_walk_1 rfl ?_
  exact k
set_option maxRecDepth 20000 in
theorem s_X8_walk_2 {σ : ab_M} {Q : Option ab_V → ab_M → Prop} {x1 : Int32} {x2 : Int32} {o3 : Option ab_V}
    (k : ((x2 < 0 → ((0 ≤ x2 → Q (some (.inl 1)) σ) ∧ (¬ 0 ≤ x2 → Q (some (.inl 0)) σ))) ∧ (¬ x2 < 0 → (((σ 50 8) ≤ x2 → ((0 ≤ x2 → Q (some (.inl 1)) σ) ∧ (¬ 0 ≤ x2 → Q (some (.inl 0)) σ))) ∧ (¬ (σ 50 8) ≤ x2 → evm mX8_placeOf [.inr (.inr 50), .inl x2] σ (fun v τ1 => ∃ r2 : Int32, v = some (.inl r2) ∧ ab_in r2 128 = true ∧ evm mX8_limit [.inr (.inr 50), .inl x2] τ1 (fun v τ3 => ∃ r4 : Int32, v = some (.inl r4) ∧ ((((τ1 55 r2.toNatClampNeg) + 1) ≤ r4 → (((τ3 50 14) = 3000 → Q (some (.inl (-4))) τ3) ∧ (¬ (τ3 50 14) = 3000 → evm mX8_placeOf [.inr (.inr 50), .inl x2] (ab_upd τ3 50 14 ((τ3 50 14) + 1)) (fun v τ5 => ∃ r6 : Int32, v = some (.inl r6) ∧ ab_in r6 128 = true ∧ ab_in x2 128 = true ∧ evm mX8_someBreaks [.inr (.inr 50), .inl ((ab_upd τ5 55 r6.toNatClampNeg ((τ1 55 r2.toNatClampNeg) + 1)) 56 x2.toNatClampNeg)] (ab_upd τ5 55 r6.toNatClampNeg ((τ1 55 r2.toNatClampNeg) + 1)) (fun v τ7 => ∃ r8 : Int32, v = some (.inl r8) ∧ ((r8 = 0 → ev mX8_walk 2 [some (.inr (.inr 50)), some (.inl x1), some (.inl (x2 + 1)), some (.inl ((τ1 55 r2.toNatClampNeg) + 1))] [] τ7 Q) ∧ (¬ r8 = 0 → ev mX8_walk 2 [some (.inr (.inr 50)), some (.inl x1), some (.inl (x2 + 0)), some (.inl ((τ1 55 r2.toNatClampNeg) + 1))] [] τ7 Q))))))) ∧ (¬ ((τ1 55 r2.toNatClampNeg) + 1) ≤ r4 → evm mX8_placeOf [.inr (.inr 50), .inl x2] τ3 (fun v τ5 => ∃ r6 : Int32, v = some (.inl r6) ∧ ab_in r6 128 = true ∧ ev mX8_walk 2 [some (.inr (.inr 50)), some (.inl x1), some (.inl (x2 + (-1))), some (.inl ((τ1 55 r2.toNatClampNeg) + 1))] [] (ab_upd τ5 55 r6.toNatClampNeg (-1)) Q)))))))))) :
    ev mX8_walk 2 [some (.inr (.inr 50)), some (.inl x1), some (.inl x2), o3] [] σ Q := by
  refine ev_p (pc' := 3) (ls' := [some (.inr (.inr 50)), some (.inl x1), some (.inl x2), o3]) (st' := [.inl x2]) dX8_walk_2 rfl ?_
  refine ev_if_lt (tgt := 111) (pc' := 6) dX8_walk_3 (by decide) rfl (fun h1 => ?_) (fun h1 => ?_)
  · have k := k.1 h1
    refine ev_p (pc' := 112) (ls' := [some (.inr (.inr 50)), some (.inl x1), some (.inl x2), o3]) (st' := [.inl x2]) dX8_walk_111 rfl ?_
    refine ev_if_ge (tgt := 119) (pc' := 115) dX8_walk_112 (by decide) rfl (fun h2 => ?_) (fun h2 => ?_)
    · have k := k.1 h2
      refine ev_cst (v := 1) (pc' := 120) dX8_walk_119 (by decide) rfl ?_
      exact ev_ret dX8_walk_120 rfl k
    · have k := k.2 h2
      refine ev_cst (v := 0) (pc' := 116) dX8_walk_115 (by decide) rfl ?_
      refine ev_go (tgt := 120) dX8_walk_116 (by decide) ?_
      exact ev_ret dX8_walk_120 rfl k
  · have k := k.2 h1
    refine ev_p (pc' := 7) (ls' := [some (.inr (.inr 50)), some (.inl x1), some (.inl x2), o3]) (st' := [.inl x2]) dX8_walk_6 rfl ?_
    refine ev_p (pc' := 8) (ls' := [some (.inr (.inr 50)), some (.inl x1), some (.inl x2), o3]) (st' := [.inr (.inr 50), .inl x2]) dX8_walk_7 rfl ?_
    refine ev_getI (pc' := 11) dX8_walk_8 rfl rfl rfl rfl ?_
    refine ev_ic_ge (tgt := 111) (pc' := 14) dX8_walk_11 (by decide) rfl (fun h3 => ?_) (fun h3 => ?_)
    · have k := k.1 h3
      refine ev_p (pc' := 112) (ls' := [some (.inr (.inr 50)), some (.inl x1), some (.inl x2), o3]) (st' := [.inl x2]) dX8_walk_111 rfl ?_
      refine ev_if_ge (tgt := 119) (pc' := 115) dX8_walk_112 (by decide) rfl (fun h4 => ?_) (fun h4 => ?_)
      · have k := k.1 h4
        refine ev_cst (v := 1) (pc' := 120) dX8_walk_119 (by decide) rfl ?_
        exact ev_ret dX8_walk_120 rfl k
      · have k := k.2 h4
        refine ev_cst (v := 0) (pc' := 116) dX8_walk_115 (by decide) rfl ?_
        refine ev_go (tgt := 120) dX8_walk_116 (by decide) ?_
        exact ev_ret dX8_walk_120 rfl k
    · have k := k.2 h3
      refine ev_p (pc' := 15) (ls' := [some (.inr (.inr 50)), some (.inl x1), some (.inl x2), o3]) (st' := [.inr (.inr 50)]) dX8_walk_14 rfl ?_
      refine ev_getA (pc' := 18) (z := 55) dX8_walk_15 rfl rfl rfl rfl ?_
      refine ev_p (pc' := 19) (ls' := [some (.inr (.inr 50)), some (.inl x1), some (.inl x2), o3]) (st' := [.inr (.inr 50), .inr (.inr 55)]) dX8_walk_18 rfl ?_
      refine ev_p (pc' := 20) (ls' := [some (.inr (.inr 50)), some (.inl x1), some (.inl x2), o3]) (st' := [.inl x2, .inr (.inr 50), .inr (.inr 55)]) dX8_walk_19 rfl ?_
      refine ev_call (y := 104) (as := [.inr (.inr 50), .inl x2]) (r := [.inr (.inr 55)]) (M' := mX8_placeOf) (pc' := 23) dX8_walk_20 rfl rfl ⟨rfl, rfl⟩ rfl k rfl (fun v τ1 hq => ?_)
      obtain ⟨r2, hv, k⟩ := hq
      rw [hv]
      change ev mX8_walk 23 [some (.inr (.inr 50)), some (.inl x1), some (.inl x2), o3] [.inl r2, .inr (.inr 55)] τ1 _
      refine ev_load (pc' := 24) rfl dX8_walk_23 rfl rfl k.1 rfl ?_
      have k := k.2
      refine ev_cst (v := 1) (pc' := 25) dX8_walk_24 (by decide) rfl ?_
      refine ev_p (pc' := 26) (ls' := [some (.inr (.inr 50)), some (.inl x1), some (.inl x2), o3]) (st' := [.inl ((τ1 55 r2.toNatClampNeg) + 1)]) dX8_walk_25 rfl ?_
      refine ev_p (pc' := 27) (ls' := [some (.inr (.inr 50)), some (.inl x1), some (.inl x2), some (.inl ((τ1 55 r2.toNatClampNeg) + 1))]) (st' := []) dX8_walk_26 rfl ?_
      refine ev_p (pc' := 28) (ls' := [some (.inr (.inr 50)), some (.inl x1), some (.inl x2), some (.inl ((τ1 55 r2.toNatClampNeg) + 1))]) (st' := [.inl ((τ1 55 r2.toNatClampNeg) + 1)]) dX8_walk_27 rfl ?_
      refine ev_p (pc' := 29) (ls' := [some (.inr (.inr 50)), some (.inl x1), some (.inl x2), some (.inl ((τ1 55 r2.toNatClampNeg) + 1))]) (st' := [.inr (.inr 50), .inl ((τ1 55 r2.toNatClampNeg) + 1)]) dX8_walk_28 rfl ?_
      refine ev_p (pc' := 30) (ls' := [some (.inr (.inr 50)), some (.inl x1), some (.inl x2), some (.inl ((τ1 55 r2.toNatClampNeg) + 1))]) (st' := [.inl x2, .inr (.inr 50), .inl ((τ1 55 r2.toNatClampNeg) + 1)]) dX8_walk_29 rfl ?_
      refine ev_call (y := 105) (as := [.inr (.inr 50), .inl x2]) (r := [.inl ((τ1 55 r2.toNatClampNeg) + 1)]) (M' := mX8_limit) (pc' := 33) dX8_walk_30 rfl rfl ⟨rfl, rfl⟩ rfl k rfl (fun v τ3 hq => ?_)
      obtain ⟨r4, hv, k⟩ := hq
      rw [hv]
      change ev mX8_walk 33 [some (.inr (.inr 50)), some (.inl x1), some (.inl x2), some (.inl ((τ1 55 r2.toNatClampNeg) + 1))] [.inl r4, .inl ((τ1 55 r2.toNatClampNeg) + 1)] τ3 _
      refine ev_ic_le (tgt := 53) (pc' := 36) dX8_walk_33 (by decide) rfl (fun h5 => ?_) (fun h5 => ?_)
      · have k := k.1 h5
        refine ev_p (pc' := 54) (ls' := [some (.inr (.inr 50)), some (.inl x1), some (.inl x2), some (.inl ((τ1 55 r2.toNatClampNeg) + 1))]) (st' := [.inr (.inr 50)]) dX8_walk_53 rfl ?_
        refine ev_getI (pc' := 57) dX8_walk_54 rfl rfl rfl rfl ?_
        refine ev_cst (v := 3000) (pc' := 60) dX8_walk_57 (by decide) rfl ?_
        refine ev_ic_ne (tgt := 66) (pc' := 63) dX8_walk_60 (by decide) rfl (fun h6 => ?_) (fun h6 => ?_)
        · have k := k.2 h6
          refine ev_p (pc' := 67) (ls' := [some (.inr (.inr 50)), some (.inl x1), some (.inl x2), some (.inl ((τ1 55 r2.toNatClampNeg) + 1))]) (st' := [.inr (.inr 50)]) dX8_walk_66 rfl ?_
          refine ev_p (pc' := 68) (ls' := [some (.inr (.inr 50)), some (.inl x1), some (.inl x2), some (.inl ((τ1 55 r2.toNatClampNeg) + 1))]) (st' := [.inr (.inr 50), .inr (.inr 50)]) dX8_walk_67 rfl ?_
          refine ev_getI (pc' := 71) dX8_walk_68 rfl rfl rfl rfl ?_
          refine ev_cst (v := 1) (pc' := 72) dX8_walk_71 (by decide) rfl ?_
          refine ev_p (pc' := 73) (ls' := [some (.inr (.inr 50)), some (.inl x1), some (.inl x2), some (.inl ((τ1 55 r2.toNatClampNeg) + 1))]) (st' := [.inl ((τ3 50 14) + 1), .inr (.inr 50)]) dX8_walk_72 rfl ?_
          refine ev_putI (pc' := 76) dX8_walk_73 rfl rfl rfl rfl rfl rfl ?_
          refine ev_p (pc' := 77) (ls' := [some (.inr (.inr 50)), some (.inl x1), some (.inl x2), some (.inl ((τ1 55 r2.toNatClampNeg) + 1))]) (st' := [.inr (.inr 50)]) dX8_walk_76 rfl ?_
          refine ev_getA (pc' := 80) (z := 55) dX8_walk_77 rfl rfl rfl rfl ?_
          refine ev_p (pc' := 81) (ls' := [some (.inr (.inr 50)), some (.inl x1), some (.inl x2), some (.inl ((τ1 55 r2.toNatClampNeg) + 1))]) (st' := [.inr (.inr 50), .inr (.inr 55)]) dX8_walk_80 rfl ?_
          refine ev_p (pc' := 82) (ls' := [some (.inr (.inr 50)), some (.inl x1), some (.inl x2), some (.inl ((τ1 55 r2.toNatClampNeg) + 1))]) (st' := [.inl x2, .inr (.inr 50), .inr (.inr 55)]) dX8_walk_81 rfl ?_
          refine ev_call (y := 104) (as := [.inr (.inr 50), .inl x2]) (r := [.inr (.inr 55)]) (M' := mX8_placeOf) (pc' := 85) dX8_walk_82 rfl rfl ⟨rfl, rfl⟩ rfl k rfl (fun v τ5 hq => ?_)
          obtain ⟨r6, hv, k⟩ := hq
          rw [hv]
          change ev mX8_walk 85 [some (.inr (.inr 50)), some (.inl x1), some (.inl x2), some (.inl ((τ1 55 r2.toNatClampNeg) + 1))] [.inl r6, .inr (.inr 55)] τ5 _
          refine ev_p (pc' := 86) (ls' := [some (.inr (.inr 50)), some (.inl x1), some (.inl x2), some (.inl ((τ1 55 r2.toNatClampNeg) + 1))]) (st' := [.inl ((τ1 55 r2.toNatClampNeg) + 1), .inl r6, .inr (.inr 55)]) dX8_walk_85 rfl ?_
          refine ev_stor (pc' := 87) (z := ((τ1 55 r2.toNatClampNeg) + 1)) rfl dX8_walk_86 rfl rfl k.1 rfl rfl ?_
          have k := k.2
          refine ev_p (pc' := 88) (ls' := [some (.inr (.inr 50)), some (.inl x1), some (.inl x2), some (.inl ((τ1 55 r2.toNatClampNeg) + 1))]) (st' := [.inl x2]) dX8_walk_87 rfl ?_
          refine ev_p (pc' := 89) (ls' := [some (.inr (.inr 50)), some (.inl x1), some (.inl x2), some (.inl ((τ1 55 r2.toNatClampNeg) + 1))]) (st' := [.inr (.inr 50), .inl x2]) dX8_walk_88 rfl ?_
          refine ev_p (pc' := 90) (ls' := [some (.inr (.inr 50)), some (.inl x1), some (.inl x2), some (.inl ((τ1 55 r2.toNatClampNeg) + 1))]) (st' := [.inr (.inr 50), .inr (.inr 50), .inl x2]) dX8_walk_89 rfl ?_
          refine ev_getA (pc' := 93) (z := 56) dX8_walk_90 rfl rfl rfl rfl ?_
          refine ev_p (pc' := 94) (ls' := [some (.inr (.inr 50)), some (.inl x1), some (.inl x2), some (.inl ((τ1 55 r2.toNatClampNeg) + 1))]) (st' := [.inl x2, .inr (.inr 56), .inr (.inr 50), .inl x2]) dX8_walk_93 rfl ?_
          refine ev_load (pc' := 95) rfl dX8_walk_94 rfl rfl k.1 rfl ?_
          have k := k.2
          refine ev_call (y := 96) (as := [.inr (.inr 50), .inl ((ab_upd τ5 55 r6.toNatClampNeg ((τ1 55 r2.toNatClampNeg) + 1)) 56 x2.toNatClampNeg)]) (r := [.inl x2]) (M' := mX8_someBreaks) (pc' := 98) dX8_walk_95 rfl rfl ⟨rfl, rfl⟩ rfl k rfl (fun v τ7 hq => ?_)
          obtain ⟨r8, hv, k⟩ := hq
          rw [hv]
          change ev mX8_walk 98 [some (.inr (.inr 50)), some (.inl x1), some (.inl x2), some (.inl ((τ1 55 r2.toNatClampNeg) + 1))] [.inl r8, .inl x2] τ7 _
          refine ev_if_eq (tgt := 105) (pc' := 101) dX8_walk_98 (by decide) rfl (fun h7 => ?_) (fun h7 => ?_)
          · have k := k.1 h7
            refine ev_cst (v := 1) (pc' := 106) dX8_walk_105 (by decide) rfl ?_
            refine ev_p (pc' := 107) (ls' := [some (.inr (.inr 50)), some (.inl x1), some (.inl x2), some (.inl ((τ1 55 r2.toNatClampNeg) + 1))]) (st' := [.inl (x2 + 1)]) dX8_walk_106 rfl ?_
            refine ev_p (pc' := 108) (ls' := [some (.inr (.inr 50)), some (.inl x1), some (.inl (x2 + 1)), some (.inl ((τ1 55 r2.toNatClampNeg) + 1))]) (st' := []) dX8_walk_107 rfl ?_
            refine ev_go (tgt := 2) dX8_walk_108 (by decide) ?_
            exact k
          · have k := k.2 h7
            refine ev_cst (v := 0) (pc' := 102) dX8_walk_101 (by decide) rfl ?_
            refine ev_go (tgt := 106) dX8_walk_102 (by decide) ?_
            refine ev_p (pc' := 107) (ls' := [some (.inr (.inr 50)), some (.inl x1), some (.inl x2), some (.inl ((τ1 55 r2.toNatClampNeg) + 1))]) (st' := [.inl (x2 + 0)]) dX8_walk_106 rfl ?_
            refine ev_p (pc' := 108) (ls' := [some (.inr (.inr 50)), some (.inl x1), some (.inl (x2 + 0)), some (.inl ((τ1 55 r2.toNatClampNeg) + 1))]) (st' := []) dX8_walk_107 rfl ?_
            refine ev_go (tgt := 2) dX8_walk_108 (by decide) ?_
            exact k
        · have k := k.1 h6
          refine ev_cst (v := (-4)) (pc' := 65) dX8_walk_63 (by decide) rfl ?_
          exact ev_ret dX8_walk_65 rfl k
      · have k := k.2 h5
        refine ev_p (pc' := 37) (ls' := [some (.inr (.inr 50)), some (.inl x1), some (.inl x2), some (.inl ((τ1 55 r2.toNatClampNeg) + 1))]) (st' := [.inr (.inr 50)]) dX8_walk_36 rfl ?_
        refine ev_getA (pc' := 40) (z := 55) dX8_walk_37 rfl rfl rfl rfl ?_
        refine ev_p (pc' := 41) (ls' := [some (.inr (.inr 50)), some (.inl x1), some (.inl x2), some (.inl ((τ1 55 r2.toNatClampNeg) + 1))]) (st' := [.inr (.inr 50), .inr (.inr 55)]) dX8_walk_40 rfl ?_
        refine ev_p (pc' := 42) (ls' := [some (.inr (.inr 50)), some (.inl x1), some (.inl x2), some (.inl ((τ1 55 r2.toNatClampNeg) + 1))]) (st' := [.inl x2, .inr (.inr 50), .inr (.inr 55)]) dX8_walk_41 rfl ?_
        refine ev_call (y := 104) (as := [.inr (.inr 50), .inl x2]) (r := [.inr (.inr 55)]) (M' := mX8_placeOf) (pc' := 45) dX8_walk_42 rfl rfl ⟨rfl, rfl⟩ rfl k rfl (fun v τ5 hq => ?_)
        obtain ⟨r6, hv, k⟩ := hq
        rw [hv]
        change ev mX8_walk 45 [some (.inr (.inr 50)), some (.inl x1), some (.inl x2), some (.inl ((τ1 55 r2.toNatClampNeg) + 1))] [.inl r6, .inr (.inr 55)] τ5 _
        refine ev_cst (v := (-1)) (pc' := 46) dX8_walk_45 (by decide) rfl ?_
        refine ev_stor (pc' := 47) (z := (-1)) rfl dX8_walk_46 rfl rfl k.1 rfl rfl ?_
        have k := k.2
        refine ev_p (pc' := 50) (ls' := [some (.inr (.inr 50)), some (.inl x1), some (.inl (x2 + (-1))), some (.inl ((τ1 55 r2.toNatClampNeg) + 1))]) (st' := []) dX8_walk_47 rfl ?_
        refine ev_go (tgt := 108) dX8_walk_50 (by decide) ?_
        refine ev_go (tgt := 2) dX8_walk_108 (by decide) ?_
        exact k
set_option maxRecDepth 20000 in
theorem s_X8_placeOf_0 {σ : ab_M} {Q : Option ab_V → ab_M → Prop} {x1 : Int32}
    (k : ab_in x1 128 = true ∧ ab_in x1 128 = true ∧ ab_in x1 128 = true ∧ Q (some (.inl (((16 * (σ 56 x1.toNatClampNeg)) + (4 * (σ 57 x1.toNatClampNeg))) + (σ 58 x1.toNatClampNeg)))) σ) :
    ev mX8_placeOf 0 [some (.inr (.inr 50)), some (.inl x1)] [] σ Q := by
  refine ev_cst (v := 16) (pc' := 2) dX8_placeOf_0 (by decide) rfl ?_
  refine ev_p (pc' := 3) (ls' := [some (.inr (.inr 50)), some (.inl x1)]) (st' := [.inr (.inr 50), .inl 16]) dX8_placeOf_2 rfl ?_
  refine ev_getA (pc' := 6) (z := 56) dX8_placeOf_3 rfl rfl rfl rfl ?_
  refine ev_p (pc' := 7) (ls' := [some (.inr (.inr 50)), some (.inl x1)]) (st' := [.inl x1, .inr (.inr 56), .inl 16]) dX8_placeOf_6 rfl ?_
  refine ev_load (pc' := 8) rfl dX8_placeOf_7 rfl rfl k.1 rfl ?_
  have k := k.2
  refine ev_p (pc' := 9) (ls' := [some (.inr (.inr 50)), some (.inl x1)]) (st' := [.inl (16 * (σ 56 x1.toNatClampNeg))]) dX8_placeOf_8 rfl ?_
  refine ev_cst (v := 4) (pc' := 10) dX8_placeOf_9 (by decide) rfl ?_
  refine ev_p (pc' := 11) (ls' := [some (.inr (.inr 50)), some (.inl x1)]) (st' := [.inr (.inr 50), .inl 4, .inl (16 * (σ 56 x1.toNatClampNeg))]) dX8_placeOf_10 rfl ?_
  refine ev_getA (pc' := 14) (z := 57) dX8_placeOf_11 rfl rfl rfl rfl ?_
  refine ev_p (pc' := 15) (ls' := [some (.inr (.inr 50)), some (.inl x1)]) (st' := [.inl x1, .inr (.inr 57), .inl 4, .inl (16 * (σ 56 x1.toNatClampNeg))]) dX8_placeOf_14 rfl ?_
  refine ev_load (pc' := 16) rfl dX8_placeOf_15 rfl rfl k.1 rfl ?_
  have k := k.2
  refine ev_p (pc' := 17) (ls' := [some (.inr (.inr 50)), some (.inl x1)]) (st' := [.inl (4 * (σ 57 x1.toNatClampNeg)), .inl (16 * (σ 56 x1.toNatClampNeg))]) dX8_placeOf_16 rfl ?_
  refine ev_p (pc' := 18) (ls' := [some (.inr (.inr 50)), some (.inl x1)]) (st' := [.inl ((16 * (σ 56 x1.toNatClampNeg)) + (4 * (σ 57 x1.toNatClampNeg)))]) dX8_placeOf_17 rfl ?_
  refine ev_p (pc' := 19) (ls' := [some (.inr (.inr 50)), some (.inl x1)]) (st' := [.inr (.inr 50), .inl ((16 * (σ 56 x1.toNatClampNeg)) + (4 * (σ 57 x1.toNatClampNeg)))]) dX8_placeOf_18 rfl ?_
  refine ev_getA (pc' := 22) (z := 58) dX8_placeOf_19 rfl rfl rfl rfl ?_
  refine ev_p (pc' := 23) (ls' := [some (.inr (.inr 50)), some (.inl x1)]) (st' := [.inl x1, .inr (.inr 58), .inl ((16 * (σ 56 x1.toNatClampNeg)) + (4 * (σ 57 x1.toNatClampNeg)))]) dX8_placeOf_22 rfl ?_
  refine ev_load (pc' := 24) rfl dX8_placeOf_23 rfl rfl k.1 rfl ?_
  have k := k.2
  refine ev_p (pc' := 25) (ls' := [some (.inr (.inr 50)), some (.inl x1)]) (st' := [.inl (((16 * (σ 56 x1.toNatClampNeg)) + (4 * (σ 57 x1.toNatClampNeg))) + (σ 58 x1.toNatClampNeg))]) dX8_placeOf_24 rfl ?_
  exact ev_ret dX8_placeOf_25 rfl k
set_option maxRecDepth 20000 in
theorem s_X8_limit_0 {σ : ab_M} {Q : Option ab_V → ab_M → Prop} {x1 : Int32}
    (k : ab_in x1 128 = true ∧ (((σ 56 x1.toNatClampNeg) ≤ 3 → ab_in x1 128 = true ∧ ab_in (σ 56 x1.toNatClampNeg) 8 = true ∧ (((σ 51 (σ 56 x1.toNatClampNeg).toNatClampNeg) ≤ 0 → (((σ 51 (σ 56 x1.toNatClampNeg).toNatClampNeg) ≤ 1 → ev mX8_limit 62 [some (.inr (.inr 50)), some (.inl x1), some (.inl (-1)), some (.inl (σ 51 (σ 56 x1.toNatClampNeg).toNatClampNeg)), some (.inl 0), none] [] σ Q) ∧ (¬ (σ 51 (σ 56 x1.toNatClampNeg).toNatClampNeg) ≤ 1 → ab_in x1 128 = true ∧ (((σ 58 x1.toNatClampNeg) ≤ (-1) → ev mX8_limit 62 [some (.inr (.inr 50)), some (.inl x1), some (.inl (-1)), some (.inl (σ 51 (σ 56 x1.toNatClampNeg).toNatClampNeg)), some (.inl 0), none] [] σ Q) ∧ (¬ (σ 58 x1.toNatClampNeg) ≤ (-1) → ab_in x1 128 = true ∧ ev mX8_limit 62 [some (.inr (.inr 50)), some (.inl x1), some (.inl (σ 58 x1.toNatClampNeg)), some (.inl (σ 51 (σ 56 x1.toNatClampNeg).toNatClampNeg)), some (.inl 0), none] [] σ Q))))) ∧ (¬ (σ 51 (σ 56 x1.toNatClampNeg).toNatClampNeg) ≤ 0 → ab_in x1 128 = true ∧ (((σ 51 (σ 56 x1.toNatClampNeg).toNatClampNeg) ≤ 1 → ev mX8_limit 62 [some (.inr (.inr 50)), some (.inl x1), some (.inl (σ 57 x1.toNatClampNeg)), some (.inl (σ 51 (σ 56 x1.toNatClampNeg).toNatClampNeg)), some (.inl 0), none] [] σ Q) ∧ (¬ (σ 51 (σ 56 x1.toNatClampNeg).toNatClampNeg) ≤ 1 → ab_in x1 128 = true ∧ (((σ 58 x1.toNatClampNeg) ≤ (σ 57 x1.toNatClampNeg) → ev mX8_limit 62 [some (.inr (.inr 50)), some (.inl x1), some (.inl (σ 57 x1.toNatClampNeg)), some (.inl (σ 51 (σ 56 x1.toNatClampNeg).toNatClampNeg)), some (.inl 0), none] [] σ Q) ∧ (¬ (σ 58 x1.toNatClampNeg) ≤ (σ 57 x1.toNatClampNeg) → ab_in x1 128 = true ∧ ev mX8_limit 62 [some (.inr (.inr 50)), some (.inl x1), some (.inl (σ 58 x1.toNatClampNeg)), some (.inl (σ 51 (σ 56 x1.toNatClampNeg).toNatClampNeg)), some (.inl 0), none] [] σ Q))))))) ∧ (¬ (σ 56 x1.toNatClampNeg) ≤ 3 → Q (some (.inl 1)) σ))) :
    ev mX8_limit 0 [some (.inr (.inr 50)), some (.inl x1), none, none, none, none] [] σ Q := by
  refine ev_p (pc' := 1) (ls' := [some (.inr (.inr 50)), some (.inl x1), none, none, none, none]) (st' := [.inr (.inr 50)]) dX8_limit_0 rfl ?_
  refine ev_getA (pc' := 4) (z := 56) dX8_limit_1 rfl rfl rfl rfl ?_
  refine ev_p (pc' := 5) (ls' := [some (.inr (.inr 50)), some (.inl x1), none, none, none, none]) (st' := [.inl x1, .inr (.inr 56)]) dX8_limit_4 rfl ?_
  refine ev_load (pc' := 6) rfl dX8_limit_5 rfl rfl k.1 rfl ?_
  have k := k.2
  refine ev_cst (v := 3) (pc' := 7) dX8_limit_6 (by decide) rfl ?_
  refine ev_ic_le (tgt := 12) (pc' := 10) dX8_limit_7 (by decide) rfl (fun h1 => ?_) (fun h1 => ?_)
  · have k := k.1 h1
    refine ev_cst (v := (-1)) (pc' := 13) dX8_limit_12 (by decide) rfl ?_
    refine ev_p (pc' := 14) (ls' := [some (.inr (.inr 50)), some (.inl x1), some (.inl (-1)), none, none, none]) (st' := []) dX8_limit_13 rfl ?_
    refine ev_p (pc' := 15) (ls' := [some (.inr (.inr 50)), some (.inl x1), some (.inl (-1)), none, none, none]) (st' := [.inr (.inr 50)]) dX8_limit_14 rfl ?_
    refine ev_getA (pc' := 18) (z := 51) dX8_limit_15 rfl rfl rfl rfl ?_
    refine ev_p (pc' := 19) (ls' := [some (.inr (.inr 50)), some (.inl x1), some (.inl (-1)), none, none, none]) (st' := [.inr (.inr 50), .inr (.inr 51)]) dX8_limit_18 rfl ?_
    refine ev_getA (pc' := 22) (z := 56) dX8_limit_19 rfl rfl rfl rfl ?_
    refine ev_p (pc' := 23) (ls' := [some (.inr (.inr 50)), some (.inl x1), some (.inl (-1)), none, none, none]) (st' := [.inl x1, .inr (.inr 56), .inr (.inr 51)]) dX8_limit_22 rfl ?_
    refine ev_load (pc' := 24) rfl dX8_limit_23 rfl rfl k.1 rfl ?_
    have k := k.2
    refine ev_load (pc' := 25) rfl dX8_limit_24 rfl rfl k.1 rfl ?_
    have k := k.2
    refine ev_p (pc' := 26) (ls' := [some (.inr (.inr 50)), some (.inl x1), some (.inl (-1)), some (.inl (σ 51 (σ 56 x1.toNatClampNeg).toNatClampNeg)), none, none]) (st' := []) dX8_limit_25 rfl ?_
    refine ev_p (pc' := 27) (ls' := [some (.inr (.inr 50)), some (.inl x1), some (.inl (-1)), some (.inl (σ 51 (σ 56 x1.toNatClampNeg).toNatClampNeg)), none, none]) (st' := [.inl (σ 51 (σ 56 x1.toNatClampNeg).toNatClampNeg)]) dX8_limit_26 rfl ?_
    refine ev_if_le (tgt := 37) (pc' := 30) dX8_limit_27 (by decide) rfl (fun h2 => ?_) (fun h2 => ?_)
    · have k := k.1 h2
      refine ev_p (pc' := 38) (ls' := [some (.inr (.inr 50)), some (.inl x1), some (.inl (-1)), some (.inl (σ 51 (σ 56 x1.toNatClampNeg).toNatClampNeg)), none, none]) (st' := [.inl (σ 51 (σ 56 x1.toNatClampNeg).toNatClampNeg)]) dX8_limit_37 rfl ?_
      refine ev_cst (v := 1) (pc' := 39) dX8_limit_38 (by decide) rfl ?_
      refine ev_ic_le (tgt := 59) (pc' := 42) dX8_limit_39 (by decide) rfl (fun h3 => ?_) (fun h3 => ?_)
      · have k := k.1 h3
        refine ev_cst (v := 0) (pc' := 60) dX8_limit_59 (by decide) rfl ?_
        refine ev_p (pc' := 62) (ls' := [some (.inr (.inr 50)), some (.inl x1), some (.inl (-1)), some (.inl (σ 51 (σ 56 x1.toNatClampNeg).toNatClampNeg)), some (.inl 0), none]) (st' := []) dX8_limit_60 rfl ?_
        exact k
      · have k := k.2 h3
        refine ev_p (pc' := 43) (ls' := [some (.inr (.inr 50)), some (.inl x1), some (.inl (-1)), some (.inl (σ 51 (σ 56 x1.toNatClampNeg).toNatClampNeg)), none, none]) (st' := [.inr (.inr 50)]) dX8_limit_42 rfl ?_
        refine ev_getA (pc' := 46) (z := 58) dX8_limit_43 rfl rfl rfl rfl ?_
        refine ev_p (pc' := 47) (ls' := [some (.inr (.inr 50)), some (.inl x1), some (.inl (-1)), some (.inl (σ 51 (σ 56 x1.toNatClampNeg).toNatClampNeg)), none, none]) (st' := [.inl x1, .inr (.inr 58)]) dX8_limit_46 rfl ?_
        refine ev_load (pc' := 48) rfl dX8_limit_47 rfl rfl k.1 rfl ?_
        have k := k.2
        refine ev_p (pc' := 49) (ls' := [some (.inr (.inr 50)), some (.inl x1), some (.inl (-1)), some (.inl (σ 51 (σ 56 x1.toNatClampNeg).toNatClampNeg)), none, none]) (st' := [.inl (-1), .inl (σ 58 x1.toNatClampNeg)]) dX8_limit_48 rfl ?_
        refine ev_ic_le (tgt := 59) (pc' := 52) dX8_limit_49 (by decide) rfl (fun h4 => ?_) (fun h4 => ?_)
        · have k := k.1 h4
          refine ev_cst (v := 0) (pc' := 60) dX8_limit_59 (by decide) rfl ?_
          refine ev_p (pc' := 62) (ls' := [some (.inr (.inr 50)), some (.inl x1), some (.inl (-1)), some (.inl (σ 51 (σ 56 x1.toNatClampNeg).toNatClampNeg)), some (.inl 0), none]) (st' := []) dX8_limit_60 rfl ?_
          exact k
        · have k := k.2 h4
          refine ev_p (pc' := 53) (ls' := [some (.inr (.inr 50)), some (.inl x1), some (.inl (-1)), some (.inl (σ 51 (σ 56 x1.toNatClampNeg).toNatClampNeg)), none, none]) (st' := [.inr (.inr 50)]) dX8_limit_52 rfl ?_
          refine ev_getA (pc' := 56) (z := 58) dX8_limit_53 rfl rfl rfl rfl ?_
          refine ev_p (pc' := 57) (ls' := [some (.inr (.inr 50)), some (.inl x1), some (.inl (-1)), some (.inl (σ 51 (σ 56 x1.toNatClampNeg).toNatClampNeg)), none, none]) (st' := [.inl x1, .inr (.inr 58)]) dX8_limit_56 rfl ?_
          refine ev_load (pc' := 58) rfl dX8_limit_57 rfl rfl k.1 rfl ?_
          have k := k.2
          refine ev_p (pc' := 59) (ls' := [some (.inr (.inr 50)), some (.inl x1), some (.inl (σ 58 x1.toNatClampNeg)), some (.inl (σ 51 (σ 56 x1.toNatClampNeg).toNatClampNeg)), none, none]) (st' := []) dX8_limit_58 rfl ?_
          refine ev_cst (v := 0) (pc' := 60) dX8_limit_59 (by decide) rfl ?_
          refine ev_p (pc' := 62) (ls' := [some (.inr (.inr 50)), some (.inl x1), some (.inl (σ 58 x1.toNatClampNeg)), some (.inl (σ 51 (σ 56 x1.toNatClampNeg).toNatClampNeg)), some (.inl 0), none]) (st' := []) dX8_limit_60 rfl ?_
          exact k
    · have k := k.2 h2
      refine ev_p (pc' := 31) (ls' := [some (.inr (.inr 50)), some (.inl x1), some (.inl (-1)), some (.inl (σ 51 (σ 56 x1.toNatClampNeg).toNatClampNeg)), none, none]) (st' := [.inr (.inr 50)]) dX8_limit_30 rfl ?_
      refine ev_getA (pc' := 34) (z := 57) dX8_limit_31 rfl rfl rfl rfl ?_
      refine ev_p (pc' := 35) (ls' := [some (.inr (.inr 50)), some (.inl x1), some (.inl (-1)), some (.inl (σ 51 (σ 56 x1.toNatClampNeg).toNatClampNeg)), none, none]) (st' := [.inl x1, .inr (.inr 57)]) dX8_limit_34 rfl ?_
      refine ev_load (pc' := 36) rfl dX8_limit_35 rfl rfl k.1 rfl ?_
      have k := k.2
      refine ev_p (pc' := 37) (ls' := [some (.inr (.inr 50)), some (.inl x1), some (.inl (σ 57 x1.toNatClampNeg)), some (.inl (σ 51 (σ 56 x1.toNatClampNeg).toNatClampNeg)), none, none]) (st' := []) dX8_limit_36 rfl ?_
      refine ev_p (pc' := 38) (ls' := [some (.inr (.inr 50)), some (.inl x1), some (.inl (σ 57 x1.toNatClampNeg)), some (.inl (σ 51 (σ 56 x1.toNatClampNeg).toNatClampNeg)), none, none]) (st' := [.inl (σ 51 (σ 56 x1.toNatClampNeg).toNatClampNeg)]) dX8_limit_37 rfl ?_
      refine ev_cst (v := 1) (pc' := 39) dX8_limit_38 (by decide) rfl ?_
      refine ev_ic_le (tgt := 59) (pc' := 42) dX8_limit_39 (by decide) rfl (fun h5 => ?_) (fun h5 => ?_)
      · have k := k.1 h5
        refine ev_cst (v := 0) (pc' := 60) dX8_limit_59 (by decide) rfl ?_
        refine ev_p (pc' := 62) (ls' := [some (.inr (.inr 50)), some (.inl x1), some (.inl (σ 57 x1.toNatClampNeg)), some (.inl (σ 51 (σ 56 x1.toNatClampNeg).toNatClampNeg)), some (.inl 0), none]) (st' := []) dX8_limit_60 rfl ?_
        exact k
      · have k := k.2 h5
        refine ev_p (pc' := 43) (ls' := [some (.inr (.inr 50)), some (.inl x1), some (.inl (σ 57 x1.toNatClampNeg)), some (.inl (σ 51 (σ 56 x1.toNatClampNeg).toNatClampNeg)), none, none]) (st' := [.inr (.inr 50)]) dX8_limit_42 rfl ?_
        refine ev_getA (pc' := 46) (z := 58) dX8_limit_43 rfl rfl rfl rfl ?_
        refine ev_p (pc' := 47) (ls' := [some (.inr (.inr 50)), some (.inl x1), some (.inl (σ 57 x1.toNatClampNeg)), some (.inl (σ 51 (σ 56 x1.toNatClampNeg).toNatClampNeg)), none, none]) (st' := [.inl x1, .inr (.inr 58)]) dX8_limit_46 rfl ?_
        refine ev_load (pc' := 48) rfl dX8_limit_47 rfl rfl k.1 rfl ?_
        have k := k.2
        refine ev_p (pc' := 49) (ls' := [some (.inr (.inr 50)), some (.inl x1), some (.inl (σ 57 x1.toNatClampNeg)), some (.inl (σ 51 (σ 56 x1.toNatClampNeg).toNatClampNeg)), none, none]) (st' := [.inl (σ 57 x1.toNatClampNeg), .inl (σ 58 x1.toNatClampNeg)]) dX8_limit_48 rfl ?_
        refine ev_ic_le (tgt := 59) (pc' := 52) dX8_limit_49 (by decide) rfl (fun h6 => ?_) (fun h6 => ?_)
        · have k := k.1 h6
          refine ev_cst (v := 0) (pc' := 60) dX8_limit_59 (by decide) rfl ?_
          refine ev_p (pc' := 62) (ls' := [some (.inr (.inr 50)), some (.inl x1), some (.inl (σ 57 x1.toNatClampNeg)), some (.inl (σ 51 (σ 56 x1.toNatClampNeg).toNatClampNeg)), some (.inl 0), none]) (st' := []) dX8_limit_60 rfl ?_
          exact k
        · have k := k.2 h6
          refine ev_p (pc' := 53) (ls' := [some (.inr (.inr 50)), some (.inl x1), some (.inl (σ 57 x1.toNatClampNeg)), some (.inl (σ 51 (σ 56 x1.toNatClampNeg).toNatClampNeg)), none, none]) (st' := [.inr (.inr 50)]) dX8_limit_52 rfl ?_
          refine ev_getA (pc' := 56) (z := 58) dX8_limit_53 rfl rfl rfl rfl ?_
          refine ev_p (pc' := 57) (ls' := [some (.inr (.inr 50)), some (.inl x1), some (.inl (σ 57 x1.toNatClampNeg)), some (.inl (σ 51 (σ 56 x1.toNatClampNeg).toNatClampNeg)), none, none]) (st' := [.inl x1, .inr (.inr 58)]) dX8_limit_56 rfl ?_
          refine ev_load (pc' := 58) rfl dX8_limit_57 rfl rfl k.1 rfl ?_
          have k := k.2
          refine ev_p (pc' := 59) (ls' := [some (.inr (.inr 50)), some (.inl x1), some (.inl (σ 58 x1.toNatClampNeg)), some (.inl (σ 51 (σ 56 x1.toNatClampNeg).toNatClampNeg)), none, none]) (st' := []) dX8_limit_58 rfl ?_
          refine ev_cst (v := 0) (pc' := 60) dX8_limit_59 (by decide) rfl ?_
          refine ev_p (pc' := 62) (ls' := [some (.inr (.inr 50)), some (.inl x1), some (.inl (σ 58 x1.toNatClampNeg)), some (.inl (σ 51 (σ 56 x1.toNatClampNeg).toNatClampNeg)), some (.inl 0), none]) (st' := []) dX8_limit_60 rfl ?_
          exact k
  · have k := k.2 h1
    refine ev_cst (v := 1) (pc' := 11) dX8_limit_10 (by decide) rfl ?_
    exact ev_ret dX8_limit_11 rfl k
set_option maxRecDepth 20000 in
theorem s_X8_limit_62 {σ : ab_M} {Q : Option ab_V → ab_M → Prop} {x1 : Int32} {x2 : Int32} {x3 : Int32} {x4 : Int32} {o5 : Option ab_V}
    (k : ((x1 ≤ x4 → ((((σ 50 7) - 1) ≤ (x2 + 1) → Q (some (.inl ((σ 50 7) - 1))) σ) ∧ (¬ ((σ 50 7) - 1) ≤ (x2 + 1) → Q (some (.inl (x2 + 1))) σ))) ∧ (¬ x1 ≤ x4 → evm mX8_placeOf [.inr (.inr 50), .inl x4] σ (fun v τ1 => ∃ r2 : Int32, v = some (.inl r2) ∧ ab_in r2 128 = true ∧ ab_in x4 128 = true ∧ ((4 ≤ (τ1 56 x4.toNatClampNeg) → ev mX8_limit 62 [some (.inr (.inr 50)), some (.inl x1), some (.inl x2), some (.inl x3), some (.inl (x4 + 1)), some (.inl (τ1 55 r2.toNatClampNeg))] [] τ1 Q) ∧ (¬ 4 ≤ (τ1 56 x4.toNatClampNeg) → (((τ1 55 r2.toNatClampNeg) ≤ x2 → ev mX8_limit 62 [some (.inr (.inr 50)), some (.inl x1), some (.inl x2), some (.inl x3), some (.inl (x4 + 1)), some (.inl (τ1 55 r2.toNatClampNeg))] [] τ1 Q) ∧ (¬ (τ1 55 r2.toNatClampNeg) ≤ x2 → ev mX8_limit 62 [some (.inr (.inr 50)), some (.inl x1), some (.inl (τ1 55 r2.toNatClampNeg)), some (.inl x3), some (.inl (x4 + 1)), some (.inl (τ1 55 r2.toNatClampNeg))] [] τ1 Q)))))))) :
    ev mX8_limit 62 [some (.inr (.inr 50)), some (.inl x1), some (.inl x2), some (.inl x3), some (.inl x4), o5] [] σ Q := by
  refine ev_p (pc' := 64) (ls' := [some (.inr (.inr 50)), some (.inl x1), some (.inl x2), some (.inl x3), some (.inl x4), o5]) (st' := [.inl x4]) dX8_limit_62 rfl ?_
  refine ev_p (pc' := 65) (ls' := [some (.inr (.inr 50)), some (.inl x1), some (.inl x2), some (.inl x3), some (.inl x4), o5]) (st' := [.inl x1, .inl x4]) dX8_limit_64 rfl ?_
  refine ev_ic_ge (tgt := 111) (pc' := 68) dX8_limit_65 (by decide) rfl (fun h1 => ?_) (fun h1 => ?_)
  · have k := k.1 h1
    refine ev_p (pc' := 112) (ls' := [some (.inr (.inr 50)), some (.inl x1), some (.inl x2), some (.inl x3), some (.inl x4), o5]) (st' := [.inl x2]) dX8_limit_111 rfl ?_
    refine ev_cst (v := 1) (pc' := 113) dX8_limit_112 (by decide) rfl ?_
    refine ev_p (pc' := 114) (ls' := [some (.inr (.inr 50)), some (.inl x1), some (.inl x2), some (.inl x3), some (.inl x4), o5]) (st' := [.inl (x2 + 1)]) dX8_limit_113 rfl ?_
    refine ev_p (pc' := 115) (ls' := [some (.inr (.inr 50)), some (.inl x1), some (.inl x2), some (.inl x3), some (.inl x4), o5]) (st' := [.inr (.inr 50), .inl (x2 + 1)]) dX8_limit_114 rfl ?_
    refine ev_getI (pc' := 118) dX8_limit_115 rfl rfl rfl rfl ?_
    refine ev_cst (v := 1) (pc' := 119) dX8_limit_118 (by decide) rfl ?_
    refine ev_p (pc' := 120) (ls' := [some (.inr (.inr 50)), some (.inl x1), some (.inl x2), some (.inl x3), some (.inl x4), o5]) (st' := [.inl ((σ 50 7) - 1), .inl (x2 + 1)]) dX8_limit_119 rfl ?_
    refine ev_ic_ge (tgt := 129) (pc' := 123) dX8_limit_120 (by decide) rfl (fun h2 => ?_) (fun h2 => ?_)
    · have k := k.1 h2
      refine ev_p (pc' := 130) (ls' := [some (.inr (.inr 50)), some (.inl x1), some (.inl x2), some (.inl x3), some (.inl x4), o5]) (st' := [.inr (.inr 50)]) dX8_limit_129 rfl ?_
      refine ev_getI (pc' := 133) dX8_limit_130 rfl rfl rfl rfl ?_
      refine ev_cst (v := 1) (pc' := 134) dX8_limit_133 (by decide) rfl ?_
      refine ev_p (pc' := 135) (ls' := [some (.inr (.inr 50)), some (.inl x1), some (.inl x2), some (.inl x3), some (.inl x4), o5]) (st' := [.inl ((σ 50 7) - 1)]) dX8_limit_134 rfl ?_
      exact ev_ret dX8_limit_135 rfl k
    · have k := k.2 h2
      refine ev_p (pc' := 124) (ls' := [some (.inr (.inr 50)), some (.inl x1), some (.inl x2), some (.inl x3), some (.inl x4), o5]) (st' := [.inl x2]) dX8_limit_123 rfl ?_
      refine ev_cst (v := 1) (pc' := 125) dX8_limit_124 (by decide) rfl ?_
      refine ev_p (pc' := 126) (ls' := [some (.inr (.inr 50)), some (.inl x1), some (.inl x2), some (.inl x3), some (.inl x4), o5]) (st' := [.inl (x2 + 1)]) dX8_limit_125 rfl ?_
      refine ev_go (tgt := 135) dX8_limit_126 (by decide) ?_
      exact ev_ret dX8_limit_135 rfl k
  · have k := k.2 h1
    refine ev_p (pc' := 69) (ls' := [some (.inr (.inr 50)), some (.inl x1), some (.inl x2), some (.inl x3), some (.inl x4), o5]) (st' := [.inr (.inr 50)]) dX8_limit_68 rfl ?_
    refine ev_getA (pc' := 72) (z := 55) dX8_limit_69 rfl rfl rfl rfl ?_
    refine ev_p (pc' := 73) (ls' := [some (.inr (.inr 50)), some (.inl x1), some (.inl x2), some (.inl x3), some (.inl x4), o5]) (st' := [.inr (.inr 50), .inr (.inr 55)]) dX8_limit_72 rfl ?_
    refine ev_p (pc' := 75) (ls' := [some (.inr (.inr 50)), some (.inl x1), some (.inl x2), some (.inl x3), some (.inl x4), o5]) (st' := [.inl x4, .inr (.inr 50), .inr (.inr 55)]) dX8_limit_73 rfl ?_
    refine ev_call (y := 104) (as := [.inr (.inr 50), .inl x4]) (r := [.inr (.inr 55)]) (M' := mX8_placeOf) (pc' := 78) dX8_limit_75 rfl rfl ⟨rfl, rfl⟩ rfl k rfl (fun v τ1 hq => ?_)
    obtain ⟨r2, hv, k⟩ := hq
    rw [hv]
    change ev mX8_limit 78 [some (.inr (.inr 50)), some (.inl x1), some (.inl x2), some (.inl x3), some (.inl x4), o5] [.inl r2, .inr (.inr 55)] τ1 _
    refine ev_load (pc' := 79) rfl dX8_limit_78 rfl rfl k.1 rfl ?_
    have k := k.2
    refine ev_p (pc' := 81) (ls' := [some (.inr (.inr 50)), some (.inl x1), some (.inl x2), some (.inl x3), some (.inl x4), some (.inl (τ1 55 r2.toNatClampNeg))]) (st' := []) dX8_limit_79 rfl ?_
    refine ev_p (pc' := 82) (ls' := [some (.inr (.inr 50)), some (.inl x1), some (.inl x2), some (.inl x3), some (.inl x4), some (.inl (τ1 55 r2.toNatClampNeg))]) (st' := [.inr (.inr 50)]) dX8_limit_81 rfl ?_
    refine ev_getA (pc' := 85) (z := 56) dX8_limit_82 rfl rfl rfl rfl ?_
    refine ev_p (pc' := 87) (ls' := [some (.inr (.inr 50)), some (.inl x1), some (.inl x2), some (.inl x3), some (.inl x4), some (.inl (τ1 55 r2.toNatClampNeg))]) (st' := [.inl x4, .inr (.inr 56)]) dX8_limit_85 rfl ?_
    refine ev_load (pc' := 88) rfl dX8_limit_87 rfl rfl k.1 rfl ?_
    have k := k.2
    refine ev_cst (v := 4) (pc' := 89) dX8_limit_88 (by decide) rfl ?_
    refine ev_ic_ge (tgt := 103) (pc' := 92) dX8_limit_89 (by decide) rfl (fun h3 => ?_) (fun h3 => ?_)
    · have k := k.1 h3
      refine ev_p (pc' := 104) (ls' := [some (.inr (.inr 50)), some (.inl x1), some (.inl x2), some (.inl x3), some (.inl x4), some (.inl (τ1 55 r2.toNatClampNeg))]) (st' := [.inl x2]) dX8_limit_103 rfl ?_
      refine ev_p (pc' := 105) (ls' := [some (.inr (.inr 50)), some (.inl x1), some (.inl x2), some (.inl x3), some (.inl x4), some (.inl (τ1 55 r2.toNatClampNeg))]) (st' := []) dX8_limit_104 rfl ?_
      refine ev_p (pc' := 108) (ls' := [some (.inr (.inr 50)), some (.inl x1), some (.inl x2), some (.inl x3), some (.inl (x4 + 1)), some (.inl (τ1 55 r2.toNatClampNeg))]) (st' := []) dX8_limit_105 rfl ?_
      refine ev_go (tgt := 62) dX8_limit_108 (by decide) ?_
      exact k
    · have k := k.2 h3
      refine ev_p (pc' := 94) (ls' := [some (.inr (.inr 50)), some (.inl x1), some (.inl x2), some (.inl x3), some (.inl x4), some (.inl (τ1 55 r2.toNatClampNeg))]) (st' := [.inl (τ1 55 r2.toNatClampNeg)]) dX8_limit_92 rfl ?_
      refine ev_p (pc' := 95) (ls' := [some (.inr (.inr 50)), some (.inl x1), some (.inl x2), some (.inl x3), some (.inl x4), some (.inl (τ1 55 r2.toNatClampNeg))]) (st' := [.inl x2, .inl (τ1 55 r2.toNatClampNeg)]) dX8_limit_94 rfl ?_
      refine ev_ic_le (tgt := 103) (pc' := 98) dX8_limit_95 (by decide) rfl (fun h4 => ?_) (fun h4 => ?_)
      · have k := k.1 h4
        refine ev_p (pc' := 104) (ls' := [some (.inr (.inr 50)), some (.inl x1), some (.inl x2), some (.inl x3), some (.inl x4), some (.inl (τ1 55 r2.toNatClampNeg))]) (st' := [.inl x2]) dX8_limit_103 rfl ?_
        refine ev_p (pc' := 105) (ls' := [some (.inr (.inr 50)), some (.inl x1), some (.inl x2), some (.inl x3), some (.inl x4), some (.inl (τ1 55 r2.toNatClampNeg))]) (st' := []) dX8_limit_104 rfl ?_
        refine ev_p (pc' := 108) (ls' := [some (.inr (.inr 50)), some (.inl x1), some (.inl x2), some (.inl x3), some (.inl (x4 + 1)), some (.inl (τ1 55 r2.toNatClampNeg))]) (st' := []) dX8_limit_105 rfl ?_
        refine ev_go (tgt := 62) dX8_limit_108 (by decide) ?_
        exact k
      · have k := k.2 h4
        refine ev_p (pc' := 100) (ls' := [some (.inr (.inr 50)), some (.inl x1), some (.inl x2), some (.inl x3), some (.inl x4), some (.inl (τ1 55 r2.toNatClampNeg))]) (st' := [.inl (τ1 55 r2.toNatClampNeg)]) dX8_limit_98 rfl ?_
        refine ev_go (tgt := 104) dX8_limit_100 (by decide) ?_
        refine ev_p (pc' := 105) (ls' := [some (.inr (.inr 50)), some (.inl x1), some (.inl (τ1 55 r2.toNatClampNeg)), some (.inl x3), some (.inl x4), some (.inl (τ1 55 r2.toNatClampNeg))]) (st' := []) dX8_limit_104 rfl ?_
        refine ev_p (pc' := 108) (ls' := [some (.inr (.inr 50)), some (.inl x1), some (.inl (τ1 55 r2.toNatClampNeg)), some (.inl x3), some (.inl (x4 + 1)), some (.inl (τ1 55 r2.toNatClampNeg))]) (st' := []) dX8_limit_105 rfl ?_
        refine ev_go (tgt := 62) dX8_limit_108 (by decide) ?_
        exact k
set_option maxRecDepth 20000 in
theorem s_X8_more_0 {σ : ab_M} {Q : Option ab_V → ab_M → Prop} 
    (k : (((σ 50 12) = 0 → Q (some (.inl (-2))) σ) ∧ (¬ (σ 50 12) = 0 → (((σ 50 13) = 0 → Q (some (.inl (-2))) σ) ∧ (¬ (σ 50 13) = 0 → evm mX8_walk [.inr (.inr 50), .inl (((ab_upd σ 50 14 0) 50 8) - 1)] (ab_upd σ 50 14 0) (fun v τ1 => ∃ r2 : Int32, v = some (.inl r2) ∧ ((r2 = 1 → Q (some (.inl r2)) (ab_upd τ1 50 12 1)) ∧ (¬ r2 = 1 → Q (some (.inl r2)) (ab_upd τ1 50 12 0))))))))) :
    ev mX8_more 0 [some (.inr (.inr 50)), none] [] σ Q := by
  refine ev_p (pc' := 1) (ls' := [some (.inr (.inr 50)), none]) (st' := [.inr (.inr 50)]) dX8_more_0 rfl ?_
  refine ev_getI (pc' := 4) dX8_more_1 rfl rfl rfl rfl ?_
  refine ev_if_eq (tgt := 14) (pc' := 7) dX8_more_4 (by decide) rfl (fun h1 => ?_) (fun h1 => ?_)
  · have k := k.1 h1
    refine ev_cst (v := (-2)) (pc' := 16) dX8_more_14 (by decide) rfl ?_
    exact ev_ret dX8_more_16 rfl k
  · have k := k.2 h1
    refine ev_p (pc' := 8) (ls' := [some (.inr (.inr 50)), none]) (st' := [.inr (.inr 50)]) dX8_more_7 rfl ?_
    refine ev_getI (pc' := 11) dX8_more_8 rfl rfl rfl rfl ?_
    refine ev_if_ne (tgt := 17) (pc' := 14) dX8_more_11 (by decide) rfl (fun h2 => ?_) (fun h2 => ?_)
    · have k := k.2 h2
      refine ev_p (pc' := 18) (ls' := [some (.inr (.inr 50)), none]) (st' := [.inr (.inr 50)]) dX8_more_17 rfl ?_
      refine ev_cst (v := 0) (pc' := 19) dX8_more_18 (by decide) rfl ?_
      refine ev_putI (pc' := 22) dX8_more_19 rfl rfl rfl rfl rfl rfl ?_
      refine ev_p (pc' := 23) (ls' := [some (.inr (.inr 50)), none]) (st' := [.inr (.inr 50)]) dX8_more_22 rfl ?_
      refine ev_p (pc' := 24) (ls' := [some (.inr (.inr 50)), none]) (st' := [.inr (.inr 50), .inr (.inr 50)]) dX8_more_23 rfl ?_
      refine ev_getI (pc' := 27) dX8_more_24 rfl rfl rfl rfl ?_
      refine ev_cst (v := 1) (pc' := 28) dX8_more_27 (by decide) rfl ?_
      refine ev_p (pc' := 29) (ls' := [some (.inr (.inr 50)), none]) (st' := [.inl (((ab_upd σ 50 14 0) 50 8) - 1), .inr (.inr 50)]) dX8_more_28 rfl ?_
      refine ev_call (y := 103) (as := [.inr (.inr 50), .inl (((ab_upd σ 50 14 0) 50 8) - 1)]) (r := []) (M' := mX8_walk) (pc' := 32) dX8_more_29 rfl rfl ⟨rfl, rfl⟩ rfl k rfl (fun v τ1 hq => ?_)
      obtain ⟨r2, hv, k⟩ := hq
      rw [hv]
      change ev mX8_more 32 [some (.inr (.inr 50)), none] [.inl r2] τ1 _
      refine ev_p (pc' := 33) (ls' := [some (.inr (.inr 50)), some (.inl r2)]) (st' := []) dX8_more_32 rfl ?_
      refine ev_p (pc' := 34) (ls' := [some (.inr (.inr 50)), some (.inl r2)]) (st' := [.inr (.inr 50)]) dX8_more_33 rfl ?_
      refine ev_p (pc' := 35) (ls' := [some (.inr (.inr 50)), some (.inl r2)]) (st' := [.inl r2, .inr (.inr 50)]) dX8_more_34 rfl ?_
      refine ev_cst (v := 1) (pc' := 36) dX8_more_35 (by decide) rfl ?_
      refine ev_ic_ne (tgt := 43) (pc' := 39) dX8_more_36 (by decide) rfl (fun h3 => ?_) (fun h3 => ?_)
      · have k := k.2 h3
        refine ev_cst (v := 0) (pc' := 44) dX8_more_43 (by decide) rfl ?_
        refine ev_putI (pc' := 47) dX8_more_44 rfl rfl rfl rfl rfl rfl ?_
        refine ev_p (pc' := 48) (ls' := [some (.inr (.inr 50)), some (.inl r2)]) (st' := [.inl r2]) dX8_more_47 rfl ?_
        exact ev_ret dX8_more_48 rfl k
      · have k := k.1 h3
        refine ev_cst (v := 1) (pc' := 40) dX8_more_39 (by decide) rfl ?_
        refine ev_go (tgt := 44) dX8_more_40 (by decide) ?_
        refine ev_putI (pc' := 47) dX8_more_44 rfl rfl rfl rfl rfl rfl ?_
        refine ev_p (pc' := 48) (ls' := [some (.inr (.inr 50)), some (.inl r2)]) (st' := [.inl r2]) dX8_more_47 rfl ?_
        exact ev_ret dX8_more_48 rfl k
    · have k := k.1 h2
      refine ev_cst (v := (-2)) (pc' := 16) dX8_more_14 (by decide) rfl ?_
      exact ev_ret dX8_more_16 rfl k
set_option maxRecDepth 20000 in
theorem s_X8_size_0 {σ : ab_M} {Q : Option ab_V → ab_M → Prop} 
    (k : (((σ 50 12) = 0 → Q (some (.inl 0)) σ) ∧ (¬ (σ 50 12) = 0 → Q (some (.inl (σ 50 7))) σ))) :
    ev mX8_size 0 [some (.inr (.inr 50))] [] σ Q := by
  refine ev_p (pc' := 1) (ls' := [some (.inr (.inr 50))]) (st' := [.inr (.inr 50)]) dX8_size_0 rfl ?_
  refine ev_getI (pc' := 4) dX8_size_1 rfl rfl rfl rfl ?_
  refine ev_if_eq (tgt := 14) (pc' := 7) dX8_size_4 (by decide) rfl (fun h1 => ?_) (fun h1 => ?_)
  · have k := k.1 h1
    refine ev_cst (v := 0) (pc' := 15) dX8_size_14 (by decide) rfl ?_
    exact ev_ret dX8_size_15 rfl k
  · have k := k.2 h1
    refine ev_p (pc' := 8) (ls' := [some (.inr (.inr 50))]) (st' := [.inr (.inr 50)]) dX8_size_7 rfl ?_
    refine ev_getI (pc' := 11) dX8_size_8 rfl rfl rfl rfl ?_
    refine ev_go (tgt := 15) dX8_size_11 (by decide) ?_
    exact ev_ret dX8_size_15 rfl k
set_option maxRecDepth 20000 in
theorem s_X8_value_0 {σ : ab_M} {Q : Option ab_V → ab_M → Prop} {x1 : Int32} {x2 : Int32} {x3 : Int32}
    (k : evm mX8_symbolOf [.inl x1] σ (fun v τ1 => ∃ r2 : Int32, v = some (.inl r2) ∧ (((τ1 50 12) = 0 → Q (some (.inl (-1))) τ1) ∧ (¬ (τ1 50 12) = 0 → ((r2 < 0 → Q (some (.inl (-1))) τ1) ∧ (¬ r2 < 0 → ab_in r2 8 = true ∧ ((0 ≤ (τ1 51 r2.toNatClampNeg) → ab_in r2 8 = true ∧ (((τ1 51 r2.toNatClampNeg) ≤ 0 → ab_in r2 8 = true ∧ (((τ1 51 r2.toNatClampNeg) ≤ 1 → ab_in r2 8 = true ∧ (((τ1 51 r2.toNatClampNeg) ≤ 0 → ab_in r2 8 = true ∧ (((τ1 51 r2.toNatClampNeg) ≤ 1 → ab_in (((16 * r2) + 0) + 0) 128 = true ∧ Q (some (.inl (τ1 55 (((16 * r2) + 0) + 0).toNatClampNeg))) τ1) ∧ (¬ (τ1 51 r2.toNatClampNeg) ≤ 1 → ab_in (((16 * r2) + 0) + x3) 128 = true ∧ Q (some (.inl (τ1 55 (((16 * r2) + 0) + x3).toNatClampNeg))) τ1))) ∧ (¬ (τ1 51 r2.toNatClampNeg) ≤ 0 → ab_in r2 8 = true ∧ (((τ1 51 r2.toNatClampNeg) ≤ 1 → ab_in (((16 * r2) + (4 * x2)) + 0) 128 = true ∧ Q (some (.inl (τ1 55 (((16 * r2) + (4 * x2)) + 0).toNatClampNeg))) τ1) ∧ (¬ (τ1 51 r2.toNatClampNeg) ≤ 1 → ab_in (((16 * r2) + (4 * x2)) + x3) 128 = true ∧ Q (some (.inl (τ1 55 (((16 * r2) + (4 * x2)) + x3).toNatClampNeg))) τ1))))) ∧ (¬ (τ1 51 r2.toNatClampNeg) ≤ 1 → ((x3 < 0 → Q (some (.inl (-1))) τ1) ∧ (¬ x3 < 0 → ((x3 < (τ1 50 7) → ab_in r2 8 = true ∧ (((τ1 51 r2.toNatClampNeg) ≤ 0 → ab_in r2 8 = true ∧ (((τ1 51 r2.toNatClampNeg) ≤ 1 → ab_in (((16 * r2) + 0) + 0) 128 = true ∧ Q (some (.inl (τ1 55 (((16 * r2) + 0) + 0).toNatClampNeg))) τ1) ∧ (¬ (τ1 51 r2.toNatClampNeg) ≤ 1 → ab_in (((16 * r2) + 0) + x3) 128 = true ∧ Q (some (.inl (τ1 55 (((16 * r2) + 0) + x3).toNatClampNeg))) τ1))) ∧ (¬ (τ1 51 r2.toNatClampNeg) ≤ 0 → ab_in r2 8 = true ∧ (((τ1 51 r2.toNatClampNeg) ≤ 1 → ab_in (((16 * r2) + (4 * x2)) + 0) 128 = true ∧ Q (some (.inl (τ1 55 (((16 * r2) + (4 * x2)) + 0).toNatClampNeg))) τ1) ∧ (¬ (τ1 51 r2.toNatClampNeg) ≤ 1 → ab_in (((16 * r2) + (4 * x2)) + x3) 128 = true ∧ Q (some (.inl (τ1 55 (((16 * r2) + (4 * x2)) + x3).toNatClampNeg))) τ1))))) ∧ (¬ x3 < (τ1 50 7) → Q (some (.inl (-1))) τ1))))))) ∧ (¬ (τ1 51 r2.toNatClampNeg) ≤ 0 → ((x2 < 0 → Q (some (.inl (-1))) τ1) ∧ (¬ x2 < 0 → (((τ1 50 7) ≤ x2 → Q (some (.inl (-1))) τ1) ∧ (¬ (τ1 50 7) ≤ x2 → ab_in r2 8 = true ∧ (((τ1 51 r2.toNatClampNeg) ≤ 1 → ab_in r2 8 = true ∧ (((τ1 51 r2.toNatClampNeg) ≤ 0 → ab_in r2 8 = true ∧ (((τ1 51 r2.toNatClampNeg) ≤ 1 → ab_in (((16 * r2) + 0) + 0) 128 = true ∧ Q (some (.inl (τ1 55 (((16 * r2) + 0) + 0).toNatClampNeg))) τ1) ∧ (¬ (τ1 51 r2.toNatClampNeg) ≤ 1 → ab_in (((16 * r2) + 0) + x3) 128 = true ∧ Q (some (.inl (τ1 55 (((16 * r2) + 0) + x3).toNatClampNeg))) τ1))) ∧ (¬ (τ1 51 r2.toNatClampNeg) ≤ 0 → ab_in r2 8 = true ∧ (((τ1 51 r2.toNatClampNeg) ≤ 1 → ab_in (((16 * r2) + (4 * x2)) + 0) 128 = true ∧ Q (some (.inl (τ1 55 (((16 * r2) + (4 * x2)) + 0).toNatClampNeg))) τ1) ∧ (¬ (τ1 51 r2.toNatClampNeg) ≤ 1 → ab_in (((16 * r2) + (4 * x2)) + x3) 128 = true ∧ Q (some (.inl (τ1 55 (((16 * r2) + (4 * x2)) + x3).toNatClampNeg))) τ1))))) ∧ (¬ (τ1 51 r2.toNatClampNeg) ≤ 1 → ((x3 < 0 → Q (some (.inl (-1))) τ1) ∧ (¬ x3 < 0 → ((x3 < (τ1 50 7) → ab_in r2 8 = true ∧ (((τ1 51 r2.toNatClampNeg) ≤ 0 → ab_in r2 8 = true ∧ (((τ1 51 r2.toNatClampNeg) ≤ 1 → ab_in (((16 * r2) + 0) + 0) 128 = true ∧ Q (some (.inl (τ1 55 (((16 * r2) + 0) + 0).toNatClampNeg))) τ1) ∧ (¬ (τ1 51 r2.toNatClampNeg) ≤ 1 → ab_in (((16 * r2) + 0) + x3) 128 = true ∧ Q (some (.inl (τ1 55 (((16 * r2) + 0) + x3).toNatClampNeg))) τ1))) ∧ (¬ (τ1 51 r2.toNatClampNeg) ≤ 0 → ab_in r2 8 = true ∧ (((τ1 51 r2.toNatClampNeg) ≤ 1 → ab_in (((16 * r2) + (4 * x2)) + 0) 128 = true ∧ Q (some (.inl (τ1 55 (((16 * r2) + (4 * x2)) + 0).toNatClampNeg))) τ1) ∧ (¬ (τ1 51 r2.toNatClampNeg) ≤ 1 → ab_in (((16 * r2) + (4 * x2)) + x3) 128 = true ∧ Q (some (.inl (τ1 55 (((16 * r2) + (4 * x2)) + x3).toNatClampNeg))) τ1))))) ∧ (¬ x3 < (τ1 50 7) → Q (some (.inl (-1))) τ1))))))))))))) ∧ (¬ 0 ≤ (τ1 51 r2.toNatClampNeg) → Q (some (.inl (-1))) τ1)))))))) :
    ev mX8_value 0 [some (.inr (.inr 50)), some (.inl x1), some (.inl x2), some (.inl x3), none] [] σ Q := by
  refine ev_p (pc' := 1) (ls' := [some (.inr (.inr 50)), some (.inl x1), some (.inl x2), some (.inl x3), none]) (st' := [.inl x1]) dX8_value_0 rfl ?_
  refine ev_call (y := 85) (as := [.inl x1]) (r := []) (M' := mX8_symbolOf) (pc' := 4) dX8_value_1 rfl rfl ⟨rfl, rfl⟩ rfl k rfl (fun v τ1 hq => ?_)
  obtain ⟨r2, hv, k⟩ := hq
  rw [hv]
  change ev mX8_value 4 [some (.inr (.inr 50)), some (.inl x1), some (.inl x2), some (.inl x3), none] [.inl r2] τ1 _
  refine ev_p (pc' := 6) (ls' := [some (.inr (.inr 50)), some (.inl x1), some (.inl x2), some (.inl x3), some (.inl r2)]) (st' := []) dX8_value_4 rfl ?_
  refine ev_p (pc' := 7) (ls' := [some (.inr (.inr 50)), some (.inl x1), some (.inl x2), some (.inl x3), some (.inl r2)]) (st' := [.inr (.inr 50)]) dX8_value_6 rfl ?_
  refine ev_getI (pc' := 10) dX8_value_7 rfl rfl rfl rfl ?_
  refine ev_if_eq (tgt := 28) (pc' := 13) dX8_value_10 (by decide) rfl (fun h1 => ?_) (fun h1 => ?_)
  · have k := k.1 h1
    refine ev_cst (v := (-1)) (pc' := 29) dX8_value_28 (by decide) rfl ?_
    exact ev_ret dX8_value_29 rfl k
  · have k := k.2 h1
    refine ev_p (pc' := 15) (ls' := [some (.inr (.inr 50)), some (.inl x1), some (.inl x2), some (.inl x3), some (.inl r2)]) (st' := [.inl r2]) dX8_value_13 rfl ?_
    refine ev_if_lt (tgt := 28) (pc' := 18) dX8_value_15 (by decide) rfl (fun h2 => ?_) (fun h2 => ?_)
    · have k := k.1 h2
      refine ev_cst (v := (-1)) (pc' := 29) dX8_value_28 (by decide) rfl ?_
      exact ev_ret dX8_value_29 rfl k
    · have k := k.2 h2
      refine ev_p (pc' := 19) (ls' := [some (.inr (.inr 50)), some (.inl x1), some (.inl x2), some (.inl x3), some (.inl r2)]) (st' := [.inr (.inr 50)]) dX8_value_18 rfl ?_
      refine ev_getA (pc' := 22) (z := 51) dX8_value_19 rfl rfl rfl rfl ?_
      refine ev_p (pc' := 24) (ls' := [some (.inr (.inr 50)), some (.inl x1), some (.inl x2), some (.inl x3), some (.inl r2)]) (st' := [.inl r2, .inr (.inr 51)]) dX8_value_22 rfl ?_
      refine ev_load (pc' := 25) rfl dX8_value_24 rfl rfl k.1 rfl ?_
      have k := k.2
      refine ev_if_ge (tgt := 30) (pc' := 28) dX8_value_25 (by decide) rfl (fun h3 => ?_) (fun h3 => ?_)
      · have k := k.1 h3
        refine ev_p (pc' := 31) (ls' := [some (.inr (.inr 50)), some (.inl x1), some (.inl x2), some (.inl x3), some (.inl r2)]) (st' := [.inr (.inr 50)]) dX8_value_30 rfl ?_
        refine ev_getA (pc' := 34) (z := 51) dX8_value_31 rfl rfl rfl rfl ?_
        refine ev_p (pc' := 36) (ls' := [some (.inr (.inr 50)), some (.inl x1), some (.inl x2), some (.inl x3), some (.inl r2)]) (st' := [.inl r2, .inr (.inr 51)]) dX8_value_34 rfl ?_
        refine ev_load (pc' := 37) rfl dX8_value_36 rfl rfl k.1 rfl ?_
        have k := k.2
        refine ev_if_le (tgt := 52) (pc' := 40) dX8_value_37 (by decide) rfl (fun h4 => ?_) (fun h4 => ?_)
        · have k := k.1 h4
          refine ev_p (pc' := 53) (ls' := [some (.inr (.inr 50)), some (.inl x1), some (.inl x2), some (.inl x3), some (.inl r2)]) (st' := [.inr (.inr 50)]) dX8_value_52 rfl ?_
          refine ev_getA (pc' := 56) (z := 51) dX8_value_53 rfl rfl rfl rfl ?_
          refine ev_p (pc' := 58) (ls' := [some (.inr (.inr 50)), some (.inl x1), some (.inl x2), some (.inl x3), some (.inl r2)]) (st' := [.inl r2, .inr (.inr 51)]) dX8_value_56 rfl ?_
          refine ev_load (pc' := 59) rfl dX8_value_58 rfl rfl k.1 rfl ?_
          have k := k.2
          refine ev_cst (v := 1) (pc' := 60) dX8_value_59 (by decide) rfl ?_
          refine ev_ic_le (tgt := 77) (pc' := 63) dX8_value_60 (by decide) rfl (fun h5 => ?_) (fun h5 => ?_)
          · have k := k.1 h5
            refine ev_p (pc' := 78) (ls' := [some (.inr (.inr 50)), some (.inl x1), some (.inl x2), some (.inl x3), some (.inl r2)]) (st' := [.inr (.inr 50)]) dX8_value_77 rfl ?_
            refine ev_getA (pc' := 81) (z := 55) dX8_value_78 rfl rfl rfl rfl ?_
            refine ev_cst (v := 16) (pc' := 83) dX8_value_81 (by decide) rfl ?_
            refine ev_p (pc' := 85) (ls' := [some (.inr (.inr 50)), some (.inl x1), some (.inl x2), some (.inl x3), some (.inl r2)]) (st' := [.inl r2, .inl 16, .inr (.inr 55)]) dX8_value_83 rfl ?_
            refine ev_p (pc' := 86) (ls' := [some (.inr (.inr 50)), some (.inl x1), some (.inl x2), some (.inl x3), some (.inl r2)]) (st' := [.inl (16 * r2), .inr (.inr 55)]) dX8_value_85 rfl ?_
            refine ev_p (pc' := 87) (ls' := [some (.inr (.inr 50)), some (.inl x1), some (.inl x2), some (.inl x3), some (.inl r2)]) (st' := [.inr (.inr 50), .inl (16 * r2), .inr (.inr 55)]) dX8_value_86 rfl ?_
            refine ev_getA (pc' := 90) (z := 51) dX8_value_87 rfl rfl rfl rfl ?_
            refine ev_p (pc' := 92) (ls' := [some (.inr (.inr 50)), some (.inl x1), some (.inl x2), some (.inl x3), some (.inl r2)]) (st' := [.inl r2, .inr (.inr 51), .inl (16 * r2), .inr (.inr 55)]) dX8_value_90 rfl ?_
            refine ev_load (pc' := 93) rfl dX8_value_92 rfl rfl k.1 rfl ?_
            have k := k.2
            refine ev_if_le (tgt := 102) (pc' := 96) dX8_value_93 (by decide) rfl (fun h6 => ?_) (fun h6 => ?_)
            · have k := k.1 h6
              refine ev_cst (v := 0) (pc' := 103) dX8_value_102 (by decide) rfl ?_
              refine ev_p (pc' := 104) (ls' := [some (.inr (.inr 50)), some (.inl x1), some (.inl x2), some (.inl x3), some (.inl r2)]) (st' := [.inl ((16 * r2) + 0), .inr (.inr 55)]) dX8_value_103 rfl ?_
              refine ev_p (pc' := 105) (ls' := [some (.inr (.inr 50)), some (.inl x1), some (.inl x2), some (.inl x3), some (.inl r2)]) (st' := [.inr (.inr 50), .inl ((16 * r2) + 0), .inr (.inr 55)]) dX8_value_104 rfl ?_
              refine ev_getA (pc' := 108) (z := 51) dX8_value_105 rfl rfl rfl rfl ?_
              refine ev_p (pc' := 110) (ls' := [some (.inr (.inr 50)), some (.inl x1), some (.inl x2), some (.inl x3), some (.inl r2)]) (st' := [.inl r2, .inr (.inr 51), .inl ((16 * r2) + 0), .inr (.inr 55)]) dX8_value_108 rfl ?_
              refine ev_load (pc' := 111) rfl dX8_value_110 rfl rfl k.1 rfl ?_
              have k := k.2
              refine ev_cst (v := 1) (pc' := 112) dX8_value_111 (by decide) rfl ?_
              refine ev_ic_le (tgt := 119) (pc' := 115) dX8_value_112 (by decide) rfl (fun h7 => ?_) (fun h7 => ?_)
              · have k := k.1 h7
                refine ev_cst (v := 0) (pc' := 120) dX8_value_119 (by decide) rfl ?_
                refine ev_p (pc' := 121) (ls' := [some (.inr (.inr 50)), some (.inl x1), some (.inl x2), some (.inl x3), some (.inl r2)]) (st' := [.inl (((16 * r2) + 0) + 0), .inr (.inr 55)]) dX8_value_120 rfl ?_
                refine ev_load (pc' := 122) rfl dX8_value_121 rfl rfl k.1 rfl ?_
                have k := k.2
                exact ev_ret dX8_value_122 rfl k
              · have k := k.2 h7
                refine ev_p (pc' := 116) (ls' := [some (.inr (.inr 50)), some (.inl x1), some (.inl x2), some (.inl x3), some (.inl r2)]) (st' := [.inl x3, .inl ((16 * r2) + 0), .inr (.inr 55)]) dX8_value_115 rfl ?_
                refine ev_go (tgt := 120) dX8_value_116 (by decide) ?_
                refine ev_p (pc' := 121) (ls' := [some (.inr (.inr 50)), some (.inl x1), some (.inl x2), some (.inl x3), some (.inl r2)]) (st' := [.inl (((16 * r2) + 0) + x3), .inr (.inr 55)]) dX8_value_120 rfl ?_
                refine ev_load (pc' := 122) rfl dX8_value_121 rfl rfl k.1 rfl ?_
                have k := k.2
                exact ev_ret dX8_value_122 rfl k
            · have k := k.2 h6
              refine ev_cst (v := 4) (pc' := 97) dX8_value_96 (by decide) rfl ?_
              refine ev_p (pc' := 98) (ls' := [some (.inr (.inr 50)), some (.inl x1), some (.inl x2), some (.inl x3), some (.inl r2)]) (st' := [.inl x2, .inl 4, .inl (16 * r2), .inr (.inr 55)]) dX8_value_97 rfl ?_
              refine ev_p (pc' := 99) (ls' := [some (.inr (.inr 50)), some (.inl x1), some (.inl x2), some (.inl x3), some (.inl r2)]) (st' := [.inl (4 * x2), .inl (16 * r2), .inr (.inr 55)]) dX8_value_98 rfl ?_
              refine ev_go (tgt := 103) dX8_value_99 (by decide) ?_
              refine ev_p (pc' := 104) (ls' := [some (.inr (.inr 50)), some (.inl x1), some (.inl x2), some (.inl x3), some (.inl r2)]) (st' := [.inl ((16 * r2) + (4 * x2)), .inr (.inr 55)]) dX8_value_103 rfl ?_
              refine ev_p (pc' := 105) (ls' := [some (.inr (.inr 50)), some (.inl x1), some (.inl x2), some (.inl x3), some (.inl r2)]) (st' := [.inr (.inr 50), .inl ((16 * r2) + (4 * x2)), .inr (.inr 55)]) dX8_value_104 rfl ?_
              refine ev_getA (pc' := 108) (z := 51) dX8_value_105 rfl rfl rfl rfl ?_
              refine ev_p (pc' := 110) (ls' := [some (.inr (.inr 50)), some (.inl x1), some (.inl x2), some (.inl x3), some (.inl r2)]) (st' := [.inl r2, .inr (.inr 51), .inl ((16 * r2) + (4 * x2)), .inr (.inr 55)]) dX8_value_108 rfl ?_
              refine ev_load (pc' := 111) rfl dX8_value_110 rfl rfl k.1 rfl ?_
              have k := k.2
              refine ev_cst (v := 1) (pc' := 112) dX8_value_111 (by decide) rfl ?_
              refine ev_ic_le (tgt := 119) (pc' := 115) dX8_value_112 (by decide) rfl (fun h8 => ?_) (fun h8 => ?_)
              · have k := k.1 h8
                refine ev_cst (v := 0) (pc' := 120) dX8_value_119 (by decide) rfl ?_
                refine ev_p (pc' := 121) (ls' := [some (.inr (.inr 50)), some (.inl x1), some (.inl x2), some (.inl x3), some (.inl r2)]) (st' := [.inl (((16 * r2) + (4 * x2)) + 0), .inr (.inr 55)]) dX8_value_120 rfl ?_
                refine ev_load (pc' := 122) rfl dX8_value_121 rfl rfl k.1 rfl ?_
                have k := k.2
                exact ev_ret dX8_value_122 rfl k
              · have k := k.2 h8
                refine ev_p (pc' := 116) (ls' := [some (.inr (.inr 50)), some (.inl x1), some (.inl x2), some (.inl x3), some (.inl r2)]) (st' := [.inl x3, .inl ((16 * r2) + (4 * x2)), .inr (.inr 55)]) dX8_value_115 rfl ?_
                refine ev_go (tgt := 120) dX8_value_116 (by decide) ?_
                refine ev_p (pc' := 121) (ls' := [some (.inr (.inr 50)), some (.inl x1), some (.inl x2), some (.inl x3), some (.inl r2)]) (st' := [.inl (((16 * r2) + (4 * x2)) + x3), .inr (.inr 55)]) dX8_value_120 rfl ?_
                refine ev_load (pc' := 122) rfl dX8_value_121 rfl rfl k.1 rfl ?_
                have k := k.2
                exact ev_ret dX8_value_122 rfl k
          · have k := k.2 h5
            refine ev_p (pc' := 64) (ls' := [some (.inr (.inr 50)), some (.inl x1), some (.inl x2), some (.inl x3), some (.inl r2)]) (st' := [.inl x3]) dX8_value_63 rfl ?_
            refine ev_if_lt (tgt := 75) (pc' := 67) dX8_value_64 (by decide) rfl (fun h9 => ?_) (fun h9 => ?_)
            · have k := k.1 h9
              refine ev_cst (v := (-1)) (pc' := 76) dX8_value_75 (by decide) rfl ?_
              exact ev_ret dX8_value_76 rfl k
            · have k := k.2 h9
              refine ev_p (pc' := 68) (ls' := [some (.inr (.inr 50)), some (.inl x1), some (.inl x2), some (.inl x3), some (.inl r2)]) (st' := [.inl x3]) dX8_value_67 rfl ?_
              refine ev_p (pc' := 69) (ls' := [some (.inr (.inr 50)), some (.inl x1), some (.inl x2), some (.inl x3), some (.inl r2)]) (st' := [.inr (.inr 50), .inl x3]) dX8_value_68 rfl ?_
              refine ev_getI (pc' := 72) dX8_value_69 rfl rfl rfl rfl ?_
              refine ev_ic_lt (tgt := 77) (pc' := 75) dX8_value_72 (by decide) rfl (fun h10 => ?_) (fun h10 => ?_)
              · have k := k.1 h10
                refine ev_p (pc' := 78) (ls' := [some (.inr (.inr 50)), some (.inl x1), some (.inl x2), some (.inl x3), some (.inl r2)]) (st' := [.inr (.inr 50)]) dX8_value_77 rfl ?_
                refine ev_getA (pc' := 81) (z := 55) dX8_value_78 rfl rfl rfl rfl ?_
                refine ev_cst (v := 16) (pc' := 83) dX8_value_81 (by decide) rfl ?_
                refine ev_p (pc' := 85) (ls' := [some (.inr (.inr 50)), some (.inl x1), some (.inl x2), some (.inl x3), some (.inl r2)]) (st' := [.inl r2, .inl 16, .inr (.inr 55)]) dX8_value_83 rfl ?_
                refine ev_p (pc' := 86) (ls' := [some (.inr (.inr 50)), some (.inl x1), some (.inl x2), some (.inl x3), some (.inl r2)]) (st' := [.inl (16 * r2), .inr (.inr 55)]) dX8_value_85 rfl ?_
                refine ev_p (pc' := 87) (ls' := [some (.inr (.inr 50)), some (.inl x1), some (.inl x2), some (.inl x3), some (.inl r2)]) (st' := [.inr (.inr 50), .inl (16 * r2), .inr (.inr 55)]) dX8_value_86 rfl ?_
                refine ev_getA (pc' := 90) (z := 51) dX8_value_87 rfl rfl rfl rfl ?_
                refine ev_p (pc' := 92) (ls' := [some (.inr (.inr 50)), some (.inl x1), some (.inl x2), some (.inl x3), some (.inl r2)]) (st' := [.inl r2, .inr (.inr 51), .inl (16 * r2), .inr (.inr 55)]) dX8_value_90 rfl ?_
                refine ev_load (pc' := 93) rfl dX8_value_92 rfl rfl k.1 rfl ?_
                have k := k.2
                refine ev_if_le (tgt := 102) (pc' := 96) dX8_value_93 (by decide) rfl (fun h11 => ?_) (fun h11 => ?_)
                · have k := k.1 h11
                  refine ev_cst (v := 0) (pc' := 103) dX8_value_102 (by decide) rfl ?_
                  refine ev_p (pc' := 104) (ls' := [some (.inr (.inr 50)), some (.inl x1), some (.inl x2), some (.inl x3), some (.inl r2)]) (st' := [.inl ((16 * r2) + 0), .inr (.inr 55)]) dX8_value_103 rfl ?_
                  refine ev_p (pc' := 105) (ls' := [some (.inr (.inr 50)), some (.inl x1), some (.inl x2), some (.inl x3), some (.inl r2)]) (st' := [.inr (.inr 50), .inl ((16 * r2) + 0), .inr (.inr 55)]) dX8_value_104 rfl ?_
                  refine ev_getA (pc' := 108) (z := 51) dX8_value_105 rfl rfl rfl rfl ?_
                  refine ev_p (pc' := 110) (ls' := [some (.inr (.inr 50)), some (.inl x1), some (.inl x2), some (.inl x3), some (.inl r2)]) (st' := [.inl r2, .inr (.inr 51), .inl ((16 * r2) + 0), .inr (.inr 55)]) dX8_value_108 rfl ?_
                  refine ev_load (pc' := 111) rfl dX8_value_110 rfl rfl k.1 rfl ?_
                  have k := k.2
                  refine ev_cst (v := 1) (pc' := 112) dX8_value_111 (by decide) rfl ?_
                  refine ev_ic_le (tgt := 119) (pc' := 115) dX8_value_112 (by decide) rfl (fun h12 => ?_) (fun h12 => ?_)
                  · have k := k.1 h12
                    refine ev_cst (v := 0) (pc' := 120) dX8_value_119 (by decide) rfl ?_
                    refine ev_p (pc' := 121) (ls' := [some (.inr (.inr 50)), some (.inl x1), some (.inl x2), some (.inl x3), some (.inl r2)]) (st' := [.inl (((16 * r2) + 0) + 0), .inr (.inr 55)]) dX8_value_120 rfl ?_
                    refine ev_load (pc' := 122) rfl dX8_value_121 rfl rfl k.1 rfl ?_
                    have k := k.2
                    exact ev_ret dX8_value_122 rfl k
                  · have k := k.2 h12
                    refine ev_p (pc' := 116) (ls' := [some (.inr (.inr 50)), some (.inl x1), some (.inl x2), some (.inl x3), some (.inl r2)]) (st' := [.inl x3, .inl ((16 * r2) + 0), .inr (.inr 55)]) dX8_value_115 rfl ?_
                    refine ev_go (tgt := 120) dX8_value_116 (by decide) ?_
                    refine ev_p (pc' := 121) (ls' := [some (.inr (.inr 50)), some (.inl x1), some (.inl x2), some (.inl x3), some (.inl r2)]) (st' := [.inl (((16 * r2) + 0) + x3), .inr (.inr 55)]) dX8_value_120 rfl ?_
                    refine ev_load (pc' := 122) rfl dX8_value_121 rfl rfl k.1 rfl ?_
                    have k := k.2
                    exact ev_ret dX8_value_122 rfl k
                · have k := k.2 h11
                  refine ev_cst (v := 4) (pc' := 97) dX8_value_96 (by decide) rfl ?_
                  refine ev_p (pc' := 98) (ls' := [some (.inr (.inr 50)), some (.inl x1), some (.inl x2), some (.inl x3), some (.inl r2)]) (st' := [.inl x2, .inl 4, .inl (16 * r2), .inr (.inr 55)]) dX8_value_97 rfl ?_
                  refine ev_p (pc' := 99) (ls' := [some (.inr (.inr 50)), some (.inl x1), some (.inl x2), some (.inl x3), some (.inl r2)]) (st' := [.inl (4 * x2), .inl (16 * r2), .inr (.inr 55)]) dX8_value_98 rfl ?_
                  refine ev_go (tgt := 103) dX8_value_99 (by decide) ?_
                  refine ev_p (pc' := 104) (ls' := [some (.inr (.inr 50)), some (.inl x1), some (.inl x2), some (.inl x3), some (.inl r2)]) (st' := [.inl ((16 * r2) + (4 * x2)), .inr (.inr 55)]) dX8_value_103 rfl ?_
                  refine ev_p (pc' := 105) (ls' := [some (.inr (.inr 50)), some (.inl x1), some (.inl x2), some (.inl x3), some (.inl r2)]) (st' := [.inr (.inr 50), .inl ((16 * r2) + (4 * x2)), .inr (.inr 55)]) dX8_value_104 rfl ?_
                  refine ev_getA (pc' := 108) (z := 51) dX8_value_105 rfl rfl rfl rfl ?_
                  refine ev_p (pc' := 110) (ls' := [some (.inr (.inr 50)), some (.inl x1), some (.inl x2), some (.inl x3), some (.inl r2)]) (st' := [.inl r2, .inr (.inr 51), .inl ((16 * r2) + (4 * x2)), .inr (.inr 55)]) dX8_value_108 rfl ?_
                  refine ev_load (pc' := 111) rfl dX8_value_110 rfl rfl k.1 rfl ?_
                  have k := k.2
                  refine ev_cst (v := 1) (pc' := 112) dX8_value_111 (by decide) rfl ?_
                  refine ev_ic_le (tgt := 119) (pc' := 115) dX8_value_112 (by decide) rfl (fun h13 => ?_) (fun h13 => ?_)
                  · have k := k.1 h13
                    refine ev_cst (v := 0) (pc' := 120) dX8_value_119 (by decide) rfl ?_
                    refine ev_p (pc' := 121) (ls' := [some (.inr (.inr 50)), some (.inl x1), some (.inl x2), some (.inl x3), some (.inl r2)]) (st' := [.inl (((16 * r2) + (4 * x2)) + 0), .inr (.inr 55)]) dX8_value_120 rfl ?_
                    refine ev_load (pc' := 122) rfl dX8_value_121 rfl rfl k.1 rfl ?_
                    have k := k.2
                    exact ev_ret dX8_value_122 rfl k
                  · have k := k.2 h13
                    refine ev_p (pc' := 116) (ls' := [some (.inr (.inr 50)), some (.inl x1), some (.inl x2), some (.inl x3), some (.inl r2)]) (st' := [.inl x3, .inl ((16 * r2) + (4 * x2)), .inr (.inr 55)]) dX8_value_115 rfl ?_
                    refine ev_go (tgt := 120) dX8_value_116 (by decide) ?_
                    refine ev_p (pc' := 121) (ls' := [some (.inr (.inr 50)), some (.inl x1), some (.inl x2), some (.inl x3), some (.inl r2)]) (st' := [.inl (((16 * r2) + (4 * x2)) + x3), .inr (.inr 55)]) dX8_value_120 rfl ?_
                    refine ev_load (pc' := 122) rfl dX8_value_121 rfl rfl k.1 rfl ?_
                    have k := k.2
                    exact ev_ret dX8_value_122 rfl k
              · have k := k.2 h10
                refine ev_cst (v := (-1)) (pc' := 76) dX8_value_75 (by decide) rfl ?_
                exact ev_ret dX8_value_76 rfl k
        · have k := k.2 h4
          refine ev_p (pc' := 41) (ls' := [some (.inr (.inr 50)), some (.inl x1), some (.inl x2), some (.inl x3), some (.inl r2)]) (st' := [.inl x2]) dX8_value_40 rfl ?_
          refine ev_if_lt (tgt := 75) (pc' := 44) dX8_value_41 (by decide) rfl (fun h14 => ?_) (fun h14 => ?_)
          · have k := k.1 h14
            refine ev_cst (v := (-1)) (pc' := 76) dX8_value_75 (by decide) rfl ?_
            exact ev_ret dX8_value_76 rfl k
          · have k := k.2 h14
            refine ev_p (pc' := 45) (ls' := [some (.inr (.inr 50)), some (.inl x1), some (.inl x2), some (.inl x3), some (.inl r2)]) (st' := [.inl x2]) dX8_value_44 rfl ?_
            refine ev_p (pc' := 46) (ls' := [some (.inr (.inr 50)), some (.inl x1), some (.inl x2), some (.inl x3), some (.inl r2)]) (st' := [.inr (.inr 50), .inl x2]) dX8_value_45 rfl ?_
            refine ev_getI (pc' := 49) dX8_value_46 rfl rfl rfl rfl ?_
            refine ev_ic_ge (tgt := 75) (pc' := 52) dX8_value_49 (by decide) rfl (fun h15 => ?_) (fun h15 => ?_)
            · have k := k.1 h15
              refine ev_cst (v := (-1)) (pc' := 76) dX8_value_75 (by decide) rfl ?_
              exact ev_ret dX8_value_76 rfl k
            · have k := k.2 h15
              refine ev_p (pc' := 53) (ls' := [some (.inr (.inr 50)), some (.inl x1), some (.inl x2), some (.inl x3), some (.inl r2)]) (st' := [.inr (.inr 50)]) dX8_value_52 rfl ?_
              refine ev_getA (pc' := 56) (z := 51) dX8_value_53 rfl rfl rfl rfl ?_
              refine ev_p (pc' := 58) (ls' := [some (.inr (.inr 50)), some (.inl x1), some (.inl x2), some (.inl x3), some (.inl r2)]) (st' := [.inl r2, .inr (.inr 51)]) dX8_value_56 rfl ?_
              refine ev_load (pc' := 59) rfl dX8_value_58 rfl rfl k.1 rfl ?_
              have k := k.2
              refine ev_cst (v := 1) (pc' := 60) dX8_value_59 (by decide) rfl ?_
              refine ev_ic_le (tgt := 77) (pc' := 63) dX8_value_60 (by decide) rfl (fun h16 => ?_) (fun h16 => ?_)
              · have k := k.1 h16
                refine ev_p (pc' := 78) (ls' := [some (.inr (.inr 50)), some (.inl x1), some (.inl x2), some (.inl x3), some (.inl r2)]) (st' := [.inr (.inr 50)]) dX8_value_77 rfl ?_
                refine ev_getA (pc' := 81) (z := 55) dX8_value_78 rfl rfl rfl rfl ?_
                refine ev_cst (v := 16) (pc' := 83) dX8_value_81 (by decide) rfl ?_
                refine ev_p (pc' := 85) (ls' := [some (.inr (.inr 50)), some (.inl x1), some (.inl x2), some (.inl x3), some (.inl r2)]) (st' := [.inl r2, .inl 16, .inr (.inr 55)]) dX8_value_83 rfl ?_
                refine ev_p (pc' := 86) (ls' := [some (.inr (.inr 50)), some (.inl x1), some (.inl x2), some (.inl x3), some (.inl r2)]) (st' := [.inl (16 * r2), .inr (.inr 55)]) dX8_value_85 rfl ?_
                refine ev_p (pc' := 87) (ls' := [some (.inr (.inr 50)), some (.inl x1), some (.inl x2), some (.inl x3), some (.inl r2)]) (st' := [.inr (.inr 50), .inl (16 * r2), .inr (.inr 55)]) dX8_value_86 rfl ?_
                refine ev_getA (pc' := 90) (z := 51) dX8_value_87 rfl rfl rfl rfl ?_
                refine ev_p (pc' := 92) (ls' := [some (.inr (.inr 50)), some (.inl x1), some (.inl x2), some (.inl x3), some (.inl r2)]) (st' := [.inl r2, .inr (.inr 51), .inl (16 * r2), .inr (.inr 55)]) dX8_value_90 rfl ?_
                refine ev_load (pc' := 93) rfl dX8_value_92 rfl rfl k.1 rfl ?_
                have k := k.2
                refine ev_if_le (tgt := 102) (pc' := 96) dX8_value_93 (by decide) rfl (fun h17 => ?_) (fun h17 => ?_)
                · have k := k.1 h17
                  refine ev_cst (v := 0) (pc' := 103) dX8_value_102 (by decide) rfl ?_
                  refine ev_p (pc' := 104) (ls' := [some (.inr (.inr 50)), some (.inl x1), some (.inl x2), some (.inl x3), some (.inl r2)]) (st' := [.inl ((16 * r2) + 0), .inr (.inr 55)]) dX8_value_103 rfl ?_
                  refine ev_p (pc' := 105) (ls' := [some (.inr (.inr 50)), some (.inl x1), some (.inl x2), some (.inl x3), some (.inl r2)]) (st' := [.inr (.inr 50), .inl ((16 * r2) + 0), .inr (.inr 55)]) dX8_value_104 rfl ?_
                  refine ev_getA (pc' := 108) (z := 51) dX8_value_105 rfl rfl rfl rfl ?_
                  refine ev_p (pc' := 110) (ls' := [some (.inr (.inr 50)), some (.inl x1), some (.inl x2), some (.inl x3), some (.inl r2)]) (st' := [.inl r2, .inr (.inr 51), .inl ((16 * r2) + 0), .inr (.inr 55)]) dX8_value_108 rfl ?_
                  refine ev_load (pc' := 111) rfl dX8_value_110 rfl rfl k.1 rfl ?_
                  have k := k.2
                  refine ev_cst (v := 1) (pc' := 112) dX8_value_111 (by decide) rfl ?_
                  refine ev_ic_le (tgt := 119) (pc' := 115) dX8_value_112 (by decide) rfl (fun h18 => ?_) (fun h18 => ?_)
                  · have k := k.1 h18
                    refine ev_cst (v := 0) (pc' := 120) dX8_value_119 (by decide) rfl ?_
                    refine ev_p (pc' := 121) (ls' := [some (.inr (.inr 50)), some (.inl x1), some (.inl x2), some (.inl x3), some (.inl r2)]) (st' := [.inl (((16 * r2) + 0) + 0), .inr (.inr 55)]) dX8_value_120 rfl ?_
                    refine ev_load (pc' := 122) rfl dX8_value_121 rfl rfl k.1 rfl ?_
                    have k := k.2
                    exact ev_ret dX8_value_122 rfl k
                  · have k := k.2 h18
                    refine ev_p (pc' := 116) (ls' := [some (.inr (.inr 50)), some (.inl x1), some (.inl x2), some (.inl x3), some (.inl r2)]) (st' := [.inl x3, .inl ((16 * r2) + 0), .inr (.inr 55)]) dX8_value_115 rfl ?_
                    refine ev_go (tgt := 120) dX8_value_116 (by decide) ?_
                    refine ev_p (pc' := 121) (ls' := [some (.inr (.inr 50)), some (.inl x1), some (.inl x2), some (.inl x3), some (.inl r2)]) (st' := [.inl (((16 * r2) + 0) + x3), .inr (.inr 55)]) dX8_value_120 rfl ?_
                    refine ev_load (pc' := 122) rfl dX8_value_121 rfl rfl k.1 rfl ?_
                    have k := k.2
                    exact ev_ret dX8_value_122 rfl k
                · have k := k.2 h17
                  refine ev_cst (v := 4) (pc' := 97) dX8_value_96 (by decide) rfl ?_
                  refine ev_p (pc' := 98) (ls' := [some (.inr (.inr 50)), some (.inl x1), some (.inl x2), some (.inl x3), some (.inl r2)]) (st' := [.inl x2, .inl 4, .inl (16 * r2), .inr (.inr 55)]) dX8_value_97 rfl ?_
                  refine ev_p (pc' := 99) (ls' := [some (.inr (.inr 50)), some (.inl x1), some (.inl x2), some (.inl x3), some (.inl r2)]) (st' := [.inl (4 * x2), .inl (16 * r2), .inr (.inr 55)]) dX8_value_98 rfl ?_
                  refine ev_go (tgt := 103) dX8_value_99 (by decide) ?_
                  refine ev_p (pc' := 104) (ls' := [some (.inr (.inr 50)), some (.inl x1), some (.inl x2), some (.inl x3), some (.inl r2)]) (st' := [.inl ((16 * r2) + (4 * x2)), .inr (.inr 55)]) dX8_value_103 rfl ?_
                  refine ev_p (pc' := 105) (ls' := [some (.inr (.inr 50)), some (.inl x1), some (.inl x2), some (.inl x3), some (.inl r2)]) (st' := [.inr (.inr 50), .inl ((16 * r2) + (4 * x2)), .inr (.inr 55)]) dX8_value_104 rfl ?_
                  refine ev_getA (pc' := 108) (z := 51) dX8_value_105 rfl rfl rfl rfl ?_
                  refine ev_p (pc' := 110) (ls' := [some (.inr (.inr 50)), some (.inl x1), some (.inl x2), some (.inl x3), some (.inl r2)]) (st' := [.inl r2, .inr (.inr 51), .inl ((16 * r2) + (4 * x2)), .inr (.inr 55)]) dX8_value_108 rfl ?_
                  refine ev_load (pc' := 111) rfl dX8_value_110 rfl rfl k.1 rfl ?_
                  have k := k.2
                  refine ev_cst (v := 1) (pc' := 112) dX8_value_111 (by decide) rfl ?_
                  refine ev_ic_le (tgt := 119) (pc' := 115) dX8_value_112 (by decide) rfl (fun h19 => ?_) (fun h19 => ?_)
                  · have k := k.1 h19
                    refine ev_cst (v := 0) (pc' := 120) dX8_value_119 (by decide) rfl ?_
                    refine ev_p (pc' := 121) (ls' := [some (.inr (.inr 50)), some (.inl x1), some (.inl x2), some (.inl x3), some (.inl r2)]) (st' := [.inl (((16 * r2) + (4 * x2)) + 0), .inr (.inr 55)]) dX8_value_120 rfl ?_
                    refine ev_load (pc' := 122) rfl dX8_value_121 rfl rfl k.1 rfl ?_
                    have k := k.2
                    exact ev_ret dX8_value_122 rfl k
                  · have k := k.2 h19
                    refine ev_p (pc' := 116) (ls' := [some (.inr (.inr 50)), some (.inl x1), some (.inl x2), some (.inl x3), some (.inl r2)]) (st' := [.inl x3, .inl ((16 * r2) + (4 * x2)), .inr (.inr 55)]) dX8_value_115 rfl ?_
                    refine ev_go (tgt := 120) dX8_value_116 (by decide) ?_
                    refine ev_p (pc' := 121) (ls' := [some (.inr (.inr 50)), some (.inl x1), some (.inl x2), some (.inl x3), some (.inl r2)]) (st' := [.inl (((16 * r2) + (4 * x2)) + x3), .inr (.inr 55)]) dX8_value_120 rfl ?_
                    refine ev_load (pc' := 122) rfl dX8_value_121 rfl rfl k.1 rfl ?_
                    have k := k.2
                    exact ev_ret dX8_value_122 rfl k
              · have k := k.2 h16
                refine ev_p (pc' := 64) (ls' := [some (.inr (.inr 50)), some (.inl x1), some (.inl x2), some (.inl x3), some (.inl r2)]) (st' := [.inl x3]) dX8_value_63 rfl ?_
                refine ev_if_lt (tgt := 75) (pc' := 67) dX8_value_64 (by decide) rfl (fun h20 => ?_) (fun h20 => ?_)
                · have k := k.1 h20
                  refine ev_cst (v := (-1)) (pc' := 76) dX8_value_75 (by decide) rfl ?_
                  exact ev_ret dX8_value_76 rfl k
                · have k := k.2 h20
                  refine ev_p (pc' := 68) (ls' := [some (.inr (.inr 50)), some (.inl x1), some (.inl x2), some (.inl x3), some (.inl r2)]) (st' := [.inl x3]) dX8_value_67 rfl ?_
                  refine ev_p (pc' := 69) (ls' := [some (.inr (.inr 50)), some (.inl x1), some (.inl x2), some (.inl x3), some (.inl r2)]) (st' := [.inr (.inr 50), .inl x3]) dX8_value_68 rfl ?_
                  refine ev_getI (pc' := 72) dX8_value_69 rfl rfl rfl rfl ?_
                  refine ev_ic_lt (tgt := 77) (pc' := 75) dX8_value_72 (by decide) rfl (fun h21 => ?_) (fun h21 => ?_)
                  · have k := k.1 h21
                    refine ev_p (pc' := 78) (ls' := [some (.inr (.inr 50)), some (.inl x1), some (.inl x2), some (.inl x3), some (.inl r2)]) (st' := [.inr (.inr 50)]) dX8_value_77 rfl ?_
                    refine ev_getA (pc' := 81) (z := 55) dX8_value_78 rfl rfl rfl rfl ?_
                    refine ev_cst (v := 16) (pc' := 83) dX8_value_81 (by decide) rfl ?_
                    refine ev_p (pc' := 85) (ls' := [some (.inr (.inr 50)), some (.inl x1), some (.inl x2), some (.inl x3), some (.inl r2)]) (st' := [.inl r2, .inl 16, .inr (.inr 55)]) dX8_value_83 rfl ?_
                    refine ev_p (pc' := 86) (ls' := [some (.inr (.inr 50)), some (.inl x1), some (.inl x2), some (.inl x3), some (.inl r2)]) (st' := [.inl (16 * r2), .inr (.inr 55)]) dX8_value_85 rfl ?_
                    refine ev_p (pc' := 87) (ls' := [some (.inr (.inr 50)), some (.inl x1), some (.inl x2), some (.inl x3), some (.inl r2)]) (st' := [.inr (.inr 50), .inl (16 * r2), .inr (.inr 55)]) dX8_value_86 rfl ?_
                    refine ev_getA (pc' := 90) (z := 51) dX8_value_87 rfl rfl rfl rfl ?_
                    refine ev_p (pc' := 92) (ls' := [some (.inr (.inr 50)), some (.inl x1), some (.inl x2), some (.inl x3), some (.inl r2)]) (st' := [.inl r2, .inr (.inr 51), .inl (16 * r2), .inr (.inr 55)]) dX8_value_90 rfl ?_
                    refine ev_load (pc' := 93) rfl dX8_value_92 rfl rfl k.1 rfl ?_
                    have k := k.2
                    refine ev_if_le (tgt := 102) (pc' := 96) dX8_value_93 (by decide) rfl (fun h22 => ?_) (fun h22 => ?_)
                    · have k := k.1 h22
                      refine ev_cst (v := 0) (pc' := 103) dX8_value_102 (by decide) rfl ?_
                      refine ev_p (pc' := 104) (ls' := [some (.inr (.inr 50)), some (.inl x1), some (.inl x2), some (.inl x3), some (.inl r2)]) (st' := [.inl ((16 * r2) + 0), .inr (.inr 55)]) dX8_value_103 rfl ?_
                      refine ev_p (pc' := 105) (ls' := [some (.inr (.inr 50)), some (.inl x1), some (.inl x2), some (.inl x3), some (.inl r2)]) (st' := [.inr (.inr 50), .inl ((16 * r2) + 0), .inr (.inr 55)]) dX8_value_104 rfl ?_
                      refine ev_getA (pc' := 108) (z := 51) dX8_value_105 rfl rfl rfl rfl ?_
                      refine ev_p (pc' := 110) (ls' := [some (.inr (.inr 50)), some (.inl x1), some (.inl x2), some (.inl x3), some (.inl r2)]) (st' := [.inl r2, .inr (.inr 51), .inl ((16 * r2) + 0), .inr (.inr 55)]) dX8_value_108 rfl ?_
                      refine ev_load (pc' := 111) rfl dX8_value_110 rfl rfl k.1 rfl ?_
                      have k := k.2
                      refine ev_cst (v := 1) (pc' := 112) dX8_value_111 (by decide) rfl ?_
                      refine ev_ic_le (tgt := 119) (pc' := 115) dX8_value_112 (by decide) rfl (fun h23 => ?_) (fun h23 => ?_)
                      · have k := k.1 h23
                        refine ev_cst (v := 0) (pc' := 120) dX8_value_119 (by decide) rfl ?_
                        refine ev_p (pc' := 121) (ls' := [some (.inr (.inr 50)), some (.inl x1), some (.inl x2), some (.inl x3), some (.inl r2)]) (st' := [.inl (((16 * r2) + 0) + 0), .inr (.inr 55)]) dX8_value_120 rfl ?_
                        refine ev_load (pc' := 122) rfl dX8_value_121 rfl rfl k.1 rfl ?_
                        have k := k.2
                        exact ev_ret dX8_value_122 rfl k
                      · have k := k.2 h23
                        refine ev_p (pc' := 116) (ls' := [some (.inr (.inr 50)), some (.inl x1), some (.inl x2), some (.inl x3), some (.inl r2)]) (st' := [.inl x3, .inl ((16 * r2) + 0), .inr (.inr 55)]) dX8_value_115 rfl ?_
                        refine ev_go (tgt := 120) dX8_value_116 (by decide) ?_
                        refine ev_p (pc' := 121) (ls' := [some (.inr (.inr 50)), some (.inl x1), some (.inl x2), some (.inl x3), some (.inl r2)]) (st' := [.inl (((16 * r2) + 0) + x3), .inr (.inr 55)]) dX8_value_120 rfl ?_
                        refine ev_load (pc' := 122) rfl dX8_value_121 rfl rfl k.1 rfl ?_
                        have k := k.2
                        exact ev_ret dX8_value_122 rfl k
                    · have k := k.2 h22
                      refine ev_cst (v := 4) (pc' := 97) dX8_value_96 (by decide) rfl ?_
                      refine ev_p (pc' := 98) (ls' := [some (.inr (.inr 50)), some (.inl x1), some (.inl x2), some (.inl x3), some (.inl r2)]) (st' := [.inl x2, .inl 4, .inl (16 * r2), .inr (.inr 55)]) dX8_value_97 rfl ?_
                      refine ev_p (pc' := 99) (ls' := [some (.inr (.inr 50)), some (.inl x1), some (.inl x2), some (.inl x3), some (.inl r2)]) (st' := [.inl (4 * x2), .inl (16 * r2), .inr (.inr 55)]) dX8_value_98 rfl ?_
                      refine ev_go (tgt := 103) dX8_value_99 (by decide) ?_
                      refine ev_p (pc' := 104) (ls' := [some (.inr (.inr 50)), some (.inl x1), some (.inl x2), some (.inl x3), some (.inl r2)]) (st' := [.inl ((16 * r2) + (4 * x2)), .inr (.inr 55)]) dX8_value_103 rfl ?_
                      refine ev_p (pc' := 105) (ls' := [some (.inr (.inr 50)), some (.inl x1), some (.inl x2), some (.inl x3), some (.inl r2)]) (st' := [.inr (.inr 50), .inl ((16 * r2) + (4 * x2)), .inr (.inr 55)]) dX8_value_104 rfl ?_
                      refine ev_getA (pc' := 108) (z := 51) dX8_value_105 rfl rfl rfl rfl ?_
                      refine ev_p (pc' := 110) (ls' := [some (.inr (.inr 50)), some (.inl x1), some (.inl x2), some (.inl x3), some (.inl r2)]) (st' := [.inl r2, .inr (.inr 51), .inl ((16 * r2) + (4 * x2)), .inr (.inr 55)]) dX8_value_108 rfl ?_
                      refine ev_load (pc' := 111) rfl dX8_value_110 rfl rfl k.1 rfl ?_
                      have k := k.2
                      refine ev_cst (v := 1) (pc' := 112) dX8_value_111 (by decide) rfl ?_
                      refine ev_ic_le (tgt := 119) (pc' := 115) dX8_value_112 (by decide) rfl (fun h24 => ?_) (fun h24 => ?_)
                      · have k := k.1 h24
                        refine ev_cst (v := 0) (pc' := 120) dX8_value_119 (by decide) rfl ?_
                        refine ev_p (pc' := 121) (ls' := [some (.inr (.inr 50)), some (.inl x1), some (.inl x2), some (.inl x3), some (.inl r2)]) (st' := [.inl (((16 * r2) + (4 * x2)) + 0), .inr (.inr 55)]) dX8_value_120 rfl ?_
                        refine ev_load (pc' := 122) rfl dX8_value_121 rfl rfl k.1 rfl ?_
                        have k := k.2
                        exact ev_ret dX8_value_122 rfl k
                      · have k := k.2 h24
                        refine ev_p (pc' := 116) (ls' := [some (.inr (.inr 50)), some (.inl x1), some (.inl x2), some (.inl x3), some (.inl r2)]) (st' := [.inl x3, .inl ((16 * r2) + (4 * x2)), .inr (.inr 55)]) dX8_value_115 rfl ?_
                        refine ev_go (tgt := 120) dX8_value_116 (by decide) ?_
                        refine ev_p (pc' := 121) (ls' := [some (.inr (.inr 50)), some (.inl x1), some (.inl x2), some (.inl x3), some (.inl r2)]) (st' := [.inl (((16 * r2) + (4 * x2)) + x3), .inr (.inr 55)]) dX8_value_120 rfl ?_
                        refine ev_load (pc' := 122) rfl dX8_value_121 rfl rfl k.1 rfl ?_
                        have k := k.2
                        exact ev_ret dX8_value_122 rfl k
                  · have k := k.2 h21
                    refine ev_cst (v := (-1)) (pc' := 76) dX8_value_75 (by decide) rfl ?_
                    exact ev_ret dX8_value_76 rfl k
      · have k := k.2 h3
        refine ev_cst (v := (-1)) (pc' := 29) dX8_value_28 (by decide) rfl ?_
        exact ev_ret dX8_value_29 rfl k
set_option maxRecDepth 20000 in
theorem s_X8_tries_0 {σ : ab_M} {Q : Option ab_V → ab_M → Prop} 
    (k : Q (some (.inl (σ 50 14))) σ) :
    ev mX8_tries 0 [some (.inr (.inr 50))] [] σ Q := by
  refine ev_p (pc' := 1) (ls' := [some (.inr (.inr 50))]) (st' := [.inr (.inr 50)]) dX8_tries_0 rfl ?_
  refine ev_getI (pc' := 4) dX8_tries_1 rfl rfl rfl rfl ?_
  exact ev_ret dX8_tries_4 rfl k
set_option maxRecDepth 20000 in
theorem s_X8_check_0 {σ : ab_M} {Q : Option ab_V → ab_M → Prop} 
    (k : evm mX8_wrong [.inr (.inr 50)] σ (fun v τ1 => ∃ r2 : Int32, v = some (.inl r2) ∧ ((0 ≤ r2 → ((r2 < 0 → Q (some (.inl (-2))) (ab_upd τ1 50 2 0)) ∧ (¬ r2 < 0 → Q (some (.inl ((-100) - r2))) (ab_upd τ1 50 2 0)))) ∧ (¬ 0 ≤ r2 → (((τ1 50 12) = 0 → ((r2 < 0 → Q (some (.inl (-2))) (ab_upd τ1 50 2 0)) ∧ (¬ r2 < 0 → Q (some (.inl ((-100) - r2))) (ab_upd τ1 50 2 0)))) ∧ (¬ (τ1 50 12) = 0 → evm mX8_keep [.inr (.inr 50), .inl 8] τ1 (fun v τ3 => v = none ∧ evm mX8_breaks [.inr (.inr 50), .inl 8] τ3 (fun v τ4 => ∃ r5 : Int32, v = some (.inl r5) ∧ ((r5 = 0 → Q (some (.inl 1)) τ4) ∧ (¬ r5 = 0 → ev mX8_check 54 [some (.inr (.inr 50)), some (.inl r2), some (.inl 0)] [] τ4 Q)))))))))) :
    ev mX8_check 0 [some (.inr (.inr 50)), none, none] [] σ Q := by
  refine ev_p (pc' := 1) (ls' := [some (.inr (.inr 50)), none, none]) (st' := [.inr (.inr 50)]) dX8_check_0 rfl ?_
  refine ev_call (y := 88) (as := [.inr (.inr 50)]) (r := []) (M' := mX8_wrong) (pc' := 4) dX8_check_1 rfl rfl ⟨rfl, rfl⟩ rfl k rfl (fun v τ1 hq => ?_)
  obtain ⟨r2, hv, k⟩ := hq
  rw [hv]
  change ev mX8_check 4 [some (.inr (.inr 50)), none, none] [.inl r2] τ1 _
  refine ev_p (pc' := 5) (ls' := [some (.inr (.inr 50)), some (.inl r2), none]) (st' := []) dX8_check_4 rfl ?_
  refine ev_p (pc' := 6) (ls' := [some (.inr (.inr 50)), some (.inl r2), none]) (st' := [.inl r2]) dX8_check_5 rfl ?_
  refine ev_if_ge (tgt := 16) (pc' := 9) dX8_check_6 (by decide) rfl (fun h1 => ?_) (fun h1 => ?_)
  · have k := k.1 h1
    refine ev_p (pc' := 17) (ls' := [some (.inr (.inr 50)), some (.inl r2), none]) (st' := [.inr (.inr 50)]) dX8_check_16 rfl ?_
    refine ev_cst (v := 0) (pc' := 18) dX8_check_17 (by decide) rfl ?_
    refine ev_putI (pc' := 21) dX8_check_18 rfl rfl rfl rfl rfl rfl ?_
    refine ev_p (pc' := 22) (ls' := [some (.inr (.inr 50)), some (.inl r2), none]) (st' := [.inl r2]) dX8_check_21 rfl ?_
    refine ev_if_lt (tgt := 32) (pc' := 25) dX8_check_22 (by decide) rfl (fun h2 => ?_) (fun h2 => ?_)
    · have k := k.1 h2
      refine ev_cst (v := (-2)) (pc' := 34) dX8_check_32 (by decide) rfl ?_
      exact ev_ret dX8_check_34 rfl k
    · have k := k.2 h2
      refine ev_cst (v := (-100)) (pc' := 27) dX8_check_25 (by decide) rfl ?_
      refine ev_p (pc' := 28) (ls' := [some (.inr (.inr 50)), some (.inl r2), none]) (st' := [.inl r2, .inl (-100)]) dX8_check_27 rfl ?_
      refine ev_p (pc' := 29) (ls' := [some (.inr (.inr 50)), some (.inl r2), none]) (st' := [.inl ((-100) - r2)]) dX8_check_28 rfl ?_
      refine ev_go (tgt := 34) dX8_check_29 (by decide) ?_
      exact ev_ret dX8_check_34 rfl k
  · have k := k.2 h1
    refine ev_p (pc' := 10) (ls' := [some (.inr (.inr 50)), some (.inl r2), none]) (st' := [.inr (.inr 50)]) dX8_check_9 rfl ?_
    refine ev_getI (pc' := 13) dX8_check_10 rfl rfl rfl rfl ?_
    refine ev_if_ne (tgt := 35) (pc' := 16) dX8_check_13 (by decide) rfl (fun h3 => ?_) (fun h3 => ?_)
    · have k := k.2 h3
      refine ev_p (pc' := 36) (ls' := [some (.inr (.inr 50)), some (.inl r2), none]) (st' := [.inr (.inr 50)]) dX8_check_35 rfl ?_
      refine ev_cst (v := 8) (pc' := 38) dX8_check_36 (by decide) rfl ?_
      refine ev_call (y := 91) (as := [.inr (.inr 50), .inl 8]) (r := []) (M' := mX8_keep) (pc' := 41) dX8_check_38 rfl rfl ⟨rfl, rfl⟩ rfl k rfl (fun v τ3 hq => ?_)
      obtain ⟨hv, k⟩ := hq
      rw [hv]
      change ev mX8_check 41 [some (.inr (.inr 50)), some (.inl r2), none] [] τ3 _
      refine ev_p (pc' := 42) (ls' := [some (.inr (.inr 50)), some (.inl r2), none]) (st' := [.inr (.inr 50)]) dX8_check_41 rfl ?_
      refine ev_cst (v := 8) (pc' := 44) dX8_check_42 (by decide) rfl ?_
      refine ev_call (y := 99) (as := [.inr (.inr 50), .inl 8]) (r := []) (M' := mX8_breaks) (pc' := 47) dX8_check_44 rfl rfl ⟨rfl, rfl⟩ rfl k rfl (fun v τ4 hq => ?_)
      obtain ⟨r5, hv, k⟩ := hq
      rw [hv]
      change ev mX8_check 47 [some (.inr (.inr 50)), some (.inl r2), none] [.inl r5] τ4 _
      refine ev_if_ne (tgt := 52) (pc' := 50) dX8_check_47 (by decide) rfl (fun h4 => ?_) (fun h4 => ?_)
      · have k := k.2 h4
        refine ev_cst (v := 0) (pc' := 53) dX8_check_52 (by decide) rfl ?_
        refine ev_p (pc' := 54) (ls' := [some (.inr (.inr 50)), some (.inl r2), some (.inl 0)]) (st' := []) dX8_check_53 rfl ?_
        exact k
      · have k := k.1 h4
        refine ev_cst (v := 1) (pc' := 51) dX8_check_50 (by decide) rfl ?_
        exact ev_ret dX8_check_51 rfl k
    · have k := k.1 h3
      refine ev_p (pc' := 17) (ls' := [some (.inr (.inr 50)), some (.inl r2), none]) (st' := [.inr (.inr 50)]) dX8_check_16 rfl ?_
      refine ev_cst (v := 0) (pc' := 18) dX8_check_17 (by decide) rfl ?_
      refine ev_putI (pc' := 21) dX8_check_18 rfl rfl rfl rfl rfl rfl ?_
      refine ev_p (pc' := 22) (ls' := [some (.inr (.inr 50)), some (.inl r2), none]) (st' := [.inl r2]) dX8_check_21 rfl ?_
      refine ev_if_lt (tgt := 32) (pc' := 25) dX8_check_22 (by decide) rfl (fun h5 => ?_) (fun h5 => ?_)
      · have k := k.1 h5
        refine ev_cst (v := (-2)) (pc' := 34) dX8_check_32 (by decide) rfl ?_
        exact ev_ret dX8_check_34 rfl k
      · have k := k.2 h5
        refine ev_cst (v := (-100)) (pc' := 27) dX8_check_25 (by decide) rfl ?_
        refine ev_p (pc' := 28) (ls' := [some (.inr (.inr 50)), some (.inl r2), none]) (st' := [.inl r2, .inl (-100)]) dX8_check_27 rfl ?_
        refine ev_p (pc' := 29) (ls' := [some (.inr (.inr 50)), some (.inl r2), none]) (st' := [.inl ((-100) - r2)]) dX8_check_28 rfl ?_
        refine ev_go (tgt := 34) dX8_check_29 (by decide) ?_
        exact ev_ret dX8_check_34 rfl k
set_option maxRecDepth 20000 in
theorem s_X8_check_54 {σ : ab_M} {Q : Option ab_V → ab_M → Prop} {x1 : Int32} {x2 : Int32}
    (k : ((3 ≤ x2 → Q (some (.inl 0)) σ) ∧ (¬ 3 ≤ x2 → ab_in x2 3 = true ∧ ab_in x2 3 = true ∧ ev mX8_check 54 [some (.inr (.inr 50)), some (.inl x1), some (.inl (x2 + 1))] [] (ab_upd σ 60 x2.toNatClampNeg (σ 59 x2.toNatClampNeg)) Q))) :
    ev mX8_check 54 [some (.inr (.inr 50)), some (.inl x1), some (.inl x2)] [] σ Q := by
  refine ev_p (pc' := 55) (ls' := [some (.inr (.inr 50)), some (.inl x1), some (.inl x2)]) (st' := [.inl x2]) dX8_check_54 rfl ?_
  refine ev_cst (v := 3) (pc' := 56) dX8_check_55 (by decide) rfl ?_
  refine ev_ic_ge (tgt := 77) (pc' := 59) dX8_check_56 (by decide) rfl (fun h1 => ?_) (fun h1 => ?_)
  · have k := k.1 h1
    refine ev_cst (v := 0) (pc' := 78) dX8_check_77 (by decide) rfl ?_
    exact ev_ret dX8_check_78 rfl k
  · have k := k.2 h1
    refine ev_p (pc' := 60) (ls' := [some (.inr (.inr 50)), some (.inl x1), some (.inl x2)]) (st' := [.inr (.inr 50)]) dX8_check_59 rfl ?_
    refine ev_getA (pc' := 63) (z := 60) dX8_check_60 rfl rfl rfl rfl ?_
    refine ev_p (pc' := 64) (ls' := [some (.inr (.inr 50)), some (.inl x1), some (.inl x2)]) (st' := [.inl x2, .inr (.inr 60)]) dX8_check_63 rfl ?_
    refine ev_p (pc' := 65) (ls' := [some (.inr (.inr 50)), some (.inl x1), some (.inl x2)]) (st' := [.inr (.inr 50), .inl x2, .inr (.inr 60)]) dX8_check_64 rfl ?_
    refine ev_getA (pc' := 68) (z := 59) dX8_check_65 rfl rfl rfl rfl ?_
    refine ev_p (pc' := 69) (ls' := [some (.inr (.inr 50)), some (.inl x1), some (.inl x2)]) (st' := [.inl x2, .inr (.inr 59), .inl x2, .inr (.inr 60)]) dX8_check_68 rfl ?_
    refine ev_load (pc' := 70) rfl dX8_check_69 rfl rfl k.1 rfl ?_
    have k := k.2
    refine ev_stor (pc' := 71) (z := (σ 59 x2.toNatClampNeg)) rfl dX8_check_70 rfl rfl k.1 rfl rfl ?_
    have k := k.2
    refine ev_p (pc' := 74) (ls' := [some (.inr (.inr 50)), some (.inl x1), some (.inl (x2 + 1))]) (st' := []) dX8_check_71 rfl ?_
    refine ev_go (tgt := 54) dX8_check_74 (by decide) ?_
    exact k
set_option maxRecDepth 20000 in
theorem s_X8_caseOf_0 {σ : ab_M} {Q : Option ab_V → ab_M → Prop} {x1 : Int32}
    (k : ((x1 < 0 → Q (some (.inl (-1))) σ) ∧ (¬ x1 < 0 → ((2 < x1 → Q (some (.inl (-1))) σ) ∧ (¬ 2 < x1 → ab_in x1 3 = true ∧ Q (some (.inl (σ 60 x1.toNatClampNeg))) σ))))) :
    ev mX8_caseOf 0 [some (.inr (.inr 50)), some (.inl x1)] [] σ Q := by
  refine ev_p (pc' := 1) (ls' := [some (.inr (.inr 50)), some (.inl x1)]) (st' := [.inl x1]) dX8_caseOf_0 rfl ?_
  refine ev_if_lt (tgt := 18) (pc' := 4) dX8_caseOf_1 (by decide) rfl (fun h1 => ?_) (fun h1 => ?_)
  · have k := k.1 h1
    refine ev_cst (v := (-1)) (pc' := 19) dX8_caseOf_18 (by decide) rfl ?_
    exact ev_ret dX8_caseOf_19 rfl k
  · have k := k.2 h1
    refine ev_p (pc' := 5) (ls' := [some (.inr (.inr 50)), some (.inl x1)]) (st' := [.inl x1]) dX8_caseOf_4 rfl ?_
    refine ev_cst (v := 2) (pc' := 6) dX8_caseOf_5 (by decide) rfl ?_
    refine ev_ic_gt (tgt := 18) (pc' := 9) dX8_caseOf_6 (by decide) rfl (fun h2 => ?_) (fun h2 => ?_)
    · have k := k.1 h2
      refine ev_cst (v := (-1)) (pc' := 19) dX8_caseOf_18 (by decide) rfl ?_
      exact ev_ret dX8_caseOf_19 rfl k
    · have k := k.2 h2
      refine ev_p (pc' := 10) (ls' := [some (.inr (.inr 50)), some (.inl x1)]) (st' := [.inr (.inr 50)]) dX8_caseOf_9 rfl ?_
      refine ev_getA (pc' := 13) (z := 60) dX8_caseOf_10 rfl rfl rfl rfl ?_
      refine ev_p (pc' := 14) (ls' := [some (.inr (.inr 50)), some (.inl x1)]) (st' := [.inl x1, .inr (.inr 60)]) dX8_caseOf_13 rfl ?_
      refine ev_load (pc' := 15) rfl dX8_caseOf_14 rfl rfl k.1 rfl ?_
      have k := k.2
      refine ev_go (tgt := 19) dX8_caseOf_15 (by decide) ?_
      exact ev_ret dX8_caseOf_19 rfl k
set_option maxRecDepth 20000 in
theorem s_X8_clauses_0 {σ : ab_M} {Q : Option ab_V → ab_M → Prop} 
    (k : Q (some (.inl (σ 50 5))) σ) :
    ev mX8_clauses 0 [some (.inr (.inr 50))] [] σ Q := by
  refine ev_p (pc' := 1) (ls' := [some (.inr (.inr 50))]) (st' := [.inr (.inr 50)]) dX8_clauses_0 rfl ?_
  refine ev_getI (pc' := 4) dX8_clauses_1 rfl rfl rfl rfl ?_
  exact ev_ret dX8_clauses_4 rfl k
