theorem dX6_cellOf_0 : decode (me_b mX6_cellOf) 0 = .ok (.iload_n 0, 1) := by decide +kernel
theorem dX6_cellOf_1 : decode (me_b mX6_cellOf) 1 = .ok (.iconst 4, 1) := by decide +kernel
theorem dX6_cellOf_2 : decode (me_b mX6_cellOf) 2 = .ok (.imul, 1) := by decide +kernel
theorem dX6_cellOf_3 : decode (me_b mX6_cellOf) 3 = .ok (.iload_n 1, 1) := by decide +kernel
theorem dX6_cellOf_4 : decode (me_b mX6_cellOf) 4 = .ok (.iadd, 1) := by decide +kernel
theorem dX6_cellOf_5 : decode (me_b mX6_cellOf) 5 = .ok (.iconst 4, 1) := by decide +kernel
theorem dX6_cellOf_6 : decode (me_b mX6_cellOf) 6 = .ok (.imul, 1) := by decide +kernel
theorem dX6_cellOf_7 : decode (me_b mX6_cellOf) 7 = .ok (.iload_n 2, 1) := by decide +kernel
theorem dX6_cellOf_8 : decode (me_b mX6_cellOf) 8 = .ok (.iadd, 1) := by decide +kernel
theorem dX6_cellOf_9 : decode (me_b mX6_cellOf) 9 = .ok (.ireturn, 1) := by decide +kernel
theorem dX6_lay_0 : decode (me_b mX6_lay) 0 = .ok (.aload_n 0, 1) := by decide +kernel
theorem dX6_lay_1 : decode (me_b mX6_lay) 1 = .ok (.iload_n 1, 1) := by decide +kernel
theorem dX6_lay_2 : decode (me_b mX6_lay) 2 = .ok (.putfield 24, 3) := by decide +kernel
theorem dX6_lay_5 : decode (me_b mX6_lay) 5 = .ok (.aload_n 0, 1) := by decide +kernel
theorem dX6_lay_6 : decode (me_b mX6_lay) 6 = .ok (.iconst 0, 1) := by decide +kernel
theorem dX6_lay_7 : decode (me_b mX6_lay) 7 = .ok (.putfield 28, 3) := by decide +kernel
theorem dX6_lay_10 : decode (me_b mX6_lay) 10 = .ok (.aload_n 0, 1) := by decide +kernel
theorem dX6_lay_11 : decode (me_b mX6_lay) 11 = .ok (.getfield 11, 3) := by decide +kernel
theorem dX6_lay_14 : decode (me_b mX6_lay) 14 = .ok (.iconst (-1), 1) := by decide +kernel
theorem dX6_lay_15 : decode (me_b mX6_lay) 15 = .ok (.invokestatic 31, 3) := by decide +kernel
theorem dX6_lay_18 : decode (me_b mX6_lay) 18 = .ok (.iconst (-1), 1) := by decide +kernel
theorem dX6_lay_19 : decode (me_b mX6_lay) 19 = .ok (.istore_n 3, 1) := by decide +kernel
theorem dX6_lay_20 : decode (me_b mX6_lay) 20 = .ok (.iload_n 3, 1) := by decide +kernel
theorem dX6_lay_21 : decode (me_b mX6_lay) 21 = .ok (.iload_n 1, 1) := by decide +kernel
theorem dX6_lay_22 : decode (me_b mX6_lay) 22 = .ok (.if_icmp .ge 38, 3) := by decide +kernel
theorem dX6_lay_25 : decode (me_b mX6_lay) 25 = .ok (.iconst 0, 1) := by decide +kernel
theorem dX6_lay_26 : decode (me_b mX6_lay) 26 = .ok (.istore 4, 2) := by decide +kernel
theorem dX6_lay_28 : decode (me_b mX6_lay) 28 = .ok (.iload 4, 2) := by decide +kernel
theorem dX6_lay_30 : decode (me_b mX6_lay) 30 = .ok (.bipush 8, 2) := by decide +kernel
theorem dX6_lay_32 : decode (me_b mX6_lay) 32 = .ok (.if_icmp .ge 22, 3) := by decide +kernel
theorem dX6_lay_35 : decode (me_b mX6_lay) 35 = .ok (.aload_n 0, 1) := by decide +kernel
theorem dX6_lay_36 : decode (me_b mX6_lay) 36 = .ok (.iload 4, 2) := by decide +kernel
theorem dX6_lay_38 : decode (me_b mX6_lay) 38 = .ok (.aload_n 2, 1) := by decide +kernel
theorem dX6_lay_39 : decode (me_b mX6_lay) 39 = .ok (.iload 4, 2) := by decide +kernel
theorem dX6_lay_41 : decode (me_b mX6_lay) 41 = .ok (.invokevirtual 37, 3) := by decide +kernel
theorem dX6_lay_44 : decode (me_b mX6_lay) 44 = .ok (.iload_n 3, 1) := by decide +kernel
theorem dX6_lay_45 : decode (me_b mX6_lay) 45 = .ok (.invokevirtual 43, 3) := by decide +kernel
theorem dX6_lay_48 : decode (me_b mX6_lay) 48 = .ok (.iinc 4 1, 3) := by decide +kernel
theorem dX6_lay_51 : decode (me_b mX6_lay) 51 = .ok (.goto (-23), 3) := by decide +kernel
theorem dX6_lay_54 : decode (me_b mX6_lay) 54 = .ok (.iinc 3 1, 3) := by decide +kernel
theorem dX6_lay_57 : decode (me_b mX6_lay) 57 = .ok (.goto (-37), 3) := by decide +kernel
theorem dX6_lay_60 : decode (me_b mX6_lay) 60 = .ok (.return_, 1) := by decide +kernel
theorem dX6_count_0 : decode (me_b mX6_count) 0 = .ok (.aload_n 0, 1) := by decide +kernel
theorem dX6_count_1 : decode (me_b mX6_count) 1 = .ok (.getfield 28, 3) := by decide +kernel
theorem dX6_count_4 : decode (me_b mX6_count) 4 = .ok (.ireturn, 1) := by decide +kernel
theorem dX6_sizeLaid_0 : decode (me_b mX6_sizeLaid) 0 = .ok (.aload_n 0, 1) := by decide +kernel
theorem dX6_sizeLaid_1 : decode (me_b mX6_sizeLaid) 1 = .ok (.getfield 24, 3) := by decide +kernel
theorem dX6_sizeLaid_4 : decode (me_b mX6_sizeLaid) 4 = .ok (.ireturn, 1) := by decide +kernel
theorem dX6_valueOf_0 : decode (me_b mX6_valueOf) 0 = .ok (.iload_n 1, 1) := by decide +kernel
theorem dX6_valueOf_1 : decode (me_b mX6_valueOf) 1 = .ok (.ifCond .lt 10, 3) := by decide +kernel
theorem dX6_valueOf_4 : decode (me_b mX6_valueOf) 4 = .ok (.iload_n 1, 1) := by decide +kernel
theorem dX6_valueOf_5 : decode (me_b mX6_valueOf) 5 = .ok (.sipush 128, 3) := by decide +kernel
theorem dX6_valueOf_8 : decode (me_b mX6_valueOf) 8 = .ok (.if_icmp .lt 7, 3) := by decide +kernel
theorem dX6_valueOf_11 : decode (me_b mX6_valueOf) 11 = .ok (.iconst (-1), 1) := by decide +kernel
theorem dX6_valueOf_12 : decode (me_b mX6_valueOf) 12 = .ok (.goto 9, 3) := by decide +kernel
theorem dX6_valueOf_15 : decode (me_b mX6_valueOf) 15 = .ok (.aload_n 0, 1) := by decide +kernel
theorem dX6_valueOf_16 : decode (me_b mX6_valueOf) 16 = .ok (.getfield 11, 3) := by decide +kernel
theorem dX6_valueOf_19 : decode (me_b mX6_valueOf) 19 = .ok (.iload_n 1, 1) := by decide +kernel
theorem dX6_valueOf_20 : decode (me_b mX6_valueOf) 20 = .ok (.iaload, 1) := by decide +kernel
theorem dX6_valueOf_21 : decode (me_b mX6_valueOf) 21 = .ok (.ireturn, 1) := by decide +kernel
theorem dX6_rankOf_0 : decode (me_b mX6_rankOf) 0 = .ok (.iload_n 1, 1) := by decide +kernel
theorem dX6_rankOf_1 : decode (me_b mX6_rankOf) 1 = .ok (.ifCond .lt 10, 3) := by decide +kernel
theorem dX6_rankOf_4 : decode (me_b mX6_rankOf) 4 = .ok (.iload_n 1, 1) := by decide +kernel
theorem dX6_rankOf_5 : decode (me_b mX6_rankOf) 5 = .ok (.sipush 128, 3) := by decide +kernel
theorem dX6_rankOf_8 : decode (me_b mX6_rankOf) 8 = .ok (.if_icmp .lt 7, 3) := by decide +kernel
theorem dX6_rankOf_11 : decode (me_b mX6_rankOf) 11 = .ok (.iconst 0, 1) := by decide +kernel
theorem dX6_rankOf_12 : decode (me_b mX6_rankOf) 12 = .ok (.goto 9, 3) := by decide +kernel
theorem dX6_rankOf_15 : decode (me_b mX6_rankOf) 15 = .ok (.aload_n 0, 1) := by decide +kernel
theorem dX6_rankOf_16 : decode (me_b mX6_rankOf) 16 = .ok (.getfield 18, 3) := by decide +kernel
theorem dX6_rankOf_19 : decode (me_b mX6_rankOf) 19 = .ok (.iload_n 1, 1) := by decide +kernel
theorem dX6_rankOf_20 : decode (me_b mX6_rankOf) 20 = .ok (.iaload, 1) := by decide +kernel
theorem dX6_rankOf_21 : decode (me_b mX6_rankOf) 21 = .ok (.ireturn, 1) := by decide +kernel
theorem dX6_valueAt_0 : decode (me_b mX6_valueAt) 0 = .ok (.aload_n 0, 1) := by decide +kernel
theorem dX6_valueAt_1 : decode (me_b mX6_valueAt) 1 = .ok (.iload_n 1, 1) := by decide +kernel
theorem dX6_valueAt_2 : decode (me_b mX6_valueAt) 2 = .ok (.invokevirtual 47, 3) := by decide +kernel
theorem dX6_valueAt_5 : decode (me_b mX6_valueAt) 5 = .ok (.ifCond .eq 17, 3) := by decide +kernel
theorem dX6_valueAt_8 : decode (me_b mX6_valueAt) 8 = .ok (.aload_n 0, 1) := by decide +kernel
theorem dX6_valueAt_9 : decode (me_b mX6_valueAt) 9 = .ok (.getfield 11, 3) := by decide +kernel
theorem dX6_valueAt_12 : decode (me_b mX6_valueAt) 12 = .ok (.aload_n 0, 1) := by decide +kernel
theorem dX6_valueAt_13 : decode (me_b mX6_valueAt) 13 = .ok (.getfield 15, 3) := by decide +kernel
theorem dX6_valueAt_16 : decode (me_b mX6_valueAt) 16 = .ok (.iload_n 1, 1) := by decide +kernel
theorem dX6_valueAt_17 : decode (me_b mX6_valueAt) 17 = .ok (.iaload, 1) := by decide +kernel
theorem dX6_valueAt_18 : decode (me_b mX6_valueAt) 18 = .ok (.iaload, 1) := by decide +kernel
theorem dX6_valueAt_19 : decode (me_b mX6_valueAt) 19 = .ok (.goto 4, 3) := by decide +kernel
theorem dX6_valueAt_22 : decode (me_b mX6_valueAt) 22 = .ok (.iconst (-1), 1) := by decide +kernel
theorem dX6_valueAt_23 : decode (me_b mX6_valueAt) 23 = .ok (.ireturn, 1) := by decide +kernel
theorem dX6_putAt_0 : decode (me_b mX6_putAt) 0 = .ok (.aload_n 0, 1) := by decide +kernel
theorem dX6_putAt_1 : decode (me_b mX6_putAt) 1 = .ok (.iload_n 1, 1) := by decide +kernel
theorem dX6_putAt_2 : decode (me_b mX6_putAt) 2 = .ok (.invokevirtual 47, 3) := by decide +kernel
theorem dX6_putAt_5 : decode (me_b mX6_putAt) 5 = .ok (.ifCond .eq 15, 3) := by decide +kernel
theorem dX6_putAt_8 : decode (me_b mX6_putAt) 8 = .ok (.aload_n 0, 1) := by decide +kernel
theorem dX6_putAt_9 : decode (me_b mX6_putAt) 9 = .ok (.getfield 11, 3) := by decide +kernel
theorem dX6_putAt_12 : decode (me_b mX6_putAt) 12 = .ok (.aload_n 0, 1) := by decide +kernel
theorem dX6_putAt_13 : decode (me_b mX6_putAt) 13 = .ok (.getfield 15, 3) := by decide +kernel
theorem dX6_putAt_16 : decode (me_b mX6_putAt) 16 = .ok (.iload_n 1, 1) := by decide +kernel
theorem dX6_putAt_17 : decode (me_b mX6_putAt) 17 = .ok (.iaload, 1) := by decide +kernel
theorem dX6_putAt_18 : decode (me_b mX6_putAt) 18 = .ok (.iload_n 2, 1) := by decide +kernel
theorem dX6_putAt_19 : decode (me_b mX6_putAt) 19 = .ok (.iastore, 1) := by decide +kernel
theorem dX6_putAt_20 : decode (me_b mX6_putAt) 20 = .ok (.return_, 1) := by decide +kernel
theorem dX6_isFunctionAt_0 : decode (me_b mX6_isFunctionAt) 0 = .ok (.aload_n 0, 1) := by decide +kernel
theorem dX6_isFunctionAt_1 : decode (me_b mX6_isFunctionAt) 1 = .ok (.iload_n 1, 1) := by decide +kernel
theorem dX6_isFunctionAt_2 : decode (me_b mX6_isFunctionAt) 2 = .ok (.invokevirtual 47, 3) := by decide +kernel
theorem dX6_isFunctionAt_5 : decode (me_b mX6_isFunctionAt) 5 = .ok (.ifCond .eq 22, 3) := by decide +kernel
theorem dX6_isFunctionAt_8 : decode (me_b mX6_isFunctionAt) 8 = .ok (.aload_n 0, 1) := by decide +kernel
theorem dX6_isFunctionAt_9 : decode (me_b mX6_isFunctionAt) 9 = .ok (.getfield 15, 3) := by decide +kernel
theorem dX6_isFunctionAt_12 : decode (me_b mX6_isFunctionAt) 12 = .ok (.iload_n 1, 1) := by decide +kernel
theorem dX6_isFunctionAt_13 : decode (me_b mX6_isFunctionAt) 13 = .ok (.iaload, 1) := by decide +kernel
theorem dX6_isFunctionAt_14 : decode (me_b mX6_isFunctionAt) 14 = .ok (.bipush 16, 2) := by decide +kernel
theorem dX6_isFunctionAt_16 : decode (me_b mX6_isFunctionAt) 16 = .ok (.idiv, 1) := by decide +kernel
theorem dX6_isFunctionAt_17 : decode (me_b mX6_isFunctionAt) 17 = .ok (.invokestatic 51, 3) := by decide +kernel
theorem dX6_isFunctionAt_20 : decode (me_b mX6_isFunctionAt) 20 = .ok (.ifCond .eq 7, 3) := by decide +kernel
theorem dX6_isFunctionAt_23 : decode (me_b mX6_isFunctionAt) 23 = .ok (.iconst 1, 1) := by decide +kernel
theorem dX6_isFunctionAt_24 : decode (me_b mX6_isFunctionAt) 24 = .ok (.goto 4, 3) := by decide +kernel
theorem dX6_isFunctionAt_27 : decode (me_b mX6_isFunctionAt) 27 = .ok (.iconst 0, 1) := by decide +kernel
theorem dX6_isFunctionAt_28 : decode (me_b mX6_isFunctionAt) 28 = .ok (.ireturn, 1) := by decide +kernel
theorem dX6_greatestArgumentAt_0 : decode (me_b mX6_greatestArgumentAt) 0 = .ok (.aload_n 0, 1) := by decide +kernel
theorem dX6_greatestArgumentAt_1 : decode (me_b mX6_greatestArgumentAt) 1 = .ok (.iload_n 1, 1) := by decide +kernel
theorem dX6_greatestArgumentAt_2 : decode (me_b mX6_greatestArgumentAt) 2 = .ok (.invokevirtual 47, 3) := by decide +kernel
theorem dX6_greatestArgumentAt_5 : decode (me_b mX6_greatestArgumentAt) 5 = .ok (.ifCond .eq 12, 3) := by decide +kernel
theorem dX6_greatestArgumentAt_8 : decode (me_b mX6_greatestArgumentAt) 8 = .ok (.aload_n 0, 1) := by decide +kernel
theorem dX6_greatestArgumentAt_9 : decode (me_b mX6_greatestArgumentAt) 9 = .ok (.getfield 21, 3) := by decide +kernel
theorem dX6_greatestArgumentAt_12 : decode (me_b mX6_greatestArgumentAt) 12 = .ok (.iload_n 1, 1) := by decide +kernel
theorem dX6_greatestArgumentAt_13 : decode (me_b mX6_greatestArgumentAt) 13 = .ok (.iaload, 1) := by decide +kernel
theorem dX6_greatestArgumentAt_14 : decode (me_b mX6_greatestArgumentAt) 14 = .ok (.goto 4, 3) := by decide +kernel
theorem dX6_greatestArgumentAt_17 : decode (me_b mX6_greatestArgumentAt) 17 = .ok (.iconst (-1), 1) := by decide +kernel
theorem dX6_greatestArgumentAt_18 : decode (me_b mX6_greatestArgumentAt) 18 = .ok (.ireturn, 1) := by decide +kernel
theorem dX6_isRank_0 : decode (me_b mX6_isRank) 0 = .ok (.iload_n 1, 1) := by decide +kernel
theorem dX6_isRank_1 : decode (me_b mX6_isRank) 1 = .ok (.ifCond .lt 15, 3) := by decide +kernel
theorem dX6_isRank_4 : decode (me_b mX6_isRank) 4 = .ok (.iload_n 1, 1) := by decide +kernel
theorem dX6_isRank_5 : decode (me_b mX6_isRank) 5 = .ok (.aload_n 0, 1) := by decide +kernel
theorem dX6_isRank_6 : decode (me_b mX6_isRank) 6 = .ok (.getfield 28, 3) := by decide +kernel
theorem dX6_isRank_9 : decode (me_b mX6_isRank) 9 = .ok (.if_icmp .ge 7, 3) := by decide +kernel
theorem dX6_isRank_12 : decode (me_b mX6_isRank) 12 = .ok (.iconst 1, 1) := by decide +kernel
theorem dX6_isRank_13 : decode (me_b mX6_isRank) 13 = .ok (.goto 4, 3) := by decide +kernel
theorem dX6_isRank_16 : decode (me_b mX6_isRank) 16 = .ok (.iconst 0, 1) := by decide +kernel
theorem dX6_isRank_17 : decode (me_b mX6_isRank) 17 = .ok (.ireturn, 1) := by decide +kernel
theorem dX6_layCells_0 : decode (me_b mX6_layCells) 0 = .ok (.iload_n 2, 1) := by decide +kernel
theorem dX6_layCells_1 : decode (me_b mX6_layCells) 1 = .ok (.ifCond .ne 19, 3) := by decide +kernel
theorem dX6_layCells_4 : decode (me_b mX6_layCells) 4 = .ok (.iload_n 3, 1) := by decide +kernel
theorem dX6_layCells_5 : decode (me_b mX6_layCells) 5 = .ok (.iconst (-1), 1) := by decide +kernel
theorem dX6_layCells_6 : decode (me_b mX6_layCells) 6 = .ok (.if_icmp .ne 14, 3) := by decide +kernel
theorem dX6_layCells_9 : decode (me_b mX6_layCells) 9 = .ok (.aload_n 0, 1) := by decide +kernel
theorem dX6_layCells_10 : decode (me_b mX6_layCells) 10 = .ok (.iload_n 1, 1) := by decide +kernel
theorem dX6_layCells_11 : decode (me_b mX6_layCells) 11 = .ok (.iconst 0, 1) := by decide +kernel
theorem dX6_layCells_12 : decode (me_b mX6_layCells) 12 = .ok (.iconst 0, 1) := by decide +kernel
theorem dX6_layCells_13 : decode (me_b mX6_layCells) 13 = .ok (.invokestatic 54, 3) := by decide +kernel
theorem dX6_layCells_16 : decode (me_b mX6_layCells) 16 = .ok (.iload_n 3, 1) := by decide +kernel
theorem dX6_layCells_17 : decode (me_b mX6_layCells) 17 = .ok (.invokevirtual 58, 3) := by decide +kernel
theorem dX6_layCells_20 : decode (me_b mX6_layCells) 20 = .ok (.iload_n 2, 1) := by decide +kernel
theorem dX6_layCells_21 : decode (me_b mX6_layCells) 21 = .ok (.iconst 1, 1) := by decide +kernel
theorem dX6_layCells_22 : decode (me_b mX6_layCells) 22 = .ok (.if_icmp .ne 19, 3) := by decide +kernel
theorem dX6_layCells_25 : decode (me_b mX6_layCells) 25 = .ok (.iload_n 3, 1) := by decide +kernel
theorem dX6_layCells_26 : decode (me_b mX6_layCells) 26 = .ok (.iconst (-1), 1) := by decide +kernel
theorem dX6_layCells_27 : decode (me_b mX6_layCells) 27 = .ok (.if_icmp .eq 14, 3) := by decide +kernel
theorem dX6_layCells_30 : decode (me_b mX6_layCells) 30 = .ok (.aload_n 0, 1) := by decide +kernel
theorem dX6_layCells_31 : decode (me_b mX6_layCells) 31 = .ok (.iload_n 1, 1) := by decide +kernel
theorem dX6_layCells_32 : decode (me_b mX6_layCells) 32 = .ok (.iload_n 3, 1) := by decide +kernel
theorem dX6_layCells_33 : decode (me_b mX6_layCells) 33 = .ok (.iconst 0, 1) := by decide +kernel
theorem dX6_layCells_34 : decode (me_b mX6_layCells) 34 = .ok (.invokestatic 54, 3) := by decide +kernel
theorem dX6_layCells_37 : decode (me_b mX6_layCells) 37 = .ok (.iload_n 3, 1) := by decide +kernel
theorem dX6_layCells_38 : decode (me_b mX6_layCells) 38 = .ok (.invokevirtual 58, 3) := by decide +kernel
theorem dX6_layCells_41 : decode (me_b mX6_layCells) 41 = .ok (.iload_n 2, 1) := by decide +kernel
theorem dX6_layCells_42 : decode (me_b mX6_layCells) 42 = .ok (.iconst 2, 1) := by decide +kernel
theorem dX6_layCells_43 : decode (me_b mX6_layCells) 43 = .ok (.if_icmp .ne 9, 3) := by decide +kernel
theorem dX6_layCells_46 : decode (me_b mX6_layCells) 46 = .ok (.aload_n 0, 1) := by decide +kernel
theorem dX6_layCells_47 : decode (me_b mX6_layCells) 47 = .ok (.iload_n 1, 1) := by decide +kernel
theorem dX6_layCells_48 : decode (me_b mX6_layCells) 48 = .ok (.iload_n 3, 1) := by decide +kernel
theorem dX6_layCells_49 : decode (me_b mX6_layCells) 49 = .ok (.invokevirtual 62, 3) := by decide +kernel
theorem dX6_layCells_52 : decode (me_b mX6_layCells) 52 = .ok (.return_, 1) := by decide +kernel
theorem dX6_layPairs_0 : decode (me_b mX6_layPairs) 0 = .ok (.iconst 0, 1) := by decide +kernel
theorem dX6_layPairs_1 : decode (me_b mX6_layPairs) 1 = .ok (.istore_n 3, 1) := by decide +kernel
theorem dX6_layPairs_2 : decode (me_b mX6_layPairs) 2 = .ok (.iload_n 3, 1) := by decide +kernel
theorem dX6_layPairs_3 : decode (me_b mX6_layPairs) 3 = .ok (.iload_n 2, 1) := by decide +kernel
theorem dX6_layPairs_4 : decode (me_b mX6_layPairs) 4 = .ok (.if_icmp .gt 47, 3) := by decide +kernel
theorem dX6_layPairs_7 : decode (me_b mX6_layPairs) 7 = .ok (.iconst 0, 1) := by decide +kernel
theorem dX6_layPairs_8 : decode (me_b mX6_layPairs) 8 = .ok (.istore 4, 2) := by decide +kernel
theorem dX6_layPairs_10 : decode (me_b mX6_layPairs) 10 = .ok (.iload 4, 2) := by decide +kernel
theorem dX6_layPairs_12 : decode (me_b mX6_layPairs) 12 = .ok (.iload_n 2, 1) := by decide +kernel
theorem dX6_layPairs_13 : decode (me_b mX6_layPairs) 13 = .ok (.if_icmp .gt 32, 3) := by decide +kernel
theorem dX6_layPairs_16 : decode (me_b mX6_layPairs) 16 = .ok (.iload_n 3, 1) := by decide +kernel
theorem dX6_layPairs_17 : decode (me_b mX6_layPairs) 17 = .ok (.iload_n 2, 1) := by decide +kernel
theorem dX6_layPairs_18 : decode (me_b mX6_layPairs) 18 = .ok (.if_icmp .eq 9, 3) := by decide +kernel
theorem dX6_layPairs_21 : decode (me_b mX6_layPairs) 21 = .ok (.iload 4, 2) := by decide +kernel
theorem dX6_layPairs_23 : decode (me_b mX6_layPairs) 23 = .ok (.iload_n 2, 1) := by decide +kernel
theorem dX6_layPairs_24 : decode (me_b mX6_layPairs) 24 = .ok (.if_icmp .ne 15, 3) := by decide +kernel
theorem dX6_layPairs_27 : decode (me_b mX6_layPairs) 27 = .ok (.aload_n 0, 1) := by decide +kernel
theorem dX6_layPairs_28 : decode (me_b mX6_layPairs) 28 = .ok (.iload_n 1, 1) := by decide +kernel
theorem dX6_layPairs_29 : decode (me_b mX6_layPairs) 29 = .ok (.iload_n 3, 1) := by decide +kernel
theorem dX6_layPairs_30 : decode (me_b mX6_layPairs) 30 = .ok (.iload 4, 2) := by decide +kernel
theorem dX6_layPairs_32 : decode (me_b mX6_layPairs) 32 = .ok (.invokestatic 54, 3) := by decide +kernel
theorem dX6_layPairs_35 : decode (me_b mX6_layPairs) 35 = .ok (.iload_n 2, 1) := by decide +kernel
theorem dX6_layPairs_36 : decode (me_b mX6_layPairs) 36 = .ok (.invokevirtual 58, 3) := by decide +kernel
theorem dX6_layPairs_39 : decode (me_b mX6_layPairs) 39 = .ok (.iinc 4 1, 3) := by decide +kernel
theorem dX6_layPairs_42 : decode (me_b mX6_layPairs) 42 = .ok (.goto (-32), 3) := by decide +kernel
theorem dX6_layPairs_45 : decode (me_b mX6_layPairs) 45 = .ok (.iinc 3 1, 3) := by decide +kernel
theorem dX6_layPairs_48 : decode (me_b mX6_layPairs) 48 = .ok (.goto (-46), 3) := by decide +kernel
theorem dX6_layPairs_51 : decode (me_b mX6_layPairs) 51 = .ok (.return_, 1) := by decide +kernel
theorem dX6_layCell_0 : decode (me_b mX6_layCell) 0 = .ok (.aload_n 0, 1) := by decide +kernel
theorem dX6_layCell_1 : decode (me_b mX6_layCell) 1 = .ok (.getfield 28, 3) := by decide +kernel
theorem dX6_layCell_4 : decode (me_b mX6_layCell) 4 = .ok (.sipush 128, 3) := by decide +kernel
theorem dX6_layCell_7 : decode (me_b mX6_layCell) 7 = .ok (.if_icmp .ge 54, 3) := by decide +kernel
theorem dX6_layCell_10 : decode (me_b mX6_layCell) 10 = .ok (.iload_n 1, 1) := by decide +kernel
theorem dX6_layCell_11 : decode (me_b mX6_layCell) 11 = .ok (.ifCond .lt 50, 3) := by decide +kernel
theorem dX6_layCell_14 : decode (me_b mX6_layCell) 14 = .ok (.iload_n 1, 1) := by decide +kernel
theorem dX6_layCell_15 : decode (me_b mX6_layCell) 15 = .ok (.sipush 128, 3) := by decide +kernel
theorem dX6_layCell_18 : decode (me_b mX6_layCell) 18 = .ok (.if_icmp .ge 43, 3) := by decide +kernel
theorem dX6_layCell_21 : decode (me_b mX6_layCell) 21 = .ok (.aload_n 0, 1) := by decide +kernel
theorem dX6_layCell_22 : decode (me_b mX6_layCell) 22 = .ok (.getfield 15, 3) := by decide +kernel
theorem dX6_layCell_25 : decode (me_b mX6_layCell) 25 = .ok (.aload_n 0, 1) := by decide +kernel
theorem dX6_layCell_26 : decode (me_b mX6_layCell) 26 = .ok (.getfield 28, 3) := by decide +kernel
theorem dX6_layCell_29 : decode (me_b mX6_layCell) 29 = .ok (.iload_n 1, 1) := by decide +kernel
theorem dX6_layCell_30 : decode (me_b mX6_layCell) 30 = .ok (.iastore, 1) := by decide +kernel
theorem dX6_layCell_31 : decode (me_b mX6_layCell) 31 = .ok (.aload_n 0, 1) := by decide +kernel
theorem dX6_layCell_32 : decode (me_b mX6_layCell) 32 = .ok (.getfield 18, 3) := by decide +kernel
theorem dX6_layCell_35 : decode (me_b mX6_layCell) 35 = .ok (.iload_n 1, 1) := by decide +kernel
theorem dX6_layCell_36 : decode (me_b mX6_layCell) 36 = .ok (.aload_n 0, 1) := by decide +kernel
theorem dX6_layCell_37 : decode (me_b mX6_layCell) 37 = .ok (.getfield 28, 3) := by decide +kernel
theorem dX6_layCell_40 : decode (me_b mX6_layCell) 40 = .ok (.iastore, 1) := by decide +kernel
theorem dX6_layCell_41 : decode (me_b mX6_layCell) 41 = .ok (.aload_n 0, 1) := by decide +kernel
theorem dX6_layCell_42 : decode (me_b mX6_layCell) 42 = .ok (.getfield 21, 3) := by decide +kernel
theorem dX6_layCell_45 : decode (me_b mX6_layCell) 45 = .ok (.aload_n 0, 1) := by decide +kernel
theorem dX6_layCell_46 : decode (me_b mX6_layCell) 46 = .ok (.getfield 28, 3) := by decide +kernel
theorem dX6_layCell_49 : decode (me_b mX6_layCell) 49 = .ok (.iload_n 2, 1) := by decide +kernel
theorem dX6_layCell_50 : decode (me_b mX6_layCell) 50 = .ok (.iastore, 1) := by decide +kernel
theorem dX6_layCell_51 : decode (me_b mX6_layCell) 51 = .ok (.aload_n 0, 1) := by decide +kernel
theorem dX6_layCell_52 : decode (me_b mX6_layCell) 52 = .ok (.dup, 1) := by decide +kernel
theorem dX6_layCell_53 : decode (me_b mX6_layCell) 53 = .ok (.getfield 28, 3) := by decide +kernel
theorem dX6_layCell_56 : decode (me_b mX6_layCell) 56 = .ok (.iconst 1, 1) := by decide +kernel
theorem dX6_layCell_57 : decode (me_b mX6_layCell) 57 = .ok (.iadd, 1) := by decide +kernel
theorem dX6_layCell_58 : decode (me_b mX6_layCell) 58 = .ok (.putfield 28, 3) := by decide +kernel
theorem dX6_layCell_61 : decode (me_b mX6_layCell) 61 = .ok (.return_, 1) := by decide +kernel
set_option maxRecDepth 20000 in
theorem s_X6_lay_0 {σ : ab_M} {Q : Option ab_V → ab_M → Prop} {x1 : Int32}
    (k : evm mJ7_fill_53178 [.inr (.inr 38), .inl (-1)] (ab_upd (ab_upd σ 37 4 x1) 37 5 0) (fun v τ1 => v = none ∧ ev mX6_lay 20 [some (.inr (.inr 37)), some (.inl x1), some (.inr (.inr 1)), some (.inl (-1)), none] [] τ1 Q)) :
    ev mX6_lay 0 [some (.inr (.inr 37)), some (.inl x1), some (.inr (.inr 1)), none, none] [] σ Q := by
  refine ev_p (pc' := 1) (ls' := [some (.inr (.inr 37)), some (.inl x1), some (.inr (.inr 1)), none, none]) (st' := [.inr (.inr 37)]) dX6_lay_0 rfl ?_
  refine ev_p (pc' := 2) (ls' := [some (.inr (.inr 37)), some (.inl x1), some (.inr (.inr 1)), none, none]) (st' := [.inl x1, .inr (.inr 37)]) dX6_lay_1 rfl ?_
  refine ev_putI (pc' := 5) dX6_lay_2 rfl rfl rfl rfl rfl rfl ?_
  refine ev_p (pc' := 6) (ls' := [some (.inr (.inr 37)), some (.inl x1), some (.inr (.inr 1)), none, none]) (st' := [.inr (.inr 37)]) dX6_lay_5 rfl ?_
  refine ev_cst (v := 0) (pc' := 7) dX6_lay_6 (by decide) rfl ?_
  refine ev_putI (pc' := 10) dX6_lay_7 rfl rfl rfl rfl rfl rfl ?_
  refine ev_p (pc' := 11) (ls' := [some (.inr (.inr 37)), some (.inl x1), some (.inr (.inr 1)), none, none]) (st' := [.inr (.inr 37)]) dX6_lay_10 rfl ?_
  refine ev_getA (pc' := 14) (z := 38) dX6_lay_11 rfl rfl rfl rfl ?_
  refine ev_cst (v := (-1)) (pc' := 15) dX6_lay_14 (by decide) rfl ?_
  refine ev_call (y := 2) (as := [.inr (.inr 38), .inl (-1)]) (r := []) (M' := mJ7_fill_53178) (pc' := 18) dX6_lay_15 rfl rfl ⟨rfl, rfl⟩ rfl k rfl (fun v τ1 hq => ?_)
  obtain ⟨hv, k⟩ := hq
  rw [hv]
  change ev mX6_lay 18 [some (.inr (.inr 37)), some (.inl x1), some (.inr (.inr 1)), none, none] [] τ1 _
  refine ev_cst (v := (-1)) (pc' := 19) dX6_lay_18 (by decide) rfl ?_
  refine ev_p (pc' := 20) (ls' := [some (.inr (.inr 37)), some (.inl x1), some (.inr (.inr 1)), some (.inl (-1)), none]) (st' := []) dX6_lay_19 rfl ?_
  exact k
set_option maxRecDepth 20000 in
theorem s_X6_lay_20 {σ : ab_M} {Q : Option ab_V → ab_M → Prop} {x1 : Int32} {x3 : Int32} {o4 : Option ab_V}
    (k : ((x1 ≤ x3 → Q none σ) ∧ (¬ x1 ≤ x3 → ev mX6_lay 28 [some (.inr (.inr 37)), some (.inl x1), some (.inr (.inr 1)), some (.inl x3), some (.inl 0)] [] σ Q))) :
    ev mX6_lay 20 [some (.inr (.inr 37)), some (.inl x1), some (.inr (.inr 1)), some (.inl x3), o4] [] σ Q := by
  refine ev_p (pc' := 21) (ls' := [some (.inr (.inr 37)), some (.inl x1), some (.inr (.inr 1)), some (.inl x3), o4]) (st' := [.inl x3]) dX6_lay_20 rfl ?_
  refine ev_p (pc' := 22) (ls' := [some (.inr (.inr 37)), some (.inl x1), some (.inr (.inr 1)), some (.inl x3), o4]) (st' := [.inl x1, .inl x3]) dX6_lay_21 rfl ?_
  refine ev_ic_ge (tgt := 60) (pc' := 25) dX6_lay_22 (by decide) rfl (fun h1 => ?_) (fun h1 => ?_)
  · have k := k.1 h1
    exact ev_ret dX6_lay_60 rfl k
  · have k := k.2 h1
    refine ev_cst (v := 0) (pc' := 26) dX6_lay_25 (by decide) rfl ?_
    refine ev_p (pc' := 28) (ls' := [some (.inr (.inr 37)), some (.inl x1), some (.inr (.inr 1)), some (.inl x3), some (.inl 0)]) (st' := []) dX6_lay_26 rfl ?_
    exact k
set_option maxRecDepth 20000 in
theorem s_X6_lay_28 {σ : ab_M} {Q : Option ab_V → ab_M → Prop} {x1 : Int32} {x3 : Int32} {x4 : Int32}
    (k : ((8 ≤ x4 → ev mX6_lay 20 [some (.inr (.inr 37)), some (.inl x1), some (.inr (.inr 1)), some (.inl (x3 + 1)), some (.inl x4)] [] σ Q) ∧ (¬ 8 ≤ x4 → evm mX5_arityOf [.inr (.inr 1), .inl x4] σ (fun v τ1 => ∃ r2 : Int32, v = some (.inl r2) ∧ evm mX6_layCells [.inr (.inr 37), .inl x4, .inl r2, .inl x3] τ1 (fun v τ3 => v = none ∧ ev mX6_lay 28 [some (.inr (.inr 37)), some (.inl x1), some (.inr (.inr 1)), some (.inl x3), some (.inl (x4 + 1))] [] τ3 Q))))) :
    ev mX6_lay 28 [some (.inr (.inr 37)), some (.inl x1), some (.inr (.inr 1)), some (.inl x3), some (.inl x4)] [] σ Q := by
  refine ev_p (pc' := 30) (ls' := [some (.inr (.inr 37)), some (.inl x1), some (.inr (.inr 1)), some (.inl x3), some (.inl x4)]) (st' := [.inl x4]) dX6_lay_28 rfl ?_
  refine ev_cst (v := 8) (pc' := 32) dX6_lay_30 (by decide) rfl ?_
  refine ev_ic_ge (tgt := 54) (pc' := 35) dX6_lay_32 (by decide) rfl (fun h1 => ?_) (fun h1 => ?_)
  · have k := k.1 h1
    refine ev_p (pc' := 57) (ls' := [some (.inr (.inr 37)), some (.inl x1), some (.inr (.inr 1)), some (.inl (x3 + 1)), some (.inl x4)]) (st' := []) dX6_lay_54 rfl ?_
    refine ev_go (tgt := 20) dX6_lay_57 (by decide) ?_
    exact k
  · have k := k.2 h1
    refine ev_p (pc' := 36) (ls' := [some (.inr (.inr 37)), some (.inl x1), some (.inr (.inr 1)), some (.inl x3), some (.inl x4)]) (st' := [.inr (.inr 37)]) dX6_lay_35 rfl ?_
    refine ev_p (pc' := 38) (ls' := [some (.inr (.inr 37)), some (.inl x1), some (.inr (.inr 1)), some (.inl x3), some (.inl x4)]) (st' := [.inl x4, .inr (.inr 37)]) dX6_lay_36 rfl ?_
    refine ev_p (pc' := 39) (ls' := [some (.inr (.inr 37)), some (.inl x1), some (.inr (.inr 1)), some (.inl x3), some (.inl x4)]) (st' := [.inr (.inr 1), .inl x4, .inr (.inr 37)]) dX6_lay_38 rfl ?_
    refine ev_p (pc' := 41) (ls' := [some (.inr (.inr 37)), some (.inl x1), some (.inr (.inr 1)), some (.inl x3), some (.inl x4)]) (st' := [.inl x4, .inr (.inr 1), .inl x4, .inr (.inr 37)]) dX6_lay_39 rfl ?_
    refine ev_call (y := 29) (as := [.inr (.inr 1), .inl x4]) (r := [.inl x4, .inr (.inr 37)]) (M' := mX5_arityOf) (pc' := 44) dX6_lay_41 rfl rfl ⟨rfl, rfl⟩ rfl k rfl (fun v τ1 hq => ?_)
    obtain ⟨r2, hv, k⟩ := hq
    rw [hv]
    change ev mX6_lay 44 [some (.inr (.inr 37)), some (.inl x1), some (.inr (.inr 1)), some (.inl x3), some (.inl x4)] [.inl r2, .inl x4, .inr (.inr 37)] τ1 _
    refine ev_p (pc' := 45) (ls' := [some (.inr (.inr 37)), some (.inl x1), some (.inr (.inr 1)), some (.inl x3), some (.inl x4)]) (st' := [.inl x3, .inl r2, .inl x4, .inr (.inr 37)]) dX6_lay_44 rfl ?_
    refine ev_call (y := 44) (as := [.inr (.inr 37), .inl x4, .inl r2, .inl x3]) (r := []) (M' := mX6_layCells) (pc' := 48) dX6_lay_45 rfl rfl ⟨rfl, rfl⟩ rfl k rfl (fun v τ3 hq => ?_)
    obtain ⟨hv, k⟩ := hq
    rw [hv]
    change ev mX6_lay 48 [some (.inr (.inr 37)), some (.inl x1), some (.inr (.inr 1)), some (.inl x3), some (.inl x4)] [] τ3 _
    refine ev_p (pc' := 51) (ls' := [some (.inr (.inr 37)), some (.inl x1), some (.inr (.inr 1)), some (.inl x3), some (.inl (x4 + 1))]) (st' := []) dX6_lay_48 rfl ?_
    refine ev_go (tgt := 28) dX6_lay_51 (by decide) ?_
    exact k
set_option maxRecDepth 20000 in
theorem s_X6_layCells_0 {σ : ab_M} {Q : Option ab_V → ab_M → Prop} {x1 : Int32} {x2 : Int32} {x3 : Int32}
    (k : ((x2 = 0 → ((x3 = (-1) → evm mX6_cellOf [.inl x1, .inl 0, .inl 0] σ (fun v τ1 => ∃ r2 : Int32, v = some (.inl r2) ∧ evm mX6_layCell [.inr (.inr 37), .inl r2, .inl x3] τ1 (fun v τ3 => v = none ∧ ((x2 = 1 → ((x3 = (-1) → ((x2 = 2 → evm mX6_layPairs [.inr (.inr 37), .inl x1, .inl x3] τ3 (fun v τ4 => v = none ∧ Q none τ4)) ∧ (¬ x2 = 2 → Q none τ3))) ∧ (¬ x3 = (-1) → evm mX6_cellOf [.inl x1, .inl x3, .inl 0] τ3 (fun v τ4 => ∃ r5 : Int32, v = some (.inl r5) ∧ evm mX6_layCell [.inr (.inr 37), .inl r5, .inl x3] τ4 (fun v τ6 => v = none ∧ ((x2 = 2 → evm mX6_layPairs [.inr (.inr 37), .inl x1, .inl x3] τ6 (fun v τ7 => v = none ∧ Q none τ7)) ∧ (¬ x2 = 2 → Q none τ6))))))) ∧ (¬ x2 = 1 → ((x2 = 2 → evm mX6_layPairs [.inr (.inr 37), .inl x1, .inl x3] τ3 (fun v τ4 => v = none ∧ Q none τ4)) ∧ (¬ x2 = 2 → Q none τ3))))))) ∧ (¬ x3 = (-1) → ((x2 = 1 → ((x3 = (-1) → ((x2 = 2 → evm mX6_layPairs [.inr (.inr 37), .inl x1, .inl x3] σ (fun v τ1 => v = none ∧ Q none τ1)) ∧ (¬ x2 = 2 → Q none σ))) ∧ (¬ x3 = (-1) → evm mX6_cellOf [.inl x1, .inl x3, .inl 0] σ (fun v τ1 => ∃ r2 : Int32, v = some (.inl r2) ∧ evm mX6_layCell [.inr (.inr 37), .inl r2, .inl x3] τ1 (fun v τ3 => v = none ∧ ((x2 = 2 → evm mX6_layPairs [.inr (.inr 37), .inl x1, .inl x3] τ3 (fun v τ4 => v = none ∧ Q none τ4)) ∧ (¬ x2 = 2 → Q none τ3))))))) ∧ (¬ x2 = 1 → ((x2 = 2 → evm mX6_layPairs [.inr (.inr 37), .inl x1, .inl x3] σ (fun v τ1 => v = none ∧ Q none τ1)) ∧ (¬ x2 = 2 → Q none σ))))))) ∧ (¬ x2 = 0 → ((x2 = 1 → ((x3 = (-1) → ((x2 = 2 → evm mX6_layPairs [.inr (.inr 37), .inl x1, .inl x3] σ (fun v τ1 => v = none ∧ Q none τ1)) ∧ (¬ x2 = 2 → Q none σ))) ∧ (¬ x3 = (-1) → evm mX6_cellOf [.inl x1, .inl x3, .inl 0] σ (fun v τ1 => ∃ r2 : Int32, v = some (.inl r2) ∧ evm mX6_layCell [.inr (.inr 37), .inl r2, .inl x3] τ1 (fun v τ3 => v = none ∧ ((x2 = 2 → evm mX6_layPairs [.inr (.inr 37), .inl x1, .inl x3] τ3 (fun v τ4 => v = none ∧ Q none τ4)) ∧ (¬ x2 = 2 → Q none τ3))))))) ∧ (¬ x2 = 1 → ((x2 = 2 → evm mX6_layPairs [.inr (.inr 37), .inl x1, .inl x3] σ (fun v τ1 => v = none ∧ Q none τ1)) ∧ (¬ x2 = 2 → Q none σ))))))) :
    ev mX6_layCells 0 [some (.inr (.inr 37)), some (.inl x1), some (.inl x2), some (.inl x3)] [] σ Q := by
  refine ev_p (pc' := 1) (ls' := [some (.inr (.inr 37)), some (.inl x1), some (.inl x2), some (.inl x3)]) (st' := [.inl x2]) dX6_layCells_0 rfl ?_
  refine ev_if_ne (tgt := 20) (pc' := 4) dX6_layCells_1 (by decide) rfl (fun h1 => ?_) (fun h1 => ?_)
  · have k := k.2 h1
    refine ev_p (pc' := 21) (ls' := [some (.inr (.inr 37)), some (.inl x1), some (.inl x2), some (.inl x3)]) (st' := [.inl x2]) dX6_layCells_20 rfl ?_
    refine ev_cst (v := 1) (pc' := 22) dX6_layCells_21 (by decide) rfl ?_
    refine ev_ic_ne (tgt := 41) (pc' := 25) dX6_layCells_22 (by decide) rfl (fun h2 => ?_) (fun h2 => ?_)
    · have k := k.2 h2
      refine ev_p (pc' := 42) (ls' := [some (.inr (.inr 37)), some (.inl x1), some (.inl x2), some (.inl x3)]) (st' := [.inl x2]) dX6_layCells_41 rfl ?_
      refine ev_cst (v := 2) (pc' := 43) dX6_layCells_42 (by decide) rfl ?_
      refine ev_ic_ne (tgt := 52) (pc' := 46) dX6_layCells_43 (by decide) rfl (fun h3 => ?_) (fun h3 => ?_)
      · have k := k.2 h3
        exact ev_ret dX6_layCells_52 rfl k
      · have k := k.1 h3
        refine ev_p (pc' := 47) (ls' := [some (.inr (.inr 37)), some (.inl x1), some (.inl x2), some (.inl x3)]) (st' := [.inr (.inr 37)]) dX6_layCells_46 rfl ?_
        refine ev_p (pc' := 48) (ls' := [some (.inr (.inr 37)), some (.inl x1), some (.inl x2), some (.inl x3)]) (st' := [.inl x1, .inr (.inr 37)]) dX6_layCells_47 rfl ?_
        refine ev_p (pc' := 49) (ls' := [some (.inr (.inr 37)), some (.inl x1), some (.inl x2), some (.inl x3)]) (st' := [.inl x3, .inl x1, .inr (.inr 37)]) dX6_layCells_48 rfl ?_
        refine ev_call (y := 47) (as := [.inr (.inr 37), .inl x1, .inl x3]) (r := []) (M' := mX6_layPairs) (pc' := 52) dX6_layCells_49 rfl rfl ⟨rfl, rfl⟩ rfl k rfl (fun v τ1 hq => ?_)
        obtain ⟨hv, k⟩ := hq
        rw [hv]
        change ev mX6_layCells 52 [some (.inr (.inr 37)), some (.inl x1), some (.inl x2), some (.inl x3)] [] τ1 _
        exact ev_ret dX6_layCells_52 rfl k
    · have k := k.1 h2
      refine ev_p (pc' := 26) (ls' := [some (.inr (.inr 37)), some (.inl x1), some (.inl x2), some (.inl x3)]) (st' := [.inl x3]) dX6_layCells_25 rfl ?_
      refine ev_cst (v := (-1)) (pc' := 27) dX6_layCells_26 (by decide) rfl ?_
      refine ev_ic_eq (tgt := 41) (pc' := 30) dX6_layCells_27 (by decide) rfl (fun h4 => ?_) (fun h4 => ?_)
      · have k := k.1 h4
        refine ev_p (pc' := 42) (ls' := [some (.inr (.inr 37)), some (.inl x1), some (.inl x2), some (.inl x3)]) (st' := [.inl x2]) dX6_layCells_41 rfl ?_
        refine ev_cst (v := 2) (pc' := 43) dX6_layCells_42 (by decide) rfl ?_
        refine ev_ic_ne (tgt := 52) (pc' := 46) dX6_layCells_43 (by decide) rfl (fun h5 => ?_) (fun h5 => ?_)
        · have k := k.2 h5
          exact ev_ret dX6_layCells_52 rfl k
        · have k := k.1 h5
          refine ev_p (pc' := 47) (ls' := [some (.inr (.inr 37)), some (.inl x1), some (.inl x2), some (.inl x3)]) (st' := [.inr (.inr 37)]) dX6_layCells_46 rfl ?_
          refine ev_p (pc' := 48) (ls' := [some (.inr (.inr 37)), some (.inl x1), some (.inl x2), some (.inl x3)]) (st' := [.inl x1, .inr (.inr 37)]) dX6_layCells_47 rfl ?_
          refine ev_p (pc' := 49) (ls' := [some (.inr (.inr 37)), some (.inl x1), some (.inl x2), some (.inl x3)]) (st' := [.inl x3, .inl x1, .inr (.inr 37)]) dX6_layCells_48 rfl ?_
          refine ev_call (y := 47) (as := [.inr (.inr 37), .inl x1, .inl x3]) (r := []) (M' := mX6_layPairs) (pc' := 52) dX6_layCells_49 rfl rfl ⟨rfl, rfl⟩ rfl k rfl (fun v τ1 hq => ?_)
          obtain ⟨hv, k⟩ := hq
          rw [hv]
          change ev mX6_layCells 52 [some (.inr (.inr 37)), some (.inl x1), some (.inl x2), some (.inl x3)] [] τ1 _
          exact ev_ret dX6_layCells_52 rfl k
      · have k := k.2 h4
        refine ev_p (pc' := 31) (ls' := [some (.inr (.inr 37)), some (.inl x1), some (.inl x2), some (.inl x3)]) (st' := [.inr (.inr 37)]) dX6_layCells_30 rfl ?_
        refine ev_p (pc' := 32) (ls' := [some (.inr (.inr 37)), some (.inl x1), some (.inl x2), some (.inl x3)]) (st' := [.inl x1, .inr (.inr 37)]) dX6_layCells_31 rfl ?_
        refine ev_p (pc' := 33) (ls' := [some (.inr (.inr 37)), some (.inl x1), some (.inl x2), some (.inl x3)]) (st' := [.inl x3, .inl x1, .inr (.inr 37)]) dX6_layCells_32 rfl ?_
        refine ev_cst (v := 0) (pc' := 34) dX6_layCells_33 (by decide) rfl ?_
        refine ev_call (y := 45) (as := [.inl x1, .inl x3, .inl 0]) (r := [.inr (.inr 37)]) (M' := mX6_cellOf) (pc' := 37) dX6_layCells_34 rfl rfl ⟨rfl, rfl⟩ rfl k rfl (fun v τ1 hq => ?_)
        obtain ⟨r2, hv, k⟩ := hq
        rw [hv]
        change ev mX6_layCells 37 [some (.inr (.inr 37)), some (.inl x1), some (.inl x2), some (.inl x3)] [.inl r2, .inr (.inr 37)] τ1 _
        refine ev_p (pc' := 38) (ls' := [some (.inr (.inr 37)), some (.inl x1), some (.inl x2), some (.inl x3)]) (st' := [.inl x3, .inl r2, .inr (.inr 37)]) dX6_layCells_37 rfl ?_
        refine ev_call (y := 46) (as := [.inr (.inr 37), .inl r2, .inl x3]) (r := []) (M' := mX6_layCell) (pc' := 41) dX6_layCells_38 rfl rfl ⟨rfl, rfl⟩ rfl k rfl (fun v τ3 hq => ?_)
        obtain ⟨hv, k⟩ := hq
        rw [hv]
        change ev mX6_layCells 41 [some (.inr (.inr 37)), some (.inl x1), some (.inl x2), some (.inl x3)] [] τ3 _
        refine ev_p (pc' := 42) (ls' := [some (.inr (.inr 37)), some (.inl x1), some (.inl x2), some (.inl x3)]) (st' := [.inl x2]) dX6_layCells_41 rfl ?_
        refine ev_cst (v := 2) (pc' := 43) dX6_layCells_42 (by decide) rfl ?_
        refine ev_ic_ne (tgt := 52) (pc' := 46) dX6_layCells_43 (by decide) rfl (fun h6 => ?_) (fun h6 => ?_)
        · have k := k.2 h6
          exact ev_ret dX6_layCells_52 rfl k
        · have k := k.1 h6
          refine ev_p (pc' := 47) (ls' := [some (.inr (.inr 37)), some (.inl x1), some (.inl x2), some (.inl x3)]) (st' := [.inr (.inr 37)]) dX6_layCells_46 rfl ?_
          refine ev_p (pc' := 48) (ls' := [some (.inr (.inr 37)), some (.inl x1), some (.inl x2), some (.inl x3)]) (st' := [.inl x1, .inr (.inr 37)]) dX6_layCells_47 rfl ?_
          refine ev_p (pc' := 49) (ls' := [some (.inr (.inr 37)), some (.inl x1), some (.inl x2), some (.inl x3)]) (st' := [.inl x3, .inl x1, .inr (.inr 37)]) dX6_layCells_48 rfl ?_
          refine ev_call (y := 47) (as := [.inr (.inr 37), .inl x1, .inl x3]) (r := []) (M' := mX6_layPairs) (pc' := 52) dX6_layCells_49 rfl rfl ⟨rfl, rfl⟩ rfl k rfl (fun v τ4 hq => ?_)
          obtain ⟨hv, k⟩ := hq
          rw [hv]
          change ev mX6_layCells 52 [some (.inr (.inr 37)), some (.inl x1), some (.inl x2), some (.inl x3)] [] τ4 _
          exact ev_ret dX6_layCells_52 rfl k
  · have k := k.1 h1
    refine ev_p (pc' := 5) (ls' := [some (.inr (.inr 37)), some (.inl x1), some (.inl x2), some (.inl x3)]) (st' := [.inl x3]) dX6_layCells_4 rfl ?_
    refine ev_cst (v := (-1)) (pc' := 6) dX6_layCells_5 (by decide) rfl ?_
    refine ev_ic_ne (tgt := 20) (pc' := 9) dX6_layCells_6 (by decide) rfl (fun h7 => ?_) (fun h7 => ?_)
    · have k := k.2 h7
      refine ev_p (pc' := 21) (ls' := [some (.inr (.inr 37)), some (.inl x1), some (.inl x2), some (.inl x3)]) (st' := [.inl x2]) dX6_layCells_20 rfl ?_
      refine ev_cst (v := 1) (pc' := 22) dX6_layCells_21 (by decide) rfl ?_
      refine ev_ic_ne (tgt := 41) (pc' := 25) dX6_layCells_22 (by decide) rfl (fun h8 => ?_) (fun h8 => ?_)
      · have k := k.2 h8
        refine ev_p (pc' := 42) (ls' := [some (.inr (.inr 37)), some (.inl x1), some (.inl x2), some (.inl x3)]) (st' := [.inl x2]) dX6_layCells_41 rfl ?_
        refine ev_cst (v := 2) (pc' := 43) dX6_layCells_42 (by decide) rfl ?_
        refine ev_ic_ne (tgt := 52) (pc' := 46) dX6_layCells_43 (by decide) rfl (fun h9 => ?_) (fun h9 => ?_)
        · have k := k.2 h9
          exact ev_ret dX6_layCells_52 rfl k
        · have k := k.1 h9
          refine ev_p (pc' := 47) (ls' := [some (.inr (.inr 37)), some (.inl x1), some (.inl x2), some (.inl x3)]) (st' := [.inr (.inr 37)]) dX6_layCells_46 rfl ?_
          refine ev_p (pc' := 48) (ls' := [some (.inr (.inr 37)), some (.inl x1), some (.inl x2), some (.inl x3)]) (st' := [.inl x1, .inr (.inr 37)]) dX6_layCells_47 rfl ?_
          refine ev_p (pc' := 49) (ls' := [some (.inr (.inr 37)), some (.inl x1), some (.inl x2), some (.inl x3)]) (st' := [.inl x3, .inl x1, .inr (.inr 37)]) dX6_layCells_48 rfl ?_
          refine ev_call (y := 47) (as := [.inr (.inr 37), .inl x1, .inl x3]) (r := []) (M' := mX6_layPairs) (pc' := 52) dX6_layCells_49 rfl rfl ⟨rfl, rfl⟩ rfl k rfl (fun v τ1 hq => ?_)
          obtain ⟨hv, k⟩ := hq
          rw [hv]
          change ev mX6_layCells 52 [some (.inr (.inr 37)), some (.inl x1), some (.inl x2), some (.inl x3)] [] τ1 _
          exact ev_ret dX6_layCells_52 rfl k
      · have k := k.1 h8
        refine ev_p (pc' := 26) (ls' := [some (.inr (.inr 37)), some (.inl x1), some (.inl x2), some (.inl x3)]) (st' := [.inl x3]) dX6_layCells_25 rfl ?_
        refine ev_cst (v := (-1)) (pc' := 27) dX6_layCells_26 (by decide) rfl ?_
        refine ev_ic_eq (tgt := 41) (pc' := 30) dX6_layCells_27 (by decide) rfl (fun h10 => ?_) (fun h10 => ?_)
        · have k := k.1 h10
          refine ev_p (pc' := 42) (ls' := [some (.inr (.inr 37)), some (.inl x1), some (.inl x2), some (.inl x3)]) (st' := [.inl x2]) dX6_layCells_41 rfl ?_
          refine ev_cst (v := 2) (pc' := 43) dX6_layCells_42 (by decide) rfl ?_
          refine ev_ic_ne (tgt := 52) (pc' := 46) dX6_layCells_43 (by decide) rfl (fun h11 => ?_) (fun h11 => ?_)
          · have k := k.2 h11
            exact ev_ret dX6_layCells_52 rfl k
          · have k := k.1 h11
            refine ev_p (pc' := 47) (ls' := [some (.inr (.inr 37)), some (.inl x1), some (.inl x2), some (.inl x3)]) (st' := [.inr (.inr 37)]) dX6_layCells_46 rfl ?_
            refine ev_p (pc' := 48) (ls' := [some (.inr (.inr 37)), some (.inl x1), some (.inl x2), some (.inl x3)]) (st' := [.inl x1, .inr (.inr 37)]) dX6_layCells_47 rfl ?_
            refine ev_p (pc' := 49) (ls' := [some (.inr (.inr 37)), some (.inl x1), some (.inl x2), some (.inl x3)]) (st' := [.inl x3, .inl x1, .inr (.inr 37)]) dX6_layCells_48 rfl ?_
            refine ev_call (y := 47) (as := [.inr (.inr 37), .inl x1, .inl x3]) (r := []) (M' := mX6_layPairs) (pc' := 52) dX6_layCells_49 rfl rfl ⟨rfl, rfl⟩ rfl k rfl (fun v τ1 hq => ?_)
            obtain ⟨hv, k⟩ := hq
            rw [hv]
            change ev mX6_layCells 52 [some (.inr (.inr 37)), some (.inl x1), some (.inl x2), some (.inl x3)] [] τ1 _
            exact ev_ret dX6_layCells_52 rfl k
        · have k := k.2 h10
          refine ev_p (pc' := 31) (ls' := [some (.inr (.inr 37)), some (.inl x1), some (.inl x2), some (.inl x3)]) (st' := [.inr (.inr 37)]) dX6_layCells_30 rfl ?_
          refine ev_p (pc' := 32) (ls' := [some (.inr (.inr 37)), some (.inl x1), some (.inl x2), some (.inl x3)]) (st' := [.inl x1, .inr (.inr 37)]) dX6_layCells_31 rfl ?_
          refine ev_p (pc' := 33) (ls' := [some (.inr (.inr 37)), some (.inl x1), some (.inl x2), some (.inl x3)]) (st' := [.inl x3, .inl x1, .inr (.inr 37)]) dX6_layCells_32 rfl ?_
          refine ev_cst (v := 0) (pc' := 34) dX6_layCells_33 (by decide) rfl ?_
          refine ev_call (y := 45) (as := [.inl x1, .inl x3, .inl 0]) (r := [.inr (.inr 37)]) (M' := mX6_cellOf) (pc' := 37) dX6_layCells_34 rfl rfl ⟨rfl, rfl⟩ rfl k rfl (fun v τ1 hq => ?_)
          obtain ⟨r2, hv, k⟩ := hq
          rw [hv]
          change ev mX6_layCells 37 [some (.inr (.inr 37)), some (.inl x1), some (.inl x2), some (.inl x3)] [.inl r2, .inr (.inr 37)] τ1 _
          refine ev_p (pc' := 38) (ls' := [some (.inr (.inr 37)), some (.inl x1), some (.inl x2), some (.inl x3)]) (st' := [.inl x3, .inl r2, .inr (.inr 37)]) dX6_layCells_37 rfl ?_
          refine ev_call (y := 46) (as := [.inr (.inr 37), .inl r2, .inl x3]) (r := []) (M' := mX6_layCell) (pc' := 41) dX6_layCells_38 rfl rfl ⟨rfl, rfl⟩ rfl k rfl (fun v τ3 hq => ?_)
          obtain ⟨hv, k⟩ := hq
          rw [hv]
          change ev mX6_layCells 41 [some (.inr (.inr 37)), some (.inl x1), some (.inl x2), some (.inl x3)] [] τ3 _
          refine ev_p (pc' := 42) (ls' := [some (.inr (.inr 37)), some (.inl x1), some (.inl x2), some (.inl x3)]) (st' := [.inl x2]) dX6_layCells_41 rfl ?_
          refine ev_cst (v := 2) (pc' := 43) dX6_layCells_42 (by decide) rfl ?_
          refine ev_ic_ne (tgt := 52) (pc' := 46) dX6_layCells_43 (by decide) rfl (fun h12 => ?_) (fun h12 => ?_)
          · have k := k.2 h12
            exact ev_ret dX6_layCells_52 rfl k
          · have k := k.1 h12
            refine ev_p (pc' := 47) (ls' := [some (.inr (.inr 37)), some (.inl x1), some (.inl x2), some (.inl x3)]) (st' := [.inr (.inr 37)]) dX6_layCells_46 rfl ?_
            refine ev_p (pc' := 48) (ls' := [some (.inr (.inr 37)), some (.inl x1), some (.inl x2), some (.inl x3)]) (st' := [.inl x1, .inr (.inr 37)]) dX6_layCells_47 rfl ?_
            refine ev_p (pc' := 49) (ls' := [some (.inr (.inr 37)), some (.inl x1), some (.inl x2), some (.inl x3)]) (st' := [.inl x3, .inl x1, .inr (.inr 37)]) dX6_layCells_48 rfl ?_
            refine ev_call (y := 47) (as := [.inr (.inr 37), .inl x1, .inl x3]) (r := []) (M' := mX6_layPairs) (pc' := 52) dX6_layCells_49 rfl rfl ⟨rfl, rfl⟩ rfl k rfl (fun v τ4 hq => ?_)
            obtain ⟨hv, k⟩ := hq
            rw [hv]
            change ev mX6_layCells 52 [some (.inr (.inr 37)), some (.inl x1), some (.inl x2), some (.inl x3)] [] τ4 _
            exact ev_ret dX6_layCells_52 rfl k
    · have k := k.1 h7
      refine ev_p (pc' := 10) (ls' := [some (.inr (.inr 37)), some (.inl x1), some (.inl x2), some (.inl x3)]) (st' := [.inr (.inr 37)]) dX6_layCells_9 rfl ?_
      refine ev_p (pc' := 11) (ls' := [some (.inr (.inr 37)), some (.inl x1), some (.inl x2), some (.inl x3)]) (st' := [.inl x1, .inr (.inr 37)]) dX6_layCells_10 rfl ?_
      refine ev_cst (v := 0) (pc' := 12) dX6_layCells_11 (by decide) rfl ?_
      refine ev_cst (v := 0) (pc' := 13) dX6_layCells_12 (by decide) rfl ?_
      refine ev_call (y := 45) (as := [.inl x1, .inl 0, .inl 0]) (r := [.inr (.inr 37)]) (M' := mX6_cellOf) (pc' := 16) dX6_layCells_13 rfl rfl ⟨rfl, rfl⟩ rfl k rfl (fun v τ1 hq => ?_)
      obtain ⟨r2, hv, k⟩ := hq
      rw [hv]
      change ev mX6_layCells 16 [some (.inr (.inr 37)), some (.inl x1), some (.inl x2), some (.inl x3)] [.inl r2, .inr (.inr 37)] τ1 _
      refine ev_p (pc' := 17) (ls' := [some (.inr (.inr 37)), some (.inl x1), some (.inl x2), some (.inl x3)]) (st' := [.inl x3, .inl r2, .inr (.inr 37)]) dX6_layCells_16 rfl ?_
      refine ev_call (y := 46) (as := [.inr (.inr 37), .inl r2, .inl x3]) (r := []) (M' := mX6_layCell) (pc' := 20) dX6_layCells_17 rfl rfl ⟨rfl, rfl⟩ rfl k rfl (fun v τ3 hq => ?_)
      obtain ⟨hv, k⟩ := hq
      rw [hv]
      change ev mX6_layCells 20 [some (.inr (.inr 37)), some (.inl x1), some (.inl x2), some (.inl x3)] [] τ3 _
      refine ev_p (pc' := 21) (ls' := [some (.inr (.inr 37)), some (.inl x1), some (.inl x2), some (.inl x3)]) (st' := [.inl x2]) dX6_layCells_20 rfl ?_
      refine ev_cst (v := 1) (pc' := 22) dX6_layCells_21 (by decide) rfl ?_
      refine ev_ic_ne (tgt := 41) (pc' := 25) dX6_layCells_22 (by decide) rfl (fun h13 => ?_) (fun h13 => ?_)
      · have k := k.2 h13
        refine ev_p (pc' := 42) (ls' := [some (.inr (.inr 37)), some (.inl x1), some (.inl x2), some (.inl x3)]) (st' := [.inl x2]) dX6_layCells_41 rfl ?_
        refine ev_cst (v := 2) (pc' := 43) dX6_layCells_42 (by decide) rfl ?_
        refine ev_ic_ne (tgt := 52) (pc' := 46) dX6_layCells_43 (by decide) rfl (fun h14 => ?_) (fun h14 => ?_)
        · have k := k.2 h14
          exact ev_ret dX6_layCells_52 rfl k
        · have k := k.1 h14
          refine ev_p (pc' := 47) (ls' := [some (.inr (.inr 37)), some (.inl x1), some (.inl x2), some (.inl x3)]) (st' := [.inr (.inr 37)]) dX6_layCells_46 rfl ?_
          refine ev_p (pc' := 48) (ls' := [some (.inr (.inr 37)), some (.inl x1), some (.inl x2), some (.inl x3)]) (st' := [.inl x1, .inr (.inr 37)]) dX6_layCells_47 rfl ?_
          refine ev_p (pc' := 49) (ls' := [some (.inr (.inr 37)), some (.inl x1), some (.inl x2), some (.inl x3)]) (st' := [.inl x3, .inl x1, .inr (.inr 37)]) dX6_layCells_48 rfl ?_
          refine ev_call (y := 47) (as := [.inr (.inr 37), .inl x1, .inl x3]) (r := []) (M' := mX6_layPairs) (pc' := 52) dX6_layCells_49 rfl rfl ⟨rfl, rfl⟩ rfl k rfl (fun v τ4 hq => ?_)
          obtain ⟨hv, k⟩ := hq
          rw [hv]
          change ev mX6_layCells 52 [some (.inr (.inr 37)), some (.inl x1), some (.inl x2), some (.inl x3)] [] τ4 _
          exact ev_ret dX6_layCells_52 rfl k
      · have k := k.1 h13
        refine ev_p (pc' := 26) (ls' := [some (.inr (.inr 37)), some (.inl x1), some (.inl x2), some (.inl x3)]) (st' := [.inl x3]) dX6_layCells_25 rfl ?_
        refine ev_cst (v := (-1)) (pc' := 27) dX6_layCells_26 (by decide) rfl ?_
        refine ev_ic_eq (tgt := 41) (pc' := 30) dX6_layCells_27 (by decide) rfl (fun h15 => ?_) (fun h15 => ?_)
        · have k := k.1 h15
          refine ev_p (pc' := 42) (ls' := [some (.inr (.inr 37)), some (.inl x1), some (.inl x2), some (.inl x3)]) (st' := [.inl x2]) dX6_layCells_41 rfl ?_
          refine ev_cst (v := 2) (pc' := 43) dX6_layCells_42 (by decide) rfl ?_
          refine ev_ic_ne (tgt := 52) (pc' := 46) dX6_layCells_43 (by decide) rfl (fun h16 => ?_) (fun h16 => ?_)
          · have k := k.2 h16
            exact ev_ret dX6_layCells_52 rfl k
          · have k := k.1 h16
            refine ev_p (pc' := 47) (ls' := [some (.inr (.inr 37)), some (.inl x1), some (.inl x2), some (.inl x3)]) (st' := [.inr (.inr 37)]) dX6_layCells_46 rfl ?_
            refine ev_p (pc' := 48) (ls' := [some (.inr (.inr 37)), some (.inl x1), some (.inl x2), some (.inl x3)]) (st' := [.inl x1, .inr (.inr 37)]) dX6_layCells_47 rfl ?_
            refine ev_p (pc' := 49) (ls' := [some (.inr (.inr 37)), some (.inl x1), some (.inl x2), some (.inl x3)]) (st' := [.inl x3, .inl x1, .inr (.inr 37)]) dX6_layCells_48 rfl ?_
            refine ev_call (y := 47) (as := [.inr (.inr 37), .inl x1, .inl x3]) (r := []) (M' := mX6_layPairs) (pc' := 52) dX6_layCells_49 rfl rfl ⟨rfl, rfl⟩ rfl k rfl (fun v τ4 hq => ?_)
            obtain ⟨hv, k⟩ := hq
            rw [hv]
            change ev mX6_layCells 52 [some (.inr (.inr 37)), some (.inl x1), some (.inl x2), some (.inl x3)] [] τ4 _
            exact ev_ret dX6_layCells_52 rfl k
        · have k := k.2 h15
          refine ev_p (pc' := 31) (ls' := [some (.inr (.inr 37)), some (.inl x1), some (.inl x2), some (.inl x3)]) (st' := [.inr (.inr 37)]) dX6_layCells_30 rfl ?_
          refine ev_p (pc' := 32) (ls' := [some (.inr (.inr 37)), some (.inl x1), some (.inl x2), some (.inl x3)]) (st' := [.inl x1, .inr (.inr 37)]) dX6_layCells_31 rfl ?_
          refine ev_p (pc' := 33) (ls' := [some (.inr (.inr 37)), some (.inl x1), some (.inl x2), some (.inl x3)]) (st' := [.inl x3, .inl x1, .inr (.inr 37)]) dX6_layCells_32 rfl ?_
          refine ev_cst (v := 0) (pc' := 34) dX6_layCells_33 (by decide) rfl ?_
          refine ev_call (y := 45) (as := [.inl x1, .inl x3, .inl 0]) (r := [.inr (.inr 37)]) (M' := mX6_cellOf) (pc' := 37) dX6_layCells_34 rfl rfl ⟨rfl, rfl⟩ rfl k rfl (fun v τ4 hq => ?_)
          obtain ⟨r5, hv, k⟩ := hq
          rw [hv]
          change ev mX6_layCells 37 [some (.inr (.inr 37)), some (.inl x1), some (.inl x2), some (.inl x3)] [.inl r5, .inr (.inr 37)] τ4 _
          refine ev_p (pc' := 38) (ls' := [some (.inr (.inr 37)), some (.inl x1), some (.inl x2), some (.inl x3)]) (st' := [.inl x3, .inl r5, .inr (.inr 37)]) dX6_layCells_37 rfl ?_
          refine ev_call (y := 46) (as := [.inr (.inr 37), .inl r5, .inl x3]) (r := []) (M' := mX6_layCell) (pc' := 41) dX6_layCells_38 rfl rfl ⟨rfl, rfl⟩ rfl k rfl (fun v τ6 hq => ?_)
          obtain ⟨hv, k⟩ := hq
          rw [hv]
          change ev mX6_layCells 41 [some (.inr (.inr 37)), some (.inl x1), some (.inl x2), some (.inl x3)] [] τ6 _
          refine ev_p (pc' := 42) (ls' := [some (.inr (.inr 37)), some (.inl x1), some (.inl x2), some (.inl x3)]) (st' := [.inl x2]) dX6_layCells_41 rfl ?_
          refine ev_cst (v := 2) (pc' := 43) dX6_layCells_42 (by decide) rfl ?_
          refine ev_ic_ne (tgt := 52) (pc' := 46) dX6_layCells_43 (by decide) rfl (fun h17 => ?_) (fun h17 => ?_)
          · have k := k.2 h17
            exact ev_ret dX6_layCells_52 rfl k
          · have k := k.1 h17
            refine ev_p (pc' := 47) (ls' := [some (.inr (.inr 37)), some (.inl x1), some (.inl x2), some (.inl x3)]) (st' := [.inr (.inr 37)]) dX6_layCells_46 rfl ?_
            refine ev_p (pc' := 48) (ls' := [some (.inr (.inr 37)), some (.inl x1), some (.inl x2), some (.inl x3)]) (st' := [.inl x1, .inr (.inr 37)]) dX6_layCells_47 rfl ?_
            refine ev_p (pc' := 49) (ls' := [some (.inr (.inr 37)), some (.inl x1), some (.inl x2), some (.inl x3)]) (st' := [.inl x3, .inl x1, .inr (.inr 37)]) dX6_layCells_48 rfl ?_
            refine ev_call (y := 47) (as := [.inr (.inr 37), .inl x1, .inl x3]) (r := []) (M' := mX6_layPairs) (pc' := 52) dX6_layCells_49 rfl rfl ⟨rfl, rfl⟩ rfl k rfl (fun v τ7 hq => ?_)
            obtain ⟨hv, k⟩ := hq
            rw [hv]
            change ev mX6_layCells 52 [some (.inr (.inr 37)), some (.inl x1), some (.inl x2), some (.inl x3)] [] τ7 _
            exact ev_ret dX6_layCells_52 rfl k
set_option maxRecDepth 20000 in
theorem s_X6_cellOf_0 {σ : ab_M} {Q : Option ab_V → ab_M → Prop} {x0 : Int32} {x1 : Int32} {x2 : Int32}
    (k : Q (some (.inl ((((x0 * 4) + x1) * 4) + x2))) σ) :
    ev mX6_cellOf 0 [some (.inl x0), some (.inl x1), some (.inl x2)] [] σ Q := by
  refine ev_p (pc' := 1) (ls' := [some (.inl x0), some (.inl x1), some (.inl x2)]) (st' := [.inl x0]) dX6_cellOf_0 rfl ?_
  refine ev_cst (v := 4) (pc' := 2) dX6_cellOf_1 (by decide) rfl ?_
  refine ev_p (pc' := 3) (ls' := [some (.inl x0), some (.inl x1), some (.inl x2)]) (st' := [.inl (x0 * 4)]) dX6_cellOf_2 rfl ?_
  refine ev_p (pc' := 4) (ls' := [some (.inl x0), some (.inl x1), some (.inl x2)]) (st' := [.inl x1, .inl (x0 * 4)]) dX6_cellOf_3 rfl ?_
  refine ev_p (pc' := 5) (ls' := [some (.inl x0), some (.inl x1), some (.inl x2)]) (st' := [.inl ((x0 * 4) + x1)]) dX6_cellOf_4 rfl ?_
  refine ev_cst (v := 4) (pc' := 6) dX6_cellOf_5 (by decide) rfl ?_
  refine ev_p (pc' := 7) (ls' := [some (.inl x0), some (.inl x1), some (.inl x2)]) (st' := [.inl (((x0 * 4) + x1) * 4)]) dX6_cellOf_6 rfl ?_
  refine ev_p (pc' := 8) (ls' := [some (.inl x0), some (.inl x1), some (.inl x2)]) (st' := [.inl x2, .inl (((x0 * 4) + x1) * 4)]) dX6_cellOf_7 rfl ?_
  refine ev_p (pc' := 9) (ls' := [some (.inl x0), some (.inl x1), some (.inl x2)]) (st' := [.inl ((((x0 * 4) + x1) * 4) + x2)]) dX6_cellOf_8 rfl ?_
  exact ev_ret dX6_cellOf_9 rfl k
set_option maxRecDepth 20000 in
theorem s_X6_layCell_0 {σ : ab_M} {Q : Option ab_V → ab_M → Prop} {x1 : Int32} {x2 : Int32}
    (k : ((128 ≤ (σ 37 5) → Q none σ) ∧ (¬ 128 ≤ (σ 37 5) → ((x1 < 0 → Q none σ) ∧ (¬ x1 < 0 → ((128 ≤ x1 → Q none σ) ∧ (¬ 128 ≤ x1 → ab_in (σ 37 5) 128 = true ∧ ab_in x1 128 = true ∧ ab_in ((ab_upd (ab_upd σ 39 (σ 37 5).toNatClampNeg x1) 40 x1.toNatClampNeg ((ab_upd σ 39 (σ 37 5).toNatClampNeg x1) 37 5)) 37 5) 128 = true ∧ Q none (ab_upd (ab_upd (ab_upd (ab_upd σ 39 (σ 37 5).toNatClampNeg x1) 40 x1.toNatClampNeg ((ab_upd σ 39 (σ 37 5).toNatClampNeg x1) 37 5)) 41 ((ab_upd (ab_upd σ 39 (σ 37 5).toNatClampNeg x1) 40 x1.toNatClampNeg ((ab_upd σ 39 (σ 37 5).toNatClampNeg x1) 37 5)) 37 5).toNatClampNeg x2) 37 5 (((ab_upd (ab_upd (ab_upd σ 39 (σ 37 5).toNatClampNeg x1) 40 x1.toNatClampNeg ((ab_upd σ 39 (σ 37 5).toNatClampNeg x1) 37 5)) 41 ((ab_upd (ab_upd σ 39 (σ 37 5).toNatClampNeg x1) 40 x1.toNatClampNeg ((ab_upd σ 39 (σ 37 5).toNatClampNeg x1) 37 5)) 37 5).toNatClampNeg x2) 37 5) + 1))))))))) :
    ev mX6_layCell 0 [some (.inr (.inr 37)), some (.inl x1), some (.inl x2)] [] σ Q := by
  refine ev_p (pc' := 1) (ls' := [some (.inr (.inr 37)), some (.inl x1), some (.inl x2)]) (st' := [.inr (.inr 37)]) dX6_layCell_0 rfl ?_
  refine ev_getI (pc' := 4) dX6_layCell_1 rfl rfl rfl rfl ?_
  refine ev_cst (v := 128) (pc' := 7) dX6_layCell_4 (by decide) rfl ?_
  refine ev_ic_ge (tgt := 61) (pc' := 10) dX6_layCell_7 (by decide) rfl (fun h1 => ?_) (fun h1 => ?_)
  · have k := k.1 h1
    exact ev_ret dX6_layCell_61 rfl k
  · have k := k.2 h1
    refine ev_p (pc' := 11) (ls' := [some (.inr (.inr 37)), some (.inl x1), some (.inl x2)]) (st' := [.inl x1]) dX6_layCell_10 rfl ?_
    refine ev_if_lt (tgt := 61) (pc' := 14) dX6_layCell_11 (by decide) rfl (fun h2 => ?_) (fun h2 => ?_)
    · have k := k.1 h2
      exact ev_ret dX6_layCell_61 rfl k
    · have k := k.2 h2
      refine ev_p (pc' := 15) (ls' := [some (.inr (.inr 37)), some (.inl x1), some (.inl x2)]) (st' := [.inl x1]) dX6_layCell_14 rfl ?_
      refine ev_cst (v := 128) (pc' := 18) dX6_layCell_15 (by decide) rfl ?_
      refine ev_ic_ge (tgt := 61) (pc' := 21) dX6_layCell_18 (by decide) rfl (fun h3 => ?_) (fun h3 => ?_)
      · have k := k.1 h3
        exact ev_ret dX6_layCell_61 rfl k
      · have k := k.2 h3
        refine ev_p (pc' := 22) (ls' := [some (.inr (.inr 37)), some (.inl x1), some (.inl x2)]) (st' := [.inr (.inr 37)]) dX6_layCell_21 rfl ?_
        refine ev_getA (pc' := 25) (z := 39) dX6_layCell_22 rfl rfl rfl rfl ?_
        refine ev_p (pc' := 26) (ls' := [some (.inr (.inr 37)), some (.inl x1), some (.inl x2)]) (st' := [.inr (.inr 37), .inr (.inr 39)]) dX6_layCell_25 rfl ?_
        refine ev_getI (pc' := 29) dX6_layCell_26 rfl rfl rfl rfl ?_
        refine ev_p (pc' := 30) (ls' := [some (.inr (.inr 37)), some (.inl x1), some (.inl x2)]) (st' := [.inl x1, .inl (σ 37 5), .inr (.inr 39)]) dX6_layCell_29 rfl ?_
        refine ev_stor (pc' := 31) (z := x1) rfl dX6_layCell_30 rfl rfl k.1 rfl rfl ?_
        have k := k.2
        refine ev_p (pc' := 32) (ls' := [some (.inr (.inr 37)), some (.inl x1), some (.inl x2)]) (st' := [.inr (.inr 37)]) dX6_layCell_31 rfl ?_
        refine ev_getA (pc' := 35) (z := 40) dX6_layCell_32 rfl rfl rfl rfl ?_
        refine ev_p (pc' := 36) (ls' := [some (.inr (.inr 37)), some (.inl x1), some (.inl x2)]) (st' := [.inl x1, .inr (.inr 40)]) dX6_layCell_35 rfl ?_
        refine ev_p (pc' := 37) (ls' := [some (.inr (.inr 37)), some (.inl x1), some (.inl x2)]) (st' := [.inr (.inr 37), .inl x1, .inr (.inr 40)]) dX6_layCell_36 rfl ?_
        refine ev_getI (pc' := 40) dX6_layCell_37 rfl rfl rfl rfl ?_
        refine ev_stor (pc' := 41) (z := ((ab_upd σ 39 (σ 37 5).toNatClampNeg x1) 37 5)) rfl dX6_layCell_40 rfl rfl k.1 rfl rfl ?_
        have k := k.2
        refine ev_p (pc' := 42) (ls' := [some (.inr (.inr 37)), some (.inl x1), some (.inl x2)]) (st' := [.inr (.inr 37)]) dX6_layCell_41 rfl ?_
        refine ev_getA (pc' := 45) (z := 41) dX6_layCell_42 rfl rfl rfl rfl ?_
        refine ev_p (pc' := 46) (ls' := [some (.inr (.inr 37)), some (.inl x1), some (.inl x2)]) (st' := [.inr (.inr 37), .inr (.inr 41)]) dX6_layCell_45 rfl ?_
        refine ev_getI (pc' := 49) dX6_layCell_46 rfl rfl rfl rfl ?_
        refine ev_p (pc' := 50) (ls' := [some (.inr (.inr 37)), some (.inl x1), some (.inl x2)]) (st' := [.inl x2, .inl ((ab_upd (ab_upd σ 39 (σ 37 5).toNatClampNeg x1) 40 x1.toNatClampNeg ((ab_upd σ 39 (σ 37 5).toNatClampNeg x1) 37 5)) 37 5), .inr (.inr 41)]) dX6_layCell_49 rfl ?_
        refine ev_stor (pc' := 51) (z := x2) rfl dX6_layCell_50 rfl rfl k.1 rfl rfl ?_
        have k := k.2
        refine ev_p (pc' := 52) (ls' := [some (.inr (.inr 37)), some (.inl x1), some (.inl x2)]) (st' := [.inr (.inr 37)]) dX6_layCell_51 rfl ?_
        refine ev_p (pc' := 53) (ls' := [some (.inr (.inr 37)), some (.inl x1), some (.inl x2)]) (st' := [.inr (.inr 37), .inr (.inr 37)]) dX6_layCell_52 rfl ?_
        refine ev_getI (pc' := 56) dX6_layCell_53 rfl rfl rfl rfl ?_
        refine ev_cst (v := 1) (pc' := 57) dX6_layCell_56 (by decide) rfl ?_
        refine ev_p (pc' := 58) (ls' := [some (.inr (.inr 37)), some (.inl x1), some (.inl x2)]) (st' := [.inl (((ab_upd (ab_upd (ab_upd σ 39 (σ 37 5).toNatClampNeg x1) 40 x1.toNatClampNeg ((ab_upd σ 39 (σ 37 5).toNatClampNeg x1) 37 5)) 41 ((ab_upd (ab_upd σ 39 (σ 37 5).toNatClampNeg x1) 40 x1.toNatClampNeg ((ab_upd σ 39 (σ 37 5).toNatClampNeg x1) 37 5)) 37 5).toNatClampNeg x2) 37 5) + 1), .inr (.inr 37)]) dX6_layCell_57 rfl ?_
        refine ev_putI (pc' := 61) dX6_layCell_58 rfl rfl rfl rfl rfl rfl ?_
        exact ev_ret dX6_layCell_61 rfl k
set_option maxRecDepth 20000 in
theorem s_X6_layPairs_0 {σ : ab_M} {Q : Option ab_V → ab_M → Prop} {x1 : Int32} {x2 : Int32}
    (k : ev mX6_layPairs 2 [some (.inr (.inr 37)), some (.inl x1), some (.inl x2), some (.inl 0), none] [] σ Q) :
    ev mX6_layPairs 0 [some (.inr (.inr 37)), some (.inl x1), some (.inl x2), none, none] [] σ Q := by
  refine ev_cst (v := 0) (pc' := 1) dX6_layPairs_0 (by decide) rfl ?_
  refine ev_p (pc' := 2) (ls' := [some (.inr (.inr 37)), some (.inl x1), some (.inl x2), some (.inl 0), none]) (st' := []) dX6_layPairs_1 rfl ?_
  exact k
set_option maxRecDepth 20000 in
theorem s_X6_layPairs_2 {σ : ab_M} {Q : Option ab_V → ab_M → Prop} {x1 : Int32} {x2 : Int32} {x3 : Int32} {o4 : Option ab_V}
    (k : ((x2 < x3 → Q none σ) ∧ (¬ x2 < x3 → ev mX6_layPairs 10 [some (.inr (.inr 37)), some (.inl x1), some (.inl x2), some (.inl x3), some (.inl 0)] [] σ Q))) :
    ev mX6_layPairs 2 [some (.inr (.inr 37)), some (.inl x1), some (.inl x2), some (.inl x3), o4] [] σ Q := by
  refine ev_p (pc' := 3) (ls' := [some (.inr (.inr 37)), some (.inl x1), some (.inl x2), some (.inl x3), o4]) (st' := [.inl x3]) dX6_layPairs_2 rfl ?_
  refine ev_p (pc' := 4) (ls' := [some (.inr (.inr 37)), some (.inl x1), some (.inl x2), some (.inl x3), o4]) (st' := [.inl x2, .inl x3]) dX6_layPairs_3 rfl ?_
  refine ev_ic_gt (tgt := 51) (pc' := 7) dX6_layPairs_4 (by decide) rfl (fun h1 => ?_) (fun h1 => ?_)
  · have k := k.1 h1
    exact ev_ret dX6_layPairs_51 rfl k
  · have k := k.2 h1
    refine ev_cst (v := 0) (pc' := 8) dX6_layPairs_7 (by decide) rfl ?_
    refine ev_p (pc' := 10) (ls' := [some (.inr (.inr 37)), some (.inl x1), some (.inl x2), some (.inl x3), some (.inl 0)]) (st' := []) dX6_layPairs_8 rfl ?_
    exact k
set_option maxRecDepth 20000 in
theorem s_X6_layPairs_10 {σ : ab_M} {Q : Option ab_V → ab_M → Prop} {x1 : Int32} {x2 : Int32} {x3 : Int32} {x4 : Int32}
    (k : ((x2 < x4 → ev mX6_layPairs 2 [some (.inr (.inr 37)), some (.inl x1), some (.inl x2), some (.inl (x3 + 1)), some (.inl x4)] [] σ Q) ∧ (¬ x2 < x4 → ((x3 = x2 → evm mX6_cellOf [.inl x1, .inl x3, .inl x4] σ (fun v τ1 => ∃ r2 : Int32, v = some (.inl r2) ∧ evm mX6_layCell [.inr (.inr 37), .inl r2, .inl x2] τ1 (fun v τ3 => v = none ∧ ev mX6_layPairs 10 [some (.inr (.inr 37)), some (.inl x1), some (.inl x2), some (.inl x3), some (.inl (x4 + 1))] [] τ3 Q))) ∧ (¬ x3 = x2 → ((x4 = x2 → evm mX6_cellOf [.inl x1, .inl x3, .inl x4] σ (fun v τ1 => ∃ r2 : Int32, v = some (.inl r2) ∧ evm mX6_layCell [.inr (.inr 37), .inl r2, .inl x2] τ1 (fun v τ3 => v = none ∧ ev mX6_layPairs 10 [some (.inr (.inr 37)), some (.inl x1), some (.inl x2), some (.inl x3), some (.inl (x4 + 1))] [] τ3 Q))) ∧ (¬ x4 = x2 → ev mX6_layPairs 10 [some (.inr (.inr 37)), some (.inl x1), some (.inl x2), some (.inl x3), some (.inl (x4 + 1))] [] σ Q))))))) :
    ev mX6_layPairs 10 [some (.inr (.inr 37)), some (.inl x1), some (.inl x2), some (.inl x3), some (.inl x4)] [] σ Q := by
  refine ev_p (pc' := 12) (ls' := [some (.inr (.inr 37)), some (.inl x1), some (.inl x2), some (.inl x3), some (.inl x4)]) (st' := [.inl x4]) dX6_layPairs_10 rfl ?_
  refine ev_p (pc' := 13) (ls' := [some (.inr (.inr 37)), some (.inl x1), some (.inl x2), some (.inl x3), some (.inl x4)]) (st' := [.inl x2, .inl x4]) dX6_layPairs_12 rfl ?_
  refine ev_ic_gt (tgt := 45) (pc' := 16) dX6_layPairs_13 (by decide) rfl (fun h1 => ?_) (fun h1 => ?_)
  · have k := k.1 h1
    refine ev_p (pc' := 48) (ls' := [some (.inr (.inr 37)), some (.inl x1), some (.inl x2), some (.inl (x3 + 1)), some (.inl x4)]) (st' := []) dX6_layPairs_45 rfl ?_
    refine ev_go (tgt := 2) dX6_layPairs_48 (by decide) ?_
    exact k
  · have k := k.2 h1
    refine ev_p (pc' := 17) (ls' := [some (.inr (.inr 37)), some (.inl x1), some (.inl x2), some (.inl x3), some (.inl x4)]) (st' := [.inl x3]) dX6_layPairs_16 rfl ?_
    refine ev_p (pc' := 18) (ls' := [some (.inr (.inr 37)), some (.inl x1), some (.inl x2), some (.inl x3), some (.inl x4)]) (st' := [.inl x2, .inl x3]) dX6_layPairs_17 rfl ?_
    refine ev_ic_eq (tgt := 27) (pc' := 21) dX6_layPairs_18 (by decide) rfl (fun h2 => ?_) (fun h2 => ?_)
    · have k := k.1 h2
      refine ev_p (pc' := 28) (ls' := [some (.inr (.inr 37)), some (.inl x1), some (.inl x2), some (.inl x3), some (.inl x4)]) (st' := [.inr (.inr 37)]) dX6_layPairs_27 rfl ?_
      refine ev_p (pc' := 29) (ls' := [some (.inr (.inr 37)), some (.inl x1), some (.inl x2), some (.inl x3), some (.inl x4)]) (st' := [.inl x1, .inr (.inr 37)]) dX6_layPairs_28 rfl ?_
      refine ev_p (pc' := 30) (ls' := [some (.inr (.inr 37)), some (.inl x1), some (.inl x2), some (.inl x3), some (.inl x4)]) (st' := [.inl x3, .inl x1, .inr (.inr 37)]) dX6_layPairs_29 rfl ?_
      refine ev_p (pc' := 32) (ls' := [some (.inr (.inr 37)), some (.inl x1), some (.inl x2), some (.inl x3), some (.inl x4)]) (st' := [.inl x4, .inl x3, .inl x1, .inr (.inr 37)]) dX6_layPairs_30 rfl ?_
      refine ev_call (y := 45) (as := [.inl x1, .inl x3, .inl x4]) (r := [.inr (.inr 37)]) (M' := mX6_cellOf) (pc' := 35) dX6_layPairs_32 rfl rfl ⟨rfl, rfl⟩ rfl k rfl (fun v τ1 hq => ?_)
      obtain ⟨r2, hv, k⟩ := hq
      rw [hv]
      change ev mX6_layPairs 35 [some (.inr (.inr 37)), some (.inl x1), some (.inl x2), some (.inl x3), some (.inl x4)] [.inl r2, .inr (.inr 37)] τ1 _
      refine ev_p (pc' := 36) (ls' := [some (.inr (.inr 37)), some (.inl x1), some (.inl x2), some (.inl x3), some (.inl x4)]) (st' := [.inl x2, .inl r2, .inr (.inr 37)]) dX6_layPairs_35 rfl ?_
      refine ev_call (y := 46) (as := [.inr (.inr 37), .inl r2, .inl x2]) (r := []) (M' := mX6_layCell) (pc' := 39) dX6_layPairs_36 rfl rfl ⟨rfl, rfl⟩ rfl k rfl (fun v τ3 hq => ?_)
      obtain ⟨hv, k⟩ := hq
      rw [hv]
      change ev mX6_layPairs 39 [some (.inr (.inr 37)), some (.inl x1), some (.inl x2), some (.inl x3), some (.inl x4)] [] τ3 _
      refine ev_p (pc' := 42) (ls' := [some (.inr (.inr 37)), some (.inl x1), some (.inl x2), some (.inl x3), some (.inl (x4 + 1))]) (st' := []) dX6_layPairs_39 rfl ?_
      refine ev_go (tgt := 10) dX6_layPairs_42 (by decide) ?_
      exact k
    · have k := k.2 h2
      refine ev_p (pc' := 23) (ls' := [some (.inr (.inr 37)), some (.inl x1), some (.inl x2), some (.inl x3), some (.inl x4)]) (st' := [.inl x4]) dX6_layPairs_21 rfl ?_
      refine ev_p (pc' := 24) (ls' := [some (.inr (.inr 37)), some (.inl x1), some (.inl x2), some (.inl x3), some (.inl x4)]) (st' := [.inl x2, .inl x4]) dX6_layPairs_23 rfl ?_
      refine ev_ic_ne (tgt := 39) (pc' := 27) dX6_layPairs_24 (by decide) rfl (fun h3 => ?_) (fun h3 => ?_)
      · have k := k.2 h3
        refine ev_p (pc' := 42) (ls' := [some (.inr (.inr 37)), some (.inl x1), some (.inl x2), some (.inl x3), some (.inl (x4 + 1))]) (st' := []) dX6_layPairs_39 rfl ?_
        refine ev_go (tgt := 10) dX6_layPairs_42 (by decide) ?_
        exact k
      · have k := k.1 h3
        refine ev_p (pc' := 28) (ls' := [some (.inr (.inr 37)), some (.inl x1), some (.inl x2), some (.inl x3), some (.inl x4)]) (st' := [.inr (.inr 37)]) dX6_layPairs_27 rfl ?_
        refine ev_p (pc' := 29) (ls' := [some (.inr (.inr 37)), some (.inl x1), some (.inl x2), some (.inl x3), some (.inl x4)]) (st' := [.inl x1, .inr (.inr 37)]) dX6_layPairs_28 rfl ?_
        refine ev_p (pc' := 30) (ls' := [some (.inr (.inr 37)), some (.inl x1), some (.inl x2), some (.inl x3), some (.inl x4)]) (st' := [.inl x3, .inl x1, .inr (.inr 37)]) dX6_layPairs_29 rfl ?_
        refine ev_p (pc' := 32) (ls' := [some (.inr (.inr 37)), some (.inl x1), some (.inl x2), some (.inl x3), some (.inl x4)]) (st' := [.inl x4, .inl x3, .inl x1, .inr (.inr 37)]) dX6_layPairs_30 rfl ?_
        refine ev_call (y := 45) (as := [.inl x1, .inl x3, .inl x4]) (r := [.inr (.inr 37)]) (M' := mX6_cellOf) (pc' := 35) dX6_layPairs_32 rfl rfl ⟨rfl, rfl⟩ rfl k rfl (fun v τ1 hq => ?_)
        obtain ⟨r2, hv, k⟩ := hq
        rw [hv]
        change ev mX6_layPairs 35 [some (.inr (.inr 37)), some (.inl x1), some (.inl x2), some (.inl x3), some (.inl x4)] [.inl r2, .inr (.inr 37)] τ1 _
        refine ev_p (pc' := 36) (ls' := [some (.inr (.inr 37)), some (.inl x1), some (.inl x2), some (.inl x3), some (.inl x4)]) (st' := [.inl x2, .inl r2, .inr (.inr 37)]) dX6_layPairs_35 rfl ?_
        refine ev_call (y := 46) (as := [.inr (.inr 37), .inl r2, .inl x2]) (r := []) (M' := mX6_layCell) (pc' := 39) dX6_layPairs_36 rfl rfl ⟨rfl, rfl⟩ rfl k rfl (fun v τ3 hq => ?_)
        obtain ⟨hv, k⟩ := hq
        rw [hv]
        change ev mX6_layPairs 39 [some (.inr (.inr 37)), some (.inl x1), some (.inl x2), some (.inl x3), some (.inl x4)] [] τ3 _
        refine ev_p (pc' := 42) (ls' := [some (.inr (.inr 37)), some (.inl x1), some (.inl x2), some (.inl x3), some (.inl (x4 + 1))]) (st' := []) dX6_layPairs_39 rfl ?_
        refine ev_go (tgt := 10) dX6_layPairs_42 (by decide) ?_
        exact k
set_option maxRecDepth 20000 in
theorem s_X6_sizeLaid_0 {σ : ab_M} {Q : Option ab_V → ab_M → Prop} 
    (k : Q (some (.inl (σ 37 4))) σ) :
    ev mX6_sizeLaid 0 [some (.inr (.inr 37))] [] σ Q := by
  refine ev_p (pc' := 1) (ls' := [some (.inr (.inr 37))]) (st' := [.inr (.inr 37)]) dX6_sizeLaid_0 rfl ?_
  refine ev_getI (pc' := 4) dX6_sizeLaid_1 rfl rfl rfl rfl ?_
  exact ev_ret dX6_sizeLaid_4 rfl k
set_option maxRecDepth 20000 in
theorem s_X6_rankOf_0 {σ : ab_M} {Q : Option ab_V → ab_M → Prop} {x1 : Int32}
    (k : ((x1 < 0 → Q (some (.inl 0)) σ) ∧ (¬ x1 < 0 → ((x1 < 128 → ab_in x1 128 = true ∧ Q (some (.inl (σ 40 x1.toNatClampNeg))) σ) ∧ (¬ x1 < 128 → Q (some (.inl 0)) σ))))) :
    ev mX6_rankOf 0 [some (.inr (.inr 37)), some (.inl x1)] [] σ Q := by
  refine ev_p (pc' := 1) (ls' := [some (.inr (.inr 37)), some (.inl x1)]) (st' := [.inl x1]) dX6_rankOf_0 rfl ?_
  refine ev_if_lt (tgt := 11) (pc' := 4) dX6_rankOf_1 (by decide) rfl (fun h1 => ?_) (fun h1 => ?_)
  · have k := k.1 h1
    refine ev_cst (v := 0) (pc' := 12) dX6_rankOf_11 (by decide) rfl ?_
    refine ev_go (tgt := 21) dX6_rankOf_12 (by decide) ?_
    exact ev_ret dX6_rankOf_21 rfl k
  · have k := k.2 h1
    refine ev_p (pc' := 5) (ls' := [some (.inr (.inr 37)), some (.inl x1)]) (st' := [.inl x1]) dX6_rankOf_4 rfl ?_
    refine ev_cst (v := 128) (pc' := 8) dX6_rankOf_5 (by decide) rfl ?_
    refine ev_ic_lt (tgt := 15) (pc' := 11) dX6_rankOf_8 (by decide) rfl (fun h2 => ?_) (fun h2 => ?_)
    · have k := k.1 h2
      refine ev_p (pc' := 16) (ls' := [some (.inr (.inr 37)), some (.inl x1)]) (st' := [.inr (.inr 37)]) dX6_rankOf_15 rfl ?_
      refine ev_getA (pc' := 19) (z := 40) dX6_rankOf_16 rfl rfl rfl rfl ?_
      refine ev_p (pc' := 20) (ls' := [some (.inr (.inr 37)), some (.inl x1)]) (st' := [.inl x1, .inr (.inr 40)]) dX6_rankOf_19 rfl ?_
      refine ev_load (pc' := 21) rfl dX6_rankOf_20 rfl rfl k.1 rfl ?_
      have k := k.2
      exact ev_ret dX6_rankOf_21 rfl k
    · have k := k.2 h2
      refine ev_cst (v := 0) (pc' := 12) dX6_rankOf_11 (by decide) rfl ?_
      refine ev_go (tgt := 21) dX6_rankOf_12 (by decide) ?_
      exact ev_ret dX6_rankOf_21 rfl k
set_option maxRecDepth 20000 in
theorem s_X6_valueOf_0 {σ : ab_M} {Q : Option ab_V → ab_M → Prop} {x1 : Int32}
    (k : ((x1 < 0 → Q (some (.inl (-1))) σ) ∧ (¬ x1 < 0 → ((x1 < 128 → ab_in x1 128 = true ∧ Q (some (.inl (σ 38 x1.toNatClampNeg))) σ) ∧ (¬ x1 < 128 → Q (some (.inl (-1))) σ))))) :
    ev mX6_valueOf 0 [some (.inr (.inr 37)), some (.inl x1)] [] σ Q := by
  refine ev_p (pc' := 1) (ls' := [some (.inr (.inr 37)), some (.inl x1)]) (st' := [.inl x1]) dX6_valueOf_0 rfl ?_
  refine ev_if_lt (tgt := 11) (pc' := 4) dX6_valueOf_1 (by decide) rfl (fun h1 => ?_) (fun h1 => ?_)
  · have k := k.1 h1
    refine ev_cst (v := (-1)) (pc' := 12) dX6_valueOf_11 (by decide) rfl ?_
    refine ev_go (tgt := 21) dX6_valueOf_12 (by decide) ?_
    exact ev_ret dX6_valueOf_21 rfl k
  · have k := k.2 h1
    refine ev_p (pc' := 5) (ls' := [some (.inr (.inr 37)), some (.inl x1)]) (st' := [.inl x1]) dX6_valueOf_4 rfl ?_
    refine ev_cst (v := 128) (pc' := 8) dX6_valueOf_5 (by decide) rfl ?_
    refine ev_ic_lt (tgt := 15) (pc' := 11) dX6_valueOf_8 (by decide) rfl (fun h2 => ?_) (fun h2 => ?_)
    · have k := k.1 h2
      refine ev_p (pc' := 16) (ls' := [some (.inr (.inr 37)), some (.inl x1)]) (st' := [.inr (.inr 37)]) dX6_valueOf_15 rfl ?_
      refine ev_getA (pc' := 19) (z := 38) dX6_valueOf_16 rfl rfl rfl rfl ?_
      refine ev_p (pc' := 20) (ls' := [some (.inr (.inr 37)), some (.inl x1)]) (st' := [.inl x1, .inr (.inr 38)]) dX6_valueOf_19 rfl ?_
      refine ev_load (pc' := 21) rfl dX6_valueOf_20 rfl rfl k.1 rfl ?_
      have k := k.2
      exact ev_ret dX6_valueOf_21 rfl k
    · have k := k.2 h2
      refine ev_cst (v := (-1)) (pc' := 12) dX6_valueOf_11 (by decide) rfl ?_
      refine ev_go (tgt := 21) dX6_valueOf_12 (by decide) ?_
      exact ev_ret dX6_valueOf_21 rfl k
set_option maxRecDepth 20000 in
theorem s_X6_count_0 {σ : ab_M} {Q : Option ab_V → ab_M → Prop} 
    (k : Q (some (.inl (σ 37 5))) σ) :
    ev mX6_count 0 [some (.inr (.inr 37))] [] σ Q := by
  refine ev_p (pc' := 1) (ls' := [some (.inr (.inr 37))]) (st' := [.inr (.inr 37)]) dX6_count_0 rfl ?_
  refine ev_getI (pc' := 4) dX6_count_1 rfl rfl rfl rfl ?_
  exact ev_ret dX6_count_4 rfl k
set_option maxRecDepth 20000 in
theorem s_X6_valueAt_0 {σ : ab_M} {Q : Option ab_V → ab_M → Prop} {x1 : Int32}
    (k : evm mX6_isRank [.inr (.inr 37), .inl x1] σ (fun v τ1 => ∃ r2 : Int32, v = some (.inl r2) ∧ ((r2 = 0 → Q (some (.inl (-1))) τ1) ∧ (¬ r2 = 0 → ab_in x1 128 = true ∧ ab_in (τ1 39 x1.toNatClampNeg) 128 = true ∧ Q (some (.inl (τ1 38 (τ1 39 x1.toNatClampNeg).toNatClampNeg))) τ1)))) :
    ev mX6_valueAt 0 [some (.inr (.inr 37)), some (.inl x1)] [] σ Q := by
  refine ev_p (pc' := 1) (ls' := [some (.inr (.inr 37)), some (.inl x1)]) (st' := [.inr (.inr 37)]) dX6_valueAt_0 rfl ?_
  refine ev_p (pc' := 2) (ls' := [some (.inr (.inr 37)), some (.inl x1)]) (st' := [.inl x1, .inr (.inr 37)]) dX6_valueAt_1 rfl ?_
  refine ev_call (y := 66) (as := [.inr (.inr 37), .inl x1]) (r := []) (M' := mX6_isRank) (pc' := 5) dX6_valueAt_2 rfl rfl ⟨rfl, rfl⟩ rfl k rfl (fun v τ1 hq => ?_)
  obtain ⟨r2, hv, k⟩ := hq
  rw [hv]
  change ev mX6_valueAt 5 [some (.inr (.inr 37)), some (.inl x1)] [.inl r2] τ1 _
  refine ev_if_eq (tgt := 22) (pc' := 8) dX6_valueAt_5 (by decide) rfl (fun h1 => ?_) (fun h1 => ?_)
  · have k := k.1 h1
    refine ev_cst (v := (-1)) (pc' := 23) dX6_valueAt_22 (by decide) rfl ?_
    exact ev_ret dX6_valueAt_23 rfl k
  · have k := k.2 h1
    refine ev_p (pc' := 9) (ls' := [some (.inr (.inr 37)), some (.inl x1)]) (st' := [.inr (.inr 37)]) dX6_valueAt_8 rfl ?_
    refine ev_getA (pc' := 12) (z := 38) dX6_valueAt_9 rfl rfl rfl rfl ?_
    refine ev_p (pc' := 13) (ls' := [some (.inr (.inr 37)), some (.inl x1)]) (st' := [.inr (.inr 37), .inr (.inr 38)]) dX6_valueAt_12 rfl ?_
    refine ev_getA (pc' := 16) (z := 39) dX6_valueAt_13 rfl rfl rfl rfl ?_
    refine ev_p (pc' := 17) (ls' := [some (.inr (.inr 37)), some (.inl x1)]) (st' := [.inl x1, .inr (.inr 39), .inr (.inr 38)]) dX6_valueAt_16 rfl ?_
    refine ev_load (pc' := 18) rfl dX6_valueAt_17 rfl rfl k.1 rfl ?_
    have k := k.2
    refine ev_load (pc' := 19) rfl dX6_valueAt_18 rfl rfl k.1 rfl ?_
    have k := k.2
    refine ev_go (tgt := 23) dX6_valueAt_19 (by decide) ?_
    exact ev_ret dX6_valueAt_23 rfl k
set_option maxRecDepth 20000 in
theorem s_X6_isRank_0 {σ : ab_M} {Q : Option ab_V → ab_M → Prop} {x1 : Int32}
    (k : ((x1 < 0 → Q (some (.inl 0)) σ) ∧ (¬ x1 < 0 → (((σ 37 5) ≤ x1 → Q (some (.inl 0)) σ) ∧ (¬ (σ 37 5) ≤ x1 → Q (some (.inl 1)) σ))))) :
    ev mX6_isRank 0 [some (.inr (.inr 37)), some (.inl x1)] [] σ Q := by
  refine ev_p (pc' := 1) (ls' := [some (.inr (.inr 37)), some (.inl x1)]) (st' := [.inl x1]) dX6_isRank_0 rfl ?_
  refine ev_if_lt (tgt := 16) (pc' := 4) dX6_isRank_1 (by decide) rfl (fun h1 => ?_) (fun h1 => ?_)
  · have k := k.1 h1
    refine ev_cst (v := 0) (pc' := 17) dX6_isRank_16 (by decide) rfl ?_
    exact ev_retZ dX6_isRank_17 rfl rfl k
  · have k := k.2 h1
    refine ev_p (pc' := 5) (ls' := [some (.inr (.inr 37)), some (.inl x1)]) (st' := [.inl x1]) dX6_isRank_4 rfl ?_
    refine ev_p (pc' := 6) (ls' := [some (.inr (.inr 37)), some (.inl x1)]) (st' := [.inr (.inr 37), .inl x1]) dX6_isRank_5 rfl ?_
    refine ev_getI (pc' := 9) dX6_isRank_6 rfl rfl rfl rfl ?_
    refine ev_ic_ge (tgt := 16) (pc' := 12) dX6_isRank_9 (by decide) rfl (fun h2 => ?_) (fun h2 => ?_)
    · have k := k.1 h2
      refine ev_cst (v := 0) (pc' := 17) dX6_isRank_16 (by decide) rfl ?_
      exact ev_retZ dX6_isRank_17 rfl rfl k
    · have k := k.2 h2
      refine ev_cst (v := 1) (pc' := 13) dX6_isRank_12 (by decide) rfl ?_
      refine ev_go (tgt := 17) dX6_isRank_13 (by decide) ?_
      exact ev_retZ dX6_isRank_17 rfl rfl k
set_option maxRecDepth 20000 in
theorem s_X6_isFunctionAt_0 {σ : ab_M} {Q : Option ab_V → ab_M → Prop} {x1 : Int32}
    (k : evm mX6_isRank [.inr (.inr 37), .inl x1] σ (fun v τ1 => ∃ r2 : Int32, v = some (.inl r2) ∧ ((r2 = 0 → Q (some (.inl 0)) τ1) ∧ (¬ r2 = 0 → ab_in x1 128 = true ∧ evm mX7_isFunction [.inl ((τ1 39 x1.toNatClampNeg) / 16)] τ1 (fun v τ3 => ∃ r4 : Int32, v = some (.inl r4) ∧ ((r4 = 0 → Q (some (.inl 0)) τ3) ∧ (¬ r4 = 0 → Q (some (.inl 1)) τ3))))))) :
    ev mX6_isFunctionAt 0 [some (.inr (.inr 37)), some (.inl x1)] [] σ Q := by
  refine ev_p (pc' := 1) (ls' := [some (.inr (.inr 37)), some (.inl x1)]) (st' := [.inr (.inr 37)]) dX6_isFunctionAt_0 rfl ?_
  refine ev_p (pc' := 2) (ls' := [some (.inr (.inr 37)), some (.inl x1)]) (st' := [.inl x1, .inr (.inr 37)]) dX6_isFunctionAt_1 rfl ?_
  refine ev_call (y := 66) (as := [.inr (.inr 37), .inl x1]) (r := []) (M' := mX6_isRank) (pc' := 5) dX6_isFunctionAt_2 rfl rfl ⟨rfl, rfl⟩ rfl k rfl (fun v τ1 hq => ?_)
  obtain ⟨r2, hv, k⟩ := hq
  rw [hv]
  change ev mX6_isFunctionAt 5 [some (.inr (.inr 37)), some (.inl x1)] [.inl r2] τ1 _
  refine ev_if_eq (tgt := 27) (pc' := 8) dX6_isFunctionAt_5 (by decide) rfl (fun h1 => ?_) (fun h1 => ?_)
  · have k := k.1 h1
    refine ev_cst (v := 0) (pc' := 28) dX6_isFunctionAt_27 (by decide) rfl ?_
    exact ev_retZ dX6_isFunctionAt_28 rfl rfl k
  · have k := k.2 h1
    refine ev_p (pc' := 9) (ls' := [some (.inr (.inr 37)), some (.inl x1)]) (st' := [.inr (.inr 37)]) dX6_isFunctionAt_8 rfl ?_
    refine ev_getA (pc' := 12) (z := 39) dX6_isFunctionAt_9 rfl rfl rfl rfl ?_
    refine ev_p (pc' := 13) (ls' := [some (.inr (.inr 37)), some (.inl x1)]) (st' := [.inl x1, .inr (.inr 39)]) dX6_isFunctionAt_12 rfl ?_
    refine ev_load (pc' := 14) rfl dX6_isFunctionAt_13 rfl rfl k.1 rfl ?_
    have k := k.2
    refine ev_cst (v := 16) (pc' := 16) dX6_isFunctionAt_14 (by decide) rfl ?_
    refine ev_p (pc' := 17) (ls' := [some (.inr (.inr 37)), some (.inl x1)]) (st' := [.inl ((τ1 39 x1.toNatClampNeg) / 16)]) dX6_isFunctionAt_16 rfl ?_
    refine ev_call (y := 32) (as := [.inl ((τ1 39 x1.toNatClampNeg) / 16)]) (r := []) (M' := mX7_isFunction) (pc' := 20) dX6_isFunctionAt_17 rfl rfl ⟨rfl, rfl⟩ rfl k rfl (fun v τ3 hq => ?_)
    obtain ⟨r4, hv, k⟩ := hq
    rw [hv]
    change ev mX6_isFunctionAt 20 [some (.inr (.inr 37)), some (.inl x1)] [.inl r4] τ3 _
    refine ev_if_eq (tgt := 27) (pc' := 23) dX6_isFunctionAt_20 (by decide) rfl (fun h2 => ?_) (fun h2 => ?_)
    · have k := k.1 h2
      refine ev_cst (v := 0) (pc' := 28) dX6_isFunctionAt_27 (by decide) rfl ?_
      exact ev_retZ dX6_isFunctionAt_28 rfl rfl k
    · have k := k.2 h2
      refine ev_cst (v := 1) (pc' := 24) dX6_isFunctionAt_23 (by decide) rfl ?_
      refine ev_go (tgt := 28) dX6_isFunctionAt_24 (by decide) ?_
      exact ev_retZ dX6_isFunctionAt_28 rfl rfl k
set_option maxRecDepth 20000 in
theorem s_X6_greatestArgumentAt_0 {σ : ab_M} {Q : Option ab_V → ab_M → Prop} {x1 : Int32}
    (k : evm mX6_isRank [.inr (.inr 37), .inl x1] σ (fun v τ1 => ∃ r2 : Int32, v = some (.inl r2) ∧ ((r2 = 0 → Q (some (.inl (-1))) τ1) ∧ (¬ r2 = 0 → ab_in x1 128 = true ∧ Q (some (.inl (τ1 41 x1.toNatClampNeg))) τ1)))) :
    ev mX6_greatestArgumentAt 0 [some (.inr (.inr 37)), some (.inl x1)] [] σ Q := by
  refine ev_p (pc' := 1) (ls' := [some (.inr (.inr 37)), some (.inl x1)]) (st' := [.inr (.inr 37)]) dX6_greatestArgumentAt_0 rfl ?_
  refine ev_p (pc' := 2) (ls' := [some (.inr (.inr 37)), some (.inl x1)]) (st' := [.inl x1, .inr (.inr 37)]) dX6_greatestArgumentAt_1 rfl ?_
  refine ev_call (y := 66) (as := [.inr (.inr 37), .inl x1]) (r := []) (M' := mX6_isRank) (pc' := 5) dX6_greatestArgumentAt_2 rfl rfl ⟨rfl, rfl⟩ rfl k rfl (fun v τ1 hq => ?_)
  obtain ⟨r2, hv, k⟩ := hq
  rw [hv]
  change ev mX6_greatestArgumentAt 5 [some (.inr (.inr 37)), some (.inl x1)] [.inl r2] τ1 _
  refine ev_if_eq (tgt := 17) (pc' := 8) dX6_greatestArgumentAt_5 (by decide) rfl (fun h1 => ?_) (fun h1 => ?_)
  · have k := k.1 h1
    refine ev_cst (v := (-1)) (pc' := 18) dX6_greatestArgumentAt_17 (by decide) rfl ?_
    exact ev_ret dX6_greatestArgumentAt_18 rfl k
  · have k := k.2 h1
    refine ev_p (pc' := 9) (ls' := [some (.inr (.inr 37)), some (.inl x1)]) (st' := [.inr (.inr 37)]) dX6_greatestArgumentAt_8 rfl ?_
    refine ev_getA (pc' := 12) (z := 41) dX6_greatestArgumentAt_9 rfl rfl rfl rfl ?_
    refine ev_p (pc' := 13) (ls' := [some (.inr (.inr 37)), some (.inl x1)]) (st' := [.inl x1, .inr (.inr 41)]) dX6_greatestArgumentAt_12 rfl ?_
    refine ev_load (pc' := 14) rfl dX6_greatestArgumentAt_13 rfl rfl k.1 rfl ?_
    have k := k.2
    refine ev_go (tgt := 18) dX6_greatestArgumentAt_14 (by decide) ?_
    exact ev_ret dX6_greatestArgumentAt_18 rfl k
set_option maxRecDepth 20000 in
theorem s_X6_putAt_0 {σ : ab_M} {Q : Option ab_V → ab_M → Prop} {x1 : Int32} {x2 : Int32}
    (k : evm mX6_isRank [.inr (.inr 37), .inl x1] σ (fun v τ1 => ∃ r2 : Int32, v = some (.inl r2) ∧ ((r2 = 0 → Q none τ1) ∧ (¬ r2 = 0 → ab_in x1 128 = true ∧ ab_in (τ1 39 x1.toNatClampNeg) 128 = true ∧ Q none (ab_upd τ1 38 (τ1 39 x1.toNatClampNeg).toNatClampNeg x2))))) :
    ev mX6_putAt 0 [some (.inr (.inr 37)), some (.inl x1), some (.inl x2)] [] σ Q := by
  refine ev_p (pc' := 1) (ls' := [some (.inr (.inr 37)), some (.inl x1), some (.inl x2)]) (st' := [.inr (.inr 37)]) dX6_putAt_0 rfl ?_
  refine ev_p (pc' := 2) (ls' := [some (.inr (.inr 37)), some (.inl x1), some (.inl x2)]) (st' := [.inl x1, .inr (.inr 37)]) dX6_putAt_1 rfl ?_
  refine ev_call (y := 66) (as := [.inr (.inr 37), .inl x1]) (r := []) (M' := mX6_isRank) (pc' := 5) dX6_putAt_2 rfl rfl ⟨rfl, rfl⟩ rfl k rfl (fun v τ1 hq => ?_)
  obtain ⟨r2, hv, k⟩ := hq
  rw [hv]
  change ev mX6_putAt 5 [some (.inr (.inr 37)), some (.inl x1), some (.inl x2)] [.inl r2] τ1 _
  refine ev_if_eq (tgt := 20) (pc' := 8) dX6_putAt_5 (by decide) rfl (fun h1 => ?_) (fun h1 => ?_)
  · have k := k.1 h1
    exact ev_ret dX6_putAt_20 rfl k
  · have k := k.2 h1
    refine ev_p (pc' := 9) (ls' := [some (.inr (.inr 37)), some (.inl x1), some (.inl x2)]) (st' := [.inr (.inr 37)]) dX6_putAt_8 rfl ?_
    refine ev_getA (pc' := 12) (z := 38) dX6_putAt_9 rfl rfl rfl rfl ?_
    refine ev_p (pc' := 13) (ls' := [some (.inr (.inr 37)), some (.inl x1), some (.inl x2)]) (st' := [.inr (.inr 37), .inr (.inr 38)]) dX6_putAt_12 rfl ?_
    refine ev_getA (pc' := 16) (z := 39) dX6_putAt_13 rfl rfl rfl rfl ?_
    refine ev_p (pc' := 17) (ls' := [some (.inr (.inr 37)), some (.inl x1), some (.inl x2)]) (st' := [.inl x1, .inr (.inr 39), .inr (.inr 38)]) dX6_putAt_16 rfl ?_
    refine ev_load (pc' := 18) rfl dX6_putAt_17 rfl rfl k.1 rfl ?_
    have k := k.2
    refine ev_p (pc' := 19) (ls' := [some (.inr (.inr 37)), some (.inl x1), some (.inl x2)]) (st' := [.inl x2, .inl (τ1 39 x1.toNatClampNeg), .inr (.inr 38)]) dX6_putAt_18 rfl ?_
    refine ev_stor (pc' := 20) (z := x2) rfl dX6_putAt_19 rfl rfl k.1 rfl rfl ?_
    have k := k.2
    exact ev_ret dX6_putAt_20 rfl k
