theorem dX4_countAnew_0 : decode (me_b mX4_countAnew) 0 = .ok (.aload_n 0, 1) := by decide +kernel
theorem dX4_countAnew_1 : decode (me_b mX4_countAnew) 1 = .ok (.iconst 0, 1) := by decide +kernel
theorem dX4_countAnew_2 : decode (me_b mX4_countAnew) 2 = .ok (.putfield 37, 3) := by decide +kernel
theorem dX4_countAnew_5 : decode (me_b mX4_countAnew) 5 = .ok (.return_, 1) := by decide +kernel
theorem dX4_made_0 : decode (me_b mX4_made) 0 = .ok (.aload_n 0, 1) := by decide +kernel
theorem dX4_made_1 : decode (me_b mX4_made) 1 = .ok (.getfield 37, 3) := by decide +kernel
theorem dX4_made_4 : decode (me_b mX4_made) 4 = .ok (.ireturn, 1) := by decide +kernel
theorem dX4_begin_0 : decode (me_b mX4_begin) 0 = .ok (.aload_n 0, 1) := by decide +kernel
theorem dX4_begin_1 : decode (me_b mX4_begin) 1 = .ok (.getfield 17, 3) := by decide +kernel
theorem dX4_begin_4 : decode (me_b mX4_begin) 4 = .ok (.iload_n 1, 1) := by decide +kernel
theorem dX4_begin_5 : decode (me_b mX4_begin) 5 = .ok (.aload_n 2, 1) := by decide +kernel
theorem dX4_begin_6 : decode (me_b mX4_begin) 6 = .ok (.invokevirtual 41, 3) := by decide +kernel
theorem dX4_begin_9 : decode (me_b mX4_begin) 9 = .ok (.aload_n 0, 1) := by decide +kernel
theorem dX4_begin_10 : decode (me_b mX4_begin) 10 = .ok (.getfield 34, 3) := by decide +kernel
theorem dX4_begin_13 : decode (me_b mX4_begin) 13 = .ok (.iconst 0, 1) := by decide +kernel
theorem dX4_begin_14 : decode (me_b mX4_begin) 14 = .ok (.iconst (-1), 1) := by decide +kernel
theorem dX4_begin_15 : decode (me_b mX4_begin) 15 = .ok (.iastore, 1) := by decide +kernel
theorem dX4_begin_16 : decode (me_b mX4_begin) 16 = .ok (.aload_n 0, 1) := by decide +kernel
theorem dX4_begin_17 : decode (me_b mX4_begin) 17 = .ok (.iconst (-1), 1) := by decide +kernel
theorem dX4_begin_18 : decode (me_b mX4_begin) 18 = .ok (.invokevirtual 45, 3) := by decide +kernel
theorem dX4_begin_21 : decode (me_b mX4_begin) 21 = .ok (.ifCond .eq 7, 3) := by decide +kernel
theorem dX4_begin_24 : decode (me_b mX4_begin) 24 = .ok (.iconst 0, 1) := by decide +kernel
theorem dX4_begin_25 : decode (me_b mX4_begin) 25 = .ok (.goto 8, 3) := by decide +kernel
theorem dX4_begin_28 : decode (me_b mX4_begin) 28 = .ok (.aload_n 0, 1) := by decide +kernel
theorem dX4_begin_29 : decode (me_b mX4_begin) 29 = .ok (.iconst 0, 1) := by decide +kernel
theorem dX4_begin_30 : decode (me_b mX4_begin) 30 = .ok (.invokevirtual 49, 3) := by decide +kernel
theorem dX4_begin_33 : decode (me_b mX4_begin) 33 = .ok (.ireturn, 1) := by decide +kernel
theorem dX4_goOn_0 : decode (me_b mX4_goOn) 0 = .ok (.aload_n 0, 1) := by decide +kernel
theorem dX4_goOn_1 : decode (me_b mX4_goOn) 1 = .ok (.aload_n 0, 1) := by decide +kernel
theorem dX4_goOn_2 : decode (me_b mX4_goOn) 2 = .ok (.getfield 17, 3) := by decide +kernel
theorem dX4_goOn_5 : decode (me_b mX4_goOn) 5 = .ok (.invokevirtual 53, 3) := by decide +kernel
theorem dX4_goOn_8 : decode (me_b mX4_goOn) 8 = .ok (.iconst 1, 1) := by decide +kernel
theorem dX4_goOn_9 : decode (me_b mX4_goOn) 9 = .ok (.isub, 1) := by decide +kernel
theorem dX4_goOn_10 : decode (me_b mX4_goOn) 10 = .ok (.invokevirtual 49, 3) := by decide +kernel
theorem dX4_goOn_13 : decode (me_b mX4_goOn) 13 = .ok (.ireturn, 1) := by decide +kernel
theorem dX4_fill_0 : decode (me_b mX4_fill) 0 = .ok (.iload_n 1, 1) := by decide +kernel
theorem dX4_fill_1 : decode (me_b mX4_fill) 1 = .ok (.istore_n 2, 1) := by decide +kernel
theorem dX4_fill_2 : decode (me_b mX4_fill) 2 = .ok (.iconst 0, 1) := by decide +kernel
theorem dX4_fill_3 : decode (me_b mX4_fill) 3 = .ok (.istore_n 3, 1) := by decide +kernel
theorem dX4_fill_4 : decode (me_b mX4_fill) 4 = .ok (.iload_n 3, 1) := by decide +kernel
theorem dX4_fill_5 : decode (me_b mX4_fill) 5 = .ok (.ldc 57, 2) := by decide +kernel
theorem dX4_fill_7 : decode (me_b mX4_fill) 7 = .ok (.if_icmp .ge 111, 3) := by decide +kernel
theorem dX4_fill_10 : decode (me_b mX4_fill) 10 = .ok (.iload_n 2, 1) := by decide +kernel
theorem dX4_fill_11 : decode (me_b mX4_fill) 11 = .ok (.ifCond .ge 5, 3) := by decide +kernel
theorem dX4_fill_14 : decode (me_b mX4_fill) 14 = .ok (.iconst 0, 1) := by decide +kernel
theorem dX4_fill_15 : decode (me_b mX4_fill) 15 = .ok (.ireturn, 1) := by decide +kernel
theorem dX4_fill_16 : decode (me_b mX4_fill) 16 = .ok (.iload_n 2, 1) := by decide +kernel
theorem dX4_fill_17 : decode (me_b mX4_fill) 17 = .ok (.aload_n 0, 1) := by decide +kernel
theorem dX4_fill_18 : decode (me_b mX4_fill) 18 = .ok (.getfield 17, 3) := by decide +kernel
theorem dX4_fill_21 : decode (me_b mX4_fill) 21 = .ok (.invokevirtual 53, 3) := by decide +kernel
theorem dX4_fill_24 : decode (me_b mX4_fill) 24 = .ok (.if_icmp .lt 5, 3) := by decide +kernel
theorem dX4_fill_27 : decode (me_b mX4_fill) 27 = .ok (.iconst 1, 1) := by decide +kernel
theorem dX4_fill_28 : decode (me_b mX4_fill) 28 = .ok (.ireturn, 1) := by decide +kernel
theorem dX4_fill_29 : decode (me_b mX4_fill) 29 = .ok (.aload_n 0, 1) := by decide +kernel
theorem dX4_fill_30 : decode (me_b mX4_fill) 30 = .ok (.getfield 17, 3) := by decide +kernel
theorem dX4_fill_33 : decode (me_b mX4_fill) 33 = .ok (.iload_n 2, 1) := by decide +kernel
theorem dX4_fill_34 : decode (me_b mX4_fill) 34 = .ok (.invokevirtual 58, 3) := by decide +kernel
theorem dX4_fill_37 : decode (me_b mX4_fill) 37 = .ok (.iconst 1, 1) := by decide +kernel
theorem dX4_fill_38 : decode (me_b mX4_fill) 38 = .ok (.iadd, 1) := by decide +kernel
theorem dX4_fill_39 : decode (me_b mX4_fill) 39 = .ok (.istore 4, 2) := by decide +kernel
theorem dX4_fill_41 : decode (me_b mX4_fill) 41 = .ok (.iload 4, 2) := by decide +kernel
theorem dX4_fill_43 : decode (me_b mX4_fill) 43 = .ok (.aload_n 0, 1) := by decide +kernel
theorem dX4_fill_44 : decode (me_b mX4_fill) 44 = .ok (.iload_n 2, 1) := by decide +kernel
theorem dX4_fill_45 : decode (me_b mX4_fill) 45 = .ok (.invokevirtual 61, 3) := by decide +kernel
theorem dX4_fill_48 : decode (me_b mX4_fill) 48 = .ok (.if_icmp .le 18, 3) := by decide +kernel
theorem dX4_fill_51 : decode (me_b mX4_fill) 51 = .ok (.aload_n 0, 1) := by decide +kernel
theorem dX4_fill_52 : decode (me_b mX4_fill) 52 = .ok (.getfield 17, 3) := by decide +kernel
theorem dX4_fill_55 : decode (me_b mX4_fill) 55 = .ok (.iload_n 2, 1) := by decide +kernel
theorem dX4_fill_56 : decode (me_b mX4_fill) 56 = .ok (.iconst (-1), 1) := by decide +kernel
theorem dX4_fill_57 : decode (me_b mX4_fill) 57 = .ok (.invokevirtual 64, 3) := by decide +kernel
theorem dX4_fill_60 : decode (me_b mX4_fill) 60 = .ok (.iinc 2 (-1), 3) := by decide +kernel
theorem dX4_fill_63 : decode (me_b mX4_fill) 63 = .ok (.goto 49, 3) := by decide +kernel
theorem dX4_fill_66 : decode (me_b mX4_fill) 66 = .ok (.aload_n 0, 1) := by decide +kernel
theorem dX4_fill_67 : decode (me_b mX4_fill) 67 = .ok (.getfield 37, 3) := by decide +kernel
theorem dX4_fill_70 : decode (me_b mX4_fill) 70 = .ok (.sipush 3000, 3) := by decide +kernel
theorem dX4_fill_73 : decode (me_b mX4_fill) 73 = .ok (.if_icmp .lt 6, 3) := by decide +kernel
theorem dX4_fill_76 : decode (me_b mX4_fill) 76 = .ok (.bipush (-4), 2) := by decide +kernel
theorem dX4_fill_78 : decode (me_b mX4_fill) 78 = .ok (.ireturn, 1) := by decide +kernel
theorem dX4_fill_79 : decode (me_b mX4_fill) 79 = .ok (.aload_n 0, 1) := by decide +kernel
theorem dX4_fill_80 : decode (me_b mX4_fill) 80 = .ok (.dup, 1) := by decide +kernel
theorem dX4_fill_81 : decode (me_b mX4_fill) 81 = .ok (.getfield 37, 3) := by decide +kernel
theorem dX4_fill_84 : decode (me_b mX4_fill) 84 = .ok (.iconst 1, 1) := by decide +kernel
theorem dX4_fill_85 : decode (me_b mX4_fill) 85 = .ok (.iadd, 1) := by decide +kernel
theorem dX4_fill_86 : decode (me_b mX4_fill) 86 = .ok (.putfield 37, 3) := by decide +kernel
theorem dX4_fill_89 : decode (me_b mX4_fill) 89 = .ok (.aload_n 0, 1) := by decide +kernel
theorem dX4_fill_90 : decode (me_b mX4_fill) 90 = .ok (.iload_n 2, 1) := by decide +kernel
theorem dX4_fill_91 : decode (me_b mX4_fill) 91 = .ok (.iload 4, 2) := by decide +kernel
theorem dX4_fill_93 : decode (me_b mX4_fill) 93 = .ok (.invokevirtual 68, 3) := by decide +kernel
theorem dX4_fill_96 : decode (me_b mX4_fill) 96 = .ok (.aload_n 0, 1) := by decide +kernel
theorem dX4_fill_97 : decode (me_b mX4_fill) 97 = .ok (.iload_n 2, 1) := by decide +kernel
theorem dX4_fill_98 : decode (me_b mX4_fill) 98 = .ok (.invokevirtual 45, 3) := by decide +kernel
theorem dX4_fill_101 : decode (me_b mX4_fill) 101 = .ok (.ifCond .eq 7, 3) := by decide +kernel
theorem dX4_fill_104 : decode (me_b mX4_fill) 104 = .ok (.iload_n 2, 1) := by decide +kernel
theorem dX4_fill_105 : decode (me_b mX4_fill) 105 = .ok (.goto 6, 3) := by decide +kernel
theorem dX4_fill_108 : decode (me_b mX4_fill) 108 = .ok (.iload_n 2, 1) := by decide +kernel
theorem dX4_fill_109 : decode (me_b mX4_fill) 109 = .ok (.iconst 1, 1) := by decide +kernel
theorem dX4_fill_110 : decode (me_b mX4_fill) 110 = .ok (.iadd, 1) := by decide +kernel
theorem dX4_fill_111 : decode (me_b mX4_fill) 111 = .ok (.istore_n 2, 1) := by decide +kernel
theorem dX4_fill_112 : decode (me_b mX4_fill) 112 = .ok (.iinc 3 1, 3) := by decide +kernel
theorem dX4_fill_115 : decode (me_b mX4_fill) 115 = .ok (.goto (-111), 3) := by decide +kernel
theorem dX4_fill_118 : decode (me_b mX4_fill) 118 = .ok (.bipush (-4), 2) := by decide +kernel
theorem dX4_fill_120 : decode (me_b mX4_fill) 120 = .ok (.ireturn, 1) := by decide +kernel
theorem dX4_limitAt_0 : decode (me_b mX4_limitAt) 0 = .ok (.aload_n 0, 1) := by decide +kernel
theorem dX4_limitAt_1 : decode (me_b mX4_limitAt) 1 = .ok (.getfield 17, 3) := by decide +kernel
theorem dX4_limitAt_4 : decode (me_b mX4_limitAt) 4 = .ok (.iload_n 1, 1) := by decide +kernel
theorem dX4_limitAt_5 : decode (me_b mX4_limitAt) 5 = .ok (.invokevirtual 71, 3) := by decide +kernel
theorem dX4_limitAt_8 : decode (me_b mX4_limitAt) 8 = .ok (.ifCond .ne 5, 3) := by decide +kernel
theorem dX4_limitAt_11 : decode (me_b mX4_limitAt) 11 = .ok (.iconst 1, 1) := by decide +kernel
theorem dX4_limitAt_12 : decode (me_b mX4_limitAt) 12 = .ok (.ireturn, 1) := by decide +kernel
theorem dX4_limitAt_13 : decode (me_b mX4_limitAt) 13 = .ok (.aload_n 0, 1) := by decide +kernel
theorem dX4_limitAt_14 : decode (me_b mX4_limitAt) 14 = .ok (.getfield 17, 3) := by decide +kernel
theorem dX4_limitAt_17 : decode (me_b mX4_limitAt) 17 = .ok (.iload_n 1, 1) := by decide +kernel
theorem dX4_limitAt_18 : decode (me_b mX4_limitAt) 18 = .ok (.invokevirtual 74, 3) := by decide +kernel
theorem dX4_limitAt_21 : decode (me_b mX4_limitAt) 21 = .ok (.aload_n 0, 1) := by decide +kernel
theorem dX4_limitAt_22 : decode (me_b mX4_limitAt) 22 = .ok (.getfield 34, 3) := by decide +kernel
theorem dX4_limitAt_25 : decode (me_b mX4_limitAt) 25 = .ok (.iload_n 1, 1) := by decide +kernel
theorem dX4_limitAt_26 : decode (me_b mX4_limitAt) 26 = .ok (.iaload, 1) := by decide +kernel
theorem dX4_limitAt_27 : decode (me_b mX4_limitAt) 27 = .ok (.invokestatic 77, 3) := by decide +kernel
theorem dX4_limitAt_30 : decode (me_b mX4_limitAt) 30 = .ok (.istore_n 2, 1) := by decide +kernel
theorem dX4_limitAt_31 : decode (me_b mX4_limitAt) 31 = .ok (.iload_n 2, 1) := by decide +kernel
theorem dX4_limitAt_32 : decode (me_b mX4_limitAt) 32 = .ok (.iconst 1, 1) := by decide +kernel
theorem dX4_limitAt_33 : decode (me_b mX4_limitAt) 33 = .ok (.iadd, 1) := by decide +kernel
theorem dX4_limitAt_34 : decode (me_b mX4_limitAt) 34 = .ok (.aload_n 0, 1) := by decide +kernel
theorem dX4_limitAt_35 : decode (me_b mX4_limitAt) 35 = .ok (.getfield 17, 3) := by decide +kernel
theorem dX4_limitAt_38 : decode (me_b mX4_limitAt) 38 = .ok (.invokevirtual 83, 3) := by decide +kernel
theorem dX4_limitAt_41 : decode (me_b mX4_limitAt) 41 = .ok (.iconst 1, 1) := by decide +kernel
theorem dX4_limitAt_42 : decode (me_b mX4_limitAt) 42 = .ok (.isub, 1) := by decide +kernel
theorem dX4_limitAt_43 : decode (me_b mX4_limitAt) 43 = .ok (.invokestatic 86, 3) := by decide +kernel
theorem dX4_limitAt_46 : decode (me_b mX4_limitAt) 46 = .ok (.ireturn, 1) := by decide +kernel
theorem dX4_put_0 : decode (me_b mX4_put) 0 = .ok (.aload_n 0, 1) := by decide +kernel
theorem dX4_put_1 : decode (me_b mX4_put) 1 = .ok (.getfield 17, 3) := by decide +kernel
theorem dX4_put_4 : decode (me_b mX4_put) 4 = .ok (.iload_n 1, 1) := by decide +kernel
theorem dX4_put_5 : decode (me_b mX4_put) 5 = .ok (.iload_n 2, 1) := by decide +kernel
theorem dX4_put_6 : decode (me_b mX4_put) 6 = .ok (.invokevirtual 64, 3) := by decide +kernel
theorem dX4_put_9 : decode (me_b mX4_put) 9 = .ok (.aload_n 0, 1) := by decide +kernel
theorem dX4_put_10 : decode (me_b mX4_put) 10 = .ok (.getfield 34, 3) := by decide +kernel
theorem dX4_put_13 : decode (me_b mX4_put) 13 = .ok (.iload_n 1, 1) := by decide +kernel
theorem dX4_put_14 : decode (me_b mX4_put) 14 = .ok (.iaload, 1) := by decide +kernel
theorem dX4_put_15 : decode (me_b mX4_put) 15 = .ok (.istore_n 3, 1) := by decide +kernel
theorem dX4_put_16 : decode (me_b mX4_put) 16 = .ok (.aload_n 0, 1) := by decide +kernel
theorem dX4_put_17 : decode (me_b mX4_put) 17 = .ok (.getfield 34, 3) := by decide +kernel
theorem dX4_put_20 : decode (me_b mX4_put) 20 = .ok (.iload_n 1, 1) := by decide +kernel
theorem dX4_put_21 : decode (me_b mX4_put) 21 = .ok (.iconst 1, 1) := by decide +kernel
theorem dX4_put_22 : decode (me_b mX4_put) 22 = .ok (.iadd, 1) := by decide +kernel
theorem dX4_put_23 : decode (me_b mX4_put) 23 = .ok (.aload_n 0, 1) := by decide +kernel
theorem dX4_put_24 : decode (me_b mX4_put) 24 = .ok (.getfield 17, 3) := by decide +kernel
theorem dX4_put_27 : decode (me_b mX4_put) 27 = .ok (.iload_n 1, 1) := by decide +kernel
theorem dX4_put_28 : decode (me_b mX4_put) 28 = .ok (.invokevirtual 71, 3) := by decide +kernel
theorem dX4_put_31 : decode (me_b mX4_put) 31 = .ok (.ifCond .eq 11, 3) := by decide +kernel
theorem dX4_put_34 : decode (me_b mX4_put) 34 = .ok (.iload_n 3, 1) := by decide +kernel
theorem dX4_put_35 : decode (me_b mX4_put) 35 = .ok (.iload_n 2, 1) := by decide +kernel
theorem dX4_put_36 : decode (me_b mX4_put) 36 = .ok (.invokestatic 77, 3) := by decide +kernel
theorem dX4_put_39 : decode (me_b mX4_put) 39 = .ok (.goto 4, 3) := by decide +kernel
theorem dX4_put_42 : decode (me_b mX4_put) 42 = .ok (.iload_n 3, 1) := by decide +kernel
theorem dX4_put_43 : decode (me_b mX4_put) 43 = .ok (.iastore, 1) := by decide +kernel
theorem dX4_put_44 : decode (me_b mX4_put) 44 = .ok (.return_, 1) := by decide +kernel
theorem dX4_isSomeBroken_0 : decode (me_b mX4_isSomeBroken) 0 = .ok (.aload_n 0, 1) := by decide +kernel
theorem dX4_isSomeBroken_1 : decode (me_b mX4_isSomeBroken) 1 = .ok (.getfield 17, 3) := by decide +kernel
theorem dX4_isSomeBroken_4 : decode (me_b mX4_isSomeBroken) 4 = .ok (.invokevirtual 83, 3) := by decide +kernel
theorem dX4_isSomeBroken_7 : decode (me_b mX4_isSomeBroken) 7 = .ok (.istore_n 2, 1) := by decide +kernel
theorem dX4_isSomeBroken_8 : decode (me_b mX4_isSomeBroken) 8 = .ok (.iconst 0, 1) := by decide +kernel
theorem dX4_isSomeBroken_9 : decode (me_b mX4_isSomeBroken) 9 = .ok (.istore_n 3, 1) := by decide +kernel
theorem dX4_isSomeBroken_10 : decode (me_b mX4_isSomeBroken) 10 = .ok (.iload_n 3, 1) := by decide +kernel
theorem dX4_isSomeBroken_11 : decode (me_b mX4_isSomeBroken) 11 = .ok (.aload_n 0, 1) := by decide +kernel
theorem dX4_isSomeBroken_12 : decode (me_b mX4_isSomeBroken) 12 = .ok (.getfield 11, 3) := by decide +kernel
theorem dX4_isSomeBroken_15 : decode (me_b mX4_isSomeBroken) 15 = .ok (.invokevirtual 89, 3) := by decide +kernel
theorem dX4_isSomeBroken_18 : decode (me_b mX4_isSomeBroken) 18 = .ok (.if_icmp .ge 164, 3) := by decide +kernel
theorem dX4_isSomeBroken_21 : decode (me_b mX4_isSomeBroken) 21 = .ok (.aload_n 0, 1) := by decide +kernel
theorem dX4_isSomeBroken_22 : decode (me_b mX4_isSomeBroken) 22 = .ok (.getfield 11, 3) := by decide +kernel
theorem dX4_isSomeBroken_25 : decode (me_b mX4_isSomeBroken) 25 = .ok (.iload_n 3, 1) := by decide +kernel
theorem dX4_isSomeBroken_26 : decode (me_b mX4_isSomeBroken) 26 = .ok (.invokevirtual 92, 3) := by decide +kernel
theorem dX4_isSomeBroken_29 : decode (me_b mX4_isSomeBroken) 29 = .ok (.astore 4, 2) := by decide +kernel
theorem dX4_isSomeBroken_31 : decode (me_b mX4_isSomeBroken) 31 = .ok (.aload 4, 2) := by decide +kernel
theorem dX4_isSomeBroken_33 : decode (me_b mX4_isSomeBroken) 33 = .ok (.iconst 0, 1) := by decide +kernel
theorem dX4_isSomeBroken_34 : decode (me_b mX4_isSomeBroken) 34 = .ok (.iload_n 2, 1) := by decide +kernel
theorem dX4_isSomeBroken_35 : decode (me_b mX4_isSomeBroken) 35 = .ok (.invokevirtual 96, 3) := by decide +kernel
theorem dX4_isSomeBroken_38 : decode (me_b mX4_isSomeBroken) 38 = .ok (.istore 5, 2) := by decide +kernel
theorem dX4_isSomeBroken_40 : decode (me_b mX4_isSomeBroken) 40 = .ok (.aload 4, 2) := by decide +kernel
theorem dX4_isSomeBroken_42 : decode (me_b mX4_isSomeBroken) 42 = .ok (.iconst 1, 1) := by decide +kernel
theorem dX4_isSomeBroken_43 : decode (me_b mX4_isSomeBroken) 43 = .ok (.iload_n 2, 1) := by decide +kernel
theorem dX4_isSomeBroken_44 : decode (me_b mX4_isSomeBroken) 44 = .ok (.invokevirtual 96, 3) := by decide +kernel
theorem dX4_isSomeBroken_47 : decode (me_b mX4_isSomeBroken) 47 = .ok (.istore 6, 2) := by decide +kernel
theorem dX4_isSomeBroken_49 : decode (me_b mX4_isSomeBroken) 49 = .ok (.aload 4, 2) := by decide +kernel
theorem dX4_isSomeBroken_51 : decode (me_b mX4_isSomeBroken) 51 = .ok (.iconst 2, 1) := by decide +kernel
theorem dX4_isSomeBroken_52 : decode (me_b mX4_isSomeBroken) 52 = .ok (.iload_n 2, 1) := by decide +kernel
theorem dX4_isSomeBroken_53 : decode (me_b mX4_isSomeBroken) 53 = .ok (.invokevirtual 96, 3) := by decide +kernel
theorem dX4_isSomeBroken_56 : decode (me_b mX4_isSomeBroken) 56 = .ok (.istore 7, 2) := by decide +kernel
theorem dX4_isSomeBroken_58 : decode (me_b mX4_isSomeBroken) 58 = .ok (.iconst 0, 1) := by decide +kernel
theorem dX4_isSomeBroken_59 : decode (me_b mX4_isSomeBroken) 59 = .ok (.istore 8, 2) := by decide +kernel
theorem dX4_isSomeBroken_61 : decode (me_b mX4_isSomeBroken) 61 = .ok (.iload 8, 2) := by decide +kernel
theorem dX4_isSomeBroken_63 : decode (me_b mX4_isSomeBroken) 63 = .ok (.iload 5, 2) := by decide +kernel
theorem dX4_isSomeBroken_65 : decode (me_b mX4_isSomeBroken) 65 = .ok (.if_icmp .ge 111, 3) := by decide +kernel
theorem dX4_isSomeBroken_68 : decode (me_b mX4_isSomeBroken) 68 = .ok (.iconst 0, 1) := by decide +kernel
theorem dX4_isSomeBroken_69 : decode (me_b mX4_isSomeBroken) 69 = .ok (.istore 9, 2) := by decide +kernel
theorem dX4_isSomeBroken_71 : decode (me_b mX4_isSomeBroken) 71 = .ok (.iload 9, 2) := by decide +kernel
theorem dX4_isSomeBroken_73 : decode (me_b mX4_isSomeBroken) 73 = .ok (.iload 6, 2) := by decide +kernel
theorem dX4_isSomeBroken_75 : decode (me_b mX4_isSomeBroken) 75 = .ok (.if_icmp .ge 95, 3) := by decide +kernel
theorem dX4_isSomeBroken_78 : decode (me_b mX4_isSomeBroken) 78 = .ok (.iconst 0, 1) := by decide +kernel
theorem dX4_isSomeBroken_79 : decode (me_b mX4_isSomeBroken) 79 = .ok (.istore 10, 2) := by decide +kernel
theorem dX4_isSomeBroken_81 : decode (me_b mX4_isSomeBroken) 81 = .ok (.iload 10, 2) := by decide +kernel
theorem dX4_isSomeBroken_83 : decode (me_b mX4_isSomeBroken) 83 = .ok (.iload 7, 2) := by decide +kernel
theorem dX4_isSomeBroken_85 : decode (me_b mX4_isSomeBroken) 85 = .ok (.if_icmp .ge 79, 3) := by decide +kernel
theorem dX4_isSomeBroken_88 : decode (me_b mX4_isSomeBroken) 88 = .ok (.iload_n 3, 1) := by decide +kernel
theorem dX4_isSomeBroken_89 : decode (me_b mX4_isSomeBroken) 89 = .ok (.iload 8, 2) := by decide +kernel
theorem dX4_isSomeBroken_91 : decode (me_b mX4_isSomeBroken) 91 = .ok (.iload 9, 2) := by decide +kernel
theorem dX4_isSomeBroken_93 : decode (me_b mX4_isSomeBroken) 93 = .ok (.iload 10, 2) := by decide +kernel
theorem dX4_isSomeBroken_95 : decode (me_b mX4_isSomeBroken) 95 = .ok (.invokestatic 101, 3) := by decide +kernel
theorem dX4_isSomeBroken_98 : decode (me_b mX4_isSomeBroken) 98 = .ok (.istore 11, 2) := by decide +kernel
theorem dX4_isSomeBroken_100 : decode (me_b mX4_isSomeBroken) 100 = .ok (.aload_n 0, 1) := by decide +kernel
theorem dX4_isSomeBroken_101 : decode (me_b mX4_isSomeBroken) 101 = .ok (.iload 11, 2) := by decide +kernel
theorem dX4_isSomeBroken_103 : decode (me_b mX4_isSomeBroken) 103 = .ok (.iload_n 1, 1) := by decide +kernel
theorem dX4_isSomeBroken_104 : decode (me_b mX4_isSomeBroken) 104 = .ok (.invokevirtual 105, 3) := by decide +kernel
theorem dX4_isSomeBroken_107 : decode (me_b mX4_isSomeBroken) 107 = .ok (.ifCond .eq 51, 3) := by decide +kernel
theorem dX4_isSomeBroken_110 : decode (me_b mX4_isSomeBroken) 110 = .ok (.aload_n 0, 1) := by decide +kernel
theorem dX4_isSomeBroken_111 : decode (me_b mX4_isSomeBroken) 111 = .ok (.getfield 21, 3) := by decide +kernel
theorem dX4_isSomeBroken_114 : decode (me_b mX4_isSomeBroken) 114 = .ok (.aload 4, 2) := by decide +kernel
theorem dX4_isSomeBroken_116 : decode (me_b mX4_isSomeBroken) 116 = .ok (.iload 8, 2) := by decide +kernel
theorem dX4_isSomeBroken_118 : decode (me_b mX4_isSomeBroken) 118 = .ok (.iload 9, 2) := by decide +kernel
theorem dX4_isSomeBroken_120 : decode (me_b mX4_isSomeBroken) 120 = .ok (.iload 10, 2) := by decide +kernel
theorem dX4_isSomeBroken_122 : decode (me_b mX4_isSomeBroken) 122 = .ok (.invokevirtual 109, 3) := by decide +kernel
theorem dX4_isSomeBroken_125 : decode (me_b mX4_isSomeBroken) 125 = .ok (.ifCond .eq 5, 3) := by decide +kernel
theorem dX4_isSomeBroken_128 : decode (me_b mX4_isSomeBroken) 128 = .ok (.iconst 1, 1) := by decide +kernel
theorem dX4_isSomeBroken_129 : decode (me_b mX4_isSomeBroken) 129 = .ok (.ireturn, 1) := by decide +kernel
theorem dX4_isSomeBroken_130 : decode (me_b mX4_isSomeBroken) 130 = .ok (.aload_n 0, 1) := by decide +kernel
theorem dX4_isSomeBroken_131 : decode (me_b mX4_isSomeBroken) 131 = .ok (.getfield 25, 3) := by decide +kernel
theorem dX4_isSomeBroken_134 : decode (me_b mX4_isSomeBroken) 134 = .ok (.iload 11, 2) := by decide +kernel
theorem dX4_isSomeBroken_136 : decode (me_b mX4_isSomeBroken) 136 = .ok (.aload_n 0, 1) := by decide +kernel
theorem dX4_isSomeBroken_137 : decode (me_b mX4_isSomeBroken) 137 = .ok (.getfield 21, 3) := by decide +kernel
theorem dX4_isSomeBroken_140 : decode (me_b mX4_isSomeBroken) 140 = .ok (.invokevirtual 113, 3) := by decide +kernel
theorem dX4_isSomeBroken_143 : decode (me_b mX4_isSomeBroken) 143 = .ok (.iastore, 1) := by decide +kernel
theorem dX4_isSomeBroken_144 : decode (me_b mX4_isSomeBroken) 144 = .ok (.aload_n 0, 1) := by decide +kernel
theorem dX4_isSomeBroken_145 : decode (me_b mX4_isSomeBroken) 145 = .ok (.getfield 29, 3) := by decide +kernel
theorem dX4_isSomeBroken_148 : decode (me_b mX4_isSomeBroken) 148 = .ok (.iload 11, 2) := by decide +kernel
theorem dX4_isSomeBroken_150 : decode (me_b mX4_isSomeBroken) 150 = .ok (.aload_n 0, 1) := by decide +kernel
theorem dX4_isSomeBroken_151 : decode (me_b mX4_isSomeBroken) 151 = .ok (.getfield 21, 3) := by decide +kernel
theorem dX4_isSomeBroken_154 : decode (me_b mX4_isSomeBroken) 154 = .ok (.invokevirtual 115, 3) := by decide +kernel
theorem dX4_isSomeBroken_157 : decode (me_b mX4_isSomeBroken) 157 = .ok (.iastore, 1) := by decide +kernel
theorem dX4_isSomeBroken_158 : decode (me_b mX4_isSomeBroken) 158 = .ok (.iinc 10 1, 3) := by decide +kernel
theorem dX4_isSomeBroken_161 : decode (me_b mX4_isSomeBroken) 161 = .ok (.goto (-80), 3) := by decide +kernel
theorem dX4_isSomeBroken_164 : decode (me_b mX4_isSomeBroken) 164 = .ok (.iinc 9 1, 3) := by decide +kernel
theorem dX4_isSomeBroken_167 : decode (me_b mX4_isSomeBroken) 167 = .ok (.goto (-96), 3) := by decide +kernel
theorem dX4_isSomeBroken_170 : decode (me_b mX4_isSomeBroken) 170 = .ok (.iinc 8 1, 3) := by decide +kernel
theorem dX4_isSomeBroken_173 : decode (me_b mX4_isSomeBroken) 173 = .ok (.goto (-112), 3) := by decide +kernel
theorem dX4_isSomeBroken_176 : decode (me_b mX4_isSomeBroken) 176 = .ok (.iinc 3 1, 3) := by decide +kernel
theorem dX4_isSomeBroken_179 : decode (me_b mX4_isSomeBroken) 179 = .ok (.goto (-169), 3) := by decide +kernel
theorem dX4_isSomeBroken_182 : decode (me_b mX4_isSomeBroken) 182 = .ok (.iconst 0, 1) := by decide +kernel
theorem dX4_isSomeBroken_183 : decode (me_b mX4_isSomeBroken) 183 = .ok (.ireturn, 1) := by decide +kernel
theorem dX4_instanceOf_0 : decode (me_b mX4_instanceOf) 0 = .ok (.iload_n 0, 1) := by decide +kernel
theorem dX4_instanceOf_1 : decode (me_b mX4_instanceOf) 1 = .ok (.iconst 4, 1) := by decide +kernel
theorem dX4_instanceOf_2 : decode (me_b mX4_instanceOf) 2 = .ok (.imul, 1) := by decide +kernel
theorem dX4_instanceOf_3 : decode (me_b mX4_instanceOf) 3 = .ok (.iload_n 1, 1) := by decide +kernel
theorem dX4_instanceOf_4 : decode (me_b mX4_instanceOf) 4 = .ok (.iadd, 1) := by decide +kernel
theorem dX4_instanceOf_5 : decode (me_b mX4_instanceOf) 5 = .ok (.iconst 4, 1) := by decide +kernel
theorem dX4_instanceOf_6 : decode (me_b mX4_instanceOf) 6 = .ok (.imul, 1) := by decide +kernel
theorem dX4_instanceOf_7 : decode (me_b mX4_instanceOf) 7 = .ok (.iload_n 2, 1) := by decide +kernel
theorem dX4_instanceOf_8 : decode (me_b mX4_instanceOf) 8 = .ok (.iadd, 1) := by decide +kernel
theorem dX4_instanceOf_9 : decode (me_b mX4_instanceOf) 9 = .ok (.iconst 4, 1) := by decide +kernel
theorem dX4_instanceOf_10 : decode (me_b mX4_instanceOf) 10 = .ok (.imul, 1) := by decide +kernel
theorem dX4_instanceOf_11 : decode (me_b mX4_instanceOf) 11 = .ok (.iload_n 3, 1) := by decide +kernel
theorem dX4_instanceOf_12 : decode (me_b mX4_instanceOf) 12 = .ok (.iadd, 1) := by decide +kernel
theorem dX4_instanceOf_13 : decode (me_b mX4_instanceOf) 13 = .ok (.ireturn, 1) := by decide +kernel
theorem dX4_needsLook_0 : decode (me_b mX4_needsLook) 0 = .ok (.aload_n 0, 1) := by decide +kernel
theorem dX4_needsLook_1 : decode (me_b mX4_needsLook) 1 = .ok (.getfield 25, 3) := by decide +kernel
theorem dX4_needsLook_4 : decode (me_b mX4_needsLook) 4 = .ok (.iload_n 1, 1) := by decide +kernel
theorem dX4_needsLook_5 : decode (me_b mX4_needsLook) 5 = .ok (.iaload, 1) := by decide +kernel
theorem dX4_needsLook_6 : decode (me_b mX4_needsLook) 6 = .ok (.iload_n 2, 1) := by decide +kernel
theorem dX4_needsLook_7 : decode (me_b mX4_needsLook) 7 = .ok (.if_icmp .ge 13, 3) := by decide +kernel
theorem dX4_needsLook_10 : decode (me_b mX4_needsLook) 10 = .ok (.aload_n 0, 1) := by decide +kernel
theorem dX4_needsLook_11 : decode (me_b mX4_needsLook) 11 = .ok (.getfield 29, 3) := by decide +kernel
theorem dX4_needsLook_14 : decode (me_b mX4_needsLook) 14 = .ok (.iload_n 1, 1) := by decide +kernel
theorem dX4_needsLook_15 : decode (me_b mX4_needsLook) 15 = .ok (.iaload, 1) := by decide +kernel
theorem dX4_needsLook_16 : decode (me_b mX4_needsLook) 16 = .ok (.iload_n 2, 1) := by decide +kernel
theorem dX4_needsLook_17 : decode (me_b mX4_needsLook) 17 = .ok (.if_icmp .gt 7, 3) := by decide +kernel
theorem dX4_needsLook_20 : decode (me_b mX4_needsLook) 20 = .ok (.iconst 1, 1) := by decide +kernel
theorem dX4_needsLook_21 : decode (me_b mX4_needsLook) 21 = .ok (.goto 4, 3) := by decide +kernel
theorem dX4_needsLook_24 : decode (me_b mX4_needsLook) 24 = .ok (.iconst 0, 1) := by decide +kernel
theorem dX4_needsLook_25 : decode (me_b mX4_needsLook) 25 = .ok (.ireturn, 1) := by decide +kernel
set_option maxRecDepth 20000 in
theorem s_X4_countAnew_0 {σ : ab_M} {Q : Option ab_V → ab_M → Prop} 
    (k : Q none (ab_upd σ 45 6 0)) :
    ev mX4_countAnew 0 [some (.inr (.inr 45))] [] σ Q := by
  refine ev_p (pc' := 1) (ls' := [some (.inr (.inr 45))]) (st' := [.inr (.inr 45)]) dX4_countAnew_0 rfl ?_
  refine ev_cst (v := 0) (pc' := 2) dX4_countAnew_1 (by decide) rfl ?_
  refine ev_putI (pc' := 5) dX4_countAnew_2 rfl rfl rfl rfl rfl rfl ?_
  exact ev_ret dX4_countAnew_5 rfl k
set_option maxRecDepth 20000 in
theorem s_X4_begin_0 {σ : ab_M} {Q : Option ab_V → ab_M → Prop} {x1 : Int32}
    (k : evm mX6_lay [.inr (.inr 37), .inl x1, .inr (.inr 1)] σ (fun v τ1 => v = none ∧ ab_in 0 129 = true ∧ evm mX4_isSomeBroken [.inr (.inr 45), .inl (-1)] (ab_upd τ1 48 (0 : Int32).toNatClampNeg (-1)) (fun v τ2 => ∃ r3 : Int32, v = some (.inl r3) ∧ ((r3 = 0 → evm mX4_fill [.inr (.inr 45), .inl 0] τ2 (fun v τ4 => ∃ r5 : Int32, v = some (.inl r5) ∧ Q (some (.inl r5)) τ4)) ∧ (¬ r3 = 0 → Q (some (.inl 0)) τ2))))) :
    ev mX4_begin 0 [some (.inr (.inr 45)), some (.inl x1), some (.inr (.inr 1))] [] σ Q := by
  refine ev_p (pc' := 1) (ls' := [some (.inr (.inr 45)), some (.inl x1), some (.inr (.inr 1))]) (st' := [.inr (.inr 45)]) dX4_begin_0 rfl ?_
  refine ev_getA (pc' := 4) (z := 37) dX4_begin_1 rfl rfl rfl rfl ?_
  refine ev_p (pc' := 5) (ls' := [some (.inr (.inr 45)), some (.inl x1), some (.inr (.inr 1))]) (st' := [.inl x1, .inr (.inr 37)]) dX4_begin_4 rfl ?_
  refine ev_p (pc' := 6) (ls' := [some (.inr (.inr 45)), some (.inl x1), some (.inr (.inr 1))]) (st' := [.inr (.inr 1), .inl x1, .inr (.inr 37)]) dX4_begin_5 rfl ?_
  refine ev_call (y := 43) (as := [.inr (.inr 37), .inl x1, .inr (.inr 1)]) (r := []) (M' := mX6_lay) (pc' := 9) dX4_begin_6 rfl rfl ⟨rfl, rfl⟩ rfl k rfl (fun v τ1 hq => ?_)
  obtain ⟨hv, k⟩ := hq
  rw [hv]
  change ev mX4_begin 9 [some (.inr (.inr 45)), some (.inl x1), some (.inr (.inr 1))] [] τ1 _
  refine ev_p (pc' := 10) (ls' := [some (.inr (.inr 45)), some (.inl x1), some (.inr (.inr 1))]) (st' := [.inr (.inr 45)]) dX4_begin_9 rfl ?_
  refine ev_getA (pc' := 13) (z := 48) dX4_begin_10 rfl rfl rfl rfl ?_
  refine ev_cst (v := 0) (pc' := 14) dX4_begin_13 (by decide) rfl ?_
  refine ev_cst (v := (-1)) (pc' := 15) dX4_begin_14 (by decide) rfl ?_
  refine ev_stor (pc' := 16) (z := (-1)) rfl dX4_begin_15 rfl rfl k.1 rfl rfl ?_
  have k := k.2
  refine ev_p (pc' := 17) (ls' := [some (.inr (.inr 45)), some (.inl x1), some (.inr (.inr 1))]) (st' := [.inr (.inr 45)]) dX4_begin_16 rfl ?_
  refine ev_cst (v := (-1)) (pc' := 18) dX4_begin_17 (by decide) rfl ?_
  refine ev_call (y := 48) (as := [.inr (.inr 45), .inl (-1)]) (r := []) (M' := mX4_isSomeBroken) (pc' := 21) dX4_begin_18 rfl rfl ⟨rfl, rfl⟩ rfl k rfl (fun v τ2 hq => ?_)
  obtain ⟨r3, hv, k⟩ := hq
  rw [hv]
  change ev mX4_begin 21 [some (.inr (.inr 45)), some (.inl x1), some (.inr (.inr 1))] [.inl r3] τ2 _
  refine ev_if_eq (tgt := 28) (pc' := 24) dX4_begin_21 (by decide) rfl (fun h1 => ?_) (fun h1 => ?_)
  · have k := k.1 h1
    refine ev_p (pc' := 29) (ls' := [some (.inr (.inr 45)), some (.inl x1), some (.inr (.inr 1))]) (st' := [.inr (.inr 45)]) dX4_begin_28 rfl ?_
    refine ev_cst (v := 0) (pc' := 30) dX4_begin_29 (by decide) rfl ?_
    refine ev_call (y := 63) (as := [.inr (.inr 45), .inl 0]) (r := []) (M' := mX4_fill) (pc' := 33) dX4_begin_30 rfl rfl ⟨rfl, rfl⟩ rfl k rfl (fun v τ4 hq => ?_)
    obtain ⟨r5, hv, k⟩ := hq
    rw [hv]
    change ev mX4_begin 33 [some (.inr (.inr 45)), some (.inl x1), some (.inr (.inr 1))] [.inl r5] τ4 _
    exact ev_ret dX4_begin_33 rfl k
  · have k := k.2 h1
    refine ev_cst (v := 0) (pc' := 25) dX4_begin_24 (by decide) rfl ?_
    refine ev_go (tgt := 33) dX4_begin_25 (by decide) ?_
    exact ev_ret dX4_begin_33 rfl k
set_option maxRecDepth 20000 in
theorem s_X4_isSomeBroken_0 {σ : ab_M} {Q : Option ab_V → ab_M → Prop} {x1 : Int32}
    (k : evm mX6_sizeLaid [.inr (.inr 37)] σ (fun v τ1 => ∃ r2 : Int32, v = some (.inl r2) ∧ ev mX4_isSomeBroken 10 [some (.inr (.inr 45)), some (.inl x1), some (.inl r2), some (.inl 0), none, none, none, none, none, none, none, none] [] τ1 Q)) :
    ev mX4_isSomeBroken 0 [some (.inr (.inr 45)), some (.inl x1), none, none, none, none, none, none, none, none, none, none] [] σ Q := by
  refine ev_p (pc' := 1) (ls' := [some (.inr (.inr 45)), some (.inl x1), none, none, none, none, none, none, none, none, none, none]) (st' := [.inr (.inr 45)]) dX4_isSomeBroken_0 rfl ?_
  refine ev_getA (pc' := 4) (z := 37) dX4_isSomeBroken_1 rfl rfl rfl rfl ?_
  refine ev_call (y := 49) (as := [.inr (.inr 37)]) (r := []) (M' := mX6_sizeLaid) (pc' := 7) dX4_isSomeBroken_4 rfl rfl ⟨rfl, rfl⟩ rfl k rfl (fun v τ1 hq => ?_)
  obtain ⟨r2, hv, k⟩ := hq
  rw [hv]
  change ev mX4_isSomeBroken 7 [some (.inr (.inr 45)), some (.inl x1), none, none, none, none, none, none, none, none, none, none] [.inl r2] τ1 _
  refine ev_p (pc' := 8) (ls' := [some (.inr (.inr 45)), some (.inl x1), some (.inl r2), none, none, none, none, none, none, none, none, none]) (st' := []) dX4_isSomeBroken_7 rfl ?_
  refine ev_cst (v := 0) (pc' := 9) dX4_isSomeBroken_8 (by decide) rfl ?_
  refine ev_p (pc' := 10) (ls' := [some (.inr (.inr 45)), some (.inl x1), some (.inl r2), some (.inl 0), none, none, none, none, none, none, none, none]) (st' := []) dX4_isSomeBroken_9 rfl ?_
  exact k
set_option maxRecDepth 20000 in
theorem s_X4_isSomeBroken_10 {σ : ab_M} {Q : Option ab_V → ab_M → Prop} {x1 : Int32} {x2 : Int32} {x3 : Int32} {o4 : Option ab_V} {o5 : Option ab_V} {o6 : Option ab_V} {o7 : Option ab_V} {o8 : Option ab_V} {o9 : Option ab_V} {o10 : Option ab_V} {o11 : Option ab_V}
    (k : evm mX2_count [.inr (.inr 5)] σ (fun v τ1 => ∃ r2 : Int32, v = some (.inl r2) ∧ ((r2 ≤ x3 → Q (some (.inl 0)) τ1) ∧ (¬ r2 ≤ x3 → evm mX2_at [.inr (.inr 5), .inl x3] τ1 (fun v τ3 => ∃ q4 : Nat, v = some (.inr (.inr q4)) ∧ (∃ ff, sh0[q4]? = some (.inl (1, ff))) ∧ evm mX1_choices [.inr (.inr q4), .inl 0, .inl x2] τ3 (fun v τ5 => ∃ r6 : Int32, v = some (.inl r6) ∧ (∃ ff, sh0[q4]? = some (.inl (1, ff))) ∧ evm mX1_choices [.inr (.inr q4), .inl 1, .inl x2] τ5 (fun v τ7 => ∃ r8 : Int32, v = some (.inl r8) ∧ (∃ ff, sh0[q4]? = some (.inl (1, ff))) ∧ evm mX1_choices [.inr (.inr q4), .inl 2, .inl x2] τ7 (fun v τ9 => ∃ r10 : Int32, v = some (.inl r10) ∧ ev mX4_isSomeBroken 61 [some (.inr (.inr 45)), some (.inl x1), some (.inl x2), some (.inl x3), some (.inr (.inr q4)), some (.inl r6), some (.inl r8), some (.inl r10), some (.inl 0), o9, o10, o11] [] τ9 Q)))))))) :
    ev mX4_isSomeBroken 10 [some (.inr (.inr 45)), some (.inl x1), some (.inl x2), some (.inl x3), o4, o5, o6, o7, o8, o9, o10, o11] [] σ Q := by
  refine ev_p (pc' := 11) (ls' := [some (.inr (.inr 45)), some (.inl x1), some (.inl x2), some (.inl x3), o4, o5, o6, o7, o8, o9, o10, o11]) (st' := [.inl x3]) dX4_isSomeBroken_10 rfl ?_
  refine ev_p (pc' := 12) (ls' := [some (.inr (.inr 45)), some (.inl x1), some (.inl x2), some (.inl x3), o4, o5, o6, o7, o8, o9, o10, o11]) (st' := [.inr (.inr 45), .inl x3]) dX4_isSomeBroken_11 rfl ?_
  refine ev_getA (pc' := 15) (z := 5) dX4_isSomeBroken_12 rfl rfl rfl rfl ?_
  refine ev_call (y := 38) (as := [.inr (.inr 5)]) (r := [.inl x3]) (M' := mX2_count) (pc' := 18) dX4_isSomeBroken_15 rfl rfl ⟨rfl, rfl⟩ rfl k rfl (fun v τ1 hq => ?_)
  obtain ⟨r2, hv, k⟩ := hq
  rw [hv]
  change ev mX4_isSomeBroken 18 [some (.inr (.inr 45)), some (.inl x1), some (.inl x2), some (.inl x3), o4, o5, o6, o7, o8, o9, o10, o11] [.inl r2, .inl x3] τ1 _
  refine ev_ic_ge (tgt := 182) (pc' := 21) dX4_isSomeBroken_18 (by decide) rfl (fun h1 => ?_) (fun h1 => ?_)
  · have k := k.1 h1
    refine ev_cst (v := 0) (pc' := 183) dX4_isSomeBroken_182 (by decide) rfl ?_
    exact ev_retZ dX4_isSomeBroken_183 rfl rfl k
  · have k := k.2 h1
    refine ev_p (pc' := 22) (ls' := [some (.inr (.inr 45)), some (.inl x1), some (.inl x2), some (.inl x3), o4, o5, o6, o7, o8, o9, o10, o11]) (st' := [.inr (.inr 45)]) dX4_isSomeBroken_21 rfl ?_
    refine ev_getA (pc' := 25) (z := 5) dX4_isSomeBroken_22 rfl rfl rfl rfl ?_
    refine ev_p (pc' := 26) (ls' := [some (.inr (.inr 45)), some (.inl x1), some (.inl x2), some (.inl x3), o4, o5, o6, o7, o8, o9, o10, o11]) (st' := [.inl x3, .inr (.inr 5)]) dX4_isSomeBroken_25 rfl ?_
    refine ev_call (y := 22) (as := [.inr (.inr 5), .inl x3]) (r := []) (M' := mX2_at) (pc' := 29) dX4_isSomeBroken_26 rfl rfl ⟨rfl, rfl⟩ rfl k rfl (fun v τ3 hq => ?_)
    obtain ⟨q4, hv, k⟩ := hq
    rw [hv]
    change ev mX4_isSomeBroken 29 [some (.inr (.inr 45)), some (.inl x1), some (.inl x2), some (.inl x3), o4, o5, o6, o7, o8, o9, o10, o11] [.inr (.inr q4)] τ3 _
    refine ev_p (pc' := 31) (ls' := [some (.inr (.inr 45)), some (.inl x1), some (.inl x2), some (.inl x3), some (.inr (.inr q4)), o5, o6, o7, o8, o9, o10, o11]) (st' := []) dX4_isSomeBroken_29 rfl ?_
    refine ev_p (pc' := 33) (ls' := [some (.inr (.inr 45)), some (.inl x1), some (.inl x2), some (.inl x3), some (.inr (.inr q4)), o5, o6, o7, o8, o9, o10, o11]) (st' := [.inr (.inr q4)]) dX4_isSomeBroken_31 rfl ?_
    refine ev_cst (v := 0) (pc' := 34) dX4_isSomeBroken_33 (by decide) rfl ?_
    refine ev_p (pc' := 35) (ls' := [some (.inr (.inr 45)), some (.inl x1), some (.inl x2), some (.inl x3), some (.inr (.inr q4)), o5, o6, o7, o8, o9, o10, o11]) (st' := [.inl x2, .inl 0, .inr (.inr q4)]) dX4_isSomeBroken_34 rfl ?_
    obtain ⟨⟨ff, hff⟩, k⟩ := k
    refine ev_call (y := 50) (as := [.inr (.inr q4), .inl 0, .inl x2]) (r := []) (M' := mX1_choices) (pc' := 38) dX4_isSomeBroken_35 (ev_inv1 rfl rfl rfl rfl hff rfl rfl) rfl ⟨rfl, rfl⟩ rfl k rfl (fun v τ5 hq => ?_)
    obtain ⟨r6, hv, k⟩ := hq
    rw [hv]
    change ev mX4_isSomeBroken 38 [some (.inr (.inr 45)), some (.inl x1), some (.inl x2), some (.inl x3), some (.inr (.inr q4)), o5, o6, o7, o8, o9, o10, o11] [.inl r6] τ5 _
    refine ev_p (pc' := 40) (ls' := [some (.inr (.inr 45)), some (.inl x1), some (.inl x2), some (.inl x3), some (.inr (.inr q4)), some (.inl r6), o6, o7, o8, o9, o10, o11]) (st' := []) dX4_isSomeBroken_38 rfl ?_
    refine ev_p (pc' := 42) (ls' := [some (.inr (.inr 45)), some (.inl x1), some (.inl x2), some (.inl x3), some (.inr (.inr q4)), some (.inl r6), o6, o7, o8, o9, o10, o11]) (st' := [.inr (.inr q4)]) dX4_isSomeBroken_40 rfl ?_
    refine ev_cst (v := 1) (pc' := 43) dX4_isSomeBroken_42 (by decide) rfl ?_
    refine ev_p (pc' := 44) (ls' := [some (.inr (.inr 45)), some (.inl x1), some (.inl x2), some (.inl x3), some (.inr (.inr q4)), some (.inl r6), o6, o7, o8, o9, o10, o11]) (st' := [.inl x2, .inl 1, .inr (.inr q4)]) dX4_isSomeBroken_43 rfl ?_
    obtain ⟨⟨ff, hff⟩, k⟩ := k
    refine ev_call (y := 50) (as := [.inr (.inr q4), .inl 1, .inl x2]) (r := []) (M' := mX1_choices) (pc' := 47) dX4_isSomeBroken_44 (ev_inv1 rfl rfl rfl rfl hff rfl rfl) rfl ⟨rfl, rfl⟩ rfl k rfl (fun v τ7 hq => ?_)
    obtain ⟨r8, hv, k⟩ := hq
    rw [hv]
    change ev mX4_isSomeBroken 47 [some (.inr (.inr 45)), some (.inl x1), some (.inl x2), some (.inl x3), some (.inr (.inr q4)), some (.inl r6), o6, o7, o8, o9, o10, o11] [.inl r8] τ7 _
    refine ev_p (pc' := 49) (ls' := [some (.inr (.inr 45)), some (.inl x1), some (.inl x2), some (.inl x3), some (.inr (.inr q4)), some (.inl r6), some (.inl r8), o7, o8, o9, o10, o11]) (st' := []) dX4_isSomeBroken_47 rfl ?_
    refine ev_p (pc' := 51) (ls' := [some (.inr (.inr 45)), some (.inl x1), some (.inl x2), some (.inl x3), some (.inr (.inr q4)), some (.inl r6), some (.inl r8), o7, o8, o9, o10, o11]) (st' := [.inr (.inr q4)]) dX4_isSomeBroken_49 rfl ?_
    refine ev_cst (v := 2) (pc' := 52) dX4_isSomeBroken_51 (by decide) rfl ?_
    refine ev_p (pc' := 53) (ls' := [some (.inr (.inr 45)), some (.inl x1), some (.inl x2), some (.inl x3), some (.inr (.inr q4)), some (.inl r6), some (.inl r8), o7, o8, o9, o10, o11]) (st' := [.inl x2, .inl 2, .inr (.inr q4)]) dX4_isSomeBroken_52 rfl ?_
    obtain ⟨⟨ff, hff⟩, k⟩ := k
    refine ev_call (y := 50) (as := [.inr (.inr q4), .inl 2, .inl x2]) (r := []) (M' := mX1_choices) (pc' := 56) dX4_isSomeBroken_53 (ev_inv1 rfl rfl rfl rfl hff rfl rfl) rfl ⟨rfl, rfl⟩ rfl k rfl (fun v τ9 hq => ?_)
    obtain ⟨r10, hv, k⟩ := hq
    rw [hv]
    change ev mX4_isSomeBroken 56 [some (.inr (.inr 45)), some (.inl x1), some (.inl x2), some (.inl x3), some (.inr (.inr q4)), some (.inl r6), some (.inl r8), o7, o8, o9, o10, o11] [.inl r10] τ9 _
    refine ev_p (pc' := 58) (ls' := [some (.inr (.inr 45)), some (.inl x1), some (.inl x2), some (.inl x3), some (.inr (.inr q4)), some (.inl r6), some (.inl r8), some (.inl r10), o8, o9, o10, o11]) (st' := []) dX4_isSomeBroken_56 rfl ?_
    refine ev_cst (v := 0) (pc' := 59) dX4_isSomeBroken_58 (by decide) rfl ?_
    refine ev_p (pc' := 61) (ls' := [some (.inr (.inr 45)), some (.inl x1), some (.inl x2), some (.inl x3), some (.inr (.inr q4)), some (.inl r6), some (.inl r8), some (.inl r10), some (.inl 0), o9, o10, o11]) (st' := []) dX4_isSomeBroken_59 rfl ?_
    exact k
set_option maxRecDepth 20000 in
theorem s_X4_isSomeBroken_61 {σ : ab_M} {Q : Option ab_V → ab_M → Prop} {x1 : Int32} {x2 : Int32} {x3 : Int32} {p4 : Nat} {x5 : Int32} {x6 : Int32} {x7 : Int32} {x8 : Int32} {o9 : Option ab_V} {o10 : Option ab_V} {o11 : Option ab_V}
    (k : ((x5 ≤ x8 → ev mX4_isSomeBroken 10 [some (.inr (.inr 45)), some (.inl x1), some (.inl x2), some (.inl (x3 + 1)), some (.inr (.inr p4)), some (.inl x5), some (.inl x6), some (.inl x7), some (.inl x8), o9, o10, o11] [] σ Q) ∧ (¬ x5 ≤ x8 → ev mX4_isSomeBroken 71 [some (.inr (.inr 45)), some (.inl x1), some (.inl x2), some (.inl x3), some (.inr (.inr p4)), some (.inl x5), some (.inl x6), some (.inl x7), some (.inl x8), some (.inl 0), o10, o11] [] σ Q))) :
    ev mX4_isSomeBroken 61 [some (.inr (.inr 45)), some (.inl x1), some (.inl x2), some (.inl x3), some (.inr (.inr p4)), some (.inl x5), some (.inl x6), some (.inl x7), some (.inl x8), o9, o10, o11] [] σ Q := by
  refine ev_p (pc' := 63) (ls' := [some (.inr (.inr 45)), some (.inl x1), some (.inl x2), some (.inl x3), some (.inr (.inr p4)), some (.inl x5), some (.inl x6), some (.inl x7), some (.inl x8), o9, o10, o11]) (st' := [.inl x8]) dX4_isSomeBroken_61 rfl ?_
  refine ev_p (pc' := 65) (ls' := [some (.inr (.inr 45)), some (.inl x1), some (.inl x2), some (.inl x3), some (.inr (.inr p4)), some (.inl x5), some (.inl x6), some (.inl x7), some (.inl x8), o9, o10, o11]) (st' := [.inl x5, .inl x8]) dX4_isSomeBroken_63 rfl ?_
  refine ev_ic_ge (tgt := 176) (pc' := 68) dX4_isSomeBroken_65 (by decide) rfl (fun h1 => ?_) (fun h1 => ?_)
  · have k := k.1 h1
    refine ev_p (pc' := 179) (ls' := [some (.inr (.inr 45)), some (.inl x1), some (.inl x2), some (.inl (x3 + 1)), some (.inr (.inr p4)), some (.inl x5), some (.inl x6), some (.inl x7), some (.inl x8), o9, o10, o11]) (st' := []) dX4_isSomeBroken_176 rfl ?_
    refine ev_go (tgt := 10) dX4_isSomeBroken_179 (by decide) ?_
    exact k
  · have k := k.2 h1
    refine ev_cst (v := 0) (pc' := 69) dX4_isSomeBroken_68 (by decide) rfl ?_
    refine ev_p (pc' := 71) (ls' := [some (.inr (.inr 45)), some (.inl x1), some (.inl x2), some (.inl x3), some (.inr (.inr p4)), some (.inl x5), some (.inl x6), some (.inl x7), some (.inl x8), some (.inl 0), o10, o11]) (st' := []) dX4_isSomeBroken_69 rfl ?_
    exact k
set_option maxRecDepth 20000 in
theorem s_X4_isSomeBroken_71 {σ : ab_M} {Q : Option ab_V → ab_M → Prop} {x1 : Int32} {x2 : Int32} {x3 : Int32} {p4 : Nat} {x5 : Int32} {x6 : Int32} {x7 : Int32} {x8 : Int32} {x9 : Int32} {o10 : Option ab_V} {o11 : Option ab_V}
    (k : ((x6 ≤ x9 → ev mX4_isSomeBroken 61 [some (.inr (.inr 45)), some (.inl x1), some (.inl x2), some (.inl x3), some (.inr (.inr p4)), some (.inl x5), some (.inl x6), some (.inl x7), some (.inl (x8 + 1)), some (.inl x9), o10, o11] [] σ Q) ∧ (¬ x6 ≤ x9 → ev mX4_isSomeBroken 81 [some (.inr (.inr 45)), some (.inl x1), some (.inl x2), some (.inl x3), some (.inr (.inr p4)), some (.inl x5), some (.inl x6), some (.inl x7), some (.inl x8), some (.inl x9), some (.inl 0), o11] [] σ Q))) :
    ev mX4_isSomeBroken 71 [some (.inr (.inr 45)), some (.inl x1), some (.inl x2), some (.inl x3), some (.inr (.inr p4)), some (.inl x5), some (.inl x6), some (.inl x7), some (.inl x8), some (.inl x9), o10, o11] [] σ Q := by
  refine ev_p (pc' := 73) (ls' := [some (.inr (.inr 45)), some (.inl x1), some (.inl x2), some (.inl x3), some (.inr (.inr p4)), some (.inl x5), some (.inl x6), some (.inl x7), some (.inl x8), some (.inl x9), o10, o11]) (st' := [.inl x9]) dX4_isSomeBroken_71 rfl ?_
  refine ev_p (pc' := 75) (ls' := [some (.inr (.inr 45)), some (.inl x1), some (.inl x2), some (.inl x3), some (.inr (.inr p4)), some (.inl x5), some (.inl x6), some (.inl x7), some (.inl x8), some (.inl x9), o10, o11]) (st' := [.inl x6, .inl x9]) dX4_isSomeBroken_73 rfl ?_
  refine ev_ic_ge (tgt := 170) (pc' := 78) dX4_isSomeBroken_75 (by decide) rfl (fun h1 => ?_) (fun h1 => ?_)
  · have k := k.1 h1
    refine ev_p (pc' := 173) (ls' := [some (.inr (.inr 45)), some (.inl x1), some (.inl x2), some (.inl x3), some (.inr (.inr p4)), some (.inl x5), some (.inl x6), some (.inl x7), some (.inl (x8 + 1)), some (.inl x9), o10, o11]) (st' := []) dX4_isSomeBroken_170 rfl ?_
    refine ev_go (tgt := 61) dX4_isSomeBroken_173 (by decide) ?_
    exact k
  · have k := k.2 h1
    refine ev_cst (v := 0) (pc' := 79) dX4_isSomeBroken_78 (by decide) rfl ?_
    refine ev_p (pc' := 81) (ls' := [some (.inr (.inr 45)), some (.inl x1), some (.inl x2), some (.inl x3), some (.inr (.inr p4)), some (.inl x5), some (.inl x6), some (.inl x7), some (.inl x8), some (.inl x9), some (.inl 0), o11]) (st' := []) dX4_isSomeBroken_79 rfl ?_
    exact k
set_option maxRecDepth 20000 in
theorem s_X4_isSomeBroken_81 {σ : ab_M} {Q : Option ab_V → ab_M → Prop} {x1 : Int32} {x2 : Int32} {x3 : Int32} {p4 : Nat} {x5 : Int32} {x6 : Int32} {x7 : Int32} {x8 : Int32} {x9 : Int32} {x10 : Int32} {o11 : Option ab_V}
    (k : ((x7 ≤ x10 → ev mX4_isSomeBroken 71 [some (.inr (.inr 45)), some (.inl x1), some (.inl x2), some (.inl x3), some (.inr (.inr p4)), some (.inl x5), some (.inl x6), some (.inl x7), some (.inl x8), some (.inl (x9 + 1)), some (.inl x10), o11] [] σ Q) ∧ (¬ x7 ≤ x10 → evm mX4_instanceOf [.inl x3, .inl x8, .inl x9, .inl x10] σ (fun v τ1 => ∃ r2 : Int32, v = some (.inl r2) ∧ evm mX4_needsLook [.inr (.inr 45), .inl r2, .inl x1] τ1 (fun v τ3 => ∃ r4 : Int32, v = some (.inl r4) ∧ ((r4 = 0 → ev mX4_isSomeBroken 81 [some (.inr (.inr 45)), some (.inl x1), some (.inl x2), some (.inl x3), some (.inr (.inr p4)), some (.inl x5), some (.inl x6), some (.inl x7), some (.inl x8), some (.inl x9), some (.inl (x10 + 1)), some (.inl r2)] [] τ3 Q) ∧ (¬ r4 = 0 → evm mX3_isBroken [.inr (.inr 42), .inr (.inr p4), .inl x8, .inl x9, .inl x10] τ3 (fun v τ5 => ∃ r6 : Int32, v = some (.inl r6) ∧ ((r6 = 0 → evm mX3_greatestRead [.inr (.inr 42)] τ5 (fun v τ7 => ∃ r8 : Int32, v = some (.inl r8) ∧ ab_in r2 512 = true ∧ evm mX3_missing [.inr (.inr 42)] (ab_upd τ7 46 r2.toNatClampNeg r8) (fun v τ9 => ∃ r10 : Int32, v = some (.inl r10) ∧ ab_in r2 512 = true ∧ ev mX4_isSomeBroken 81 [some (.inr (.inr 45)), some (.inl x1), some (.inl x2), some (.inl x3), some (.inr (.inr p4)), some (.inl x5), some (.inl x6), some (.inl x7), some (.inl x8), some (.inl x9), some (.inl (x10 + 1)), some (.inl r2)] [] (ab_upd τ9 47 r2.toNatClampNeg r10) Q))) ∧ (¬ r6 = 0 → Q (some (.inl 1)) τ5)))))))))) :
    ev mX4_isSomeBroken 81 [some (.inr (.inr 45)), some (.inl x1), some (.inl x2), some (.inl x3), some (.inr (.inr p4)), some (.inl x5), some (.inl x6), some (.inl x7), some (.inl x8), some (.inl x9), some (.inl x10), o11] [] σ Q := by
  refine ev_p (pc' := 83) (ls' := [some (.inr (.inr 45)), some (.inl x1), some (.inl x2), some (.inl x3), some (.inr (.inr p4)), some (.inl x5), some (.inl x6), some (.inl x7), some (.inl x8), some (.inl x9), some (.inl x10), o11]) (st' := [.inl x10]) dX4_isSomeBroken_81 rfl ?_
  refine ev_p (pc' := 85) (ls' := [some (.inr (.inr 45)), some (.inl x1), some (.inl x2), some (.inl x3), some (.inr (.inr p4)), some (.inl x5), some (.inl x6), some (.inl x7), some (.inl x8), some (.inl x9), some (.inl x10), o11]) (st' := [.inl x7, .inl x10]) dX4_isSomeBroken_83 rfl ?_
  refine ev_ic_ge (tgt := 164) (pc' := 88) dX4_isSomeBroken_85 (by decide) rfl (fun h1 => ?_) (fun h1 => ?_)
  · have k := k.1 h1
    refine ev_p (pc' := 167) (ls' := [some (.inr (.inr 45)), some (.inl x1), some (.inl x2), some (.inl x3), some (.inr (.inr p4)), some (.inl x5), some (.inl x6), some (.inl x7), some (.inl x8), some (.inl (x9 + 1)), some (.inl x10), o11]) (st' := []) dX4_isSomeBroken_164 rfl ?_
    refine ev_go (tgt := 71) dX4_isSomeBroken_167 (by decide) ?_
    exact k
  · have k := k.2 h1
    refine ev_p (pc' := 89) (ls' := [some (.inr (.inr 45)), some (.inl x1), some (.inl x2), some (.inl x3), some (.inr (.inr p4)), some (.inl x5), some (.inl x6), some (.inl x7), some (.inl x8), some (.inl x9), some (.inl x10), o11]) (st' := [.inl x3]) dX4_isSomeBroken_88 rfl ?_
    refine ev_p (pc' := 91) (ls' := [some (.inr (.inr 45)), some (.inl x1), some (.inl x2), some (.inl x3), some (.inr (.inr p4)), some (.inl x5), some (.inl x6), some (.inl x7), some (.inl x8), some (.inl x9), some (.inl x10), o11]) (st' := [.inl x8, .inl x3]) dX4_isSomeBroken_89 rfl ?_
    refine ev_p (pc' := 93) (ls' := [some (.inr (.inr 45)), some (.inl x1), some (.inl x2), some (.inl x3), some (.inr (.inr p4)), some (.inl x5), some (.inl x6), some (.inl x7), some (.inl x8), some (.inl x9), some (.inl x10), o11]) (st' := [.inl x9, .inl x8, .inl x3]) dX4_isSomeBroken_91 rfl ?_
    refine ev_p (pc' := 95) (ls' := [some (.inr (.inr 45)), some (.inl x1), some (.inl x2), some (.inl x3), some (.inr (.inr p4)), some (.inl x5), some (.inl x6), some (.inl x7), some (.inl x8), some (.inl x9), some (.inl x10), o11]) (st' := [.inl x10, .inl x9, .inl x8, .inl x3]) dX4_isSomeBroken_93 rfl ?_
    refine ev_call (y := 51) (as := [.inl x3, .inl x8, .inl x9, .inl x10]) (r := []) (M' := mX4_instanceOf) (pc' := 98) dX4_isSomeBroken_95 rfl rfl ⟨rfl, rfl⟩ rfl k rfl (fun v τ1 hq => ?_)
    obtain ⟨r2, hv, k⟩ := hq
    rw [hv]
    change ev mX4_isSomeBroken 98 [some (.inr (.inr 45)), some (.inl x1), some (.inl x2), some (.inl x3), some (.inr (.inr p4)), some (.inl x5), some (.inl x6), some (.inl x7), some (.inl x8), some (.inl x9), some (.inl x10), o11] [.inl r2] τ1 _
    refine ev_p (pc' := 100) (ls' := [some (.inr (.inr 45)), some (.inl x1), some (.inl x2), some (.inl x3), some (.inr (.inr p4)), some (.inl x5), some (.inl x6), some (.inl x7), some (.inl x8), some (.inl x9), some (.inl x10), some (.inl r2)]) (st' := []) dX4_isSomeBroken_98 rfl ?_
    refine ev_p (pc' := 101) (ls' := [some (.inr (.inr 45)), some (.inl x1), some (.inl x2), some (.inl x3), some (.inr (.inr p4)), some (.inl x5), some (.inl x6), some (.inl x7), some (.inl x8), some (.inl x9), some (.inl x10), some (.inl r2)]) (st' := [.inr (.inr 45)]) dX4_isSomeBroken_100 rfl ?_
    refine ev_p (pc' := 103) (ls' := [some (.inr (.inr 45)), some (.inl x1), some (.inl x2), some (.inl x3), some (.inr (.inr p4)), some (.inl x5), some (.inl x6), some (.inl x7), some (.inl x8), some (.inl x9), some (.inl x10), some (.inl r2)]) (st' := [.inl r2, .inr (.inr 45)]) dX4_isSomeBroken_101 rfl ?_
    refine ev_p (pc' := 104) (ls' := [some (.inr (.inr 45)), some (.inl x1), some (.inl x2), some (.inl x3), some (.inr (.inr p4)), some (.inl x5), some (.inl x6), some (.inl x7), some (.inl x8), some (.inl x9), some (.inl x10), some (.inl r2)]) (st' := [.inl x1, .inl r2, .inr (.inr 45)]) dX4_isSomeBroken_103 rfl ?_
    refine ev_call (y := 52) (as := [.inr (.inr 45), .inl r2, .inl x1]) (r := []) (M' := mX4_needsLook) (pc' := 107) dX4_isSomeBroken_104 rfl rfl ⟨rfl, rfl⟩ rfl k rfl (fun v τ3 hq => ?_)
    obtain ⟨r4, hv, k⟩ := hq
    rw [hv]
    change ev mX4_isSomeBroken 107 [some (.inr (.inr 45)), some (.inl x1), some (.inl x2), some (.inl x3), some (.inr (.inr p4)), some (.inl x5), some (.inl x6), some (.inl x7), some (.inl x8), some (.inl x9), some (.inl x10), some (.inl r2)] [.inl r4] τ3 _
    refine ev_if_eq (tgt := 158) (pc' := 110) dX4_isSomeBroken_107 (by decide) rfl (fun h2 => ?_) (fun h2 => ?_)
    · have k := k.1 h2
      refine ev_p (pc' := 161) (ls' := [some (.inr (.inr 45)), some (.inl x1), some (.inl x2), some (.inl x3), some (.inr (.inr p4)), some (.inl x5), some (.inl x6), some (.inl x7), some (.inl x8), some (.inl x9), some (.inl (x10 + 1)), some (.inl r2)]) (st' := []) dX4_isSomeBroken_158 rfl ?_
      refine ev_go (tgt := 81) dX4_isSomeBroken_161 (by decide) ?_
      exact k
    · have k := k.2 h2
      refine ev_p (pc' := 111) (ls' := [some (.inr (.inr 45)), some (.inl x1), some (.inl x2), some (.inl x3), some (.inr (.inr p4)), some (.inl x5), some (.inl x6), some (.inl x7), some (.inl x8), some (.inl x9), some (.inl x10), some (.inl r2)]) (st' := [.inr (.inr 45)]) dX4_isSomeBroken_110 rfl ?_
      refine ev_getA (pc' := 114) (z := 42) dX4_isSomeBroken_111 rfl rfl rfl rfl ?_
      refine ev_p (pc' := 116) (ls' := [some (.inr (.inr 45)), some (.inl x1), some (.inl x2), some (.inl x3), some (.inr (.inr p4)), some (.inl x5), some (.inl x6), some (.inl x7), some (.inl x8), some (.inl x9), some (.inl x10), some (.inl r2)]) (st' := [.inr (.inr p4), .inr (.inr 42)]) dX4_isSomeBroken_114 rfl ?_
      refine ev_p (pc' := 118) (ls' := [some (.inr (.inr 45)), some (.inl x1), some (.inl x2), some (.inl x3), some (.inr (.inr p4)), some (.inl x5), some (.inl x6), some (.inl x7), some (.inl x8), some (.inl x9), some (.inl x10), some (.inl r2)]) (st' := [.inl x8, .inr (.inr p4), .inr (.inr 42)]) dX4_isSomeBroken_116 rfl ?_
      refine ev_p (pc' := 120) (ls' := [some (.inr (.inr 45)), some (.inl x1), some (.inl x2), some (.inl x3), some (.inr (.inr p4)), some (.inl x5), some (.inl x6), some (.inl x7), some (.inl x8), some (.inl x9), some (.inl x10), some (.inl r2)]) (st' := [.inl x9, .inl x8, .inr (.inr p4), .inr (.inr 42)]) dX4_isSomeBroken_118 rfl ?_
      refine ev_p (pc' := 122) (ls' := [some (.inr (.inr 45)), some (.inl x1), some (.inl x2), some (.inl x3), some (.inr (.inr p4)), some (.inl x5), some (.inl x6), some (.inl x7), some (.inl x8), some (.inl x9), some (.inl x10), some (.inl r2)]) (st' := [.inl x10, .inl x9, .inl x8, .inr (.inr p4), .inr (.inr 42)]) dX4_isSomeBroken_120 rfl ?_
      refine ev_call (y := 53) (as := [.inr (.inr 42), .inr (.inr p4), .inl x8, .inl x9, .inl x10]) (r := []) (M' := mX3_isBroken) (pc' := 125) dX4_isSomeBroken_122 rfl rfl ⟨rfl, rfl⟩ rfl k rfl (fun v τ5 hq => ?_)
      obtain ⟨r6, hv, k⟩ := hq
      rw [hv]
      change ev mX4_isSomeBroken 125 [some (.inr (.inr 45)), some (.inl x1), some (.inl x2), some (.inl x3), some (.inr (.inr p4)), some (.inl x5), some (.inl x6), some (.inl x7), some (.inl x8), some (.inl x9), some (.inl x10), some (.inl r2)] [.inl r6] τ5 _
      refine ev_if_eq (tgt := 130) (pc' := 128) dX4_isSomeBroken_125 (by decide) rfl (fun h3 => ?_) (fun h3 => ?_)
      · have k := k.1 h3
        refine ev_p (pc' := 131) (ls' := [some (.inr (.inr 45)), some (.inl x1), some (.inl x2), some (.inl x3), some (.inr (.inr p4)), some (.inl x5), some (.inl x6), some (.inl x7), some (.inl x8), some (.inl x9), some (.inl x10), some (.inl r2)]) (st' := [.inr (.inr 45)]) dX4_isSomeBroken_130 rfl ?_
        refine ev_getA (pc' := 134) (z := 46) dX4_isSomeBroken_131 rfl rfl rfl rfl ?_
        refine ev_p (pc' := 136) (ls' := [some (.inr (.inr 45)), some (.inl x1), some (.inl x2), some (.inl x3), some (.inr (.inr p4)), some (.inl x5), some (.inl x6), some (.inl x7), some (.inl x8), some (.inl x9), some (.inl x10), some (.inl r2)]) (st' := [.inl r2, .inr (.inr 46)]) dX4_isSomeBroken_134 rfl ?_
        refine ev_p (pc' := 137) (ls' := [some (.inr (.inr 45)), some (.inl x1), some (.inl x2), some (.inl x3), some (.inr (.inr p4)), some (.inl x5), some (.inl x6), some (.inl x7), some (.inl x8), some (.inl x9), some (.inl x10), some (.inl r2)]) (st' := [.inr (.inr 45), .inl r2, .inr (.inr 46)]) dX4_isSomeBroken_136 rfl ?_
        refine ev_getA (pc' := 140) (z := 42) dX4_isSomeBroken_137 rfl rfl rfl rfl ?_
        refine ev_call (y := 61) (as := [.inr (.inr 42)]) (r := [.inl r2, .inr (.inr 46)]) (M' := mX3_greatestRead) (pc' := 143) dX4_isSomeBroken_140 rfl rfl ⟨rfl, rfl⟩ rfl k rfl (fun v τ7 hq => ?_)
        obtain ⟨r8, hv, k⟩ := hq
        rw [hv]
        change ev mX4_isSomeBroken 143 [some (.inr (.inr 45)), some (.inl x1), some (.inl x2), some (.inl x3), some (.inr (.inr p4)), some (.inl x5), some (.inl x6), some (.inl x7), some (.inl x8), some (.inl x9), some (.inl x10), some (.inl r2)] [.inl r8, .inl r2, .inr (.inr 46)] τ7 _
        refine ev_stor (pc' := 144) (z := r8) rfl dX4_isSomeBroken_143 rfl rfl k.1 rfl rfl ?_
        have k := k.2
        refine ev_p (pc' := 145) (ls' := [some (.inr (.inr 45)), some (.inl x1), some (.inl x2), some (.inl x3), some (.inr (.inr p4)), some (.inl x5), some (.inl x6), some (.inl x7), some (.inl x8), some (.inl x9), some (.inl x10), some (.inl r2)]) (st' := [.inr (.inr 45)]) dX4_isSomeBroken_144 rfl ?_
        refine ev_getA (pc' := 148) (z := 47) dX4_isSomeBroken_145 rfl rfl rfl rfl ?_
        refine ev_p (pc' := 150) (ls' := [some (.inr (.inr 45)), some (.inl x1), some (.inl x2), some (.inl x3), some (.inr (.inr p4)), some (.inl x5), some (.inl x6), some (.inl x7), some (.inl x8), some (.inl x9), some (.inl x10), some (.inl r2)]) (st' := [.inl r2, .inr (.inr 47)]) dX4_isSomeBroken_148 rfl ?_
        refine ev_p (pc' := 151) (ls' := [some (.inr (.inr 45)), some (.inl x1), some (.inl x2), some (.inl x3), some (.inr (.inr p4)), some (.inl x5), some (.inl x6), some (.inl x7), some (.inl x8), some (.inl x9), some (.inl x10), some (.inl r2)]) (st' := [.inr (.inr 45), .inl r2, .inr (.inr 47)]) dX4_isSomeBroken_150 rfl ?_
        refine ev_getA (pc' := 154) (z := 42) dX4_isSomeBroken_151 rfl rfl rfl rfl ?_
        refine ev_call (y := 62) (as := [.inr (.inr 42)]) (r := [.inl r2, .inr (.inr 47)]) (M' := mX3_missing) (pc' := 157) dX4_isSomeBroken_154 rfl rfl ⟨rfl, rfl⟩ rfl k rfl (fun v τ9 hq => ?_)
        obtain ⟨r10, hv, k⟩ := hq
        rw [hv]
        change ev mX4_isSomeBroken 157 [some (.inr (.inr 45)), some (.inl x1), some (.inl x2), some (.inl x3), some (.inr (.inr p4)), some (.inl x5), some (.inl x6), some (.inl x7), some (.inl x8), some (.inl x9), some (.inl x10), some (.inl r2)] [.inl r10, .inl r2, .inr (.inr 47)] τ9 _
        refine ev_stor (pc' := 158) (z := r10) rfl dX4_isSomeBroken_157 rfl rfl k.1 rfl rfl ?_
        have k := k.2
        refine ev_p (pc' := 161) (ls' := [some (.inr (.inr 45)), some (.inl x1), some (.inl x2), some (.inl x3), some (.inr (.inr p4)), some (.inl x5), some (.inl x6), some (.inl x7), some (.inl x8), some (.inl x9), some (.inl (x10 + 1)), some (.inl r2)]) (st' := []) dX4_isSomeBroken_158 rfl ?_
        refine ev_go (tgt := 81) dX4_isSomeBroken_161 (by decide) ?_
        exact k
      · have k := k.2 h3
        refine ev_cst (v := 1) (pc' := 129) dX4_isSomeBroken_128 (by decide) rfl ?_
        exact ev_retZ dX4_isSomeBroken_129 rfl rfl k
set_option maxRecDepth 20000 in
theorem s_X4_instanceOf_0 {σ : ab_M} {Q : Option ab_V → ab_M → Prop} {x0 : Int32} {x1 : Int32} {x2 : Int32} {x3 : Int32}
    (k : Q (some (.inl ((((((x0 * 4) + x1) * 4) + x2) * 4) + x3))) σ) :
    ev mX4_instanceOf 0 [some (.inl x0), some (.inl x1), some (.inl x2), some (.inl x3)] [] σ Q := by
  refine ev_p (pc' := 1) (ls' := [some (.inl x0), some (.inl x1), some (.inl x2), some (.inl x3)]) (st' := [.inl x0]) dX4_instanceOf_0 rfl ?_
  refine ev_cst (v := 4) (pc' := 2) dX4_instanceOf_1 (by decide) rfl ?_
  refine ev_p (pc' := 3) (ls' := [some (.inl x0), some (.inl x1), some (.inl x2), some (.inl x3)]) (st' := [.inl (x0 * 4)]) dX4_instanceOf_2 rfl ?_
  refine ev_p (pc' := 4) (ls' := [some (.inl x0), some (.inl x1), some (.inl x2), some (.inl x3)]) (st' := [.inl x1, .inl (x0 * 4)]) dX4_instanceOf_3 rfl ?_
  refine ev_p (pc' := 5) (ls' := [some (.inl x0), some (.inl x1), some (.inl x2), some (.inl x3)]) (st' := [.inl ((x0 * 4) + x1)]) dX4_instanceOf_4 rfl ?_
  refine ev_cst (v := 4) (pc' := 6) dX4_instanceOf_5 (by decide) rfl ?_
  refine ev_p (pc' := 7) (ls' := [some (.inl x0), some (.inl x1), some (.inl x2), some (.inl x3)]) (st' := [.inl (((x0 * 4) + x1) * 4)]) dX4_instanceOf_6 rfl ?_
  refine ev_p (pc' := 8) (ls' := [some (.inl x0), some (.inl x1), some (.inl x2), some (.inl x3)]) (st' := [.inl x2, .inl (((x0 * 4) + x1) * 4)]) dX4_instanceOf_7 rfl ?_
  refine ev_p (pc' := 9) (ls' := [some (.inl x0), some (.inl x1), some (.inl x2), some (.inl x3)]) (st' := [.inl ((((x0 * 4) + x1) * 4) + x2)]) dX4_instanceOf_8 rfl ?_
  refine ev_cst (v := 4) (pc' := 10) dX4_instanceOf_9 (by decide) rfl ?_
  refine ev_p (pc' := 11) (ls' := [some (.inl x0), some (.inl x1), some (.inl x2), some (.inl x3)]) (st' := [.inl (((((x0 * 4) + x1) * 4) + x2) * 4)]) dX4_instanceOf_10 rfl ?_
  refine ev_p (pc' := 12) (ls' := [some (.inl x0), some (.inl x1), some (.inl x2), some (.inl x3)]) (st' := [.inl x3, .inl (((((x0 * 4) + x1) * 4) + x2) * 4)]) dX4_instanceOf_11 rfl ?_
  refine ev_p (pc' := 13) (ls' := [some (.inl x0), some (.inl x1), some (.inl x2), some (.inl x3)]) (st' := [.inl ((((((x0 * 4) + x1) * 4) + x2) * 4) + x3)]) dX4_instanceOf_12 rfl ?_
  exact ev_ret dX4_instanceOf_13 rfl k
set_option maxRecDepth 20000 in
theorem s_X4_needsLook_0 {σ : ab_M} {Q : Option ab_V → ab_M → Prop} {x1 : Int32} {x2 : Int32}
    (k : ab_in x1 512 = true ∧ ((x2 ≤ (σ 46 x1.toNatClampNeg) → Q (some (.inl 1)) σ) ∧ (¬ x2 ≤ (σ 46 x1.toNatClampNeg) → ab_in x1 512 = true ∧ ((x2 < (σ 47 x1.toNatClampNeg) → Q (some (.inl 0)) σ) ∧ (¬ x2 < (σ 47 x1.toNatClampNeg) → Q (some (.inl 1)) σ))))) :
    ev mX4_needsLook 0 [some (.inr (.inr 45)), some (.inl x1), some (.inl x2)] [] σ Q := by
  refine ev_p (pc' := 1) (ls' := [some (.inr (.inr 45)), some (.inl x1), some (.inl x2)]) (st' := [.inr (.inr 45)]) dX4_needsLook_0 rfl ?_
  refine ev_getA (pc' := 4) (z := 46) dX4_needsLook_1 rfl rfl rfl rfl ?_
  refine ev_p (pc' := 5) (ls' := [some (.inr (.inr 45)), some (.inl x1), some (.inl x2)]) (st' := [.inl x1, .inr (.inr 46)]) dX4_needsLook_4 rfl ?_
  refine ev_load (pc' := 6) rfl dX4_needsLook_5 rfl rfl k.1 rfl ?_
  have k := k.2
  refine ev_p (pc' := 7) (ls' := [some (.inr (.inr 45)), some (.inl x1), some (.inl x2)]) (st' := [.inl x2, .inl (σ 46 x1.toNatClampNeg)]) dX4_needsLook_6 rfl ?_
  refine ev_ic_ge (tgt := 20) (pc' := 10) dX4_needsLook_7 (by decide) rfl (fun h1 => ?_) (fun h1 => ?_)
  · have k := k.1 h1
    refine ev_cst (v := 1) (pc' := 21) dX4_needsLook_20 (by decide) rfl ?_
    refine ev_go (tgt := 25) dX4_needsLook_21 (by decide) ?_
    exact ev_retZ dX4_needsLook_25 rfl rfl k
  · have k := k.2 h1
    refine ev_p (pc' := 11) (ls' := [some (.inr (.inr 45)), some (.inl x1), some (.inl x2)]) (st' := [.inr (.inr 45)]) dX4_needsLook_10 rfl ?_
    refine ev_getA (pc' := 14) (z := 47) dX4_needsLook_11 rfl rfl rfl rfl ?_
    refine ev_p (pc' := 15) (ls' := [some (.inr (.inr 45)), some (.inl x1), some (.inl x2)]) (st' := [.inl x1, .inr (.inr 47)]) dX4_needsLook_14 rfl ?_
    refine ev_load (pc' := 16) rfl dX4_needsLook_15 rfl rfl k.1 rfl ?_
    have k := k.2
    refine ev_p (pc' := 17) (ls' := [some (.inr (.inr 45)), some (.inl x1), some (.inl x2)]) (st' := [.inl x2, .inl (σ 47 x1.toNatClampNeg)]) dX4_needsLook_16 rfl ?_
    refine ev_ic_gt (tgt := 24) (pc' := 20) dX4_needsLook_17 (by decide) rfl (fun h2 => ?_) (fun h2 => ?_)
    · have k := k.1 h2
      refine ev_cst (v := 0) (pc' := 25) dX4_needsLook_24 (by decide) rfl ?_
      exact ev_retZ dX4_needsLook_25 rfl rfl k
    · have k := k.2 h2
      refine ev_cst (v := 1) (pc' := 21) dX4_needsLook_20 (by decide) rfl ?_
      refine ev_go (tgt := 25) dX4_needsLook_21 (by decide) ?_
      exact ev_retZ dX4_needsLook_25 rfl rfl k
set_option maxRecDepth 20000 in
theorem s_X4_fill_0 {σ : ab_M} {Q : Option ab_V → ab_M → Prop} {x1 : Int32}
    (k : ev mX4_fill 4 [some (.inr (.inr 45)), some (.inl x1), some (.inl x1), some (.inl 0), none] [] σ Q) :
    ev mX4_fill 0 [some (.inr (.inr 45)), some (.inl x1), none, none, none] [] σ Q := by
  refine ev_p (pc' := 1) (ls' := [some (.inr (.inr 45)), some (.inl x1), none, none, none]) (st' := [.inl x1]) dX4_fill_0 rfl ?_
  refine ev_p (pc' := 2) (ls' := [some (.inr (.inr 45)), some (.inl x1), some (.inl x1), none, none]) (st' := []) dX4_fill_1 rfl ?_
  refine ev_cst (v := 0) (pc' := 3) dX4_fill_2 (by decide) rfl ?_
  refine ev_p (pc' := 4) (ls' := [some (.inr (.inr 45)), some (.inl x1), some (.inl x1), some (.inl 0), none]) (st' := []) dX4_fill_3 rfl ?_
  exact k
set_option maxRecDepth 20000 in
theorem s_X4_fill_4 {σ : ab_M} {Q : Option ab_V → ab_M → Prop} {x1 : Int32} {x2 : Int32} {x3 : Int32} {o4 : Option ab_V}
    (k : ((1000000 ≤ x3 → Q (some (.inl (-4))) σ) ∧ (¬ 1000000 ≤ x3 → ((0 ≤ x2 → evm mX6_count [.inr (.inr 37)] σ (fun v τ1 => ∃ r2 : Int32, v = some (.inl r2) ∧ ((x2 < r2 → evm mX6_valueAt [.inr (.inr 37), .inl x2] τ1 (fun v τ3 => ∃ r4 : Int32, v = some (.inl r4) ∧ evm mX4_limitAt [.inr (.inr 45), .inl x2] τ3 (fun v τ5 => ∃ r6 : Int32, v = some (.inl r6) ∧ (((r4 + 1) ≤ r6 → (((τ5 45 6) < 3000 → evm mX4_put [.inr (.inr 45), .inl x2, .inl (r4 + 1)] (ab_upd τ5 45 6 ((τ5 45 6) + 1)) (fun v τ7 => v = none ∧ evm mX4_isSomeBroken [.inr (.inr 45), .inl x2] τ7 (fun v τ8 => ∃ r9 : Int32, v = some (.inl r9) ∧ ((r9 = 0 → ev mX4_fill 4 [some (.inr (.inr 45)), some (.inl x1), some (.inl (x2 + 1)), some (.inl (x3 + 1)), some (.inl (r4 + 1))] [] τ8 Q) ∧ (¬ r9 = 0 → ev mX4_fill 4 [some (.inr (.inr 45)), some (.inl x1), some (.inl x2), some (.inl (x3 + 1)), some (.inl (r4 + 1))] [] τ8 Q))))) ∧ (¬ (τ5 45 6) < 3000 → Q (some (.inl (-4))) τ5))) ∧ (¬ (r4 + 1) ≤ r6 → evm mX6_putAt [.inr (.inr 37), .inl x2, .inl (-1)] τ5 (fun v τ7 => v = none ∧ ev mX4_fill 4 [some (.inr (.inr 45)), some (.inl x1), some (.inl (x2 + (-1))), some (.inl (x3 + 1)), some (.inl (r4 + 1))] [] τ7 Q)))))) ∧ (¬ x2 < r2 → Q (some (.inl 1)) τ1)))) ∧ (¬ 0 ≤ x2 → Q (some (.inl 0)) σ))))) :
    ev mX4_fill 4 [some (.inr (.inr 45)), some (.inl x1), some (.inl x2), some (.inl x3), o4] [] σ Q := by
  refine ev_p (pc' := 5) (ls' := [some (.inr (.inr 45)), some (.inl x1), some (.inl x2), some (.inl x3), o4]) (st' := [.inl x3]) dX4_fill_4 rfl ?_
  refine ev_p (pc' := 7) (ls' := [some (.inr (.inr 45)), some (.inl x1), some (.inl x2), some (.inl x3), o4]) (st' := [.inl 1000000, .inl x3]) dX4_fill_5 rfl ?_
  refine ev_ic_ge (tgt := 118) (pc' := 10) dX4_fill_7 (by decide) rfl (fun h1 => ?_) (fun h1 => ?_)
  · have k := k.1 h1
    refine ev_cst (v := (-4)) (pc' := 120) dX4_fill_118 (by decide) rfl ?_
    exact ev_ret dX4_fill_120 rfl k
  · have k := k.2 h1
    refine ev_p (pc' := 11) (ls' := [some (.inr (.inr 45)), some (.inl x1), some (.inl x2), some (.inl x3), o4]) (st' := [.inl x2]) dX4_fill_10 rfl ?_
    refine ev_if_ge (tgt := 16) (pc' := 14) dX4_fill_11 (by decide) rfl (fun h2 => ?_) (fun h2 => ?_)
    · have k := k.1 h2
      refine ev_p (pc' := 17) (ls' := [some (.inr (.inr 45)), some (.inl x1), some (.inl x2), some (.inl x3), o4]) (st' := [.inl x2]) dX4_fill_16 rfl ?_
      refine ev_p (pc' := 18) (ls' := [some (.inr (.inr 45)), some (.inl x1), some (.inl x2), some (.inl x3), o4]) (st' := [.inr (.inr 45), .inl x2]) dX4_fill_17 rfl ?_
      refine ev_getA (pc' := 21) (z := 37) dX4_fill_18 rfl rfl rfl rfl ?_
      refine ev_call (y := 64) (as := [.inr (.inr 37)]) (r := [.inl x2]) (M' := mX6_count) (pc' := 24) dX4_fill_21 rfl rfl ⟨rfl, rfl⟩ rfl k rfl (fun v τ1 hq => ?_)
      obtain ⟨r2, hv, k⟩ := hq
      rw [hv]
      change ev mX4_fill 24 [some (.inr (.inr 45)), some (.inl x1), some (.inl x2), some (.inl x3), o4] [.inl r2, .inl x2] τ1 _
      refine ev_ic_lt (tgt := 29) (pc' := 27) dX4_fill_24 (by decide) rfl (fun h3 => ?_) (fun h3 => ?_)
      · have k := k.1 h3
        refine ev_p (pc' := 30) (ls' := [some (.inr (.inr 45)), some (.inl x1), some (.inl x2), some (.inl x3), o4]) (st' := [.inr (.inr 45)]) dX4_fill_29 rfl ?_
        refine ev_getA (pc' := 33) (z := 37) dX4_fill_30 rfl rfl rfl rfl ?_
        refine ev_p (pc' := 34) (ls' := [some (.inr (.inr 45)), some (.inl x1), some (.inl x2), some (.inl x3), o4]) (st' := [.inl x2, .inr (.inr 37)]) dX4_fill_33 rfl ?_
        refine ev_call (y := 65) (as := [.inr (.inr 37), .inl x2]) (r := []) (M' := mX6_valueAt) (pc' := 37) dX4_fill_34 rfl rfl ⟨rfl, rfl⟩ rfl k rfl (fun v τ3 hq => ?_)
        obtain ⟨r4, hv, k⟩ := hq
        rw [hv]
        change ev mX4_fill 37 [some (.inr (.inr 45)), some (.inl x1), some (.inl x2), some (.inl x3), o4] [.inl r4] τ3 _
        refine ev_cst (v := 1) (pc' := 38) dX4_fill_37 (by decide) rfl ?_
        refine ev_p (pc' := 39) (ls' := [some (.inr (.inr 45)), some (.inl x1), some (.inl x2), some (.inl x3), o4]) (st' := [.inl (r4 + 1)]) dX4_fill_38 rfl ?_
        refine ev_p (pc' := 41) (ls' := [some (.inr (.inr 45)), some (.inl x1), some (.inl x2), some (.inl x3), some (.inl (r4 + 1))]) (st' := []) dX4_fill_39 rfl ?_
        refine ev_p (pc' := 43) (ls' := [some (.inr (.inr 45)), some (.inl x1), some (.inl x2), some (.inl x3), some (.inl (r4 + 1))]) (st' := [.inl (r4 + 1)]) dX4_fill_41 rfl ?_
        refine ev_p (pc' := 44) (ls' := [some (.inr (.inr 45)), some (.inl x1), some (.inl x2), some (.inl x3), some (.inl (r4 + 1))]) (st' := [.inr (.inr 45), .inl (r4 + 1)]) dX4_fill_43 rfl ?_
        refine ev_p (pc' := 45) (ls' := [some (.inr (.inr 45)), some (.inl x1), some (.inl x2), some (.inl x3), some (.inl (r4 + 1))]) (st' := [.inl x2, .inr (.inr 45), .inl (r4 + 1)]) dX4_fill_44 rfl ?_
        refine ev_call (y := 67) (as := [.inr (.inr 45), .inl x2]) (r := [.inl (r4 + 1)]) (M' := mX4_limitAt) (pc' := 48) dX4_fill_45 rfl rfl ⟨rfl, rfl⟩ rfl k rfl (fun v τ5 hq => ?_)
        obtain ⟨r6, hv, k⟩ := hq
        rw [hv]
        change ev mX4_fill 48 [some (.inr (.inr 45)), some (.inl x1), some (.inl x2), some (.inl x3), some (.inl (r4 + 1))] [.inl r6, .inl (r4 + 1)] τ5 _
        refine ev_ic_le (tgt := 66) (pc' := 51) dX4_fill_48 (by decide) rfl (fun h4 => ?_) (fun h4 => ?_)
        · have k := k.1 h4
          refine ev_p (pc' := 67) (ls' := [some (.inr (.inr 45)), some (.inl x1), some (.inl x2), some (.inl x3), some (.inl (r4 + 1))]) (st' := [.inr (.inr 45)]) dX4_fill_66 rfl ?_
          refine ev_getI (pc' := 70) dX4_fill_67 rfl rfl rfl rfl ?_
          refine ev_cst (v := 3000) (pc' := 73) dX4_fill_70 (by decide) rfl ?_
          refine ev_ic_lt (tgt := 79) (pc' := 76) dX4_fill_73 (by decide) rfl (fun h5 => ?_) (fun h5 => ?_)
          · have k := k.1 h5
            refine ev_p (pc' := 80) (ls' := [some (.inr (.inr 45)), some (.inl x1), some (.inl x2), some (.inl x3), some (.inl (r4 + 1))]) (st' := [.inr (.inr 45)]) dX4_fill_79 rfl ?_
            refine ev_p (pc' := 81) (ls' := [some (.inr (.inr 45)), some (.inl x1), some (.inl x2), some (.inl x3), some (.inl (r4 + 1))]) (st' := [.inr (.inr 45), .inr (.inr 45)]) dX4_fill_80 rfl ?_
            refine ev_getI (pc' := 84) dX4_fill_81 rfl rfl rfl rfl ?_
            refine ev_cst (v := 1) (pc' := 85) dX4_fill_84 (by decide) rfl ?_
            refine ev_p (pc' := 86) (ls' := [some (.inr (.inr 45)), some (.inl x1), some (.inl x2), some (.inl x3), some (.inl (r4 + 1))]) (st' := [.inl ((τ5 45 6) + 1), .inr (.inr 45)]) dX4_fill_85 rfl ?_
            refine ev_putI (pc' := 89) dX4_fill_86 rfl rfl rfl rfl rfl rfl ?_
            refine ev_p (pc' := 90) (ls' := [some (.inr (.inr 45)), some (.inl x1), some (.inl x2), some (.inl x3), some (.inl (r4 + 1))]) (st' := [.inr (.inr 45)]) dX4_fill_89 rfl ?_
            refine ev_p (pc' := 91) (ls' := [some (.inr (.inr 45)), some (.inl x1), some (.inl x2), some (.inl x3), some (.inl (r4 + 1))]) (st' := [.inl x2, .inr (.inr 45)]) dX4_fill_90 rfl ?_
            refine ev_p (pc' := 93) (ls' := [some (.inr (.inr 45)), some (.inl x1), some (.inl x2), some (.inl x3), some (.inl (r4 + 1))]) (st' := [.inl (r4 + 1), .inl x2, .inr (.inr 45)]) dX4_fill_91 rfl ?_
            refine ev_call (y := 71) (as := [.inr (.inr 45), .inl x2, .inl (r4 + 1)]) (r := []) (M' := mX4_put) (pc' := 96) dX4_fill_93 rfl rfl ⟨rfl, rfl⟩ rfl k rfl (fun v τ7 hq => ?_)
            obtain ⟨hv, k⟩ := hq
            rw [hv]
            change ev mX4_fill 96 [some (.inr (.inr 45)), some (.inl x1), some (.inl x2), some (.inl x3), some (.inl (r4 + 1))] [] τ7 _
            refine ev_p (pc' := 97) (ls' := [some (.inr (.inr 45)), some (.inl x1), some (.inl x2), some (.inl x3), some (.inl (r4 + 1))]) (st' := [.inr (.inr 45)]) dX4_fill_96 rfl ?_
            refine ev_p (pc' := 98) (ls' := [some (.inr (.inr 45)), some (.inl x1), some (.inl x2), some (.inl x3), some (.inl (r4 + 1))]) (st' := [.inl x2, .inr (.inr 45)]) dX4_fill_97 rfl ?_
            refine ev_call (y := 48) (as := [.inr (.inr 45), .inl x2]) (r := []) (M' := mX4_isSomeBroken) (pc' := 101) dX4_fill_98 rfl rfl ⟨rfl, rfl⟩ rfl k rfl (fun v τ8 hq => ?_)
            obtain ⟨r9, hv, k⟩ := hq
            rw [hv]
            change ev mX4_fill 101 [some (.inr (.inr 45)), some (.inl x1), some (.inl x2), some (.inl x3), some (.inl (r4 + 1))] [.inl r9] τ8 _
            refine ev_if_eq (tgt := 108) (pc' := 104) dX4_fill_101 (by decide) rfl (fun h6 => ?_) (fun h6 => ?_)
            · have k := k.1 h6
              refine ev_p (pc' := 109) (ls' := [some (.inr (.inr 45)), some (.inl x1), some (.inl x2), some (.inl x3), some (.inl (r4 + 1))]) (st' := [.inl x2]) dX4_fill_108 rfl ?_
              refine ev_cst (v := 1) (pc' := 110) dX4_fill_109 (by decide) rfl ?_
              refine ev_p (pc' := 111) (ls' := [some (.inr (.inr 45)), some (.inl x1), some (.inl x2), some (.inl x3), some (.inl (r4 + 1))]) (st' := [.inl (x2 + 1)]) dX4_fill_110 rfl ?_
              refine ev_p (pc' := 112) (ls' := [some (.inr (.inr 45)), some (.inl x1), some (.inl (x2 + 1)), some (.inl x3), some (.inl (r4 + 1))]) (st' := []) dX4_fill_111 rfl ?_
              refine ev_p (pc' := 115) (ls' := [some (.inr (.inr 45)), some (.inl x1), some (.inl (x2 + 1)), some (.inl (x3 + 1)), some (.inl (r4 + 1))]) (st' := []) dX4_fill_112 rfl ?_
              refine ev_go (tgt := 4) dX4_fill_115 (by decide) ?_
              exact k
            · have k := k.2 h6
              refine ev_p (pc' := 105) (ls' := [some (.inr (.inr 45)), some (.inl x1), some (.inl x2), some (.inl x3), some (.inl (r4 + 1))]) (st' := [.inl x2]) dX4_fill_104 rfl ?_
              refine ev_go (tgt := 111) dX4_fill_105 (by decide) ?_
              refine ev_p (pc' := 112) (ls' := [some (.inr (.inr 45)), some (.inl x1), some (.inl x2), some (.inl x3), some (.inl (r4 + 1))]) (st' := []) dX4_fill_111 rfl ?_
              refine ev_p (pc' := 115) (ls' := [some (.inr (.inr 45)), some (.inl x1), some (.inl x2), some (.inl (x3 + 1)), some (.inl (r4 + 1))]) (st' := []) dX4_fill_112 rfl ?_
              refine ev_go (tgt := 4) dX4_fill_115 (by decide) ?_
              exact k
          · have k := k.2 h5
            refine ev_cst (v := (-4)) (pc' := 78) dX4_fill_76 (by decide) rfl ?_
            exact ev_ret dX4_fill_78 rfl k
        · have k := k.2 h4
          refine ev_p (pc' := 52) (ls' := [some (.inr (.inr 45)), some (.inl x1), some (.inl x2), some (.inl x3), some (.inl (r4 + 1))]) (st' := [.inr (.inr 45)]) dX4_fill_51 rfl ?_
          refine ev_getA (pc' := 55) (z := 37) dX4_fill_52 rfl rfl rfl rfl ?_
          refine ev_p (pc' := 56) (ls' := [some (.inr (.inr 45)), some (.inl x1), some (.inl x2), some (.inl x3), some (.inl (r4 + 1))]) (st' := [.inl x2, .inr (.inr 37)]) dX4_fill_55 rfl ?_
          refine ev_cst (v := (-1)) (pc' := 57) dX4_fill_56 (by decide) rfl ?_
          refine ev_call (y := 70) (as := [.inr (.inr 37), .inl x2, .inl (-1)]) (r := []) (M' := mX6_putAt) (pc' := 60) dX4_fill_57 rfl rfl ⟨rfl, rfl⟩ rfl k rfl (fun v τ7 hq => ?_)
          obtain ⟨hv, k⟩ := hq
          rw [hv]
          change ev mX4_fill 60 [some (.inr (.inr 45)), some (.inl x1), some (.inl x2), some (.inl x3), some (.inl (r4 + 1))] [] τ7 _
          refine ev_p (pc' := 63) (ls' := [some (.inr (.inr 45)), some (.inl x1), some (.inl (x2 + (-1))), some (.inl x3), some (.inl (r4 + 1))]) (st' := []) dX4_fill_60 rfl ?_
          refine ev_go (tgt := 112) dX4_fill_63 (by decide) ?_
          refine ev_p (pc' := 115) (ls' := [some (.inr (.inr 45)), some (.inl x1), some (.inl (x2 + (-1))), some (.inl (x3 + 1)), some (.inl (r4 + 1))]) (st' := []) dX4_fill_112 rfl ?_
          refine ev_go (tgt := 4) dX4_fill_115 (by decide) ?_
          exact k
      · have k := k.2 h3
        refine ev_cst (v := 1) (pc' := 28) dX4_fill_27 (by decide) rfl ?_
        exact ev_ret dX4_fill_28 rfl k
    · have k := k.2 h2
      refine ev_cst (v := 0) (pc' := 15) dX4_fill_14 (by decide) rfl ?_
      exact ev_ret dX4_fill_15 rfl k
set_option maxRecDepth 20000 in
theorem s_X4_limitAt_0 {σ : ab_M} {Q : Option ab_V → ab_M → Prop} {x1 : Int32}
    (k : evm mX6_isFunctionAt [.inr (.inr 37), .inl x1] σ (fun v τ1 => ∃ r2 : Int32, v = some (.inl r2) ∧ ((r2 = 0 → Q (some (.inl 1)) τ1) ∧ (¬ r2 = 0 → evm mX6_greatestArgumentAt [.inr (.inr 37), .inl x1] τ1 (fun v τ3 => ∃ r4 : Int32, v = some (.inl r4) ∧ ab_in x1 129 = true ∧ evm mX6_sizeLaid [.inr (.inr 37)] τ3 (fun v τ5 => ∃ r6 : Int32, v = some (.inl r6) ∧ Q (some (.inl (ab_mm false ((ab_mm true r4 (τ3 48 x1.toNatClampNeg)) + 1) (r6 - 1)))) τ5)))))) :
    ev mX4_limitAt 0 [some (.inr (.inr 45)), some (.inl x1), none] [] σ Q := by
  refine ev_p (pc' := 1) (ls' := [some (.inr (.inr 45)), some (.inl x1), none]) (st' := [.inr (.inr 45)]) dX4_limitAt_0 rfl ?_
  refine ev_getA (pc' := 4) (z := 37) dX4_limitAt_1 rfl rfl rfl rfl ?_
  refine ev_p (pc' := 5) (ls' := [some (.inr (.inr 45)), some (.inl x1), none]) (st' := [.inl x1, .inr (.inr 37)]) dX4_limitAt_4 rfl ?_
  refine ev_call (y := 68) (as := [.inr (.inr 37), .inl x1]) (r := []) (M' := mX6_isFunctionAt) (pc' := 8) dX4_limitAt_5 rfl rfl ⟨rfl, rfl⟩ rfl k rfl (fun v τ1 hq => ?_)
  obtain ⟨r2, hv, k⟩ := hq
  rw [hv]
  change ev mX4_limitAt 8 [some (.inr (.inr 45)), some (.inl x1), none] [.inl r2] τ1 _
  refine ev_if_ne (tgt := 13) (pc' := 11) dX4_limitAt_8 (by decide) rfl (fun h1 => ?_) (fun h1 => ?_)
  · have k := k.2 h1
    refine ev_p (pc' := 14) (ls' := [some (.inr (.inr 45)), some (.inl x1), none]) (st' := [.inr (.inr 45)]) dX4_limitAt_13 rfl ?_
    refine ev_getA (pc' := 17) (z := 37) dX4_limitAt_14 rfl rfl rfl rfl ?_
    refine ev_p (pc' := 18) (ls' := [some (.inr (.inr 45)), some (.inl x1), none]) (st' := [.inl x1, .inr (.inr 37)]) dX4_limitAt_17 rfl ?_
    refine ev_call (y := 69) (as := [.inr (.inr 37), .inl x1]) (r := []) (M' := mX6_greatestArgumentAt) (pc' := 21) dX4_limitAt_18 rfl rfl ⟨rfl, rfl⟩ rfl k rfl (fun v τ3 hq => ?_)
    obtain ⟨r4, hv, k⟩ := hq
    rw [hv]
    change ev mX4_limitAt 21 [some (.inr (.inr 45)), some (.inl x1), none] [.inl r4] τ3 _
    refine ev_p (pc' := 22) (ls' := [some (.inr (.inr 45)), some (.inl x1), none]) (st' := [.inr (.inr 45), .inl r4]) dX4_limitAt_21 rfl ?_
    refine ev_getA (pc' := 25) (z := 48) dX4_limitAt_22 rfl rfl rfl rfl ?_
    refine ev_p (pc' := 26) (ls' := [some (.inr (.inr 45)), some (.inl x1), none]) (st' := [.inl x1, .inr (.inr 48), .inl r4]) dX4_limitAt_25 rfl ?_
    refine ev_load (pc' := 27) rfl dX4_limitAt_26 rfl rfl k.1 rfl ?_
    have k := k.2
    refine ev_mm (b := true) (pc' := 30) dX4_limitAt_27 rfl rfl rfl rfl ?_
    refine ev_p (pc' := 31) (ls' := [some (.inr (.inr 45)), some (.inl x1), some (.inl (ab_mm true r4 (τ3 48 x1.toNatClampNeg)))]) (st' := []) dX4_limitAt_30 rfl ?_
    refine ev_p (pc' := 32) (ls' := [some (.inr (.inr 45)), some (.inl x1), some (.inl (ab_mm true r4 (τ3 48 x1.toNatClampNeg)))]) (st' := [.inl (ab_mm true r4 (τ3 48 x1.toNatClampNeg))]) dX4_limitAt_31 rfl ?_
    refine ev_cst (v := 1) (pc' := 33) dX4_limitAt_32 (by decide) rfl ?_
    refine ev_p (pc' := 34) (ls' := [some (.inr (.inr 45)), some (.inl x1), some (.inl (ab_mm true r4 (τ3 48 x1.toNatClampNeg)))]) (st' := [.inl ((ab_mm true r4 (τ3 48 x1.toNatClampNeg)) + 1)]) dX4_limitAt_33 rfl ?_
    refine ev_p (pc' := 35) (ls' := [some (.inr (.inr 45)), some (.inl x1), some (.inl (ab_mm true r4 (τ3 48 x1.toNatClampNeg)))]) (st' := [.inr (.inr 45), .inl ((ab_mm true r4 (τ3 48 x1.toNatClampNeg)) + 1)]) dX4_limitAt_34 rfl ?_
    refine ev_getA (pc' := 38) (z := 37) dX4_limitAt_35 rfl rfl rfl rfl ?_
    refine ev_call (y := 49) (as := [.inr (.inr 37)]) (r := [.inl ((ab_mm true r4 (τ3 48 x1.toNatClampNeg)) + 1)]) (M' := mX6_sizeLaid) (pc' := 41) dX4_limitAt_38 rfl rfl ⟨rfl, rfl⟩ rfl k rfl (fun v τ5 hq => ?_)
    obtain ⟨r6, hv, k⟩ := hq
    rw [hv]
    change ev mX4_limitAt 41 [some (.inr (.inr 45)), some (.inl x1), some (.inl (ab_mm true r4 (τ3 48 x1.toNatClampNeg)))] [.inl r6, .inl ((ab_mm true r4 (τ3 48 x1.toNatClampNeg)) + 1)] τ5 _
    refine ev_cst (v := 1) (pc' := 42) dX4_limitAt_41 (by decide) rfl ?_
    refine ev_p (pc' := 43) (ls' := [some (.inr (.inr 45)), some (.inl x1), some (.inl (ab_mm true r4 (τ3 48 x1.toNatClampNeg)))]) (st' := [.inl (r6 - 1), .inl ((ab_mm true r4 (τ3 48 x1.toNatClampNeg)) + 1)]) dX4_limitAt_42 rfl ?_
    refine ev_mm (b := false) (pc' := 46) dX4_limitAt_43 rfl rfl rfl rfl ?_
    exact ev_ret dX4_limitAt_46 rfl k
  · have k := k.1 h1
    refine ev_cst (v := 1) (pc' := 12) dX4_limitAt_11 (by decide) rfl ?_
    exact ev_ret dX4_limitAt_12 rfl k
set_option maxRecDepth 20000 in
theorem s_X4_put_0 {σ : ab_M} {Q : Option ab_V → ab_M → Prop} {x1 : Int32} {x2 : Int32}
    (k : evm mX6_putAt [.inr (.inr 37), .inl x1, .inl x2] σ (fun v τ1 => v = none ∧ ab_in x1 129 = true ∧ evm mX6_isFunctionAt [.inr (.inr 37), .inl x1] τ1 (fun v τ2 => ∃ r3 : Int32, v = some (.inl r3) ∧ ((r3 = 0 → ab_in (x1 + 1) 129 = true ∧ Q none (ab_upd τ2 48 (x1 + 1).toNatClampNeg (τ1 48 x1.toNatClampNeg))) ∧ (¬ r3 = 0 → ab_in (x1 + 1) 129 = true ∧ Q none (ab_upd τ2 48 (x1 + 1).toNatClampNeg (ab_mm true (τ1 48 x1.toNatClampNeg) x2))))))) :
    ev mX4_put 0 [some (.inr (.inr 45)), some (.inl x1), some (.inl x2), none] [] σ Q := by
  refine ev_p (pc' := 1) (ls' := [some (.inr (.inr 45)), some (.inl x1), some (.inl x2), none]) (st' := [.inr (.inr 45)]) dX4_put_0 rfl ?_
  refine ev_getA (pc' := 4) (z := 37) dX4_put_1 rfl rfl rfl rfl ?_
  refine ev_p (pc' := 5) (ls' := [some (.inr (.inr 45)), some (.inl x1), some (.inl x2), none]) (st' := [.inl x1, .inr (.inr 37)]) dX4_put_4 rfl ?_
  refine ev_p (pc' := 6) (ls' := [some (.inr (.inr 45)), some (.inl x1), some (.inl x2), none]) (st' := [.inl x2, .inl x1, .inr (.inr 37)]) dX4_put_5 rfl ?_
  refine ev_call (y := 70) (as := [.inr (.inr 37), .inl x1, .inl x2]) (r := []) (M' := mX6_putAt) (pc' := 9) dX4_put_6 rfl rfl ⟨rfl, rfl⟩ rfl k rfl (fun v τ1 hq => ?_)
  obtain ⟨hv, k⟩ := hq
  rw [hv]
  change ev mX4_put 9 [some (.inr (.inr 45)), some (.inl x1), some (.inl x2), none] [] τ1 _
  refine ev_p (pc' := 10) (ls' := [some (.inr (.inr 45)), some (.inl x1), some (.inl x2), none]) (st' := [.inr (.inr 45)]) dX4_put_9 rfl ?_
  refine ev_getA (pc' := 13) (z := 48) dX4_put_10 rfl rfl rfl rfl ?_
  refine ev_p (pc' := 14) (ls' := [some (.inr (.inr 45)), some (.inl x1), some (.inl x2), none]) (st' := [.inl x1, .inr (.inr 48)]) dX4_put_13 rfl ?_
  refine ev_load (pc' := 15) rfl dX4_put_14 rfl rfl k.1 rfl ?_
  have k := k.2
  refine ev_p (pc' := 16) (ls' := [some (.inr (.inr 45)), some (.inl x1), some (.inl x2), some (.inl (τ1 48 x1.toNatClampNeg))]) (st' := []) dX4_put_15 rfl ?_
  refine ev_p (pc' := 17) (ls' := [some (.inr (.inr 45)), some (.inl x1), some (.inl x2), some (.inl (τ1 48 x1.toNatClampNeg))]) (st' := [.inr (.inr 45)]) dX4_put_16 rfl ?_
  refine ev_getA (pc' := 20) (z := 48) dX4_put_17 rfl rfl rfl rfl ?_
  refine ev_p (pc' := 21) (ls' := [some (.inr (.inr 45)), some (.inl x1), some (.inl x2), some (.inl (τ1 48 x1.toNatClampNeg))]) (st' := [.inl x1, .inr (.inr 48)]) dX4_put_20 rfl ?_
  refine ev_cst (v := 1) (pc' := 22) dX4_put_21 (by decide) rfl ?_
  refine ev_p (pc' := 23) (ls' := [some (.inr (.inr 45)), some (.inl x1), some (.inl x2), some (.inl (τ1 48 x1.toNatClampNeg))]) (st' := [.inl (x1 + 1), .inr (.inr 48)]) dX4_put_22 rfl ?_
  refine ev_p (pc' := 24) (ls' := [some (.inr (.inr 45)), some (.inl x1), some (.inl x2), some (.inl (τ1 48 x1.toNatClampNeg))]) (st' := [.inr (.inr 45), .inl (x1 + 1), .inr (.inr 48)]) dX4_put_23 rfl ?_
  refine ev_getA (pc' := 27) (z := 37) dX4_put_24 rfl rfl rfl rfl ?_
  refine ev_p (pc' := 28) (ls' := [some (.inr (.inr 45)), some (.inl x1), some (.inl x2), some (.inl (τ1 48 x1.toNatClampNeg))]) (st' := [.inl x1, .inr (.inr 37), .inl (x1 + 1), .inr (.inr 48)]) dX4_put_27 rfl ?_
  refine ev_call (y := 68) (as := [.inr (.inr 37), .inl x1]) (r := [.inl (x1 + 1), .inr (.inr 48)]) (M' := mX6_isFunctionAt) (pc' := 31) dX4_put_28 rfl rfl ⟨rfl, rfl⟩ rfl k rfl (fun v τ2 hq => ?_)
  obtain ⟨r3, hv, k⟩ := hq
  rw [hv]
  change ev mX4_put 31 [some (.inr (.inr 45)), some (.inl x1), some (.inl x2), some (.inl (τ1 48 x1.toNatClampNeg))] [.inl r3, .inl (x1 + 1), .inr (.inr 48)] τ2 _
  refine ev_if_eq (tgt := 42) (pc' := 34) dX4_put_31 (by decide) rfl (fun h1 => ?_) (fun h1 => ?_)
  · have k := k.1 h1
    refine ev_p (pc' := 43) (ls' := [some (.inr (.inr 45)), some (.inl x1), some (.inl x2), some (.inl (τ1 48 x1.toNatClampNeg))]) (st' := [.inl (τ1 48 x1.toNatClampNeg), .inl (x1 + 1), .inr (.inr 48)]) dX4_put_42 rfl ?_
    refine ev_stor (pc' := 44) (z := (τ1 48 x1.toNatClampNeg)) rfl dX4_put_43 rfl rfl k.1 rfl rfl ?_
    have k := k.2
    exact ev_ret dX4_put_44 rfl k
  · have k := k.2 h1
    refine ev_p (pc' := 35) (ls' := [some (.inr (.inr 45)), some (.inl x1), some (.inl x2), some (.inl (τ1 48 x1.toNatClampNeg))]) (st' := [.inl (τ1 48 x1.toNatClampNeg), .inl (x1 + 1), .inr (.inr 48)]) dX4_put_34 rfl ?_
    refine ev_p (pc' := 36) (ls' := [some (.inr (.inr 45)), some (.inl x1), some (.inl x2), some (.inl (τ1 48 x1.toNatClampNeg))]) (st' := [.inl x2, .inl (τ1 48 x1.toNatClampNeg), .inl (x1 + 1), .inr (.inr 48)]) dX4_put_35 rfl ?_
    refine ev_mm (b := true) (pc' := 39) dX4_put_36 rfl rfl rfl rfl ?_
    refine ev_go (tgt := 43) dX4_put_39 (by decide) ?_
    refine ev_stor (pc' := 44) (z := (ab_mm true (τ1 48 x1.toNatClampNeg) x2)) rfl dX4_put_43 rfl rfl k.1 rfl rfl ?_
    have k := k.2
    exact ev_ret dX4_put_44 rfl k
set_option maxRecDepth 20000 in
theorem s_X4_goOn_0 {σ : ab_M} {Q : Option ab_V → ab_M → Prop} 
    (k : evm mX6_count [.inr (.inr 37)] σ (fun v τ1 => ∃ r2 : Int32, v = some (.inl r2) ∧ evm mX4_fill [.inr (.inr 45), .inl (r2 - 1)] τ1 (fun v τ3 => ∃ r4 : Int32, v = some (.inl r4) ∧ Q (some (.inl r4)) τ3))) :
    ev mX4_goOn 0 [some (.inr (.inr 45))] [] σ Q := by
  refine ev_p (pc' := 1) (ls' := [some (.inr (.inr 45))]) (st' := [.inr (.inr 45)]) dX4_goOn_0 rfl ?_
  refine ev_p (pc' := 2) (ls' := [some (.inr (.inr 45))]) (st' := [.inr (.inr 45), .inr (.inr 45)]) dX4_goOn_1 rfl ?_
  refine ev_getA (pc' := 5) (z := 37) dX4_goOn_2 rfl rfl rfl rfl ?_
  refine ev_call (y := 64) (as := [.inr (.inr 37)]) (r := [.inr (.inr 45)]) (M' := mX6_count) (pc' := 8) dX4_goOn_5 rfl rfl ⟨rfl, rfl⟩ rfl k rfl (fun v τ1 hq => ?_)
  obtain ⟨r2, hv, k⟩ := hq
  rw [hv]
  change ev mX4_goOn 8 [some (.inr (.inr 45))] [.inl r2, .inr (.inr 45)] τ1 _
  refine ev_cst (v := 1) (pc' := 9) dX4_goOn_8 (by decide) rfl ?_
  refine ev_p (pc' := 10) (ls' := [some (.inr (.inr 45))]) (st' := [.inl (r2 - 1), .inr (.inr 45)]) dX4_goOn_9 rfl ?_
  refine ev_call (y := 63) (as := [.inr (.inr 45), .inl (r2 - 1)]) (r := []) (M' := mX4_fill) (pc' := 13) dX4_goOn_10 rfl rfl ⟨rfl, rfl⟩ rfl k rfl (fun v τ3 hq => ?_)
  obtain ⟨r4, hv, k⟩ := hq
  rw [hv]
  change ev mX4_goOn 13 [some (.inr (.inr 45))] [.inl r4] τ3 _
  exact ev_ret dX4_goOn_13 rfl k
set_option maxRecDepth 20000 in
theorem s_X4_made_0 {σ : ab_M} {Q : Option ab_V → ab_M → Prop} 
    (k : Q (some (.inl (σ 45 6))) σ) :
    ev mX4_made 0 [some (.inr (.inr 45))] [] σ Q := by
  refine ev_p (pc' := 1) (ls' := [some (.inr (.inr 45))]) (st' := [.inr (.inr 45)]) dX4_made_0 rfl ?_
  refine ev_getI (pc' := 4) dX4_made_1 rfl rfl rfl rfl ?_
  exact ev_ret dX4_made_4 rfl k
