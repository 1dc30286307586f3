theorem dX1_read_0 : decode (me_b mX1_read) 0 = .ok (.aload_n 0, 1) := by decide +kernel
theorem dX1_read_1 : decode (me_b mX1_read) 1 = .ok (.invokevirtual 23, 3) := by decide +kernel
theorem dX1_read_4 : decode (me_b mX1_read) 4 = .ok (.iconst (-1), 1) := by decide +kernel
theorem dX1_read_5 : decode (me_b mX1_read) 5 = .ok (.istore_n 3, 1) := by decide +kernel
theorem dX1_read_6 : decode (me_b mX1_read) 6 = .ok (.iconst 0, 1) := by decide +kernel
theorem dX1_read_7 : decode (me_b mX1_read) 7 = .ok (.istore 4, 2) := by decide +kernel
theorem dX1_read_9 : decode (me_b mX1_read) 9 = .ok (.iload 4, 2) := by decide +kernel
theorem dX1_read_11 : decode (me_b mX1_read) 11 = .ok (.aload_n 1, 1) := by decide +kernel
theorem dX1_read_12 : decode (me_b mX1_read) 12 = .ok (.invokevirtual 26, 3) := by decide +kernel
theorem dX1_read_15 : decode (me_b mX1_read) 15 = .ok (.if_icmp .ge 43, 3) := by decide +kernel
theorem dX1_read_18 : decode (me_b mX1_read) 18 = .ok (.aload_n 1, 1) := by decide +kernel
theorem dX1_read_19 : decode (me_b mX1_read) 19 = .ok (.iload 4, 2) := by decide +kernel
theorem dX1_read_21 : decode (me_b mX1_read) 21 = .ok (.invokevirtual 31, 3) := by decide +kernel
theorem dX1_read_24 : decode (me_b mX1_read) 24 = .ok (.invokestatic 35, 3) := by decide +kernel
theorem dX1_read_27 : decode (me_b mX1_read) 27 = .ok (.istore 5, 2) := by decide +kernel
theorem dX1_read_29 : decode (me_b mX1_read) 29 = .ok (.iload_n 3, 1) := by decide +kernel
theorem dX1_read_30 : decode (me_b mX1_read) 30 = .ok (.iload 5, 2) := by decide +kernel
theorem dX1_read_32 : decode (me_b mX1_read) 32 = .ok (.aload_n 2, 1) := by decide +kernel
theorem dX1_read_33 : decode (me_b mX1_read) 33 = .ok (.invokestatic 39, 3) := by decide +kernel
theorem dX1_read_36 : decode (me_b mX1_read) 36 = .ok (.istore_n 3, 1) := by decide +kernel
theorem dX1_read_37 : decode (me_b mX1_read) 37 = .ok (.iload_n 3, 1) := by decide +kernel
theorem dX1_read_38 : decode (me_b mX1_read) 38 = .ok (.bipush (-3), 2) := by decide +kernel
theorem dX1_read_40 : decode (me_b mX1_read) 40 = .ok (.if_icmp .ne 6, 3) := by decide +kernel
theorem dX1_read_43 : decode (me_b mX1_read) 43 = .ok (.iload 4, 2) := by decide +kernel
theorem dX1_read_45 : decode (me_b mX1_read) 45 = .ok (.ireturn, 1) := by decide +kernel
theorem dX1_read_46 : decode (me_b mX1_read) 46 = .ok (.aload_n 0, 1) := by decide +kernel
theorem dX1_read_47 : decode (me_b mX1_read) 47 = .ok (.iload 5, 2) := by decide +kernel
theorem dX1_read_49 : decode (me_b mX1_read) 49 = .ok (.invokevirtual 43, 3) := by decide +kernel
theorem dX1_read_52 : decode (me_b mX1_read) 52 = .ok (.iinc 4 1, 3) := by decide +kernel
theorem dX1_read_55 : decode (me_b mX1_read) 55 = .ok (.goto (-46), 3) := by decide +kernel
theorem dX1_read_58 : decode (me_b mX1_read) 58 = .ok (.iload_n 3, 1) := by decide +kernel
theorem dX1_read_59 : decode (me_b mX1_read) 59 = .ok (.ifCond .ne 7, 3) := by decide +kernel
theorem dX1_read_62 : decode (me_b mX1_read) 62 = .ok (.iconst (-1), 1) := by decide +kernel
theorem dX1_read_63 : decode (me_b mX1_read) 63 = .ok (.goto 7, 3) := by decide +kernel
theorem dX1_read_66 : decode (me_b mX1_read) 66 = .ok (.aload_n 1, 1) := by decide +kernel
theorem dX1_read_67 : decode (me_b mX1_read) 67 = .ok (.invokevirtual 26, 3) := by decide +kernel
theorem dX1_read_70 : decode (me_b mX1_read) 70 = .ok (.ireturn, 1) := by decide +kernel
theorem dX1_length_0 : decode (me_b mX1_length) 0 = .ok (.aload_n 0, 1) := by decide +kernel
theorem dX1_length_1 : decode (me_b mX1_length) 1 = .ok (.getfield 19, 3) := by decide +kernel
theorem dX1_length_4 : decode (me_b mX1_length) 4 = .ok (.ireturn, 1) := by decide +kernel
theorem dX1_codeAt_0 : decode (me_b mX1_codeAt) 0 = .ok (.iload_n 1, 1) := by decide +kernel
theorem dX1_codeAt_1 : decode (me_b mX1_codeAt) 1 = .ok (.ifCond .lt 11, 3) := by decide +kernel
theorem dX1_codeAt_4 : decode (me_b mX1_codeAt) 4 = .ok (.iload_n 1, 1) := by decide +kernel
theorem dX1_codeAt_5 : decode (me_b mX1_codeAt) 5 = .ok (.aload_n 0, 1) := by decide +kernel
theorem dX1_codeAt_6 : decode (me_b mX1_codeAt) 6 = .ok (.getfield 19, 3) := by decide +kernel
theorem dX1_codeAt_9 : decode (me_b mX1_codeAt) 9 = .ok (.if_icmp .lt 7, 3) := by decide +kernel
theorem dX1_codeAt_12 : decode (me_b mX1_codeAt) 12 = .ok (.iconst (-1), 1) := by decide +kernel
theorem dX1_codeAt_13 : decode (me_b mX1_codeAt) 13 = .ok (.goto 9, 3) := by decide +kernel
theorem dX1_codeAt_16 : decode (me_b mX1_codeAt) 16 = .ok (.aload_n 0, 1) := by decide +kernel
theorem dX1_codeAt_17 : decode (me_b mX1_codeAt) 17 = .ok (.getfield 9, 3) := by decide +kernel
theorem dX1_codeAt_20 : decode (me_b mX1_codeAt) 20 = .ok (.iload_n 1, 1) := by decide +kernel
theorem dX1_codeAt_21 : decode (me_b mX1_codeAt) 21 = .ok (.iaload, 1) := by decide +kernel
theorem dX1_codeAt_22 : decode (me_b mX1_codeAt) 22 = .ok (.ireturn, 1) := by decide +kernel
theorem dX1_choices_0 : decode (me_b mX1_choices) 0 = .ok (.iload_n 1, 1) := by decide +kernel
theorem dX1_choices_1 : decode (me_b mX1_choices) 1 = .ok (.ifCond .lt 21, 3) := by decide +kernel
theorem dX1_choices_4 : decode (me_b mX1_choices) 4 = .ok (.iload_n 1, 1) := by decide +kernel
theorem dX1_choices_5 : decode (me_b mX1_choices) 5 = .ok (.iconst 3, 1) := by decide +kernel
theorem dX1_choices_6 : decode (me_b mX1_choices) 6 = .ok (.if_icmp .ge 16, 3) := by decide +kernel
theorem dX1_choices_9 : decode (me_b mX1_choices) 9 = .ok (.aload_n 0, 1) := by decide +kernel
theorem dX1_choices_10 : decode (me_b mX1_choices) 10 = .ok (.getfield 15, 3) := by decide +kernel
theorem dX1_choices_13 : decode (me_b mX1_choices) 13 = .ok (.iload_n 1, 1) := by decide +kernel
theorem dX1_choices_14 : decode (me_b mX1_choices) 14 = .ok (.baload, 1) := by decide +kernel
theorem dX1_choices_15 : decode (me_b mX1_choices) 15 = .ok (.ifCond .eq 7, 3) := by decide +kernel
theorem dX1_choices_18 : decode (me_b mX1_choices) 18 = .ok (.iload_n 2, 1) := by decide +kernel
theorem dX1_choices_19 : decode (me_b mX1_choices) 19 = .ok (.goto 4, 3) := by decide +kernel
theorem dX1_choices_22 : decode (me_b mX1_choices) 22 = .ok (.iconst 1, 1) := by decide +kernel
theorem dX1_choices_23 : decode (me_b mX1_choices) 23 = .ok (.ireturn, 1) := by decide +kernel
theorem dX1_forgetText_0 : decode (me_b mX1_forgetText) 0 = .ok (.aload_n 0, 1) := by decide +kernel
theorem dX1_forgetText_1 : decode (me_b mX1_forgetText) 1 = .ok (.iconst 0, 1) := by decide +kernel
theorem dX1_forgetText_2 : decode (me_b mX1_forgetText) 2 = .ok (.putfield 19, 3) := by decide +kernel
theorem dX1_forgetText_5 : decode (me_b mX1_forgetText) 5 = .ok (.iconst 0, 1) := by decide +kernel
theorem dX1_forgetText_6 : decode (me_b mX1_forgetText) 6 = .ok (.istore_n 1, 1) := by decide +kernel
theorem dX1_forgetText_7 : decode (me_b mX1_forgetText) 7 = .ok (.iload_n 1, 1) := by decide +kernel
theorem dX1_forgetText_8 : decode (me_b mX1_forgetText) 8 = .ok (.iconst 3, 1) := by decide +kernel
theorem dX1_forgetText_9 : decode (me_b mX1_forgetText) 9 = .ok (.if_icmp .ge 16, 3) := by decide +kernel
theorem dX1_forgetText_12 : decode (me_b mX1_forgetText) 12 = .ok (.aload_n 0, 1) := by decide +kernel
theorem dX1_forgetText_13 : decode (me_b mX1_forgetText) 13 = .ok (.getfield 15, 3) := by decide +kernel
theorem dX1_forgetText_16 : decode (me_b mX1_forgetText) 16 = .ok (.iload_n 1, 1) := by decide +kernel
theorem dX1_forgetText_17 : decode (me_b mX1_forgetText) 17 = .ok (.iconst 0, 1) := by decide +kernel
theorem dX1_forgetText_18 : decode (me_b mX1_forgetText) 18 = .ok (.bastore, 1) := by decide +kernel
theorem dX1_forgetText_19 : decode (me_b mX1_forgetText) 19 = .ok (.iinc 1 1, 3) := by decide +kernel
theorem dX1_forgetText_22 : decode (me_b mX1_forgetText) 22 = .ok (.goto (-15), 3) := by decide +kernel
theorem dX1_forgetText_25 : decode (me_b mX1_forgetText) 25 = .ok (.return_, 1) := by decide +kernel
theorem dX1_keep_0 : decode (me_b mX1_keep) 0 = .ok (.aload_n 0, 1) := by decide +kernel
theorem dX1_keep_1 : decode (me_b mX1_keep) 1 = .ok (.getfield 19, 3) := by decide +kernel
theorem dX1_keep_4 : decode (me_b mX1_keep) 4 = .ok (.bipush 60, 2) := by decide +kernel
theorem dX1_keep_6 : decode (me_b mX1_keep) 6 = .ok (.if_icmp .ge 23, 3) := by decide +kernel
theorem dX1_keep_9 : decode (me_b mX1_keep) 9 = .ok (.aload_n 0, 1) := by decide +kernel
theorem dX1_keep_10 : decode (me_b mX1_keep) 10 = .ok (.getfield 9, 3) := by decide +kernel
theorem dX1_keep_13 : decode (me_b mX1_keep) 13 = .ok (.aload_n 0, 1) := by decide +kernel
theorem dX1_keep_14 : decode (me_b mX1_keep) 14 = .ok (.getfield 19, 3) := by decide +kernel
theorem dX1_keep_17 : decode (me_b mX1_keep) 17 = .ok (.iload_n 1, 1) := by decide +kernel
theorem dX1_keep_18 : decode (me_b mX1_keep) 18 = .ok (.iastore, 1) := by decide +kernel
theorem dX1_keep_19 : decode (me_b mX1_keep) 19 = .ok (.aload_n 0, 1) := by decide +kernel
theorem dX1_keep_20 : decode (me_b mX1_keep) 20 = .ok (.dup, 1) := by decide +kernel
theorem dX1_keep_21 : decode (me_b mX1_keep) 21 = .ok (.getfield 19, 3) := by decide +kernel
theorem dX1_keep_24 : decode (me_b mX1_keep) 24 = .ok (.iconst 1, 1) := by decide +kernel
theorem dX1_keep_25 : decode (me_b mX1_keep) 25 = .ok (.iadd, 1) := by decide +kernel
theorem dX1_keep_26 : decode (me_b mX1_keep) 26 = .ok (.putfield 19, 3) := by decide +kernel
theorem dX1_keep_29 : decode (me_b mX1_keep) 29 = .ok (.iload_n 1, 1) := by decide +kernel
theorem dX1_keep_30 : decode (me_b mX1_keep) 30 = .ok (.invokestatic 47, 3) := by decide +kernel
theorem dX1_keep_33 : decode (me_b mX1_keep) 33 = .ok (.ifCond .eq 13, 3) := by decide +kernel
theorem dX1_keep_36 : decode (me_b mX1_keep) 36 = .ok (.aload_n 0, 1) := by decide +kernel
theorem dX1_keep_37 : decode (me_b mX1_keep) 37 = .ok (.getfield 15, 3) := by decide +kernel
theorem dX1_keep_40 : decode (me_b mX1_keep) 40 = .ok (.iload_n 1, 1) := by decide +kernel
theorem dX1_keep_41 : decode (me_b mX1_keep) 41 = .ok (.bipush 8, 2) := by decide +kernel
theorem dX1_keep_43 : decode (me_b mX1_keep) 43 = .ok (.isub, 1) := by decide +kernel
theorem dX1_keep_44 : decode (me_b mX1_keep) 44 = .ok (.iconst 1, 1) := by decide +kernel
theorem dX1_keep_45 : decode (me_b mX1_keep) 45 = .ok (.bastore, 1) := by decide +kernel
theorem dX1_keep_46 : decode (me_b mX1_keep) 46 = .ok (.return_, 1) := by decide +kernel
theorem dX1_after_0 : decode (me_b mX1_after) 0 = .ok (.iload_n 0, 1) := by decide +kernel
theorem dX1_after_1 : decode (me_b mX1_after) 1 = .ok (.iconst (-1), 1) := by decide +kernel
theorem dX1_after_2 : decode (me_b mX1_after) 2 = .ok (.if_icmp .ne 12, 3) := by decide +kernel
theorem dX1_after_5 : decode (me_b mX1_after) 5 = .ok (.iload_n 1, 1) := by decide +kernel
theorem dX1_after_6 : decode (me_b mX1_after) 6 = .ok (.bipush 12, 2) := by decide +kernel
theorem dX1_after_8 : decode (me_b mX1_after) 8 = .ok (.if_icmp .ne 6, 3) := by decide +kernel
theorem dX1_after_11 : decode (me_b mX1_after) 11 = .ok (.bipush (-2), 2) := by decide +kernel
theorem dX1_after_13 : decode (me_b mX1_after) 13 = .ok (.ireturn, 1) := by decide +kernel
theorem dX1_after_14 : decode (me_b mX1_after) 14 = .ok (.iload_n 0, 1) := by decide +kernel
theorem dX1_after_15 : decode (me_b mX1_after) 15 = .ok (.iconst (-1), 1) := by decide +kernel
theorem dX1_after_16 : decode (me_b mX1_after) 16 = .ok (.if_icmp .eq 9, 3) := by decide +kernel
theorem dX1_after_19 : decode (me_b mX1_after) 19 = .ok (.iload_n 0, 1) := by decide +kernel
theorem dX1_after_20 : decode (me_b mX1_after) 20 = .ok (.bipush (-2), 2) := by decide +kernel
theorem dX1_after_22 : decode (me_b mX1_after) 22 = .ok (.if_icmp .ne 9, 3) := by decide +kernel
theorem dX1_after_25 : decode (me_b mX1_after) 25 = .ok (.iload_n 1, 1) := by decide +kernel
theorem dX1_after_26 : decode (me_b mX1_after) 26 = .ok (.aload_n 2, 1) := by decide +kernel
theorem dX1_after_27 : decode (me_b mX1_after) 27 = .ok (.invokestatic 51, 3) := by decide +kernel
theorem dX1_after_30 : decode (me_b mX1_after) 30 = .ok (.ireturn, 1) := by decide +kernel
theorem dX1_after_31 : decode (me_b mX1_after) 31 = .ok (.iload_n 0, 1) := by decide +kernel
theorem dX1_after_32 : decode (me_b mX1_after) 32 = .ok (.ifCond .ne 16, 3) := by decide +kernel
theorem dX1_after_35 : decode (me_b mX1_after) 35 = .ok (.iload_n 1, 1) := by decide +kernel
theorem dX1_after_36 : decode (me_b mX1_after) 36 = .ok (.bipush 13, 2) := by decide +kernel
theorem dX1_after_38 : decode (me_b mX1_after) 38 = .ok (.if_icmp .ne 7, 3) := by decide +kernel
theorem dX1_after_41 : decode (me_b mX1_after) 41 = .ok (.iconst (-1), 1) := by decide +kernel
theorem dX1_after_42 : decode (me_b mX1_after) 42 = .ok (.goto 5, 3) := by decide +kernel
theorem dX1_after_45 : decode (me_b mX1_after) 45 = .ok (.bipush (-3), 2) := by decide +kernel
theorem dX1_after_47 : decode (me_b mX1_after) 47 = .ok (.ireturn, 1) := by decide +kernel
theorem dX1_after_48 : decode (me_b mX1_after) 48 = .ok (.iload_n 0, 1) := by decide +kernel
theorem dX1_after_49 : decode (me_b mX1_after) 49 = .ok (.iload_n 1, 1) := by decide +kernel
theorem dX1_after_50 : decode (me_b mX1_after) 50 = .ok (.aload_n 2, 1) := by decide +kernel
theorem dX1_after_51 : decode (me_b mX1_after) 51 = .ok (.invokestatic 55, 3) := by decide +kernel
theorem dX1_after_54 : decode (me_b mX1_after) 54 = .ok (.ireturn, 1) := by decide +kernel
theorem dX1_afterAtomBegins_0 : decode (me_b mX1_afterAtomBegins) 0 = .ok (.iload_n 0, 1) := by decide +kernel
theorem dX1_afterAtomBegins_1 : decode (me_b mX1_afterAtomBegins) 1 = .ok (.bipush 11, 2) := by decide +kernel
theorem dX1_afterAtomBegins_3 : decode (me_b mX1_afterAtomBegins) 3 = .ok (.if_icmp .ne 5, 3) := by decide +kernel
theorem dX1_afterAtomBegins_6 : decode (me_b mX1_afterAtomBegins) 6 = .ok (.iconst 2, 1) := by decide +kernel
theorem dX1_afterAtomBegins_7 : decode (me_b mX1_afterAtomBegins) 7 = .ok (.ireturn, 1) := by decide +kernel
theorem dX1_afterAtomBegins_8 : decode (me_b mX1_afterAtomBegins) 8 = .ok (.iload_n 0, 1) := by decide +kernel
theorem dX1_afterAtomBegins_9 : decode (me_b mX1_afterAtomBegins) 9 = .ok (.invokestatic 58, 3) := by decide +kernel
theorem dX1_afterAtomBegins_12 : decode (me_b mX1_afterAtomBegins) 12 = .ok (.ifCond .eq 16, 3) := by decide +kernel
theorem dX1_afterAtomBegins_15 : decode (me_b mX1_afterAtomBegins) 15 = .ok (.aload_n 1, 1) := by decide +kernel
theorem dX1_afterAtomBegins_16 : decode (me_b mX1_afterAtomBegins) 16 = .ok (.iload_n 0, 1) := by decide +kernel
theorem dX1_afterAtomBegins_17 : decode (me_b mX1_afterAtomBegins) 17 = .ok (.invokevirtual 61, 3) := by decide +kernel
theorem dX1_afterAtomBegins_20 : decode (me_b mX1_afterAtomBegins) 20 = .ok (.iconst (-1), 1) := by decide +kernel
theorem dX1_afterAtomBegins_21 : decode (me_b mX1_afterAtomBegins) 21 = .ok (.if_icmp .eq 7, 3) := by decide +kernel
theorem dX1_afterAtomBegins_24 : decode (me_b mX1_afterAtomBegins) 24 = .ok (.iconst 1, 1) := by decide +kernel
theorem dX1_afterAtomBegins_25 : decode (me_b mX1_afterAtomBegins) 25 = .ok (.goto 4, 3) := by decide +kernel
theorem dX1_afterAtomBegins_28 : decode (me_b mX1_afterAtomBegins) 28 = .ok (.iconst 0, 1) := by decide +kernel
theorem dX1_afterAtomBegins_29 : decode (me_b mX1_afterAtomBegins) 29 = .ok (.istore_n 2, 1) := by decide +kernel
theorem dX1_afterAtomBegins_30 : decode (me_b mX1_afterAtomBegins) 30 = .ok (.iload_n 2, 1) := by decide +kernel
theorem dX1_afterAtomBegins_31 : decode (me_b mX1_afterAtomBegins) 31 = .ok (.ifCond .eq 11, 3) := by decide +kernel
theorem dX1_afterAtomBegins_34 : decode (me_b mX1_afterAtomBegins) 34 = .ok (.aload_n 1, 1) := by decide +kernel
theorem dX1_afterAtomBegins_35 : decode (me_b mX1_afterAtomBegins) 35 = .ok (.iload_n 0, 1) := by decide +kernel
theorem dX1_afterAtomBegins_36 : decode (me_b mX1_afterAtomBegins) 36 = .ok (.invokevirtual 61, 3) := by decide +kernel
theorem dX1_afterAtomBegins_39 : decode (me_b mX1_afterAtomBegins) 39 = .ok (.goto 5, 3) := by decide +kernel
theorem dX1_afterAtomBegins_42 : decode (me_b mX1_afterAtomBegins) 42 = .ok (.bipush (-3), 2) := by decide +kernel
theorem dX1_afterAtomBegins_44 : decode (me_b mX1_afterAtomBegins) 44 = .ok (.ireturn, 1) := by decide +kernel
theorem dX1_afterTermBegins_0 : decode (me_b mX1_afterTermBegins) 0 = .ok (.iload_n 1, 1) := by decide +kernel
theorem dX1_afterTermBegins_1 : decode (me_b mX1_afterTermBegins) 1 = .ok (.invokestatic 47, 3) := by decide +kernel
theorem dX1_afterTermBegins_4 : decode (me_b mX1_afterTermBegins) 4 = .ok (.ifCond .eq 7, 3) := by decide +kernel
theorem dX1_afterTermBegins_7 : decode (me_b mX1_afterTermBegins) 7 = .ok (.iload_n 0, 1) := by decide +kernel
theorem dX1_afterTermBegins_8 : decode (me_b mX1_afterTermBegins) 8 = .ok (.iconst 1, 1) := by decide +kernel
theorem dX1_afterTermBegins_9 : decode (me_b mX1_afterTermBegins) 9 = .ok (.isub, 1) := by decide +kernel
theorem dX1_afterTermBegins_10 : decode (me_b mX1_afterTermBegins) 10 = .ok (.ireturn, 1) := by decide +kernel
theorem dX1_afterTermBegins_11 : decode (me_b mX1_afterTermBegins) 11 = .ok (.iload_n 1, 1) := by decide +kernel
theorem dX1_afterTermBegins_12 : decode (me_b mX1_afterTermBegins) 12 = .ok (.invokestatic 67, 3) := by decide +kernel
theorem dX1_afterTermBegins_15 : decode (me_b mX1_afterTermBegins) 15 = .ok (.ifCond .eq 16, 3) := by decide +kernel
theorem dX1_afterTermBegins_18 : decode (me_b mX1_afterTermBegins) 18 = .ok (.aload_n 2, 1) := by decide +kernel
theorem dX1_afterTermBegins_19 : decode (me_b mX1_afterTermBegins) 19 = .ok (.iload_n 1, 1) := by decide +kernel
theorem dX1_afterTermBegins_20 : decode (me_b mX1_afterTermBegins) 20 = .ok (.invokevirtual 61, 3) := by decide +kernel
theorem dX1_afterTermBegins_23 : decode (me_b mX1_afterTermBegins) 23 = .ok (.iconst (-1), 1) := by decide +kernel
theorem dX1_afterTermBegins_24 : decode (me_b mX1_afterTermBegins) 24 = .ok (.if_icmp .eq 7, 3) := by decide +kernel
theorem dX1_afterTermBegins_27 : decode (me_b mX1_afterTermBegins) 27 = .ok (.iconst 1, 1) := by decide +kernel
theorem dX1_afterTermBegins_28 : decode (me_b mX1_afterTermBegins) 28 = .ok (.goto 4, 3) := by decide +kernel
theorem dX1_afterTermBegins_31 : decode (me_b mX1_afterTermBegins) 31 = .ok (.iconst 0, 1) := by decide +kernel
theorem dX1_afterTermBegins_32 : decode (me_b mX1_afterTermBegins) 32 = .ok (.istore_n 3, 1) := by decide +kernel
theorem dX1_afterTermBegins_33 : decode (me_b mX1_afterTermBegins) 33 = .ok (.iload_n 3, 1) := by decide +kernel
theorem dX1_afterTermBegins_34 : decode (me_b mX1_afterTermBegins) 34 = .ok (.ifCond .eq 15, 3) := by decide +kernel
theorem dX1_afterTermBegins_37 : decode (me_b mX1_afterTermBegins) 37 = .ok (.iload_n 0, 1) := by decide +kernel
theorem dX1_afterTermBegins_38 : decode (me_b mX1_afterTermBegins) 38 = .ok (.iconst 1, 1) := by decide +kernel
theorem dX1_afterTermBegins_39 : decode (me_b mX1_afterTermBegins) 39 = .ok (.isub, 1) := by decide +kernel
theorem dX1_afterTermBegins_40 : decode (me_b mX1_afterTermBegins) 40 = .ok (.aload_n 2, 1) := by decide +kernel
theorem dX1_afterTermBegins_41 : decode (me_b mX1_afterTermBegins) 41 = .ok (.iload_n 1, 1) := by decide +kernel
theorem dX1_afterTermBegins_42 : decode (me_b mX1_afterTermBegins) 42 = .ok (.invokevirtual 61, 3) := by decide +kernel
theorem dX1_afterTermBegins_45 : decode (me_b mX1_afterTermBegins) 45 = .ok (.iadd, 1) := by decide +kernel
theorem dX1_afterTermBegins_46 : decode (me_b mX1_afterTermBegins) 46 = .ok (.goto 5, 3) := by decide +kernel
theorem dX1_afterTermBegins_49 : decode (me_b mX1_afterTermBegins) 49 = .ok (.bipush (-3), 2) := by decide +kernel
theorem dX1_afterTermBegins_51 : decode (me_b mX1_afterTermBegins) 51 = .ok (.ireturn, 1) := by decide +kernel
set_option maxRecDepth 20000 in
theorem s_X1_read_0 {σ : ab_M} {Q : Option ab_V → ab_M → Prop} {q : Nat} (hq : sh0[q]? = some (.inl (1, [some (some (q + 1)), some (some (q + 2)), none]))) (hq1 : sh0[q + 1]? = some (.inr (.inl (0, 60)))) (hq2 : sh0[q + 2]? = some (.inr (.inl (2, 3))))
    (k : evm mX1_forgetText [.inr (.inr q)] σ (fun v τ1 => v = none ∧ ev mX1_read 9 [some (.inr (.inr q)), some (.inr (.inr 3)), some (.inr (.inr 1)), some (.inl (-1)), some (.inl 0), none] [] τ1 Q)) :
    ev mX1_read 0 [some (.inr (.inr q)), some (.inr (.inr 3)), some (.inr (.inr 1)), none, none, none] [] σ Q := by
  refine ev_p (pc' := 1) (ls' := [some (.inr (.inr q)), some (.inr (.inr 3)), some (.inr (.inr 1)), none, none, none]) (st' := [.inr (.inr q)]) dX1_read_0 rfl ?_
  refine ev_call (y := 24) (as := [.inr (.inr q)]) (r := []) (M' := mX1_forgetText) (pc' := 4) dX1_read_1 (ev_inv1 rfl rfl rfl rfl hq rfl rfl) rfl ⟨rfl, rfl⟩ rfl k rfl (fun v τ1 hq => ?_)
  obtain ⟨hv, k⟩ := hq
  rw [hv]
  change ev mX1_read 4 [some (.inr (.inr q)), some (.inr (.inr 3)), some (.inr (.inr 1)), none, none, none] [] τ1 _
  refine ev_cst (v := (-1)) (pc' := 5) dX1_read_4 (by decide) rfl ?_
  refine ev_p (pc' := 6) (ls' := [some (.inr (.inr q)), some (.inr (.inr 3)), some (.inr (.inr 1)), some (.inl (-1)), none, none]) (st' := []) dX1_read_5 rfl ?_
  refine ev_cst (v := 0) (pc' := 7) dX1_read_6 (by decide) rfl ?_
  refine ev_p (pc' := 9) (ls' := [some (.inr (.inr q)), some (.inr (.inr 3)), some (.inr (.inr 1)), some (.inl (-1)), some (.inl 0), none]) (st' := []) dX1_read_7 rfl ?_
  exact k
set_option maxRecDepth 20000 in
theorem s_X1_read_9 {σ : ab_M} {Q : Option ab_V → ab_M → Prop} {q : Nat} {x3 : Int32} {x4 : Int32} {o5 : Option ab_V} (hq : sh0[q]? = some (.inl (1, [some (some (q + 1)), some (some (q + 2)), none]))) (hq1 : sh0[q + 1]? = some (.inr (.inl (0, 60)))) (hq2 : sh0[q + 2]? = some (.inr (.inl (2, 3))))
    (k : evm mX0_length [.inr (.inr 3)] σ (fun v τ1 => ∃ r2 : Int32, v = some (.inl r2) ∧ ((r2 ≤ x4 → ((x3 = 0 → Q (some (.inl (-1))) τ1) ∧ (¬ x3 = 0 → evm mX0_length [.inr (.inr 3)] τ1 (fun v τ3 => ∃ r4 : Int32, v = some (.inl r4) ∧ Q (some (.inl r4)) τ3)))) ∧ (¬ r2 ≤ x4 → evm mX0_at [.inr (.inr 3), .inl x4] τ1 (fun v τ3 => ∃ r4 : Int32, v = some (.inl r4) ∧ evm mX7_codeOf [.inl r4] τ3 (fun v τ5 => ∃ r6 : Int32, v = some (.inl r6) ∧ evm mX1_after [.inl x3, .inl r6, .inr (.inr 1)] τ5 (fun v τ7 => ∃ r8 : Int32, v = some (.inl r8) ∧ ((r8 = (-3) → Q (some (.inl x4)) τ7) ∧ (¬ r8 = (-3) → evm mX1_keep [.inr (.inr q), .inl r6] τ7 (fun v τ9 => v = none ∧ ev mX1_read 9 [some (.inr (.inr q)), some (.inr (.inr 3)), some (.inr (.inr 1)), some (.inl r8), some (.inl (x4 + 1)), some (.inl r6)] [] τ9 Q)))))))))) :
    ev mX1_read 9 [some (.inr (.inr q)), some (.inr (.inr 3)), some (.inr (.inr 1)), some (.inl x3), some (.inl x4), o5] [] σ Q := by
  refine ev_p (pc' := 11) (ls' := [some (.inr (.inr q)), some (.inr (.inr 3)), some (.inr (.inr 1)), some (.inl x3), some (.inl x4), o5]) (st' := [.inl x4]) dX1_read_9 rfl ?_
  refine ev_p (pc' := 12) (ls' := [some (.inr (.inr q)), some (.inr (.inr 3)), some (.inr (.inr 1)), some (.inl x3), some (.inl x4), o5]) (st' := [.inr (.inr 3), .inl x4]) dX1_read_11 rfl ?_
  refine ev_call (y := 19) (as := [.inr (.inr 3)]) (r := [.inl x4]) (M' := mX0_length) (pc' := 15) dX1_read_12 rfl rfl ⟨rfl, rfl⟩ rfl k rfl (fun v τ1 hq => ?_)
  obtain ⟨r2, hv, k⟩ := hq
  rw [hv]
  change ev mX1_read 15 [some (.inr (.inr q)), some (.inr (.inr 3)), some (.inr (.inr 1)), some (.inl x3), some (.inl x4), o5] [.inl r2, .inl x4] τ1 _
  refine ev_ic_ge (tgt := 58) (pc' := 18) dX1_read_15 (by decide) rfl (fun h1 => ?_) (fun h1 => ?_)
  · have k := k.1 h1
    refine ev_p (pc' := 59) (ls' := [some (.inr (.inr q)), some (.inr (.inr 3)), some (.inr (.inr 1)), some (.inl x3), some (.inl x4), o5]) (st' := [.inl x3]) dX1_read_58 rfl ?_
    refine ev_if_ne (tgt := 66) (pc' := 62) dX1_read_59 (by decide) rfl (fun h2 => ?_) (fun h2 => ?_)
    · have k := k.2 h2
      refine ev_p (pc' := 67) (ls' := [some (.inr (.inr q)), some (.inr (.inr 3)), some (.inr (.inr 1)), some (.inl x3), some (.inl x4), o5]) (st' := [.inr (.inr 3)]) dX1_read_66 rfl ?_
      refine ev_call (y := 19) (as := [.inr (.inr 3)]) (r := []) (M' := mX0_length) (pc' := 70) dX1_read_67 rfl rfl ⟨rfl, rfl⟩ rfl k rfl (fun v τ3 hq => ?_)
      obtain ⟨r4, hv, k⟩ := hq
      rw [hv]
      change ev mX1_read 70 [some (.inr (.inr q)), some (.inr (.inr 3)), some (.inr (.inr 1)), some (.inl x3), some (.inl x4), o5] [.inl r4] τ3 _
      exact ev_ret dX1_read_70 rfl k
    · have k := k.1 h2
      refine ev_cst (v := (-1)) (pc' := 63) dX1_read_62 (by decide) rfl ?_
      refine ev_go (tgt := 70) dX1_read_63 (by decide) ?_
      exact ev_ret dX1_read_70 rfl k
  · have k := k.2 h1
    refine ev_p (pc' := 19) (ls' := [some (.inr (.inr q)), some (.inr (.inr 3)), some (.inr (.inr 1)), some (.inl x3), some (.inl x4), o5]) (st' := [.inr (.inr 3)]) dX1_read_18 rfl ?_
    refine ev_p (pc' := 21) (ls' := [some (.inr (.inr q)), some (.inr (.inr 3)), some (.inr (.inr 1)), some (.inl x3), some (.inl x4), o5]) (st' := [.inl x4, .inr (.inr 3)]) dX1_read_19 rfl ?_
    refine ev_call (y := 25) (as := [.inr (.inr 3), .inl x4]) (r := []) (M' := mX0_at) (pc' := 24) dX1_read_21 rfl rfl ⟨rfl, rfl⟩ rfl k rfl (fun v τ3 hq => ?_)
    obtain ⟨r4, hv, k⟩ := hq
    rw [hv]
    change ev mX1_read 24 [some (.inr (.inr q)), some (.inr (.inr 3)), some (.inr (.inr 1)), some (.inl x3), some (.inl x4), o5] [.inl r4] τ3 _
    refine ev_call (y := 11) (as := [.inl r4]) (r := []) (M' := mX7_codeOf) (pc' := 27) dX1_read_24 rfl rfl ⟨rfl, rfl⟩ rfl k rfl (fun v τ5 hq => ?_)
    obtain ⟨r6, hv, k⟩ := hq
    rw [hv]
    change ev mX1_read 27 [some (.inr (.inr q)), some (.inr (.inr 3)), some (.inr (.inr 1)), some (.inl x3), some (.inl x4), o5] [.inl r6] τ5 _
    refine ev_p (pc' := 29) (ls' := [some (.inr (.inr q)), some (.inr (.inr 3)), some (.inr (.inr 1)), some (.inl x3), some (.inl x4), some (.inl r6)]) (st' := []) dX1_read_27 rfl ?_
    refine ev_p (pc' := 30) (ls' := [some (.inr (.inr q)), some (.inr (.inr 3)), some (.inr (.inr 1)), some (.inl x3), some (.inl x4), some (.inl r6)]) (st' := [.inl x3]) dX1_read_29 rfl ?_
    refine ev_p (pc' := 32) (ls' := [some (.inr (.inr q)), some (.inr (.inr 3)), some (.inr (.inr 1)), some (.inl x3), some (.inl x4), some (.inl r6)]) (st' := [.inl r6, .inl x3]) dX1_read_30 rfl ?_
    refine ev_p (pc' := 33) (ls' := [some (.inr (.inr q)), some (.inr (.inr 3)), some (.inr (.inr 1)), some (.inl x3), some (.inl x4), some (.inl r6)]) (st' := [.inr (.inr 1), .inl r6, .inl x3]) dX1_read_32 rfl ?_
    refine ev_call (y := 26) (as := [.inl x3, .inl r6, .inr (.inr 1)]) (r := []) (M' := mX1_after) (pc' := 36) dX1_read_33 rfl rfl ⟨rfl, rfl⟩ rfl k rfl (fun v τ7 hq => ?_)
    obtain ⟨r8, hv, k⟩ := hq
    rw [hv]
    change ev mX1_read 36 [some (.inr (.inr q)), some (.inr (.inr 3)), some (.inr (.inr 1)), some (.inl x3), some (.inl x4), some (.inl r6)] [.inl r8] τ7 _
    refine ev_p (pc' := 37) (ls' := [some (.inr (.inr q)), some (.inr (.inr 3)), some (.inr (.inr 1)), some (.inl r8), some (.inl x4), some (.inl r6)]) (st' := []) dX1_read_36 rfl ?_
    refine ev_p (pc' := 38) (ls' := [some (.inr (.inr q)), some (.inr (.inr 3)), some (.inr (.inr 1)), some (.inl r8), some (.inl x4), some (.inl r6)]) (st' := [.inl r8]) dX1_read_37 rfl ?_
    refine ev_cst (v := (-3)) (pc' := 40) dX1_read_38 (by decide) rfl ?_
    refine ev_ic_ne (tgt := 46) (pc' := 43) dX1_read_40 (by decide) rfl (fun h3 => ?_) (fun h3 => ?_)
    · have k := k.2 h3
      refine ev_p (pc' := 47) (ls' := [some (.inr (.inr q)), some (.inr (.inr 3)), some (.inr (.inr 1)), some (.inl r8), some (.inl x4), some (.inl r6)]) (st' := [.inr (.inr q)]) dX1_read_46 rfl ?_
      refine ev_p (pc' := 49) (ls' := [some (.inr (.inr q)), some (.inr (.inr 3)), some (.inr (.inr 1)), some (.inl r8), some (.inl x4), some (.inl r6)]) (st' := [.inl r6, .inr (.inr q)]) dX1_read_47 rfl ?_
      refine ev_call (y := 33) (as := [.inr (.inr q), .inl r6]) (r := []) (M' := mX1_keep) (pc' := 52) dX1_read_49 (ev_inv1 rfl rfl rfl rfl hq rfl rfl) rfl ⟨rfl, rfl⟩ rfl k rfl (fun v τ9 hq => ?_)
      obtain ⟨hv, k⟩ := hq
      rw [hv]
      change ev mX1_read 52 [some (.inr (.inr q)), some (.inr (.inr 3)), some (.inr (.inr 1)), some (.inl r8), some (.inl x4), some (.inl r6)] [] τ9 _
      refine ev_p (pc' := 55) (ls' := [some (.inr (.inr q)), some (.inr (.inr 3)), some (.inr (.inr 1)), some (.inl r8), some (.inl (x4 + 1)), some (.inl r6)]) (st' := []) dX1_read_52 rfl ?_
      refine ev_go (tgt := 9) dX1_read_55 (by decide) ?_
      exact k
    · have k := k.1 h3
      refine ev_p (pc' := 45) (ls' := [some (.inr (.inr q)), some (.inr (.inr 3)), some (.inr (.inr 1)), some (.inl r8), some (.inl x4), some (.inl r6)]) (st' := [.inl x4]) dX1_read_43 rfl ?_
      exact ev_ret dX1_read_45 rfl k
set_option maxRecDepth 20000 in
theorem s_X1_forgetText_0 {σ : ab_M} {Q : Option ab_V → ab_M → Prop} {q : Nat} (hq : sh0[q]? = some (.inl (1, [some (some (q + 1)), some (some (q + 2)), none]))) (hq1 : sh0[q + 1]? = some (.inr (.inl (0, 60)))) (hq2 : sh0[q + 2]? = some (.inr (.inl (2, 3))))
    (k : ev mX1_forgetText 7 [some (.inr (.inr q)), some (.inl 0)] [] (ab_upd σ q 2 0) Q) :
    ev mX1_forgetText 0 [some (.inr (.inr q)), none] [] σ Q := by
  refine ev_p (pc' := 1) (ls' := [some (.inr (.inr q)), none]) (st' := [.inr (.inr q)]) dX1_forgetText_0 rfl ?_
  refine ev_cst (v := 0) (pc' := 2) dX1_forgetText_1 (by decide) rfl ?_
  refine ev_putI (pc' := 5) dX1_forgetText_2 rfl hq rfl rfl rfl rfl ?_
  refine ev_cst (v := 0) (pc' := 6) dX1_forgetText_5 (by decide) rfl ?_
  refine ev_p (pc' := 7) (ls' := [some (.inr (.inr q)), some (.inl 0)]) (st' := []) dX1_forgetText_6 rfl ?_
  exact k
set_option maxRecDepth 20000 in
theorem s_X1_forgetText_7 {σ : ab_M} {Q : Option ab_V → ab_M → Prop} {q : Nat} {x1 : Int32} (hq : sh0[q]? = some (.inl (1, [some (some (q + 1)), some (some (q + 2)), none]))) (hq1 : sh0[q + 1]? = some (.inr (.inl (0, 60)))) (hq2 : sh0[q + 2]? = some (.inr (.inl (2, 3))))
    (k : ((3 ≤ x1 → Q none σ) ∧ (¬ 3 ≤ x1 → ab_in x1 3 = true ∧ ev mX1_forgetText 7 [some (.inr (.inr q)), some (.inl (x1 + 1))] [] (ab_upd σ (q + 2) x1.toNatClampNeg 0) Q))) :
    ev mX1_forgetText 7 [some (.inr (.inr q)), some (.inl x1)] [] σ Q := by
  refine ev_p (pc' := 8) (ls' := [some (.inr (.inr q)), some (.inl x1)]) (st' := [.inl x1]) dX1_forgetText_7 rfl ?_
  refine ev_cst (v := 3) (pc' := 9) dX1_forgetText_8 (by decide) rfl ?_
  refine ev_ic_ge (tgt := 25) (pc' := 12) dX1_forgetText_9 (by decide) rfl (fun h1 => ?_) (fun h1 => ?_)
  · have k := k.1 h1
    exact ev_ret dX1_forgetText_25 rfl k
  · have k := k.2 h1
    refine ev_p (pc' := 13) (ls' := [some (.inr (.inr q)), some (.inl x1)]) (st' := [.inr (.inr q)]) dX1_forgetText_12 rfl ?_
    refine ev_getA (pc' := 16) (z := q + 2) dX1_forgetText_13 rfl hq rfl rfl ?_
    refine ev_p (pc' := 17) (ls' := [some (.inr (.inr q)), some (.inl x1)]) (st' := [.inl x1, .inr (.inr (q + 2))]) dX1_forgetText_16 rfl ?_
    refine ev_cst (v := 0) (pc' := 18) dX1_forgetText_17 (by decide) rfl ?_
    refine ev_stor (pc' := 19) (z := 0) rfl dX1_forgetText_18 hq2 rfl k.1 (by decide) rfl ?_
    have k := k.2
    refine ev_p (pc' := 22) (ls' := [some (.inr (.inr q)), some (.inl (x1 + 1))]) (st' := []) dX1_forgetText_19 rfl ?_
    refine ev_go (tgt := 7) dX1_forgetText_22 (by decide) ?_
    exact k
set_option maxRecDepth 20000 in
theorem s_X1_after_0 {σ : ab_M} {Q : Option ab_V → ab_M → Prop} {x0 : Int32} {x1 : Int32}
    (k : ((x0 = (-1) → ((x1 = 12 → Q (some (.inl (-2))) σ) ∧ (¬ x1 = 12 → ((x0 = (-1) → evm mX1_afterAtomBegins [.inl x1, .inr (.inr 1)] σ (fun v τ1 => ∃ r2 : Int32, v = some (.inl r2) ∧ Q (some (.inl r2)) τ1)) ∧ (¬ x0 = (-1) → ((x0 = (-2) → evm mX1_afterAtomBegins [.inl x1, .inr (.inr 1)] σ (fun v τ1 => ∃ r2 : Int32, v = some (.inl r2) ∧ Q (some (.inl r2)) τ1)) ∧ (¬ x0 = (-2) → ((x0 = 0 → ((x1 = 13 → Q (some (.inl (-1))) σ) ∧ (¬ x1 = 13 → Q (some (.inl (-3))) σ))) ∧ (¬ x0 = 0 → evm mX1_afterTermBegins [.inl x0, .inl x1, .inr (.inr 1)] σ (fun v τ1 => ∃ r2 : Int32, v = some (.inl r2) ∧ Q (some (.inl r2)) τ1)))))))))) ∧ (¬ x0 = (-1) → ((x0 = (-1) → evm mX1_afterAtomBegins [.inl x1, .inr (.inr 1)] σ (fun v τ1 => ∃ r2 : Int32, v = some (.inl r2) ∧ Q (some (.inl r2)) τ1)) ∧ (¬ x0 = (-1) → ((x0 = (-2) → evm mX1_afterAtomBegins [.inl x1, .inr (.inr 1)] σ (fun v τ1 => ∃ r2 : Int32, v = some (.inl r2) ∧ Q (some (.inl r2)) τ1)) ∧ (¬ x0 = (-2) → ((x0 = 0 → ((x1 = 13 → Q (some (.inl (-1))) σ) ∧ (¬ x1 = 13 → Q (some (.inl (-3))) σ))) ∧ (¬ x0 = 0 → evm mX1_afterTermBegins [.inl x0, .inl x1, .inr (.inr 1)] σ (fun v τ1 => ∃ r2 : Int32, v = some (.inl r2) ∧ Q (some (.inl r2)) τ1)))))))))) :
    ev mX1_after 0 [some (.inl x0), some (.inl x1), some (.inr (.inr 1))] [] σ Q := by
  refine ev_p (pc' := 1) (ls' := [some (.inl x0), some (.inl x1), some (.inr (.inr 1))]) (st' := [.inl x0]) dX1_after_0 rfl ?_
  refine ev_cst (v := (-1)) (pc' := 2) dX1_after_1 (by decide) rfl ?_
  refine ev_ic_ne (tgt := 14) (pc' := 5) dX1_after_2 (by decide) rfl (fun h1 => ?_) (fun h1 => ?_)
  · have k := k.2 h1
    refine ev_p (pc' := 15) (ls' := [some (.inl x0), some (.inl x1), some (.inr (.inr 1))]) (st' := [.inl x0]) dX1_after_14 rfl ?_
    refine ev_cst (v := (-1)) (pc' := 16) dX1_after_15 (by decide) rfl ?_
    refine ev_ic_eq (tgt := 25) (pc' := 19) dX1_after_16 (by decide) rfl (fun h2 => ?_) (fun h2 => ?_)
    · have k := k.1 h2
      refine ev_p (pc' := 26) (ls' := [some (.inl x0), some (.inl x1), some (.inr (.inr 1))]) (st' := [.inl x1]) dX1_after_25 rfl ?_
      refine ev_p (pc' := 27) (ls' := [some (.inl x0), some (.inl x1), some (.inr (.inr 1))]) (st' := [.inr (.inr 1), .inl x1]) dX1_after_26 rfl ?_
      refine ev_call (y := 27) (as := [.inl x1, .inr (.inr 1)]) (r := []) (M' := mX1_afterAtomBegins) (pc' := 30) dX1_after_27 rfl rfl ⟨rfl, rfl⟩ rfl k rfl (fun v τ1 hq => ?_)
      obtain ⟨r2, hv, k⟩ := hq
      rw [hv]
      change ev mX1_after 30 [some (.inl x0), some (.inl x1), some (.inr (.inr 1))] [.inl r2] τ1 _
      exact ev_ret dX1_after_30 rfl k
    · have k := k.2 h2
      refine ev_p (pc' := 20) (ls' := [some (.inl x0), some (.inl x1), some (.inr (.inr 1))]) (st' := [.inl x0]) dX1_after_19 rfl ?_
      refine ev_cst (v := (-2)) (pc' := 22) dX1_after_20 (by decide) rfl ?_
      refine ev_ic_ne (tgt := 31) (pc' := 25) dX1_after_22 (by decide) rfl (fun h3 => ?_) (fun h3 => ?_)
      · have k := k.2 h3
        refine ev_p (pc' := 32) (ls' := [some (.inl x0), some (.inl x1), some (.inr (.inr 1))]) (st' := [.inl x0]) dX1_after_31 rfl ?_
        refine ev_if_ne (tgt := 48) (pc' := 35) dX1_after_32 (by decide) rfl (fun h4 => ?_) (fun h4 => ?_)
        · have k := k.2 h4
          refine ev_p (pc' := 49) (ls' := [some (.inl x0), some (.inl x1), some (.inr (.inr 1))]) (st' := [.inl x0]) dX1_after_48 rfl ?_
          refine ev_p (pc' := 50) (ls' := [some (.inl x0), some (.inl x1), some (.inr (.inr 1))]) (st' := [.inl x1, .inl x0]) dX1_after_49 rfl ?_
          refine ev_p (pc' := 51) (ls' := [some (.inl x0), some (.inl x1), some (.inr (.inr 1))]) (st' := [.inr (.inr 1), .inl x1, .inl x0]) dX1_after_50 rfl ?_
          refine ev_call (y := 30) (as := [.inl x0, .inl x1, .inr (.inr 1)]) (r := []) (M' := mX1_afterTermBegins) (pc' := 54) dX1_after_51 rfl rfl ⟨rfl, rfl⟩ rfl k rfl (fun v τ1 hq => ?_)
          obtain ⟨r2, hv, k⟩ := hq
          rw [hv]
          change ev mX1_after 54 [some (.inl x0), some (.inl x1), some (.inr (.inr 1))] [.inl r2] τ1 _
          exact ev_ret dX1_after_54 rfl k
        · have k := k.1 h4
          refine ev_p (pc' := 36) (ls' := [some (.inl x0), some (.inl x1), some (.inr (.inr 1))]) (st' := [.inl x1]) dX1_after_35 rfl ?_
          refine ev_cst (v := 13) (pc' := 38) dX1_after_36 (by decide) rfl ?_
          refine ev_ic_ne (tgt := 45) (pc' := 41) dX1_after_38 (by decide) rfl (fun h5 => ?_) (fun h5 => ?_)
          · have k := k.2 h5
            refine ev_cst (v := (-3)) (pc' := 47) dX1_after_45 (by decide) rfl ?_
            exact ev_ret dX1_after_47 rfl k
          · have k := k.1 h5
            refine ev_cst (v := (-1)) (pc' := 42) dX1_after_41 (by decide) rfl ?_
            refine ev_go (tgt := 47) dX1_after_42 (by decide) ?_
            exact ev_ret dX1_after_47 rfl k
      · have k := k.1 h3
        refine ev_p (pc' := 26) (ls' := [some (.inl x0), some (.inl x1), some (.inr (.inr 1))]) (st' := [.inl x1]) dX1_after_25 rfl ?_
        refine ev_p (pc' := 27) (ls' := [some (.inl x0), some (.inl x1), some (.inr (.inr 1))]) (st' := [.inr (.inr 1), .inl x1]) dX1_after_26 rfl ?_
        refine ev_call (y := 27) (as := [.inl x1, .inr (.inr 1)]) (r := []) (M' := mX1_afterAtomBegins) (pc' := 30) dX1_after_27 rfl rfl ⟨rfl, rfl⟩ rfl k rfl (fun v τ1 hq => ?_)
        obtain ⟨r2, hv, k⟩ := hq
        rw [hv]
        change ev mX1_after 30 [some (.inl x0), some (.inl x1), some (.inr (.inr 1))] [.inl r2] τ1 _
        exact ev_ret dX1_after_30 rfl k
  · have k := k.1 h1
    refine ev_p (pc' := 6) (ls' := [some (.inl x0), some (.inl x1), some (.inr (.inr 1))]) (st' := [.inl x1]) dX1_after_5 rfl ?_
    refine ev_cst (v := 12) (pc' := 8) dX1_after_6 (by decide) rfl ?_
    refine ev_ic_ne (tgt := 14) (pc' := 11) dX1_after_8 (by decide) rfl (fun h6 => ?_) (fun h6 => ?_)
    · have k := k.2 h6
      refine ev_p (pc' := 15) (ls' := [some (.inl x0), some (.inl x1), some (.inr (.inr 1))]) (st' := [.inl x0]) dX1_after_14 rfl ?_
      refine ev_cst (v := (-1)) (pc' := 16) dX1_after_15 (by decide) rfl ?_
      refine ev_ic_eq (tgt := 25) (pc' := 19) dX1_after_16 (by decide) rfl (fun h7 => ?_) (fun h7 => ?_)
      · have k := k.1 h7
        refine ev_p (pc' := 26) (ls' := [some (.inl x0), some (.inl x1), some (.inr (.inr 1))]) (st' := [.inl x1]) dX1_after_25 rfl ?_
        refine ev_p (pc' := 27) (ls' := [some (.inl x0), some (.inl x1), some (.inr (.inr 1))]) (st' := [.inr (.inr 1), .inl x1]) dX1_after_26 rfl ?_
        refine ev_call (y := 27) (as := [.inl x1, .inr (.inr 1)]) (r := []) (M' := mX1_afterAtomBegins) (pc' := 30) dX1_after_27 rfl rfl ⟨rfl, rfl⟩ rfl k rfl (fun v τ1 hq => ?_)
        obtain ⟨r2, hv, k⟩ := hq
        rw [hv]
        change ev mX1_after 30 [some (.inl x0), some (.inl x1), some (.inr (.inr 1))] [.inl r2] τ1 _
        exact ev_ret dX1_after_30 rfl k
      · have k := k.2 h7
        refine ev_p (pc' := 20) (ls' := [some (.inl x0), some (.inl x1), some (.inr (.inr 1))]) (st' := [.inl x0]) dX1_after_19 rfl ?_
        refine ev_cst (v := (-2)) (pc' := 22) dX1_after_20 (by decide) rfl ?_
        refine ev_ic_ne (tgt := 31) (pc' := 25) dX1_after_22 (by decide) rfl (fun h8 => ?_) (fun h8 => ?_)
        · have k := k.2 h8
          refine ev_p (pc' := 32) (ls' := [some (.inl x0), some (.inl x1), some (.inr (.inr 1))]) (st' := [.inl x0]) dX1_after_31 rfl ?_
          refine ev_if_ne (tgt := 48) (pc' := 35) dX1_after_32 (by decide) rfl (fun h9 => ?_) (fun h9 => ?_)
          · have k := k.2 h9
            refine ev_p (pc' := 49) (ls' := [some (.inl x0), some (.inl x1), some (.inr (.inr 1))]) (st' := [.inl x0]) dX1_after_48 rfl ?_
            refine ev_p (pc' := 50) (ls' := [some (.inl x0), some (.inl x1), some (.inr (.inr 1))]) (st' := [.inl x1, .inl x0]) dX1_after_49 rfl ?_
            refine ev_p (pc' := 51) (ls' := [some (.inl x0), some (.inl x1), some (.inr (.inr 1))]) (st' := [.inr (.inr 1), .inl x1, .inl x0]) dX1_after_50 rfl ?_
            refine ev_call (y := 30) (as := [.inl x0, .inl x1, .inr (.inr 1)]) (r := []) (M' := mX1_afterTermBegins) (pc' := 54) dX1_after_51 rfl rfl ⟨rfl, rfl⟩ rfl k rfl (fun v τ1 hq => ?_)
            obtain ⟨r2, hv, k⟩ := hq
            rw [hv]
            change ev mX1_after 54 [some (.inl x0), some (.inl x1), some (.inr (.inr 1))] [.inl r2] τ1 _
            exact ev_ret dX1_after_54 rfl k
          · have k := k.1 h9
            refine ev_p (pc' := 36) (ls' := [some (.inl x0), some (.inl x1), some (.inr (.inr 1))]) (st' := [.inl x1]) dX1_after_35 rfl ?_
            refine ev_cst (v := 13) (pc' := 38) dX1_after_36 (by decide) rfl ?_
            refine ev_ic_ne (tgt := 45) (pc' := 41) dX1_after_38 (by decide) rfl (fun h10 => ?_) (fun h10 => ?_)
            · have k := k.2 h10
              refine ev_cst (v := (-3)) (pc' := 47) dX1_after_45 (by decide) rfl ?_
              exact ev_ret dX1_after_47 rfl k
            · have k := k.1 h10
              refine ev_cst (v := (-1)) (pc' := 42) dX1_after_41 (by decide) rfl ?_
              refine ev_go (tgt := 47) dX1_after_42 (by decide) ?_
              exact ev_ret dX1_after_47 rfl k
        · have k := k.1 h8
          refine ev_p (pc' := 26) (ls' := [some (.inl x0), some (.inl x1), some (.inr (.inr 1))]) (st' := [.inl x1]) dX1_after_25 rfl ?_
          refine ev_p (pc' := 27) (ls' := [some (.inl x0), some (.inl x1), some (.inr (.inr 1))]) (st' := [.inr (.inr 1), .inl x1]) dX1_after_26 rfl ?_
          refine ev_call (y := 27) (as := [.inl x1, .inr (.inr 1)]) (r := []) (M' := mX1_afterAtomBegins) (pc' := 30) dX1_after_27 rfl rfl ⟨rfl, rfl⟩ rfl k rfl (fun v τ1 hq => ?_)
          obtain ⟨r2, hv, k⟩ := hq
          rw [hv]
          change ev mX1_after 30 [some (.inl x0), some (.inl x1), some (.inr (.inr 1))] [.inl r2] τ1 _
          exact ev_ret dX1_after_30 rfl k
    · have k := k.1 h6
      refine ev_cst (v := (-2)) (pc' := 13) dX1_after_11 (by decide) rfl ?_
      exact ev_ret dX1_after_13 rfl k
set_option maxRecDepth 20000 in
theorem s_X1_afterAtomBegins_0 {σ : ab_M} {Q : Option ab_V → ab_M → Prop} {x0 : Int32}
    (k : ((x0 = 11 → Q (some (.inl 2)) σ) ∧ (¬ x0 = 11 → evm mX7_isPredicate [.inl x0] σ (fun v τ1 => ∃ r2 : Int32, v = some (.inl r2) ∧ ((r2 = 0 → Q (some (.inl (-3))) τ1) ∧ (¬ r2 = 0 → evm mX5_arityOf [.inr (.inr 1), .inl x0] τ1 (fun v τ3 => ∃ r4 : Int32, v = some (.inl r4) ∧ ((r4 = (-1) → Q (some (.inl (-3))) τ3) ∧ (¬ r4 = (-1) → evm mX5_arityOf [.inr (.inr 1), .inl x0] τ3 (fun v τ5 => ∃ r6 : Int32, v = some (.inl r6) ∧ Q (some (.inl r6)) τ5)))))))))) :
    ev mX1_afterAtomBegins 0 [some (.inl x0), some (.inr (.inr 1)), none] [] σ Q := by
  refine ev_p (pc' := 1) (ls' := [some (.inl x0), some (.inr (.inr 1)), none]) (st' := [.inl x0]) dX1_afterAtomBegins_0 rfl ?_
  refine ev_cst (v := 11) (pc' := 3) dX1_afterAtomBegins_1 (by decide) rfl ?_
  refine ev_ic_ne (tgt := 8) (pc' := 6) dX1_afterAtomBegins_3 (by decide) rfl (fun h1 => ?_) (fun h1 => ?_)
  · have k := k.2 h1
    refine ev_p (pc' := 9) (ls' := [some (.inl x0), some (.inr (.inr 1)), none]) (st' := [.inl x0]) dX1_afterAtomBegins_8 rfl ?_
    refine ev_call (y := 28) (as := [.inl x0]) (r := []) (M' := mX7_isPredicate) (pc' := 12) dX1_afterAtomBegins_9 rfl rfl ⟨rfl, rfl⟩ rfl k rfl (fun v τ1 hq => ?_)
    obtain ⟨r2, hv, k⟩ := hq
    rw [hv]
    change ev mX1_afterAtomBegins 12 [some (.inl x0), some (.inr (.inr 1)), none] [.inl r2] τ1 _
    refine ev_if_eq (tgt := 28) (pc' := 15) dX1_afterAtomBegins_12 (by decide) rfl (fun h2 => ?_) (fun h2 => ?_)
    · have k := k.1 h2
      refine ev_cst (v := 0) (pc' := 29) dX1_afterAtomBegins_28 (by decide) rfl ?_
      refine ev_p (pc' := 30) (ls' := [some (.inl x0), some (.inr (.inr 1)), some (.inl 0)]) (st' := []) dX1_afterAtomBegins_29 rfl ?_
      refine ev_p (pc' := 31) (ls' := [some (.inl x0), some (.inr (.inr 1)), some (.inl 0)]) (st' := [.inl 0]) dX1_afterAtomBegins_30 rfl ?_
      refine ev_if_eq (tgt := 42) (pc' := 34) dX1_afterAtomBegins_31 (by decide) rfl (fun _ => ?_) (fun h => absurd h (by decide))
      refine ev_cst (v := (-3)) (pc' := 44) dX1_afterAtomBegins_42 (by decide) rfl ?_
      exact ev_ret dX1_afterAtomBegins_44 rfl k
    · have k := k.2 h2
      refine ev_p (pc' := 16) (ls' := [some (.inl x0), some (.inr (.inr 1)), none]) (st' := [.inr (.inr 1)]) dX1_afterAtomBegins_15 rfl ?_
      refine ev_p (pc' := 17) (ls' := [some (.inl x0), some (.inr (.inr 1)), none]) (st' := [.inl x0, .inr (.inr 1)]) dX1_afterAtomBegins_16 rfl ?_
      refine ev_call (y := 29) (as := [.inr (.inr 1), .inl x0]) (r := []) (M' := mX5_arityOf) (pc' := 20) dX1_afterAtomBegins_17 rfl rfl ⟨rfl, rfl⟩ rfl k rfl (fun v τ3 hq => ?_)
      obtain ⟨r4, hv, k⟩ := hq
      rw [hv]
      change ev mX1_afterAtomBegins 20 [some (.inl x0), some (.inr (.inr 1)), none] [.inl r4] τ3 _
      refine ev_cst (v := (-1)) (pc' := 21) dX1_afterAtomBegins_20 (by decide) rfl ?_
      refine ev_ic_eq (tgt := 28) (pc' := 24) dX1_afterAtomBegins_21 (by decide) rfl (fun h3 => ?_) (fun h3 => ?_)
      · have k := k.1 h3
        refine ev_cst (v := 0) (pc' := 29) dX1_afterAtomBegins_28 (by decide) rfl ?_
        refine ev_p (pc' := 30) (ls' := [some (.inl x0), some (.inr (.inr 1)), some (.inl 0)]) (st' := []) dX1_afterAtomBegins_29 rfl ?_
        refine ev_p (pc' := 31) (ls' := [some (.inl x0), some (.inr (.inr 1)), some (.inl 0)]) (st' := [.inl 0]) dX1_afterAtomBegins_30 rfl ?_
        refine ev_if_eq (tgt := 42) (pc' := 34) dX1_afterAtomBegins_31 (by decide) rfl (fun _ => ?_) (fun h => absurd h (by decide))
        refine ev_cst (v := (-3)) (pc' := 44) dX1_afterAtomBegins_42 (by decide) rfl ?_
        exact ev_ret dX1_afterAtomBegins_44 rfl k
      · have k := k.2 h3
        refine ev_cst (v := 1) (pc' := 25) dX1_afterAtomBegins_24 (by decide) rfl ?_
        refine ev_go (tgt := 29) dX1_afterAtomBegins_25 (by decide) ?_
        refine ev_p (pc' := 30) (ls' := [some (.inl x0), some (.inr (.inr 1)), some (.inl 1)]) (st' := []) dX1_afterAtomBegins_29 rfl ?_
        refine ev_p (pc' := 31) (ls' := [some (.inl x0), some (.inr (.inr 1)), some (.inl 1)]) (st' := [.inl 1]) dX1_afterAtomBegins_30 rfl ?_
        refine ev_if_eq (tgt := 42) (pc' := 34) dX1_afterAtomBegins_31 (by decide) rfl (fun h => absurd h (by decide)) (fun _ => ?_)
        refine ev_p (pc' := 35) (ls' := [some (.inl x0), some (.inr (.inr 1)), some (.inl 1)]) (st' := [.inr (.inr 1)]) dX1_afterAtomBegins_34 rfl ?_
        refine ev_p (pc' := 36) (ls' := [some (.inl x0), some (.inr (.inr 1)), some (.inl 1)]) (st' := [.inl x0, .inr (.inr 1)]) dX1_afterAtomBegins_35 rfl ?_
        refine ev_call (y := 29) (as := [.inr (.inr 1), .inl x0]) (r := []) (M' := mX5_arityOf) (pc' := 39) dX1_afterAtomBegins_36 rfl rfl ⟨rfl, rfl⟩ rfl k rfl (fun v τ5 hq => ?_)
        obtain ⟨r6, hv, k⟩ := hq
        rw [hv]
        change ev mX1_afterAtomBegins 39 [some (.inl x0), some (.inr (.inr 1)), some (.inl 1)] [.inl r6] τ5 _
        refine ev_go (tgt := 44) dX1_afterAtomBegins_39 (by decide) ?_
        exact ev_ret dX1_afterAtomBegins_44 rfl k
  · have k := k.1 h1
    refine ev_cst (v := 2) (pc' := 7) dX1_afterAtomBegins_6 (by decide) rfl ?_
    exact ev_ret dX1_afterAtomBegins_7 rfl k
set_option maxRecDepth 20000 in
theorem s_X1_afterTermBegins_0 {σ : ab_M} {Q : Option ab_V → ab_M → Prop} {x0 : Int32} {x1 : Int32}
    (k : evm mX7_isVariable [.inl x1] σ (fun v τ1 => ∃ r2 : Int32, v = some (.inl r2) ∧ ((r2 = 0 → evm mX7_isFunction [.inl x1] τ1 (fun v τ3 => ∃ r4 : Int32, v = some (.inl r4) ∧ ((r4 = 0 → Q (some (.inl (-3))) τ3) ∧ (¬ r4 = 0 → evm mX5_arityOf [.inr (.inr 1), .inl x1] τ3 (fun v τ5 => ∃ r6 : Int32, v = some (.inl r6) ∧ ((r6 = (-1) → Q (some (.inl (-3))) τ5) ∧ (¬ r6 = (-1) → evm mX5_arityOf [.inr (.inr 1), .inl x1] τ5 (fun v τ7 => ∃ r8 : Int32, v = some (.inl r8) ∧ Q (some (.inl ((x0 - 1) + r8))) τ7)))))))) ∧ (¬ r2 = 0 → Q (some (.inl (x0 - 1))) τ1)))) :
    ev mX1_afterTermBegins 0 [some (.inl x0), some (.inl x1), some (.inr (.inr 1)), none] [] σ Q := by
  refine ev_p (pc' := 1) (ls' := [some (.inl x0), some (.inl x1), some (.inr (.inr 1)), none]) (st' := [.inl x1]) dX1_afterTermBegins_0 rfl ?_
  refine ev_call (y := 31) (as := [.inl x1]) (r := []) (M' := mX7_isVariable) (pc' := 4) dX1_afterTermBegins_1 rfl rfl ⟨rfl, rfl⟩ rfl k rfl (fun v τ1 hq => ?_)
  obtain ⟨r2, hv, k⟩ := hq
  rw [hv]
  change ev mX1_afterTermBegins 4 [some (.inl x0), some (.inl x1), some (.inr (.inr 1)), none] [.inl r2] τ1 _
  refine ev_if_eq (tgt := 11) (pc' := 7) dX1_afterTermBegins_4 (by decide) rfl (fun h1 => ?_) (fun h1 => ?_)
  · have k := k.1 h1
    refine ev_p (pc' := 12) (ls' := [some (.inl x0), some (.inl x1), some (.inr (.inr 1)), none]) (st' := [.inl x1]) dX1_afterTermBegins_11 rfl ?_
    refine ev_call (y := 32) (as := [.inl x1]) (r := []) (M' := mX7_isFunction) (pc' := 15) dX1_afterTermBegins_12 rfl rfl ⟨rfl, rfl⟩ rfl k rfl (fun v τ3 hq => ?_)
    obtain ⟨r4, hv, k⟩ := hq
    rw [hv]
    change ev mX1_afterTermBegins 15 [some (.inl x0), some (.inl x1), some (.inr (.inr 1)), none] [.inl r4] τ3 _
    refine ev_if_eq (tgt := 31) (pc' := 18) dX1_afterTermBegins_15 (by decide) rfl (fun h2 => ?_) (fun h2 => ?_)
    · have k := k.1 h2
      refine ev_cst (v := 0) (pc' := 32) dX1_afterTermBegins_31 (by decide) rfl ?_
      refine ev_p (pc' := 33) (ls' := [some (.inl x0), some (.inl x1), some (.inr (.inr 1)), some (.inl 0)]) (st' := []) dX1_afterTermBegins_32 rfl ?_
      refine ev_p (pc' := 34) (ls' := [some (.inl x0), some (.inl x1), some (.inr (.inr 1)), some (.inl 0)]) (st' := [.inl 0]) dX1_afterTermBegins_33 rfl ?_
      refine ev_if_eq (tgt := 49) (pc' := 37) dX1_afterTermBegins_34 (by decide) rfl (fun _ => ?_) (fun h => absurd h (by decide))
      refine ev_cst (v := (-3)) (pc' := 51) dX1_afterTermBegins_49 (by decide) rfl ?_
      exact ev_ret dX1_afterTermBegins_51 rfl k
    · have k := k.2 h2
      refine ev_p (pc' := 19) (ls' := [some (.inl x0), some (.inl x1), some (.inr (.inr 1)), none]) (st' := [.inr (.inr 1)]) dX1_afterTermBegins_18 rfl ?_
      refine ev_p (pc' := 20) (ls' := [some (.inl x0), some (.inl x1), some (.inr (.inr 1)), none]) (st' := [.inl x1, .inr (.inr 1)]) dX1_afterTermBegins_19 rfl ?_
      refine ev_call (y := 29) (as := [.inr (.inr 1), .inl x1]) (r := []) (M' := mX5_arityOf) (pc' := 23) dX1_afterTermBegins_20 rfl rfl ⟨rfl, rfl⟩ rfl k rfl (fun v τ5 hq => ?_)
      obtain ⟨r6, hv, k⟩ := hq
      rw [hv]
      change ev mX1_afterTermBegins 23 [some (.inl x0), some (.inl x1), some (.inr (.inr 1)), none] [.inl r6] τ5 _
      refine ev_cst (v := (-1)) (pc' := 24) dX1_afterTermBegins_23 (by decide) rfl ?_
      refine ev_ic_eq (tgt := 31) (pc' := 27) dX1_afterTermBegins_24 (by decide) rfl (fun h3 => ?_) (fun h3 => ?_)
      · have k := k.1 h3
        refine ev_cst (v := 0) (pc' := 32) dX1_afterTermBegins_31 (by decide) rfl ?_
        refine ev_p (pc' := 33) (ls' := [some (.inl x0), some (.inl x1), some (.inr (.inr 1)), some (.inl 0)]) (st' := []) dX1_afterTermBegins_32 rfl ?_
        refine ev_p (pc' := 34) (ls' := [some (.inl x0), some (.inl x1), some (.inr (.inr 1)), some (.inl 0)]) (st' := [.inl 0]) dX1_afterTermBegins_33 rfl ?_
        refine ev_if_eq (tgt := 49) (pc' := 37) dX1_afterTermBegins_34 (by decide) rfl (fun _ => ?_) (fun h => absurd h (by decide))
        refine ev_cst (v := (-3)) (pc' := 51) dX1_afterTermBegins_49 (by decide) rfl ?_
        exact ev_ret dX1_afterTermBegins_51 rfl k
      · have k := k.2 h3
        refine ev_cst (v := 1) (pc' := 28) dX1_afterTermBegins_27 (by decide) rfl ?_
        refine ev_go (tgt := 32) dX1_afterTermBegins_28 (by decide) ?_
        refine ev_p (pc' := 33) (ls' := [some (.inl x0), some (.inl x1), some (.inr (.inr 1)), some (.inl 1)]) (st' := []) dX1_afterTermBegins_32 rfl ?_
        refine ev_p (pc' := 34) (ls' := [some (.inl x0), some (.inl x1), some (.inr (.inr 1)), some (.inl 1)]) (st' := [.inl 1]) dX1_afterTermBegins_33 rfl ?_
        refine ev_if_eq (tgt := 49) (pc' := 37) dX1_afterTermBegins_34 (by decide) rfl (fun h => absurd h (by decide)) (fun _ => ?_)
        refine ev_p (pc' := 38) (ls' := [some (.inl x0), some (.inl x1), some (.inr (.inr 1)), some (.inl 1)]) (st' := [.inl x0]) dX1_afterTermBegins_37 rfl ?_
        refine ev_cst (v := 1) (pc' := 39) dX1_afterTermBegins_38 (by decide) rfl ?_
        refine ev_p (pc' := 40) (ls' := [some (.inl x0), some (.inl x1), some (.inr (.inr 1)), some (.inl 1)]) (st' := [.inl (x0 - 1)]) dX1_afterTermBegins_39 rfl ?_
        refine ev_p (pc' := 41) (ls' := [some (.inl x0), some (.inl x1), some (.inr (.inr 1)), some (.inl 1)]) (st' := [.inr (.inr 1), .inl (x0 - 1)]) dX1_afterTermBegins_40 rfl ?_
        refine ev_p (pc' := 42) (ls' := [some (.inl x0), some (.inl x1), some (.inr (.inr 1)), some (.inl 1)]) (st' := [.inl x1, .inr (.inr 1), .inl (x0 - 1)]) dX1_afterTermBegins_41 rfl ?_
        refine ev_call (y := 29) (as := [.inr (.inr 1), .inl x1]) (r := [.inl (x0 - 1)]) (M' := mX5_arityOf) (pc' := 45) dX1_afterTermBegins_42 rfl rfl ⟨rfl, rfl⟩ rfl k rfl (fun v τ7 hq => ?_)
        obtain ⟨r8, hv, k⟩ := hq
        rw [hv]
        change ev mX1_afterTermBegins 45 [some (.inl x0), some (.inl x1), some (.inr (.inr 1)), some (.inl 1)] [.inl r8, .inl (x0 - 1)] τ7 _
        refine ev_p (pc' := 46) (ls' := [some (.inl x0), some (.inl x1), some (.inr (.inr 1)), some (.inl 1)]) (st' := [.inl ((x0 - 1) + r8)]) dX1_afterTermBegins_45 rfl ?_
        refine ev_go (tgt := 51) dX1_afterTermBegins_46 (by decide) ?_
        exact ev_ret dX1_afterTermBegins_51 rfl k
  · have k := k.2 h1
    refine ev_p (pc' := 8) (ls' := [some (.inl x0), some (.inl x1), some (.inr (.inr 1)), none]) (st' := [.inl x0]) dX1_afterTermBegins_7 rfl ?_
    refine ev_cst (v := 1) (pc' := 9) dX1_afterTermBegins_8 (by decide) rfl ?_
    refine ev_p (pc' := 10) (ls' := [some (.inl x0), some (.inl x1), some (.inr (.inr 1)), none]) (st' := [.inl (x0 - 1)]) dX1_afterTermBegins_9 rfl ?_
    exact ev_ret dX1_afterTermBegins_10 rfl k
set_option maxRecDepth 20000 in
theorem s_X1_keep_0 {σ : ab_M} {Q : Option ab_V → ab_M → Prop} {q : Nat} {x1 : Int32} (hq : sh0[q]? = some (.inl (1, [some (some (q + 1)), some (some (q + 2)), none]))) (hq1 : sh0[q + 1]? = some (.inr (.inl (0, 60)))) (hq2 : sh0[q + 2]? = some (.inr (.inl (2, 3))))
    (k : ((60 ≤ (σ q 2) → evm mX7_isVariable [.inl x1] σ (fun v τ1 => ∃ r2 : Int32, v = some (.inl r2) ∧ ((r2 = 0 → Q none τ1) ∧ (¬ r2 = 0 → ab_in (x1 - 8) 3 = true ∧ Q none (ab_upd τ1 (q + 2) (x1 - 8).toNatClampNeg 1))))) ∧ (¬ 60 ≤ (σ q 2) → ab_in (σ q 2) 60 = true ∧ evm mX7_isVariable [.inl x1] (ab_upd (ab_upd σ (q + 1) (σ q 2).toNatClampNeg x1) q 2 (((ab_upd σ (q + 1) (σ q 2).toNatClampNeg x1) q 2) + 1)) (fun v τ1 => ∃ r2 : Int32, v = some (.inl r2) ∧ ((r2 = 0 → Q none τ1) ∧ (¬ r2 = 0 → ab_in (x1 - 8) 3 = true ∧ Q none (ab_upd τ1 (q + 2) (x1 - 8).toNatClampNeg 1))))))) :
    ev mX1_keep 0 [some (.inr (.inr q)), some (.inl x1)] [] σ Q := by
  refine ev_p (pc' := 1) (ls' := [some (.inr (.inr q)), some (.inl x1)]) (st' := [.inr (.inr q)]) dX1_keep_0 rfl ?_
  refine ev_getI (pc' := 4) dX1_keep_1 rfl hq rfl rfl ?_
  refine ev_cst (v := 60) (pc' := 6) dX1_keep_4 (by decide) rfl ?_
  refine ev_ic_ge (tgt := 29) (pc' := 9) dX1_keep_6 (by decide) rfl (fun h1 => ?_) (fun h1 => ?_)
  · have k := k.1 h1
    refine ev_p (pc' := 30) (ls' := [some (.inr (.inr q)), some (.inl x1)]) (st' := [.inl x1]) dX1_keep_29 rfl ?_
    refine ev_call (y := 31) (as := [.inl x1]) (r := []) (M' := mX7_isVariable) (pc' := 33) dX1_keep_30 rfl rfl ⟨rfl, rfl⟩ rfl k rfl (fun v τ1 hq => ?_)
    obtain ⟨r2, hv, k⟩ := hq
    rw [hv]
    change ev mX1_keep 33 [some (.inr (.inr q)), some (.inl x1)] [.inl r2] τ1 _
    refine ev_if_eq (tgt := 46) (pc' := 36) dX1_keep_33 (by decide) rfl (fun h2 => ?_) (fun h2 => ?_)
    · have k := k.1 h2
      exact ev_ret dX1_keep_46 rfl k
    · have k := k.2 h2
      refine ev_p (pc' := 37) (ls' := [some (.inr (.inr q)), some (.inl x1)]) (st' := [.inr (.inr q)]) dX1_keep_36 rfl ?_
      refine ev_getA (pc' := 40) (z := q + 2) dX1_keep_37 rfl hq rfl rfl ?_
      refine ev_p (pc' := 41) (ls' := [some (.inr (.inr q)), some (.inl x1)]) (st' := [.inl x1, .inr (.inr (q + 2))]) dX1_keep_40 rfl ?_
      refine ev_cst (v := 8) (pc' := 43) dX1_keep_41 (by decide) rfl ?_
      refine ev_p (pc' := 44) (ls' := [some (.inr (.inr q)), some (.inl x1)]) (st' := [.inl (x1 - 8), .inr (.inr (q + 2))]) dX1_keep_43 rfl ?_
      refine ev_cst (v := 1) (pc' := 45) dX1_keep_44 (by decide) rfl ?_
      refine ev_stor (pc' := 46) (z := 1) rfl dX1_keep_45 hq2 rfl k.1 (by decide) rfl ?_
      have k := k.2
      exact ev_ret dX1_keep_46 rfl k
  · have k := k.2 h1
    refine ev_p (pc' := 10) (ls' := [some (.inr (.inr q)), some (.inl x1)]) (st' := [.inr (.inr q)]) dX1_keep_9 rfl ?_
    refine ev_getA (pc' := 13) (z := q + 1) dX1_keep_10 rfl hq rfl rfl ?_
    refine ev_p (pc' := 14) (ls' := [some (.inr (.inr q)), some (.inl x1)]) (st' := [.inr (.inr q), .inr (.inr (q + 1))]) dX1_keep_13 rfl ?_
    refine ev_getI (pc' := 17) dX1_keep_14 rfl hq rfl rfl ?_
    refine ev_p (pc' := 18) (ls' := [some (.inr (.inr q)), some (.inl x1)]) (st' := [.inl x1, .inl (σ q 2), .inr (.inr (q + 1))]) dX1_keep_17 rfl ?_
    refine ev_stor (pc' := 19) (z := x1) rfl dX1_keep_18 hq1 rfl k.1 rfl rfl ?_
    have k := k.2
    refine ev_p (pc' := 20) (ls' := [some (.inr (.inr q)), some (.inl x1)]) (st' := [.inr (.inr q)]) dX1_keep_19 rfl ?_
    refine ev_p (pc' := 21) (ls' := [some (.inr (.inr q)), some (.inl x1)]) (st' := [.inr (.inr q), .inr (.inr q)]) dX1_keep_20 rfl ?_
    refine ev_getI (pc' := 24) dX1_keep_21 rfl hq rfl rfl ?_
    refine ev_cst (v := 1) (pc' := 25) dX1_keep_24 (by decide) rfl ?_
    refine ev_p (pc' := 26) (ls' := [some (.inr (.inr q)), some (.inl x1)]) (st' := [.inl (((ab_upd σ (q + 1) (σ q 2).toNatClampNeg x1) q 2) + 1), .inr (.inr q)]) dX1_keep_25 rfl ?_
    refine ev_putI (pc' := 29) dX1_keep_26 rfl hq rfl rfl rfl rfl ?_
    refine ev_p (pc' := 30) (ls' := [some (.inr (.inr q)), some (.inl x1)]) (st' := [.inl x1]) dX1_keep_29 rfl ?_
    refine ev_call (y := 31) (as := [.inl x1]) (r := []) (M' := mX7_isVariable) (pc' := 33) dX1_keep_30 rfl rfl ⟨rfl, rfl⟩ rfl k rfl (fun v τ1 hq => ?_)
    obtain ⟨r2, hv, k⟩ := hq
    rw [hv]
    change ev mX1_keep 33 [some (.inr (.inr q)), some (.inl x1)] [.inl r2] τ1 _
    refine ev_if_eq (tgt := 46) (pc' := 36) dX1_keep_33 (by decide) rfl (fun h3 => ?_) (fun h3 => ?_)
    · have k := k.1 h3
      exact ev_ret dX1_keep_46 rfl k
    · have k := k.2 h3
      refine ev_p (pc' := 37) (ls' := [some (.inr (.inr q)), some (.inl x1)]) (st' := [.inr (.inr q)]) dX1_keep_36 rfl ?_
      refine ev_getA (pc' := 40) (z := q + 2) dX1_keep_37 rfl hq rfl rfl ?_
      refine ev_p (pc' := 41) (ls' := [some (.inr (.inr q)), some (.inl x1)]) (st' := [.inl x1, .inr (.inr (q + 2))]) dX1_keep_40 rfl ?_
      refine ev_cst (v := 8) (pc' := 43) dX1_keep_41 (by decide) rfl ?_
      refine ev_p (pc' := 44) (ls' := [some (.inr (.inr q)), some (.inl x1)]) (st' := [.inl (x1 - 8), .inr (.inr (q + 2))]) dX1_keep_43 rfl ?_
      refine ev_cst (v := 1) (pc' := 45) dX1_keep_44 (by decide) rfl ?_
      refine ev_stor (pc' := 46) (z := 1) rfl dX1_keep_45 hq2 rfl k.1 (by decide) rfl ?_
      have k := k.2
      exact ev_ret dX1_keep_46 rfl k
set_option maxRecDepth 20000 in
theorem s_X1_choices_0 {σ : ab_M} {Q : Option ab_V → ab_M → Prop} {q : Nat} {x1 : Int32} {x2 : Int32} (hq : sh0[q]? = some (.inl (1, [some (some (q + 1)), some (some (q + 2)), none]))) (hq1 : sh0[q + 1]? = some (.inr (.inl (0, 60)))) (hq2 : sh0[q + 2]? = some (.inr (.inl (2, 3))))
    (k : ((x1 < 0 → Q (some (.inl 1)) σ) ∧ (¬ x1 < 0 → ((3 ≤ x1 → Q (some (.inl 1)) σ) ∧ (¬ 3 ≤ x1 → ab_in x1 3 = true ∧ (((σ (q + 2) x1.toNatClampNeg) = 0 → Q (some (.inl 1)) σ) ∧ (¬ (σ (q + 2) x1.toNatClampNeg) = 0 → Q (some (.inl x2)) σ))))))) :
    ev mX1_choices 0 [some (.inr (.inr q)), some (.inl x1), some (.inl x2)] [] σ Q := by
  refine ev_p (pc' := 1) (ls' := [some (.inr (.inr q)), some (.inl x1), some (.inl x2)]) (st' := [.inl x1]) dX1_choices_0 rfl ?_
  refine ev_if_lt (tgt := 22) (pc' := 4) dX1_choices_1 (by decide) rfl (fun h1 => ?_) (fun h1 => ?_)
  · have k := k.1 h1
    refine ev_cst (v := 1) (pc' := 23) dX1_choices_22 (by decide) rfl ?_
    exact ev_ret dX1_choices_23 rfl k
  · have k := k.2 h1
    refine ev_p (pc' := 5) (ls' := [some (.inr (.inr q)), some (.inl x1), some (.inl x2)]) (st' := [.inl x1]) dX1_choices_4 rfl ?_
    refine ev_cst (v := 3) (pc' := 6) dX1_choices_5 (by decide) rfl ?_
    refine ev_ic_ge (tgt := 22) (pc' := 9) dX1_choices_6 (by decide) rfl (fun h2 => ?_) (fun h2 => ?_)
    · have k := k.1 h2
      refine ev_cst (v := 1) (pc' := 23) dX1_choices_22 (by decide) rfl ?_
      exact ev_ret dX1_choices_23 rfl k
    · have k := k.2 h2
      refine ev_p (pc' := 10) (ls' := [some (.inr (.inr q)), some (.inl x1), some (.inl x2)]) (st' := [.inr (.inr q)]) dX1_choices_9 rfl ?_
      refine ev_getA (pc' := 13) (z := q + 2) dX1_choices_10 rfl hq rfl rfl ?_
      refine ev_p (pc' := 14) (ls' := [some (.inr (.inr q)), some (.inl x1), some (.inl x2)]) (st' := [.inl x1, .inr (.inr (q + 2))]) dX1_choices_13 rfl ?_
      refine ev_load (pc' := 15) rfl dX1_choices_14 hq2 rfl k.1 rfl ?_
      have k := k.2
      refine ev_if_eq (tgt := 22) (pc' := 18) dX1_choices_15 (by decide) rfl (fun h3 => ?_) (fun h3 => ?_)
      · have k := k.1 h3
        refine ev_cst (v := 1) (pc' := 23) dX1_choices_22 (by decide) rfl ?_
        exact ev_ret dX1_choices_23 rfl k
      · have k := k.2 h3
        refine ev_p (pc' := 19) (ls' := [some (.inr (.inr q)), some (.inl x1), some (.inl x2)]) (st' := [.inl x2]) dX1_choices_18 rfl ?_
        refine ev_go (tgt := 23) dX1_choices_19 (by decide) ?_
        exact ev_ret dX1_choices_23 rfl k
set_option maxRecDepth 20000 in
theorem s_X1_length_0 {σ : ab_M} {Q : Option ab_V → ab_M → Prop} {q : Nat} (hq : sh0[q]? = some (.inl (1, [some (some (q + 1)), some (some (q + 2)), none]))) (hq1 : sh0[q + 1]? = some (.inr (.inl (0, 60)))) (hq2 : sh0[q + 2]? = some (.inr (.inl (2, 3))))
    (k : Q (some (.inl (σ q 2))) σ) :
    ev mX1_length 0 [some (.inr (.inr q))] [] σ Q := by
  refine ev_p (pc' := 1) (ls' := [some (.inr (.inr q))]) (st' := [.inr (.inr q)]) dX1_length_0 rfl ?_
  refine ev_getI (pc' := 4) dX1_length_1 rfl hq rfl rfl ?_
  exact ev_ret dX1_length_4 rfl k
set_option maxRecDepth 20000 in
theorem s_X1_codeAt_0 {σ : ab_M} {Q : Option ab_V → ab_M → Prop} {q : Nat} {x1 : Int32} (hq : sh0[q]? = some (.inl (1, [some (some (q + 1)), some (some (q + 2)), none]))) (hq1 : sh0[q + 1]? = some (.inr (.inl (0, 60)))) (hq2 : sh0[q + 2]? = some (.inr (.inl (2, 3))))
    (k : ((x1 < 0 → Q (some (.inl (-1))) σ) ∧ (¬ x1 < 0 → ((x1 < (σ q 2) → ab_in x1 60 = true ∧ Q (some (.inl (σ (q + 1) x1.toNatClampNeg))) σ) ∧ (¬ x1 < (σ q 2) → Q (some (.inl (-1))) σ))))) :
    ev mX1_codeAt 0 [some (.inr (.inr q)), some (.inl x1)] [] σ Q := by
  refine ev_p (pc' := 1) (ls' := [some (.inr (.inr q)), some (.inl x1)]) (st' := [.inl x1]) dX1_codeAt_0 rfl ?_
  refine ev_if_lt (tgt := 12) (pc' := 4) dX1_codeAt_1 (by decide) rfl (fun h1 => ?_) (fun h1 => ?_)
  · have k := k.1 h1
    refine ev_cst (v := (-1)) (pc' := 13) dX1_codeAt_12 (by decide) rfl ?_
    refine ev_go (tgt := 22) dX1_codeAt_13 (by decide) ?_
    exact ev_ret dX1_codeAt_22 rfl k
  · have k := k.2 h1
    refine ev_p (pc' := 5) (ls' := [some (.inr (.inr q)), some (.inl x1)]) (st' := [.inl x1]) dX1_codeAt_4 rfl ?_
    refine ev_p (pc' := 6) (ls' := [some (.inr (.inr q)), some (.inl x1)]) (st' := [.inr (.inr q), .inl x1]) dX1_codeAt_5 rfl ?_
    refine ev_getI (pc' := 9) dX1_codeAt_6 rfl hq rfl rfl ?_
    refine ev_ic_lt (tgt := 16) (pc' := 12) dX1_codeAt_9 (by decide) rfl (fun h2 => ?_) (fun h2 => ?_)
    · have k := k.1 h2
      refine ev_p (pc' := 17) (ls' := [some (.inr (.inr q)), some (.inl x1)]) (st' := [.inr (.inr q)]) dX1_codeAt_16 rfl ?_
      refine ev_getA (pc' := 20) (z := q + 1) dX1_codeAt_17 rfl hq rfl rfl ?_
      refine ev_p (pc' := 21) (ls' := [some (.inr (.inr q)), some (.inl x1)]) (st' := [.inl x1, .inr (.inr (q + 1))]) dX1_codeAt_20 rfl ?_
      refine ev_load (pc' := 22) rfl dX1_codeAt_21 hq1 rfl k.1 rfl ?_
      have k := k.2
      exact ev_ret dX1_codeAt_22 rfl k
    · have k := k.2 h2
      refine ev_cst (v := (-1)) (pc' := 13) dX1_codeAt_12 (by decide) rfl ?_
      refine ev_go (tgt := 22) dX1_codeAt_13 (by decide) ?_
      exact ev_ret dX1_codeAt_22 rfl k
