theorem dX0_hasRoomFor_0 : decode (me_b mX0_hasRoomFor) 0 = .ok (.aload_n 0, 1) := by decide +kernel
theorem dX0_hasRoomFor_1 : decode (me_b mX0_hasRoomFor) 1 = .ok (.getfield 15, 3) := by decide +kernel
theorem dX0_hasRoomFor_4 : decode (me_b mX0_hasRoomFor) 4 = .ok (.iload_n 1, 1) := by decide +kernel
theorem dX0_hasRoomFor_5 : decode (me_b mX0_hasRoomFor) 5 = .ok (.iadd, 1) := by decide +kernel
theorem dX0_hasRoomFor_6 : decode (me_b mX0_hasRoomFor) 6 = .ok (.bipush 60, 2) := by decide +kernel
theorem dX0_hasRoomFor_8 : decode (me_b mX0_hasRoomFor) 8 = .ok (.if_icmp .gt 7, 3) := by decide +kernel
theorem dX0_hasRoomFor_11 : decode (me_b mX0_hasRoomFor) 11 = .ok (.iconst 1, 1) := by decide +kernel
theorem dX0_hasRoomFor_12 : decode (me_b mX0_hasRoomFor) 12 = .ok (.goto 4, 3) := by decide +kernel
theorem dX0_hasRoomFor_15 : decode (me_b mX0_hasRoomFor) 15 = .ok (.iconst 0, 1) := by decide +kernel
theorem dX0_hasRoomFor_16 : decode (me_b mX0_hasRoomFor) 16 = .ok (.ireturn, 1) := by decide +kernel
theorem dX0_append_0 : decode (me_b mX0_append) 0 = .ok (.aload_n 0, 1) := by decide +kernel
theorem dX0_append_1 : decode (me_b mX0_append) 1 = .ok (.getfield 15, 3) := by decide +kernel
theorem dX0_append_4 : decode (me_b mX0_append) 4 = .ok (.bipush 60, 2) := by decide +kernel
theorem dX0_append_6 : decode (me_b mX0_append) 6 = .ok (.if_icmp .ge 23, 3) := by decide +kernel
theorem dX0_append_9 : decode (me_b mX0_append) 9 = .ok (.aload_n 0, 1) := by decide +kernel
theorem dX0_append_10 : decode (me_b mX0_append) 10 = .ok (.getfield 9, 3) := by decide +kernel
theorem dX0_append_13 : decode (me_b mX0_append) 13 = .ok (.aload_n 0, 1) := by decide +kernel
theorem dX0_append_14 : decode (me_b mX0_append) 14 = .ok (.getfield 15, 3) := by decide +kernel
theorem dX0_append_17 : decode (me_b mX0_append) 17 = .ok (.iload_n 1, 1) := by decide +kernel
theorem dX0_append_18 : decode (me_b mX0_append) 18 = .ok (.castore, 1) := by decide +kernel
theorem dX0_append_19 : decode (me_b mX0_append) 19 = .ok (.aload_n 0, 1) := by decide +kernel
theorem dX0_append_20 : decode (me_b mX0_append) 20 = .ok (.dup, 1) := by decide +kernel
theorem dX0_append_21 : decode (me_b mX0_append) 21 = .ok (.getfield 15, 3) := by decide +kernel
theorem dX0_append_24 : decode (me_b mX0_append) 24 = .ok (.iconst 1, 1) := by decide +kernel
theorem dX0_append_25 : decode (me_b mX0_append) 25 = .ok (.iadd, 1) := by decide +kernel
theorem dX0_append_26 : decode (me_b mX0_append) 26 = .ok (.putfield 15, 3) := by decide +kernel
theorem dX0_append_29 : decode (me_b mX0_append) 29 = .ok (.return_, 1) := by decide +kernel
theorem dX0_length_0 : decode (me_b mX0_length) 0 = .ok (.aload_n 0, 1) := by decide +kernel
theorem dX0_length_1 : decode (me_b mX0_length) 1 = .ok (.getfield 15, 3) := by decide +kernel
theorem dX0_length_4 : decode (me_b mX0_length) 4 = .ok (.ireturn, 1) := by decide +kernel
theorem dX4_countAnew_0 : decode (me_b mX4_countAnew) 0 = .ok (.aload_n 0, 1) := by decide +kernel
theorem dX4_countAnew_1 : decode (me_b mX4_countAnew) 1 = .ok (.iconst 0, 1) := by decide +kernel
theorem dX4_countAnew_2 : decode (me_b mX4_countAnew) 2 = .ok (.putfield 37, 3) := by decide +kernel
theorem dX4_countAnew_5 : decode (me_b mX4_countAnew) 5 = .ok (.return_, 1) := by decide +kernel
theorem dX5_arityOf_0 : decode (me_b mX5_arityOf) 0 = .ok (.iload_n 1, 1) := by decide +kernel
theorem dX5_arityOf_1 : decode (me_b mX5_arityOf) 1 = .ok (.ifCond .lt 9, 3) := by decide +kernel
theorem dX5_arityOf_4 : decode (me_b mX5_arityOf) 4 = .ok (.iload_n 1, 1) := by decide +kernel
theorem dX5_arityOf_5 : decode (me_b mX5_arityOf) 5 = .ok (.bipush 8, 2) := by decide +kernel
theorem dX5_arityOf_7 : decode (me_b mX5_arityOf) 7 = .ok (.if_icmp .lt 7, 3) := by decide +kernel
theorem dX5_arityOf_10 : decode (me_b mX5_arityOf) 10 = .ok (.iconst (-1), 1) := by decide +kernel
theorem dX5_arityOf_11 : decode (me_b mX5_arityOf) 11 = .ok (.goto 9, 3) := by decide +kernel
theorem dX5_arityOf_14 : decode (me_b mX5_arityOf) 14 = .ok (.aload_n 0, 1) := by decide +kernel
theorem dX5_arityOf_15 : decode (me_b mX5_arityOf) 15 = .ok (.getfield 9, 3) := by decide +kernel
theorem dX5_arityOf_18 : decode (me_b mX5_arityOf) 18 = .ok (.iload_n 1, 1) := by decide +kernel
theorem dX5_arityOf_19 : decode (me_b mX5_arityOf) 19 = .ok (.iaload, 1) := by decide +kernel
theorem dX5_arityOf_20 : decode (me_b mX5_arityOf) 20 = .ok (.ireturn, 1) := by decide +kernel
theorem dX6_cellOf_0 : decode (me_b mX6_cellOf) 0 = .ok (.iload_n 0, 1) := by decide +kernel
theorem dX6_cellOf_1 : decode (me_b mX6_cellOf) 1 = .ok (.iconst 4, 1) := by decide +kernel
theorem dX6_cellOf_2 : decode (me_b mX6_cellOf) 2 = .ok (.imul, 1) := by decide +kernel
theorem dX6_cellOf_3 : decode (me_b mX6_cellOf) 3 = .ok (.iload_n 1, 1) := by decide +kernel
theorem dX6_cellOf_4 : decode (me_b mX6_cellOf) 4 = .ok (.iadd, 1) := by decide +kernel
theorem dX6_cellOf_5 : decode (me_b mX6_cellOf) 5 = .ok (.iconst 4, 1) := by decide +kernel
theorem dX6_cellOf_6 : decode (me_b mX6_cellOf) 6 = .ok (.imul, 1) := by decide +kernel
theorem dX6_cellOf_7 : decode (me_b mX6_cellOf) 7 = .ok (.iload_n 2, 1) := by decide +kernel
theorem dX6_cellOf_8 : decode (me_b mX6_cellOf) 8 = .ok (.iadd, 1) := by decide +kernel
theorem dX6_cellOf_9 : decode (me_b mX6_cellOf) 9 = .ok (.ireturn, 1) := by decide +kernel
theorem dX6_valueOf_0 : decode (me_b mX6_valueOf) 0 = .ok (.iload_n 1, 1) := by decide +kernel
theorem dX6_valueOf_1 : decode (me_b mX6_valueOf) 1 = .ok (.ifCond .lt 10, 3) := by decide +kernel
theorem dX6_valueOf_4 : decode (me_b mX6_valueOf) 4 = .ok (.iload_n 1, 1) := by decide +kernel
theorem dX6_valueOf_5 : decode (me_b mX6_valueOf) 5 = .ok (.sipush 128, 3) := by decide +kernel
theorem dX6_valueOf_8 : decode (me_b mX6_valueOf) 8 = .ok (.if_icmp .lt 7, 3) := by decide +kernel
theorem dX6_valueOf_11 : decode (me_b mX6_valueOf) 11 = .ok (.iconst (-1), 1) := by decide +kernel
theorem dX6_valueOf_12 : decode (me_b mX6_valueOf) 12 = .ok (.goto 9, 3) := by decide +kernel
theorem dX6_valueOf_15 : decode (me_b mX6_valueOf) 15 = .ok (.aload_n 0, 1) := by decide +kernel
theorem dX6_valueOf_16 : decode (me_b mX6_valueOf) 16 = .ok (.getfield 11, 3) := by decide +kernel
theorem dX6_valueOf_19 : decode (me_b mX6_valueOf) 19 = .ok (.iload_n 1, 1) := by decide +kernel
theorem dX6_valueOf_20 : decode (me_b mX6_valueOf) 20 = .ok (.iaload, 1) := by decide +kernel
theorem dX6_valueOf_21 : decode (me_b mX6_valueOf) 21 = .ok (.ireturn, 1) := by decide +kernel
theorem dX7_type_0 : decode (me_b mX7_type) 0 = .ok (.iload_n 3, 1) := by decide +kernel
theorem dX7_type_1 : decode (me_b mX7_type) 1 = .ok (.iconst 1, 1) := by decide +kernel
theorem dX7_type_2 : decode (me_b mX7_type) 2 = .ok (.if_icmp .lt 17, 3) := by decide +kernel
theorem dX7_type_5 : decode (me_b mX7_type) 5 = .ok (.iload_n 3, 1) := by decide +kernel
theorem dX7_type_6 : decode (me_b mX7_type) 6 = .ok (.bipush 8, 2) := by decide +kernel
theorem dX7_type_8 : decode (me_b mX7_type) 8 = .ok (.if_icmp .gt 11, 3) := by decide +kernel
theorem dX7_type_11 : decode (me_b mX7_type) 11 = .ok (.lload_n 1, 1) := by decide +kernel
theorem dX7_type_12 : decode (me_b mX7_type) 12 = .ok (.iload_n 3, 1) := by decide +kernel
theorem dX7_type_13 : decode (me_b mX7_type) 13 = .ok (.invokestatic 85, 3) := by decide +kernel
theorem dX7_type_16 : decode (me_b mX7_type) 16 = .ok (.ifCond .ne 5, 3) := by decide +kernel
theorem dX7_type_19 : decode (me_b mX7_type) 19 = .ok (.iconst (-1), 1) := by decide +kernel
theorem dX7_type_20 : decode (me_b mX7_type) 20 = .ok (.ireturn, 1) := by decide +kernel
theorem dX7_type_21 : decode (me_b mX7_type) 21 = .ok (.aload_n 0, 1) := by decide +kernel
theorem dX7_type_22 : decode (me_b mX7_type) 22 = .ok (.getfield 19, 3) := by decide +kernel
theorem dX7_type_25 : decode (me_b mX7_type) 25 = .ok (.iload_n 3, 1) := by decide +kernel
theorem dX7_type_26 : decode (me_b mX7_type) 26 = .ok (.invokevirtual 89, 3) := by decide +kernel
theorem dX7_type_29 : decode (me_b mX7_type) 29 = .ok (.ifCond .ne 6, 3) := by decide +kernel
theorem dX7_type_32 : decode (me_b mX7_type) 32 = .ok (.bipush (-3), 2) := by decide +kernel
theorem dX7_type_34 : decode (me_b mX7_type) 34 = .ok (.ireturn, 1) := by decide +kernel
theorem dX7_type_35 : decode (me_b mX7_type) 35 = .ok (.iload_n 3, 1) := by decide +kernel
theorem dX7_type_36 : decode (me_b mX7_type) 36 = .ok (.iconst 1, 1) := by decide +kernel
theorem dX7_type_37 : decode (me_b mX7_type) 37 = .ok (.isub, 1) := by decide +kernel
theorem dX7_type_38 : decode (me_b mX7_type) 38 = .ok (.istore 4, 2) := by decide +kernel
theorem dX7_type_40 : decode (me_b mX7_type) 40 = .ok (.iload 4, 2) := by decide +kernel
theorem dX7_type_42 : decode (me_b mX7_type) 42 = .ok (.ifCond .lt 22, 3) := by decide +kernel
theorem dX7_type_45 : decode (me_b mX7_type) 45 = .ok (.aload_n 0, 1) := by decide +kernel
theorem dX7_type_46 : decode (me_b mX7_type) 46 = .ok (.getfield 19, 3) := by decide +kernel
theorem dX7_type_49 : decode (me_b mX7_type) 49 = .ok (.lload_n 1, 1) := by decide +kernel
theorem dX7_type_50 : decode (me_b mX7_type) 50 = .ok (.iload 4, 2) := by decide +kernel
theorem dX7_type_52 : decode (me_b mX7_type) 52 = .ok (.invokestatic 93, 3) := by decide +kernel
theorem dX7_type_55 : decode (me_b mX7_type) 55 = .ok (.invokevirtual 97, 3) := by decide +kernel
theorem dX7_type_58 : decode (me_b mX7_type) 58 = .ok (.iinc 4 (-1), 3) := by decide +kernel
theorem dX7_type_61 : decode (me_b mX7_type) 61 = .ok (.goto (-21), 3) := by decide +kernel
theorem dX7_type_64 : decode (me_b mX7_type) 64 = .ok (.aload_n 0, 1) := by decide +kernel
theorem dX7_type_65 : decode (me_b mX7_type) 65 = .ok (.getfield 19, 3) := by decide +kernel
theorem dX7_type_68 : decode (me_b mX7_type) 68 = .ok (.invokevirtual 101, 3) := by decide +kernel
theorem dX7_type_71 : decode (me_b mX7_type) 71 = .ok (.ireturn, 1) := by decide +kernel
theorem dX7_find_0 : decode (me_b mX7_find) 0 = .ok (.aload_n 0, 1) := by decide +kernel
theorem dX7_find_1 : decode (me_b mX7_find) 1 = .ok (.getfield 58, 3) := by decide +kernel
theorem dX7_find_4 : decode (me_b mX7_find) 4 = .ok (.invokevirtual 129, 3) := by decide +kernel
theorem dX7_find_7 : decode (me_b mX7_find) 7 = .ok (.iload_n 1, 1) := by decide +kernel
theorem dX7_find_8 : decode (me_b mX7_find) 8 = .ok (.iconst 1, 1) := by decide +kernel
theorem dX7_find_9 : decode (me_b mX7_find) 9 = .ok (.if_icmp .lt 8, 3) := by decide +kernel
theorem dX7_find_12 : decode (me_b mX7_find) 12 = .ok (.iload_n 1, 1) := by decide +kernel
theorem dX7_find_13 : decode (me_b mX7_find) 13 = .ok (.iconst 4, 1) := by decide +kernel
theorem dX7_find_14 : decode (me_b mX7_find) 14 = .ok (.if_icmp .le 5, 3) := by decide +kernel
theorem dX7_find_17 : decode (me_b mX7_find) 17 = .ok (.iconst (-1), 1) := by decide +kernel
theorem dX7_find_18 : decode (me_b mX7_find) 18 = .ok (.ireturn, 1) := by decide +kernel
theorem dX7_find_19 : decode (me_b mX7_find) 19 = .ok (.aload_n 0, 1) := by decide +kernel
theorem dX7_find_20 : decode (me_b mX7_find) 20 = .ok (.iconst 0, 1) := by decide +kernel
theorem dX7_find_21 : decode (me_b mX7_find) 21 = .ok (.putfield 66, 3) := by decide +kernel
theorem dX7_find_24 : decode (me_b mX7_find) 24 = .ok (.iconst 1, 1) := by decide +kernel
theorem dX7_find_25 : decode (me_b mX7_find) 25 = .ok (.istore_n 2, 1) := by decide +kernel
theorem dX7_find_26 : decode (me_b mX7_find) 26 = .ok (.iload_n 2, 1) := by decide +kernel
theorem dX7_find_27 : decode (me_b mX7_find) 27 = .ok (.iload_n 1, 1) := by decide +kernel
theorem dX7_find_28 : decode (me_b mX7_find) 28 = .ok (.if_icmp .gt 48, 3) := by decide +kernel
theorem dX7_find_31 : decode (me_b mX7_find) 31 = .ok (.aload_n 0, 1) := by decide +kernel
theorem dX7_find_32 : decode (me_b mX7_find) 32 = .ok (.getfield 58, 3) := by decide +kernel
theorem dX7_find_35 : decode (me_b mX7_find) 35 = .ok (.iload_n 2, 1) := by decide +kernel
theorem dX7_find_36 : decode (me_b mX7_find) 36 = .ok (.aload_n 0, 1) := by decide +kernel
theorem dX7_find_37 : decode (me_b mX7_find) 37 = .ok (.getfield 12, 3) := by decide +kernel
theorem dX7_find_40 : decode (me_b mX7_find) 40 = .ok (.invokevirtual 132, 3) := by decide +kernel
theorem dX7_find_43 : decode (me_b mX7_find) 43 = .ok (.istore_n 3, 1) := by decide +kernel
theorem dX7_find_44 : decode (me_b mX7_find) 44 = .ok (.iload_n 3, 1) := by decide +kernel
theorem dX7_find_45 : decode (me_b mX7_find) 45 = .ok (.bipush (-4), 2) := by decide +kernel
theorem dX7_find_47 : decode (me_b mX7_find) 47 = .ok (.if_icmp .ne 6, 3) := by decide +kernel
theorem dX7_find_50 : decode (me_b mX7_find) 50 = .ok (.bipush (-4), 2) := by decide +kernel
theorem dX7_find_52 : decode (me_b mX7_find) 52 = .ok (.ireturn, 1) := by decide +kernel
theorem dX7_find_53 : decode (me_b mX7_find) 53 = .ok (.iload_n 3, 1) := by decide +kernel
theorem dX7_find_54 : decode (me_b mX7_find) 54 = .ok (.iconst 1, 1) := by decide +kernel
theorem dX7_find_55 : decode (me_b mX7_find) 55 = .ok (.if_icmp .ne 15, 3) := by decide +kernel
theorem dX7_find_58 : decode (me_b mX7_find) 58 = .ok (.aload_n 0, 1) := by decide +kernel
theorem dX7_find_59 : decode (me_b mX7_find) 59 = .ok (.iload_n 2, 1) := by decide +kernel
theorem dX7_find_60 : decode (me_b mX7_find) 60 = .ok (.putfield 66, 3) := by decide +kernel
theorem dX7_find_63 : decode (me_b mX7_find) 63 = .ok (.aload_n 0, 1) := by decide +kernel
theorem dX7_find_64 : decode (me_b mX7_find) 64 = .ok (.iconst 0, 1) := by decide +kernel
theorem dX7_find_65 : decode (me_b mX7_find) 65 = .ok (.putfield 70, 3) := by decide +kernel
theorem dX7_find_68 : decode (me_b mX7_find) 68 = .ok (.iload_n 2, 1) := by decide +kernel
theorem dX7_find_69 : decode (me_b mX7_find) 69 = .ok (.ireturn, 1) := by decide +kernel
theorem dX7_find_70 : decode (me_b mX7_find) 70 = .ok (.iinc 2 1, 3) := by decide +kernel
theorem dX7_find_73 : decode (me_b mX7_find) 73 = .ok (.goto (-47), 3) := by decide +kernel
theorem dX7_find_76 : decode (me_b mX7_find) 76 = .ok (.iconst 0, 1) := by decide +kernel
theorem dX7_find_77 : decode (me_b mX7_find) 77 = .ok (.ireturn, 1) := by decide +kernel
theorem dX7_value_0 : decode (me_b mX7_value) 0 = .ok (.iload_n 1, 1) := by decide +kernel
theorem dX7_value_1 : decode (me_b mX7_value) 1 = .ok (.invokestatic 74, 3) := by decide +kernel
theorem dX7_value_4 : decode (me_b mX7_value) 4 = .ok (.istore 4, 2) := by decide +kernel
theorem dX7_value_6 : decode (me_b mX7_value) 6 = .ok (.aload_n 0, 1) := by decide +kernel
theorem dX7_value_7 : decode (me_b mX7_value) 7 = .ok (.getfield 12, 3) := by decide +kernel
theorem dX7_value_10 : decode (me_b mX7_value) 10 = .ok (.iload 4, 2) := by decide +kernel
theorem dX7_value_12 : decode (me_b mX7_value) 12 = .ok (.invokevirtual 139, 3) := by decide +kernel
theorem dX7_value_15 : decode (me_b mX7_value) 15 = .ok (.istore 5, 2) := by decide +kernel
theorem dX7_value_17 : decode (me_b mX7_value) 17 = .ok (.aload_n 0, 1) := by decide +kernel
theorem dX7_value_18 : decode (me_b mX7_value) 18 = .ok (.getfield 66, 3) := by decide +kernel
theorem dX7_value_21 : decode (me_b mX7_value) 21 = .ok (.ifCond .eq 9, 3) := by decide +kernel
theorem dX7_value_24 : decode (me_b mX7_value) 24 = .ok (.iload 5, 2) := by decide +kernel
theorem dX7_value_26 : decode (me_b mX7_value) 26 = .ok (.iconst (-1), 1) := by decide +kernel
theorem dX7_value_27 : decode (me_b mX7_value) 27 = .ok (.if_icmp .ne 5, 3) := by decide +kernel
theorem dX7_value_30 : decode (me_b mX7_value) 30 = .ok (.iconst (-1), 1) := by decide +kernel
theorem dX7_value_31 : decode (me_b mX7_value) 31 = .ok (.ireturn, 1) := by decide +kernel
theorem dX7_value_32 : decode (me_b mX7_value) 32 = .ok (.iload 5, 2) := by decide +kernel
theorem dX7_value_34 : decode (me_b mX7_value) 34 = .ok (.iconst 1, 1) := by decide +kernel
theorem dX7_value_35 : decode (me_b mX7_value) 35 = .ok (.if_icmp .lt 7, 3) := by decide +kernel
theorem dX7_value_38 : decode (me_b mX7_value) 38 = .ok (.iload_n 2, 1) := by decide +kernel
theorem dX7_value_39 : decode (me_b mX7_value) 39 = .ok (.goto 4, 3) := by decide +kernel
theorem dX7_value_42 : decode (me_b mX7_value) 42 = .ok (.iconst 0, 1) := by decide +kernel
theorem dX7_value_43 : decode (me_b mX7_value) 43 = .ok (.istore 6, 2) := by decide +kernel
theorem dX7_value_45 : decode (me_b mX7_value) 45 = .ok (.iload 5, 2) := by decide +kernel
theorem dX7_value_47 : decode (me_b mX7_value) 47 = .ok (.iconst 2, 1) := by decide +kernel
theorem dX7_value_48 : decode (me_b mX7_value) 48 = .ok (.if_icmp .lt 7, 3) := by decide +kernel
theorem dX7_value_51 : decode (me_b mX7_value) 51 = .ok (.iload_n 3, 1) := by decide +kernel
theorem dX7_value_52 : decode (me_b mX7_value) 52 = .ok (.goto 4, 3) := by decide +kernel
theorem dX7_value_55 : decode (me_b mX7_value) 55 = .ok (.iconst 0, 1) := by decide +kernel
theorem dX7_value_56 : decode (me_b mX7_value) 56 = .ok (.istore 7, 2) := by decide +kernel
theorem dX7_value_58 : decode (me_b mX7_value) 58 = .ok (.aload_n 0, 1) := by decide +kernel
theorem dX7_value_59 : decode (me_b mX7_value) 59 = .ok (.iload 6, 2) := by decide +kernel
theorem dX7_value_61 : decode (me_b mX7_value) 61 = .ok (.invokevirtual 143, 3) := by decide +kernel
theorem dX7_value_64 : decode (me_b mX7_value) 64 = .ok (.ifCond .eq 12, 3) := by decide +kernel
theorem dX7_value_67 : decode (me_b mX7_value) 67 = .ok (.aload_n 0, 1) := by decide +kernel
theorem dX7_value_68 : decode (me_b mX7_value) 68 = .ok (.iload 7, 2) := by decide +kernel
theorem dX7_value_70 : decode (me_b mX7_value) 70 = .ok (.invokevirtual 143, 3) := by decide +kernel
theorem dX7_value_73 : decode (me_b mX7_value) 73 = .ok (.ifCond .ne 5, 3) := by decide +kernel
theorem dX7_value_76 : decode (me_b mX7_value) 76 = .ok (.iconst (-1), 1) := by decide +kernel
theorem dX7_value_77 : decode (me_b mX7_value) 77 = .ok (.ireturn, 1) := by decide +kernel
theorem dX7_value_78 : decode (me_b mX7_value) 78 = .ok (.aload_n 0, 1) := by decide +kernel
theorem dX7_value_79 : decode (me_b mX7_value) 79 = .ok (.getfield 40, 3) := by decide +kernel
theorem dX7_value_82 : decode (me_b mX7_value) 82 = .ok (.iload 4, 2) := by decide +kernel
theorem dX7_value_84 : decode (me_b mX7_value) 84 = .ok (.iload 6, 2) := by decide +kernel
theorem dX7_value_86 : decode (me_b mX7_value) 86 = .ok (.iload 7, 2) := by decide +kernel
theorem dX7_value_88 : decode (me_b mX7_value) 88 = .ok (.invokestatic 146, 3) := by decide +kernel
theorem dX7_value_91 : decode (me_b mX7_value) 91 = .ok (.invokevirtual 150, 3) := by decide +kernel
theorem dX7_value_94 : decode (me_b mX7_value) 94 = .ok (.ireturn, 1) := by decide +kernel
theorem dX7_caseOf_0 : decode (me_b mX7_caseOf) 0 = .ok (.iload_n 1, 1) := by decide +kernel
theorem dX7_caseOf_1 : decode (me_b mX7_caseOf) 1 = .ok (.ifCond .lt 8, 3) := by decide +kernel
theorem dX7_caseOf_4 : decode (me_b mX7_caseOf) 4 = .ok (.iload_n 1, 1) := by decide +kernel
theorem dX7_caseOf_5 : decode (me_b mX7_caseOf) 5 = .ok (.iconst 3, 1) := by decide +kernel
theorem dX7_caseOf_6 : decode (me_b mX7_caseOf) 6 = .ok (.if_icmp .lt 7, 3) := by decide +kernel
theorem dX7_caseOf_9 : decode (me_b mX7_caseOf) 9 = .ok (.iconst (-1), 1) := by decide +kernel
theorem dX7_caseOf_10 : decode (me_b mX7_caseOf) 10 = .ok (.goto 9, 3) := by decide +kernel
theorem dX7_caseOf_13 : decode (me_b mX7_caseOf) 13 = .ok (.aload_n 0, 1) := by decide +kernel
theorem dX7_caseOf_14 : decode (me_b mX7_caseOf) 14 = .ok (.getfield 62, 3) := by decide +kernel
theorem dX7_caseOf_17 : decode (me_b mX7_caseOf) 17 = .ok (.iload_n 1, 1) := by decide +kernel
theorem dX7_caseOf_18 : decode (me_b mX7_caseOf) 18 = .ok (.iaload, 1) := by decide +kernel
theorem dX7_caseOf_19 : decode (me_b mX7_caseOf) 19 = .ok (.ireturn, 1) := by decide +kernel
theorem dX7_isArgument_0 : decode (me_b mX7_isArgument) 0 = .ok (.iload_n 1, 1) := by decide +kernel
theorem dX7_isArgument_1 : decode (me_b mX7_isArgument) 1 = .ok (.ifCond .lt 15, 3) := by decide +kernel
theorem dX7_isArgument_4 : decode (me_b mX7_isArgument) 4 = .ok (.iload_n 1, 1) := by decide +kernel
theorem dX7_isArgument_5 : decode (me_b mX7_isArgument) 5 = .ok (.aload_n 0, 1) := by decide +kernel
theorem dX7_isArgument_6 : decode (me_b mX7_isArgument) 6 = .ok (.getfield 66, 3) := by decide +kernel
theorem dX7_isArgument_9 : decode (me_b mX7_isArgument) 9 = .ok (.if_icmp .ge 7, 3) := by decide +kernel
theorem dX7_isArgument_12 : decode (me_b mX7_isArgument) 12 = .ok (.iconst 1, 1) := by decide +kernel
theorem dX7_isArgument_13 : decode (me_b mX7_isArgument) 13 = .ok (.goto 4, 3) := by decide +kernel
theorem dX7_isArgument_16 : decode (me_b mX7_isArgument) 16 = .ok (.iconst 0, 1) := by decide +kernel
theorem dX7_isArgument_17 : decode (me_b mX7_isArgument) 17 = .ok (.ireturn, 1) := by decide +kernel
theorem dX7_areAllVisible_0 : decode (me_b mX7_areAllVisible) 0 = .ok (.iconst 0, 1) := by decide +kernel
theorem dX7_areAllVisible_1 : decode (me_b mX7_areAllVisible) 1 = .ok (.istore_n 3, 1) := by decide +kernel
theorem dX7_areAllVisible_2 : decode (me_b mX7_areAllVisible) 2 = .ok (.iload_n 3, 1) := by decide +kernel
theorem dX7_areAllVisible_3 : decode (me_b mX7_areAllVisible) 3 = .ok (.iload_n 2, 1) := by decide +kernel
theorem dX7_areAllVisible_4 : decode (me_b mX7_areAllVisible) 4 = .ok (.if_icmp .ge 32, 3) := by decide +kernel
theorem dX7_areAllVisible_7 : decode (me_b mX7_areAllVisible) 7 = .ok (.lload_n 0, 1) := by decide +kernel
theorem dX7_areAllVisible_8 : decode (me_b mX7_areAllVisible) 8 = .ok (.iload_n 3, 1) := by decide +kernel
theorem dX7_areAllVisible_9 : decode (me_b mX7_areAllVisible) 9 = .ok (.invokestatic 93, 3) := by decide +kernel
theorem dX7_areAllVisible_12 : decode (me_b mX7_areAllVisible) 12 = .ok (.istore 4, 2) := by decide +kernel
theorem dX7_areAllVisible_14 : decode (me_b mX7_areAllVisible) 14 = .ok (.iload 4, 2) := by decide +kernel
theorem dX7_areAllVisible_16 : decode (me_b mX7_areAllVisible) 16 = .ok (.bipush 33, 2) := by decide +kernel
theorem dX7_areAllVisible_18 : decode (me_b mX7_areAllVisible) 18 = .ok (.if_icmp .lt 10, 3) := by decide +kernel
theorem dX7_areAllVisible_21 : decode (me_b mX7_areAllVisible) 21 = .ok (.iload 4, 2) := by decide +kernel
theorem dX7_areAllVisible_23 : decode (me_b mX7_areAllVisible) 23 = .ok (.bipush 126, 2) := by decide +kernel
theorem dX7_areAllVisible_25 : decode (me_b mX7_areAllVisible) 25 = .ok (.if_icmp .le 5, 3) := by decide +kernel
theorem dX7_areAllVisible_28 : decode (me_b mX7_areAllVisible) 28 = .ok (.iconst 0, 1) := by decide +kernel
theorem dX7_areAllVisible_29 : decode (me_b mX7_areAllVisible) 29 = .ok (.ireturn, 1) := by decide +kernel
theorem dX7_areAllVisible_30 : decode (me_b mX7_areAllVisible) 30 = .ok (.iinc 3 1, 3) := by decide +kernel
theorem dX7_areAllVisible_33 : decode (me_b mX7_areAllVisible) 33 = .ok (.goto (-31), 3) := by decide +kernel
theorem dX7_areAllVisible_36 : decode (me_b mX7_areAllVisible) 36 = .ok (.iconst 1, 1) := by decide +kernel
theorem dX7_areAllVisible_37 : decode (me_b mX7_areAllVisible) 37 = .ok (.ireturn, 1) := by decide +kernel
theorem dX7_byteAt_0 : decode (me_b mX7_byteAt) 0 = .ok (.lload_n 0, 1) := by decide +kernel
theorem dX7_byteAt_1 : decode (me_b mX7_byteAt) 1 = .ok (.bipush 8, 2) := by decide +kernel
theorem dX7_byteAt_3 : decode (me_b mX7_byteAt) 3 = .ok (.iload_n 2, 1) := by decide +kernel
theorem dX7_byteAt_4 : decode (me_b mX7_byteAt) 4 = .ok (.imul, 1) := by decide +kernel
theorem dX7_byteAt_5 : decode (me_b mX7_byteAt) 5 = .ok (.lushr, 1) := by decide +kernel
theorem dX7_byteAt_6 : decode (me_b mX7_byteAt) 6 = .ok (.ldc2_w 167, 3) := by decide +kernel
theorem dX7_byteAt_9 : decode (me_b mX7_byteAt) 9 = .ok (.land, 1) := by decide +kernel
theorem dX7_byteAt_10 : decode (me_b mX7_byteAt) 10 = .ok (.l2i, 1) := by decide +kernel
theorem dX7_byteAt_11 : decode (me_b mX7_byteAt) 11 = .ok (.i2c, 1) := by decide +kernel
theorem dX7_byteAt_12 : decode (me_b mX7_byteAt) 12 = .ok (.ireturn, 1) := by decide +kernel
theorem dX8_symbol_0 : decode (me_b mX8_symbol) 0 = .ok (.iload_n 1, 1) := by decide +kernel
theorem dX8_symbol_1 : decode (me_b mX8_symbol) 1 = .ok (.invokestatic 43, 3) := by decide +kernel
theorem dX8_symbol_4 : decode (me_b mX8_symbol) 4 = .ok (.istore_n 3, 1) := by decide +kernel
theorem dX8_symbol_5 : decode (me_b mX8_symbol) 5 = .ok (.iload_n 3, 1) := by decide +kernel
theorem dX8_symbol_6 : decode (me_b mX8_symbol) 6 = .ok (.ifCond .lt 13, 3) := by decide +kernel
theorem dX8_symbol_9 : decode (me_b mX8_symbol) 9 = .ok (.iload_n 2, 1) := by decide +kernel
theorem dX8_symbol_10 : decode (me_b mX8_symbol) 10 = .ok (.iconst (-1), 1) := by decide +kernel
theorem dX8_symbol_11 : decode (me_b mX8_symbol) 11 = .ok (.if_icmp .lt 8, 3) := by decide +kernel
theorem dX8_symbol_14 : decode (me_b mX8_symbol) 14 = .ok (.iload_n 2, 1) := by decide +kernel
theorem dX8_symbol_15 : decode (me_b mX8_symbol) 15 = .ok (.iconst 2, 1) := by decide +kernel
theorem dX8_symbol_16 : decode (me_b mX8_symbol) 16 = .ok (.if_icmp .le 5, 3) := by decide +kernel
theorem dX8_symbol_19 : decode (me_b mX8_symbol) 19 = .ok (.iconst 0, 1) := by decide +kernel
theorem dX8_symbol_20 : decode (me_b mX8_symbol) 20 = .ok (.ireturn, 1) := by decide +kernel
theorem dX8_symbol_21 : decode (me_b mX8_symbol) 21 = .ok (.aload_n 0, 1) := by decide +kernel
theorem dX8_symbol_22 : decode (me_b mX8_symbol) 22 = .ok (.getfield 7, 3) := by decide +kernel
theorem dX8_symbol_25 : decode (me_b mX8_symbol) 25 = .ok (.iload_n 3, 1) := by decide +kernel
theorem dX8_symbol_26 : decode (me_b mX8_symbol) 26 = .ok (.iload_n 2, 1) := by decide +kernel
theorem dX8_symbol_27 : decode (me_b mX8_symbol) 27 = .ok (.iastore, 1) := by decide +kernel
theorem dX8_symbol_28 : decode (me_b mX8_symbol) 28 = .ok (.aload_n 0, 1) := by decide +kernel
theorem dX8_symbol_29 : decode (me_b mX8_symbol) 29 = .ok (.iconst 0, 1) := by decide +kernel
theorem dX8_symbol_30 : decode (me_b mX8_symbol) 30 = .ok (.putfield 47, 3) := by decide +kernel
theorem dX8_symbol_33 : decode (me_b mX8_symbol) 33 = .ok (.aload_n 0, 1) := by decide +kernel
theorem dX8_symbol_34 : decode (me_b mX8_symbol) 34 = .ok (.iconst 0, 1) := by decide +kernel
theorem dX8_symbol_35 : decode (me_b mX8_symbol) 35 = .ok (.putfield 51, 3) := by decide +kernel
theorem dX8_symbol_38 : decode (me_b mX8_symbol) 38 = .ok (.iconst 1, 1) := by decide +kernel
theorem dX8_symbol_39 : decode (me_b mX8_symbol) 39 = .ok (.ireturn, 1) := by decide +kernel
theorem dX8_type_0 : decode (me_b mX8_type) 0 = .ok (.iload_n 3, 1) := by decide +kernel
theorem dX8_type_1 : decode (me_b mX8_type) 1 = .ok (.iconst 1, 1) := by decide +kernel
theorem dX8_type_2 : decode (me_b mX8_type) 2 = .ok (.if_icmp .lt 13, 3) := by decide +kernel
theorem dX8_type_5 : decode (me_b mX8_type) 5 = .ok (.iload_n 3, 1) := by decide +kernel
theorem dX8_type_6 : decode (me_b mX8_type) 6 = .ok (.bipush 8, 2) := by decide +kernel
theorem dX8_type_8 : decode (me_b mX8_type) 8 = .ok (.if_icmp .gt 7, 3) := by decide +kernel
theorem dX8_type_11 : decode (me_b mX8_type) 11 = .ok (.iconst 1, 1) := by decide +kernel
theorem dX8_type_12 : decode (me_b mX8_type) 12 = .ok (.goto 4, 3) := by decide +kernel
theorem dX8_type_15 : decode (me_b mX8_type) 15 = .ok (.iconst 0, 1) := by decide +kernel
theorem dX8_type_16 : decode (me_b mX8_type) 16 = .ok (.istore 4, 2) := by decide +kernel
theorem dX8_type_18 : decode (me_b mX8_type) 18 = .ok (.iconst 0, 1) := by decide +kernel
theorem dX8_type_19 : decode (me_b mX8_type) 19 = .ok (.istore 5, 2) := by decide +kernel
theorem dX8_type_21 : decode (me_b mX8_type) 21 = .ok (.iload 5, 2) := by decide +kernel
theorem dX8_type_23 : decode (me_b mX8_type) 23 = .ok (.iload_n 3, 1) := by decide +kernel
theorem dX8_type_24 : decode (me_b mX8_type) 24 = .ok (.if_icmp .ge 52, 3) := by decide +kernel
theorem dX8_type_27 : decode (me_b mX8_type) 27 = .ok (.iload 4, 2) := by decide +kernel
theorem dX8_type_29 : decode (me_b mX8_type) 29 = .ok (.ifCond .eq 47, 3) := by decide +kernel
theorem dX8_type_32 : decode (me_b mX8_type) 32 = .ok (.lload_n 1, 1) := by decide +kernel
theorem dX8_type_33 : decode (me_b mX8_type) 33 = .ok (.bipush 8, 2) := by decide +kernel
theorem dX8_type_35 : decode (me_b mX8_type) 35 = .ok (.iload 5, 2) := by decide +kernel
theorem dX8_type_37 : decode (me_b mX8_type) 37 = .ok (.imul, 1) := by decide +kernel
theorem dX8_type_38 : decode (me_b mX8_type) 38 = .ok (.lshr, 1) := by decide +kernel
theorem dX8_type_39 : decode (me_b mX8_type) 39 = .ok (.ldc2_w 55, 3) := by decide +kernel
theorem dX8_type_42 : decode (me_b mX8_type) 42 = .ok (.land, 1) := by decide +kernel
theorem dX8_type_43 : decode (me_b mX8_type) 43 = .ok (.lstore 6, 2) := by decide +kernel
theorem dX8_type_45 : decode (me_b mX8_type) 45 = .ok (.lload 6, 2) := by decide +kernel
theorem dX8_type_47 : decode (me_b mX8_type) 47 = .ok (.ldc2_w 57, 3) := by decide +kernel
theorem dX8_type_50 : decode (me_b mX8_type) 50 = .ok (.lcmp, 1) := by decide +kernel
theorem dX8_type_51 : decode (me_b mX8_type) 51 = .ok (.ifCond .lt 16, 3) := by decide +kernel
theorem dX8_type_54 : decode (me_b mX8_type) 54 = .ok (.lload 6, 2) := by decide +kernel
theorem dX8_type_56 : decode (me_b mX8_type) 56 = .ok (.ldc2_w 59, 3) := by decide +kernel
theorem dX8_type_59 : decode (me_b mX8_type) 59 = .ok (.lcmp, 1) := by decide +kernel
theorem dX8_type_60 : decode (me_b mX8_type) 60 = .ok (.ifCond .gt 7, 3) := by decide +kernel
theorem dX8_type_63 : decode (me_b mX8_type) 63 = .ok (.iconst 1, 1) := by decide +kernel
theorem dX8_type_64 : decode (me_b mX8_type) 64 = .ok (.goto 4, 3) := by decide +kernel
theorem dX8_type_67 : decode (me_b mX8_type) 67 = .ok (.iconst 0, 1) := by decide +kernel
theorem dX8_type_68 : decode (me_b mX8_type) 68 = .ok (.istore 4, 2) := by decide +kernel
theorem dX8_type_70 : decode (me_b mX8_type) 70 = .ok (.iinc 5 1, 3) := by decide +kernel
theorem dX8_type_73 : decode (me_b mX8_type) 73 = .ok (.goto (-52), 3) := by decide +kernel
theorem dX8_type_76 : decode (me_b mX8_type) 76 = .ok (.iload 4, 2) := by decide +kernel
theorem dX8_type_78 : decode (me_b mX8_type) 78 = .ok (.ifCond .ne 5, 3) := by decide +kernel
theorem dX8_type_81 : decode (me_b mX8_type) 81 = .ok (.iconst (-1), 1) := by decide +kernel
theorem dX8_type_82 : decode (me_b mX8_type) 82 = .ok (.ireturn, 1) := by decide +kernel
theorem dX8_type_83 : decode (me_b mX8_type) 83 = .ok (.aload_n 0, 1) := by decide +kernel
theorem dX8_type_84 : decode (me_b mX8_type) 84 = .ok (.getfield 61, 3) := by decide +kernel
theorem dX8_type_87 : decode (me_b mX8_type) 87 = .ok (.iload_n 3, 1) := by decide +kernel
theorem dX8_type_88 : decode (me_b mX8_type) 88 = .ok (.iadd, 1) := by decide +kernel
theorem dX8_type_89 : decode (me_b mX8_type) 89 = .ok (.bipush 60, 2) := by decide +kernel
theorem dX8_type_91 : decode (me_b mX8_type) 91 = .ok (.if_icmp .le 6, 3) := by decide +kernel
theorem dX8_type_94 : decode (me_b mX8_type) 94 = .ok (.bipush (-3), 2) := by decide +kernel
theorem dX8_type_96 : decode (me_b mX8_type) 96 = .ok (.ireturn, 1) := by decide +kernel
theorem dX8_type_97 : decode (me_b mX8_type) 97 = .ok (.iload_n 3, 1) := by decide +kernel
theorem dX8_type_98 : decode (me_b mX8_type) 98 = .ok (.iconst 1, 1) := by decide +kernel
theorem dX8_type_99 : decode (me_b mX8_type) 99 = .ok (.isub, 1) := by decide +kernel
theorem dX8_type_100 : decode (me_b mX8_type) 100 = .ok (.istore 5, 2) := by decide +kernel
theorem dX8_type_102 : decode (me_b mX8_type) 102 = .ok (.iload 5, 2) := by decide +kernel
theorem dX8_type_104 : decode (me_b mX8_type) 104 = .ok (.ifCond .lt 40, 3) := by decide +kernel
theorem dX8_type_107 : decode (me_b mX8_type) 107 = .ok (.aload_n 0, 1) := by decide +kernel
theorem dX8_type_108 : decode (me_b mX8_type) 108 = .ok (.getfield 13, 3) := by decide +kernel
theorem dX8_type_111 : decode (me_b mX8_type) 111 = .ok (.aload_n 0, 1) := by decide +kernel
theorem dX8_type_112 : decode (me_b mX8_type) 112 = .ok (.getfield 61, 3) := by decide +kernel
theorem dX8_type_115 : decode (me_b mX8_type) 115 = .ok (.lload_n 1, 1) := by decide +kernel
theorem dX8_type_116 : decode (me_b mX8_type) 116 = .ok (.bipush 8, 2) := by decide +kernel
theorem dX8_type_118 : decode (me_b mX8_type) 118 = .ok (.iload 5, 2) := by decide +kernel
theorem dX8_type_120 : decode (me_b mX8_type) 120 = .ok (.imul, 1) := by decide +kernel
theorem dX8_type_121 : decode (me_b mX8_type) 121 = .ok (.lshr, 1) := by decide +kernel
theorem dX8_type_122 : decode (me_b mX8_type) 122 = .ok (.ldc2_w 55, 3) := by decide +kernel
theorem dX8_type_125 : decode (me_b mX8_type) 125 = .ok (.land, 1) := by decide +kernel
theorem dX8_type_126 : decode (me_b mX8_type) 126 = .ok (.l2i, 1) := by decide +kernel
theorem dX8_type_127 : decode (me_b mX8_type) 127 = .ok (.iastore, 1) := by decide +kernel
theorem dX8_type_128 : decode (me_b mX8_type) 128 = .ok (.aload_n 0, 1) := by decide +kernel
theorem dX8_type_129 : decode (me_b mX8_type) 129 = .ok (.dup, 1) := by decide +kernel
theorem dX8_type_130 : decode (me_b mX8_type) 130 = .ok (.getfield 61, 3) := by decide +kernel
theorem dX8_type_133 : decode (me_b mX8_type) 133 = .ok (.iconst 1, 1) := by decide +kernel
theorem dX8_type_134 : decode (me_b mX8_type) 134 = .ok (.iadd, 1) := by decide +kernel
theorem dX8_type_135 : decode (me_b mX8_type) 135 = .ok (.putfield 61, 3) := by decide +kernel
theorem dX8_type_138 : decode (me_b mX8_type) 138 = .ok (.iinc 5 (-1), 3) := by decide +kernel
theorem dX8_type_141 : decode (me_b mX8_type) 141 = .ok (.goto (-39), 3) := by decide +kernel
theorem dX8_type_144 : decode (me_b mX8_type) 144 = .ok (.aload_n 0, 1) := by decide +kernel
theorem dX8_type_145 : decode (me_b mX8_type) 145 = .ok (.getfield 61, 3) := by decide +kernel
theorem dX8_type_148 : decode (me_b mX8_type) 148 = .ok (.ireturn, 1) := by decide +kernel
theorem dX8_find_0 : decode (me_b mX8_find) 0 = .ok (.iload_n 1, 1) := by decide +kernel
theorem dX8_find_1 : decode (me_b mX8_find) 1 = .ok (.iconst 1, 1) := by decide +kernel
theorem dX8_find_2 : decode (me_b mX8_find) 2 = .ok (.if_icmp .lt 8, 3) := by decide +kernel
theorem dX8_find_5 : decode (me_b mX8_find) 5 = .ok (.iload_n 1, 1) := by decide +kernel
theorem dX8_find_6 : decode (me_b mX8_find) 6 = .ok (.iconst 4, 1) := by decide +kernel
theorem dX8_find_7 : decode (me_b mX8_find) 7 = .ok (.if_icmp .le 5, 3) := by decide +kernel
theorem dX8_find_10 : decode (me_b mX8_find) 10 = .ok (.iconst (-1), 1) := by decide +kernel
theorem dX8_find_11 : decode (me_b mX8_find) 11 = .ok (.ireturn, 1) := by decide +kernel
theorem dX8_find_12 : decode (me_b mX8_find) 12 = .ok (.aload_n 0, 1) := by decide +kernel
theorem dX8_find_13 : decode (me_b mX8_find) 13 = .ok (.iconst 0, 1) := by decide +kernel
theorem dX8_find_14 : decode (me_b mX8_find) 14 = .ok (.putfield 120, 3) := by decide +kernel
theorem dX8_find_17 : decode (me_b mX8_find) 17 = .ok (.aload_n 0, 1) := by decide +kernel
theorem dX8_find_18 : decode (me_b mX8_find) 18 = .ok (.iconst 0, 1) := by decide +kernel
theorem dX8_find_19 : decode (me_b mX8_find) 19 = .ok (.putfield 51, 3) := by decide +kernel
theorem dX8_find_22 : decode (me_b mX8_find) 22 = .ok (.iconst 0, 1) := by decide +kernel
theorem dX8_find_23 : decode (me_b mX8_find) 23 = .ok (.istore_n 2, 1) := by decide +kernel
theorem dX8_find_24 : decode (me_b mX8_find) 24 = .ok (.iconst 1, 1) := by decide +kernel
theorem dX8_find_25 : decode (me_b mX8_find) 25 = .ok (.istore_n 3, 1) := by decide +kernel
theorem dX8_find_26 : decode (me_b mX8_find) 26 = .ok (.iload_n 3, 1) := by decide +kernel
theorem dX8_find_27 : decode (me_b mX8_find) 27 = .ok (.iload_n 1, 1) := by decide +kernel
theorem dX8_find_28 : decode (me_b mX8_find) 28 = .ok (.if_icmp .gt 32, 3) := by decide +kernel
theorem dX8_find_31 : decode (me_b mX8_find) 31 = .ok (.iload_n 2, 1) := by decide +kernel
theorem dX8_find_32 : decode (me_b mX8_find) 32 = .ok (.ifCond .ne 28, 3) := by decide +kernel
theorem dX8_find_35 : decode (me_b mX8_find) 35 = .ok (.aload_n 0, 1) := by decide +kernel
theorem dX8_find_36 : decode (me_b mX8_find) 36 = .ok (.iload_n 3, 1) := by decide +kernel
theorem dX8_find_37 : decode (me_b mX8_find) 37 = .ok (.invokevirtual 126, 3) := by decide +kernel
theorem dX8_find_40 : decode (me_b mX8_find) 40 = .ok (.aload_n 0, 1) := by decide +kernel
theorem dX8_find_41 : decode (me_b mX8_find) 41 = .ok (.iconst (-1), 1) := by decide +kernel
theorem dX8_find_42 : decode (me_b mX8_find) 42 = .ok (.invokevirtual 123, 3) := by decide +kernel
theorem dX8_find_45 : decode (me_b mX8_find) 45 = .ok (.ifCond .ne 9, 3) := by decide +kernel
theorem dX8_find_48 : decode (me_b mX8_find) 48 = .ok (.aload_n 0, 1) := by decide +kernel
theorem dX8_find_49 : decode (me_b mX8_find) 49 = .ok (.iconst 0, 1) := by decide +kernel
theorem dX8_find_50 : decode (me_b mX8_find) 50 = .ok (.invokevirtual 129, 3) := by decide +kernel
theorem dX8_find_53 : decode (me_b mX8_find) 53 = .ok (.istore_n 2, 1) := by decide +kernel
theorem dX8_find_54 : decode (me_b mX8_find) 54 = .ok (.iinc 3 1, 3) := by decide +kernel
theorem dX8_find_57 : decode (me_b mX8_find) 57 = .ok (.goto (-31), 3) := by decide +kernel
theorem dX8_find_60 : decode (me_b mX8_find) 60 = .ok (.aload_n 0, 1) := by decide +kernel
theorem dX8_find_61 : decode (me_b mX8_find) 61 = .ok (.iload_n 2, 1) := by decide +kernel
theorem dX8_find_62 : decode (me_b mX8_find) 62 = .ok (.iconst 1, 1) := by decide +kernel
theorem dX8_find_63 : decode (me_b mX8_find) 63 = .ok (.if_icmp .ne 7, 3) := by decide +kernel
theorem dX8_find_66 : decode (me_b mX8_find) 66 = .ok (.iconst 1, 1) := by decide +kernel
theorem dX8_find_67 : decode (me_b mX8_find) 67 = .ok (.goto 4, 3) := by decide +kernel
theorem dX8_find_70 : decode (me_b mX8_find) 70 = .ok (.iconst 0, 1) := by decide +kernel
theorem dX8_find_71 : decode (me_b mX8_find) 71 = .ok (.putfield 51, 3) := by decide +kernel
theorem dX8_find_74 : decode (me_b mX8_find) 74 = .ok (.aload_n 0, 1) := by decide +kernel
theorem dX8_find_75 : decode (me_b mX8_find) 75 = .ok (.aload_n 0, 1) := by decide +kernel
theorem dX8_find_76 : decode (me_b mX8_find) 76 = .ok (.getfield 51, 3) := by decide +kernel
theorem dX8_find_79 : decode (me_b mX8_find) 79 = .ok (.putfield 78, 3) := by decide +kernel
theorem dX8_find_82 : decode (me_b mX8_find) 82 = .ok (.iload_n 2, 1) := by decide +kernel
theorem dX8_find_83 : decode (me_b mX8_find) 83 = .ok (.iconst 1, 1) := by decide +kernel
theorem dX8_find_84 : decode (me_b mX8_find) 84 = .ok (.if_icmp .ne 10, 3) := by decide +kernel
theorem dX8_find_87 : decode (me_b mX8_find) 87 = .ok (.aload_n 0, 1) := by decide +kernel
theorem dX8_find_88 : decode (me_b mX8_find) 88 = .ok (.getfield 94, 3) := by decide +kernel
theorem dX8_find_91 : decode (me_b mX8_find) 91 = .ok (.goto 4, 3) := by decide +kernel
theorem dX8_find_94 : decode (me_b mX8_find) 94 = .ok (.iload_n 2, 1) := by decide +kernel
theorem dX8_find_95 : decode (me_b mX8_find) 95 = .ok (.ireturn, 1) := by decide +kernel
theorem dX8_value_0 : decode (me_b mX8_value) 0 = .ok (.iload_n 1, 1) := by decide +kernel
theorem dX8_value_1 : decode (me_b mX8_value) 1 = .ok (.invokestatic 43, 3) := by decide +kernel
theorem dX8_value_4 : decode (me_b mX8_value) 4 = .ok (.istore 4, 2) := by decide +kernel
theorem dX8_value_6 : decode (me_b mX8_value) 6 = .ok (.aload_n 0, 1) := by decide +kernel
theorem dX8_value_7 : decode (me_b mX8_value) 7 = .ok (.getfield 51, 3) := by decide +kernel
theorem dX8_value_10 : decode (me_b mX8_value) 10 = .ok (.ifCond .eq 18, 3) := by decide +kernel
theorem dX8_value_13 : decode (me_b mX8_value) 13 = .ok (.iload 4, 2) := by decide +kernel
theorem dX8_value_15 : decode (me_b mX8_value) 15 = .ok (.ifCond .lt 13, 3) := by decide +kernel
theorem dX8_value_18 : decode (me_b mX8_value) 18 = .ok (.aload_n 0, 1) := by decide +kernel
theorem dX8_value_19 : decode (me_b mX8_value) 19 = .ok (.getfield 7, 3) := by decide +kernel
theorem dX8_value_22 : decode (me_b mX8_value) 22 = .ok (.iload 4, 2) := by decide +kernel
theorem dX8_value_24 : decode (me_b mX8_value) 24 = .ok (.iaload, 1) := by decide +kernel
theorem dX8_value_25 : decode (me_b mX8_value) 25 = .ok (.ifCond .ge 5, 3) := by decide +kernel
theorem dX8_value_28 : decode (me_b mX8_value) 28 = .ok (.iconst (-1), 1) := by decide +kernel
theorem dX8_value_29 : decode (me_b mX8_value) 29 = .ok (.ireturn, 1) := by decide +kernel
theorem dX8_value_30 : decode (me_b mX8_value) 30 = .ok (.aload_n 0, 1) := by decide +kernel
theorem dX8_value_31 : decode (me_b mX8_value) 31 = .ok (.getfield 7, 3) := by decide +kernel
theorem dX8_value_34 : decode (me_b mX8_value) 34 = .ok (.iload 4, 2) := by decide +kernel
theorem dX8_value_36 : decode (me_b mX8_value) 36 = .ok (.iaload, 1) := by decide +kernel
theorem dX8_value_37 : decode (me_b mX8_value) 37 = .ok (.ifCond .le 15, 3) := by decide +kernel
theorem dX8_value_40 : decode (me_b mX8_value) 40 = .ok (.iload_n 2, 1) := by decide +kernel
theorem dX8_value_41 : decode (me_b mX8_value) 41 = .ok (.ifCond .lt 34, 3) := by decide +kernel
theorem dX8_value_44 : decode (me_b mX8_value) 44 = .ok (.iload_n 2, 1) := by decide +kernel
theorem dX8_value_45 : decode (me_b mX8_value) 45 = .ok (.aload_n 0, 1) := by decide +kernel
theorem dX8_value_46 : decode (me_b mX8_value) 46 = .ok (.getfield 94, 3) := by decide +kernel
theorem dX8_value_49 : decode (me_b mX8_value) 49 = .ok (.if_icmp .ge 26, 3) := by decide +kernel
theorem dX8_value_52 : decode (me_b mX8_value) 52 = .ok (.aload_n 0, 1) := by decide +kernel
theorem dX8_value_53 : decode (me_b mX8_value) 53 = .ok (.getfield 7, 3) := by decide +kernel
theorem dX8_value_56 : decode (me_b mX8_value) 56 = .ok (.iload 4, 2) := by decide +kernel
theorem dX8_value_58 : decode (me_b mX8_value) 58 = .ok (.iaload, 1) := by decide +kernel
theorem dX8_value_59 : decode (me_b mX8_value) 59 = .ok (.iconst 1, 1) := by decide +kernel
theorem dX8_value_60 : decode (me_b mX8_value) 60 = .ok (.if_icmp .le 17, 3) := by decide +kernel
theorem dX8_value_63 : decode (me_b mX8_value) 63 = .ok (.iload_n 3, 1) := by decide +kernel
theorem dX8_value_64 : decode (me_b mX8_value) 64 = .ok (.ifCond .lt 11, 3) := by decide +kernel
theorem dX8_value_67 : decode (me_b mX8_value) 67 = .ok (.iload_n 3, 1) := by decide +kernel
theorem dX8_value_68 : decode (me_b mX8_value) 68 = .ok (.aload_n 0, 1) := by decide +kernel
theorem dX8_value_69 : decode (me_b mX8_value) 69 = .ok (.getfield 94, 3) := by decide +kernel
theorem dX8_value_72 : decode (me_b mX8_value) 72 = .ok (.if_icmp .lt 5, 3) := by decide +kernel
theorem dX8_value_75 : decode (me_b mX8_value) 75 = .ok (.iconst (-1), 1) := by decide +kernel
theorem dX8_value_76 : decode (me_b mX8_value) 76 = .ok (.ireturn, 1) := by decide +kernel
theorem dX8_value_77 : decode (me_b mX8_value) 77 = .ok (.aload_n 0, 1) := by decide +kernel
theorem dX8_value_78 : decode (me_b mX8_value) 78 = .ok (.getfield 22, 3) := by decide +kernel
theorem dX8_value_81 : decode (me_b mX8_value) 81 = .ok (.bipush 16, 2) := by decide +kernel
theorem dX8_value_83 : decode (me_b mX8_value) 83 = .ok (.iload 4, 2) := by decide +kernel
theorem dX8_value_85 : decode (me_b mX8_value) 85 = .ok (.imul, 1) := by decide +kernel
theorem dX8_value_86 : decode (me_b mX8_value) 86 = .ok (.aload_n 0, 1) := by decide +kernel
theorem dX8_value_87 : decode (me_b mX8_value) 87 = .ok (.getfield 7, 3) := by decide +kernel
theorem dX8_value_90 : decode (me_b mX8_value) 90 = .ok (.iload 4, 2) := by decide +kernel
theorem dX8_value_92 : decode (me_b mX8_value) 92 = .ok (.iaload, 1) := by decide +kernel
theorem dX8_value_93 : decode (me_b mX8_value) 93 = .ok (.ifCond .le 9, 3) := by decide +kernel
theorem dX8_value_96 : decode (me_b mX8_value) 96 = .ok (.iconst 4, 1) := by decide +kernel
theorem dX8_value_97 : decode (me_b mX8_value) 97 = .ok (.iload_n 2, 1) := by decide +kernel
theorem dX8_value_98 : decode (me_b mX8_value) 98 = .ok (.imul, 1) := by decide +kernel
theorem dX8_value_99 : decode (me_b mX8_value) 99 = .ok (.goto 4, 3) := by decide +kernel
theorem dX8_value_102 : decode (me_b mX8_value) 102 = .ok (.iconst 0, 1) := by decide +kernel
theorem dX8_value_103 : decode (me_b mX8_value) 103 = .ok (.iadd, 1) := by decide +kernel
theorem dX8_value_104 : decode (me_b mX8_value) 104 = .ok (.aload_n 0, 1) := by decide +kernel
theorem dX8_value_105 : decode (me_b mX8_value) 105 = .ok (.getfield 7, 3) := by decide +kernel
theorem dX8_value_108 : decode (me_b mX8_value) 108 = .ok (.iload 4, 2) := by decide +kernel
theorem dX8_value_110 : decode (me_b mX8_value) 110 = .ok (.iaload, 1) := by decide +kernel
theorem dX8_value_111 : decode (me_b mX8_value) 111 = .ok (.iconst 1, 1) := by decide +kernel
theorem dX8_value_112 : decode (me_b mX8_value) 112 = .ok (.if_icmp .le 7, 3) := by decide +kernel
theorem dX8_value_115 : decode (me_b mX8_value) 115 = .ok (.iload_n 3, 1) := by decide +kernel
theorem dX8_value_116 : decode (me_b mX8_value) 116 = .ok (.goto 4, 3) := by decide +kernel
theorem dX8_value_119 : decode (me_b mX8_value) 119 = .ok (.iconst 0, 1) := by decide +kernel
theorem dX8_value_120 : decode (me_b mX8_value) 120 = .ok (.iadd, 1) := by decide +kernel
theorem dX8_value_121 : decode (me_b mX8_value) 121 = .ok (.iaload, 1) := by decide +kernel
theorem dX8_value_122 : decode (me_b mX8_value) 122 = .ok (.ireturn, 1) := by decide +kernel
theorem dX8_caseOf_0 : decode (me_b mX8_caseOf) 0 = .ok (.iload_n 1, 1) := by decide +kernel
theorem dX8_caseOf_1 : decode (me_b mX8_caseOf) 1 = .ok (.ifCond .lt 17, 3) := by decide +kernel
theorem dX8_caseOf_4 : decode (me_b mX8_caseOf) 4 = .ok (.iload_n 1, 1) := by decide +kernel
theorem dX8_caseOf_5 : decode (me_b mX8_caseOf) 5 = .ok (.iconst 2, 1) := by decide +kernel
theorem dX8_caseOf_6 : decode (me_b mX8_caseOf) 6 = .ok (.if_icmp .gt 12, 3) := by decide +kernel
theorem dX8_caseOf_9 : decode (me_b mX8_caseOf) 9 = .ok (.aload_n 0, 1) := by decide +kernel
theorem dX8_caseOf_10 : decode (me_b mX8_caseOf) 10 = .ok (.getfield 37, 3) := by decide +kernel
theorem dX8_caseOf_13 : decode (me_b mX8_caseOf) 13 = .ok (.iload_n 1, 1) := by decide +kernel
theorem dX8_caseOf_14 : decode (me_b mX8_caseOf) 14 = .ok (.iaload, 1) := by decide +kernel
theorem dX8_caseOf_15 : decode (me_b mX8_caseOf) 15 = .ok (.goto 4, 3) := by decide +kernel
theorem dX8_caseOf_18 : decode (me_b mX8_caseOf) 18 = .ok (.iconst (-1), 1) := by decide +kernel
theorem dX8_caseOf_19 : decode (me_b mX8_caseOf) 19 = .ok (.ireturn, 1) := by decide +kernel
set_option maxRecDepth 20000 in
theorem s_X7_byteAt_0 {σ : ab_M} {Q : Option ab_V → ab_M → Prop} {w : Int64} {i : Int32}
    (k : (ab_rok .char ((((((w.toUInt64 >>> ((8 * i).toInt64.toUInt64 &&& Int64.toUInt64 63)).toInt64) &&& 255).toInt32).toUInt32 % 65536).toInt32) = true ∧ Q (some (.inl ((((((w.toUInt64 >>> ((8 * i).toInt64.toUInt64 &&& Int64.toUInt64 63)).toInt64) &&& 255).toInt32).toUInt32 % 65536).toInt32))) σ)) :
    ev mX7_byteAt 0 [some (.inr (.inl w)), none, some (.inl i)] [] σ Q := by
  refine ev_p (pc' := 1) (ls' := [some (.inr (.inl w)), none, some (.inl i)]) (st' := [.inr (.inl w)]) dX7_byteAt_0 rfl ?_
  refine ev_cst (v := 8) (pc' := 3) dX7_byteAt_1 (by decide) rfl ?_
  refine ev_p (pc' := 4) (ls' := [some (.inr (.inl w)), none, some (.inl i)]) (st' := [.inl i, .inl 8, .inr (.inl w)]) dX7_byteAt_3 rfl ?_
  refine ev_p (pc' := 5) (ls' := [some (.inr (.inl w)), none, some (.inl i)]) (st' := [.inl (8 * i), .inr (.inl w)]) dX7_byteAt_4 rfl ?_
  refine ev_p (pc' := 6) (ls' := [some (.inr (.inl w)), none, some (.inl i)]) (st' := [.inr (.inl ((w.toUInt64 >>> ((8 * i).toInt64.toUInt64 &&& Int64.toUInt64 63)).toInt64))]) dX7_byteAt_5 rfl ?_
  refine ev_p (pc' := 9) (ls' := [some (.inr (.inl w)), none, some (.inl i)]) (st' := [.inr (.inl 255), .inr (.inl ((w.toUInt64 >>> ((8 * i).toInt64.toUInt64 &&& Int64.toUInt64 63)).toInt64))]) dX7_byteAt_6 rfl ?_
  refine ev_p (pc' := 10) (ls' := [some (.inr (.inl w)), none, some (.inl i)]) (st' := [.inr (.inl (((w.toUInt64 >>> ((8 * i).toInt64.toUInt64 &&& Int64.toUInt64 63)).toInt64) &&& 255))]) dX7_byteAt_9 rfl ?_
  refine ev_p (pc' := 11) (ls' := [some (.inr (.inl w)), none, some (.inl i)]) (st' := [.inl ((((w.toUInt64 >>> ((8 * i).toInt64.toUInt64 &&& Int64.toUInt64 63)).toInt64) &&& 255).toInt32)]) dX7_byteAt_10 rfl ?_
  refine ev_p (pc' := 12) (ls' := [some (.inr (.inl w)), none, some (.inl i)]) (st' := [.inl ((((((w.toUInt64 >>> ((8 * i).toInt64.toUInt64 &&& Int64.toUInt64 63)).toInt64) &&& 255).toInt32).toUInt32 % 65536).toInt32)]) dX7_byteAt_11 rfl ?_
  exact ev_retZ dX7_byteAt_12 rfl k.1 k.2
set_option maxRecDepth 20000 in
theorem s_X7_areAllVisible_0 {σ : ab_M} {Q : Option ab_V → ab_M → Prop} {w : Int64} {n : Int32}
    (k : ev mX7_areAllVisible 2 [some (.inr (.inl w)), none, some (.inl n), some (.inl 0), none] [] σ Q) :
    ev mX7_areAllVisible 0 [some (.inr (.inl w)), none, some (.inl n), none, none] [] σ Q := by
  refine ev_cst (v := 0) (pc' := 1) dX7_areAllVisible_0 (by decide) rfl ?_
  refine ev_p (pc' := 2) (ls' := [some (.inr (.inl w)), none, some (.inl n), some (.inl 0), none]) (st' := []) dX7_areAllVisible_1 rfl ?_
  exact k
set_option maxRecDepth 20000 in
theorem s_X7_areAllVisible_2 {σ : ab_M} {Q : Option ab_V → ab_M → Prop} {w : Int64} {n : Int32} {i : Int32} {o4 : Option ab_V}
    (k : ((n ≤ i → Q (some (.inl 1)) σ) ∧ (¬ n ≤ i → evm mX7_byteAt [.inr (.inl w), .inl i] σ (fun v τ1 => ∃ r2 : Int32, v = some (.inl r2) ∧ ((r2 < 33 → Q (some (.inl 0)) τ1) ∧ (¬ r2 < 33 → ((r2 ≤ 126 → ev mX7_areAllVisible 2 [some (.inr (.inl w)), none, some (.inl n), some (.inl (i + 1)), some (.inl r2)] [] τ1 Q) ∧ (¬ r2 ≤ 126 → Q (some (.inl 0)) τ1)))))))) :
    ev mX7_areAllVisible 2 [some (.inr (.inl w)), none, some (.inl n), some (.inl i), o4] [] σ Q := by
  refine ev_p (pc' := 3) (ls' := [some (.inr (.inl w)), none, some (.inl n), some (.inl i), o4]) (st' := [.inl i]) dX7_areAllVisible_2 rfl ?_
  refine ev_p (pc' := 4) (ls' := [some (.inr (.inl w)), none, some (.inl n), some (.inl i), o4]) (st' := [.inl n, .inl i]) dX7_areAllVisible_3 rfl ?_
  refine ev_ic_ge (tgt := 36) (pc' := 7) dX7_areAllVisible_4 (by decide) rfl (fun h1 => ?_) (fun h1 => ?_)
  · have k := k.1 h1
    refine ev_cst (v := 1) (pc' := 37) dX7_areAllVisible_36 (by decide) rfl ?_
    exact ev_retZ dX7_areAllVisible_37 rfl rfl k
  · have k := k.2 h1
    refine ev_p (pc' := 8) (ls' := [some (.inr (.inl w)), none, some (.inl n), some (.inl i), o4]) (st' := [.inr (.inl w)]) dX7_areAllVisible_7 rfl ?_
    refine ev_p (pc' := 9) (ls' := [some (.inr (.inl w)), none, some (.inl n), some (.inl i), o4]) (st' := [.inl i, .inr (.inl w)]) dX7_areAllVisible_8 rfl ?_
    refine ev_call (y := 16) (as := [.inr (.inl w), .inl i]) (r := []) (M' := mX7_byteAt) (pc' := 12) dX7_areAllVisible_9 rfl rfl ⟨rfl, rfl⟩ rfl k rfl (fun v τ1 hq => ?_)
    obtain ⟨r2, hv, k⟩ := hq
    rw [hv]
    change ev mX7_areAllVisible 12 [some (.inr (.inl w)), none, some (.inl n), some (.inl i), o4] [.inl r2] τ1 _
    refine ev_p (pc' := 14) (ls' := [some (.inr (.inl w)), none, some (.inl n), some (.inl i), some (.inl r2)]) (st' := []) dX7_areAllVisible_12 rfl ?_
    refine ev_p (pc' := 16) (ls' := [some (.inr (.inl w)), none, some (.inl n), some (.inl i), some (.inl r2)]) (st' := [.inl r2]) dX7_areAllVisible_14 rfl ?_
    refine ev_cst (v := 33) (pc' := 18) dX7_areAllVisible_16 (by decide) rfl ?_
    refine ev_ic_lt (tgt := 28) (pc' := 21) dX7_areAllVisible_18 (by decide) rfl (fun h2 => ?_) (fun h2 => ?_)
    · have k := k.1 h2
      refine ev_cst (v := 0) (pc' := 29) dX7_areAllVisible_28 (by decide) rfl ?_
      exact ev_retZ dX7_areAllVisible_29 rfl rfl k
    · have k := k.2 h2
      refine ev_p (pc' := 23) (ls' := [some (.inr (.inl w)), none, some (.inl n), some (.inl i), some (.inl r2)]) (st' := [.inl r2]) dX7_areAllVisible_21 rfl ?_
      refine ev_cst (v := 126) (pc' := 25) dX7_areAllVisible_23 (by decide) rfl ?_
      refine ev_ic_le (tgt := 30) (pc' := 28) dX7_areAllVisible_25 (by decide) rfl (fun h3 => ?_) (fun h3 => ?_)
      · have k := k.1 h3
        refine ev_p (pc' := 33) (ls' := [some (.inr (.inl w)), none, some (.inl n), some (.inl (i + 1)), some (.inl r2)]) (st' := []) dX7_areAllVisible_30 rfl ?_
        refine ev_go (tgt := 2) dX7_areAllVisible_33 (by decide) ?_
        exact k
      · have k := k.2 h3
        refine ev_cst (v := 0) (pc' := 29) dX7_areAllVisible_28 (by decide) rfl ?_
        exact ev_retZ dX7_areAllVisible_29 rfl rfl k
set_option maxRecDepth 20000 in
theorem s_X0_hasRoomFor_0 {σ : ab_M} {Q : Option ab_V → ab_M → Prop} {n : Int32}
    (k : ((60 < ((σ 3 1) + n) → Q (some (.inl 0)) σ) ∧ (¬ 60 < ((σ 3 1) + n) → Q (some (.inl 1)) σ))) :
    ev mX0_hasRoomFor 0 [some (.inr (.inr 3)), some (.inl n)] [] σ Q := by
  refine ev_p (pc' := 1) (ls' := [some (.inr (.inr 3)), some (.inl n)]) (st' := [.inr (.inr 3)]) dX0_hasRoomFor_0 rfl ?_
  refine ev_getI (pc' := 4) dX0_hasRoomFor_1 rfl rfl rfl rfl ?_
  refine ev_p (pc' := 5) (ls' := [some (.inr (.inr 3)), some (.inl n)]) (st' := [.inl n, .inl (σ 3 1)]) dX0_hasRoomFor_4 rfl ?_
  refine ev_p (pc' := 6) (ls' := [some (.inr (.inr 3)), some (.inl n)]) (st' := [.inl ((σ 3 1) + n)]) dX0_hasRoomFor_5 rfl ?_
  refine ev_cst (v := 60) (pc' := 8) dX0_hasRoomFor_6 (by decide) rfl ?_
  refine ev_ic_gt (tgt := 15) (pc' := 11) dX0_hasRoomFor_8 (by decide) rfl (fun h1 => ?_) (fun h1 => ?_)
  · have k := k.1 h1
    refine ev_cst (v := 0) (pc' := 16) dX0_hasRoomFor_15 (by decide) rfl ?_
    exact ev_retZ dX0_hasRoomFor_16 rfl rfl k
  · have k := k.2 h1
    refine ev_cst (v := 1) (pc' := 12) dX0_hasRoomFor_11 (by decide) rfl ?_
    refine ev_go (tgt := 16) dX0_hasRoomFor_12 (by decide) ?_
    exact ev_retZ dX0_hasRoomFor_16 rfl rfl k
set_option maxRecDepth 20000 in
theorem s_X0_append_0 {σ : ab_M} {Q : Option ab_V → ab_M → Prop} {c : Int32}
    (k : ((60 ≤ (σ 3 1) → Q none σ) ∧ (¬ 60 ≤ (σ 3 1) → ab_in (σ 3 1) 60 = true ∧ Q none (ab_upd (ab_upd σ 4 (σ 3 1).toNatClampNeg (vp_nar .char c)) 3 1 (((ab_upd σ 4 (σ 3 1).toNatClampNeg (vp_nar .char c)) 3 1) + 1))))) :
    ev mX0_append 0 [some (.inr (.inr 3)), some (.inl c)] [] σ Q := by
  refine ev_p (pc' := 1) (ls' := [some (.inr (.inr 3)), some (.inl c)]) (st' := [.inr (.inr 3)]) dX0_append_0 rfl ?_
  refine ev_getI (pc' := 4) dX0_append_1 rfl rfl rfl rfl ?_
  refine ev_cst (v := 60) (pc' := 6) dX0_append_4 (by decide) rfl ?_
  refine ev_ic_ge (tgt := 29) (pc' := 9) dX0_append_6 (by decide) rfl (fun h1 => ?_) (fun h1 => ?_)
  · have k := k.1 h1
    exact ev_ret dX0_append_29 rfl k
  · have k := k.2 h1
    refine ev_p (pc' := 10) (ls' := [some (.inr (.inr 3)), some (.inl c)]) (st' := [.inr (.inr 3)]) dX0_append_9 rfl ?_
    refine ev_getA (pc' := 13) (z := 4) dX0_append_10 rfl rfl rfl rfl ?_
    refine ev_p (pc' := 14) (ls' := [some (.inr (.inr 3)), some (.inl c)]) (st' := [.inr (.inr 3), .inr (.inr 4)]) dX0_append_13 rfl ?_
    refine ev_getI (pc' := 17) dX0_append_14 rfl rfl rfl rfl ?_
    refine ev_p (pc' := 18) (ls' := [some (.inr (.inr 3)), some (.inl c)]) (st' := [.inl c, .inl (σ 3 1), .inr (.inr 4)]) dX0_append_17 rfl ?_
    refine ev_stor (pc' := 19) (z := (vp_nar .char c)) rfl dX0_append_18 rfl rfl k.1 rfl rfl ?_
    have k := k.2
    refine ev_p (pc' := 20) (ls' := [some (.inr (.inr 3)), some (.inl c)]) (st' := [.inr (.inr 3)]) dX0_append_19 rfl ?_
    refine ev_p (pc' := 21) (ls' := [some (.inr (.inr 3)), some (.inl c)]) (st' := [.inr (.inr 3), .inr (.inr 3)]) dX0_append_20 rfl ?_
    refine ev_getI (pc' := 24) dX0_append_21 rfl rfl rfl rfl ?_
    refine ev_cst (v := 1) (pc' := 25) dX0_append_24 (by decide) rfl ?_
    refine ev_p (pc' := 26) (ls' := [some (.inr (.inr 3)), some (.inl c)]) (st' := [.inl (((ab_upd σ 4 (σ 3 1).toNatClampNeg (vp_nar .char c)) 3 1) + 1), .inr (.inr 3)]) dX0_append_25 rfl ?_
    refine ev_putI (pc' := 29) dX0_append_26 rfl rfl rfl rfl rfl rfl ?_
    exact ev_ret dX0_append_29 rfl k
set_option maxRecDepth 20000 in
theorem s_X0_length_0 {σ : ab_M} {Q : Option ab_V → ab_M → Prop} 
    (k : Q (some (.inl (σ 3 1))) σ) :
    ev mX0_length 0 [some (.inr (.inr 3))] [] σ Q := by
  refine ev_p (pc' := 1) (ls' := [some (.inr (.inr 3))]) (st' := [.inr (.inr 3)]) dX0_length_0 rfl ?_
  refine ev_getI (pc' := 4) dX0_length_1 rfl rfl rfl rfl ?_
  exact ev_ret dX0_length_4 rfl k
set_option maxRecDepth 20000 in
theorem s_X7_type_0 {σ : ab_M} {Q : Option ab_V → ab_M → Prop} {w : Int64} {n : Int32}
    (k : ((n < 1 → Q (some (.inl (-1))) σ) ∧ (¬ n < 1 → ((8 < n → Q (some (.inl (-1))) σ) ∧ (¬ 8 < n → evm mX7_areAllVisible [.inr (.inl w), .inl n] σ (fun v τ1 => ∃ r2 : Int32, v = some (.inl r2) ∧ ((r2 = 0 → Q (some (.inl (-1))) τ1) ∧ (¬ r2 = 0 → evm mX0_hasRoomFor [.inr (.inr 3), .inl n] τ1 (fun v τ3 => ∃ r4 : Int32, v = some (.inl r4) ∧ ((r4 = 0 → Q (some (.inl (-3))) τ3) ∧ (¬ r4 = 0 → ev mX7_type 40 [some (.inr (.inr 0)), some (.inr (.inl w)), none, some (.inl n), some (.inl (n - 1))] [] τ3 Q))))))))))) :
    ev mX7_type 0 [some (.inr (.inr 0)), some (.inr (.inl w)), none, some (.inl n), none] [] σ Q := by
  refine ev_p (pc' := 1) (ls' := [some (.inr (.inr 0)), some (.inr (.inl w)), none, some (.inl n), none]) (st' := [.inl n]) dX7_type_0 rfl ?_
  refine ev_cst (v := 1) (pc' := 2) dX7_type_1 (by decide) rfl ?_
  refine ev_ic_lt (tgt := 19) (pc' := 5) dX7_type_2 (by decide) rfl (fun h1 => ?_) (fun h1 => ?_)
  · have k := k.1 h1
    refine ev_cst (v := (-1)) (pc' := 20) dX7_type_19 (by decide) rfl ?_
    exact ev_ret dX7_type_20 rfl k
  · have k := k.2 h1
    refine ev_p (pc' := 6) (ls' := [some (.inr (.inr 0)), some (.inr (.inl w)), none, some (.inl n), none]) (st' := [.inl n]) dX7_type_5 rfl ?_
    refine ev_cst (v := 8) (pc' := 8) dX7_type_6 (by decide) rfl ?_
    refine ev_ic_gt (tgt := 19) (pc' := 11) dX7_type_8 (by decide) rfl (fun h2 => ?_) (fun h2 => ?_)
    · have k := k.1 h2
      refine ev_cst (v := (-1)) (pc' := 20) dX7_type_19 (by decide) rfl ?_
      exact ev_ret dX7_type_20 rfl k
    · have k := k.2 h2
      refine ev_p (pc' := 12) (ls' := [some (.inr (.inr 0)), some (.inr (.inl w)), none, some (.inl n), none]) (st' := [.inr (.inl w)]) dX7_type_11 rfl ?_
      refine ev_p (pc' := 13) (ls' := [some (.inr (.inr 0)), some (.inr (.inl w)), none, some (.inl n), none]) (st' := [.inl n, .inr (.inl w)]) dX7_type_12 rfl ?_
      refine ev_call (y := 15) (as := [.inr (.inl w), .inl n]) (r := []) (M' := mX7_areAllVisible) (pc' := 16) dX7_type_13 rfl rfl ⟨rfl, rfl⟩ rfl k rfl (fun v τ1 hq => ?_)
      obtain ⟨r2, hv, k⟩ := hq
      rw [hv]
      change ev mX7_type 16 [some (.inr (.inr 0)), some (.inr (.inl w)), none, some (.inl n), none] [.inl r2] τ1 _
      refine ev_if_ne (tgt := 21) (pc' := 19) dX7_type_16 (by decide) rfl (fun h3 => ?_) (fun h3 => ?_)
      · have k := k.2 h3
        refine ev_p (pc' := 22) (ls' := [some (.inr (.inr 0)), some (.inr (.inl w)), none, some (.inl n), none]) (st' := [.inr (.inr 0)]) dX7_type_21 rfl ?_
        refine ev_getA (pc' := 25) (z := 3) dX7_type_22 rfl rfl rfl rfl ?_
        refine ev_p (pc' := 26) (ls' := [some (.inr (.inr 0)), some (.inr (.inl w)), none, some (.inl n), none]) (st' := [.inl n, .inr (.inr 3)]) dX7_type_25 rfl ?_
        refine ev_call (y := 17) (as := [.inr (.inr 3), .inl n]) (r := []) (M' := mX0_hasRoomFor) (pc' := 29) dX7_type_26 rfl rfl ⟨rfl, rfl⟩ rfl k rfl (fun v τ3 hq => ?_)
        obtain ⟨r4, hv, k⟩ := hq
        rw [hv]
        change ev mX7_type 29 [some (.inr (.inr 0)), some (.inr (.inl w)), none, some (.inl n), none] [.inl r4] τ3 _
        refine ev_if_ne (tgt := 35) (pc' := 32) dX7_type_29 (by decide) rfl (fun h4 => ?_) (fun h4 => ?_)
        · have k := k.2 h4
          refine ev_p (pc' := 36) (ls' := [some (.inr (.inr 0)), some (.inr (.inl w)), none, some (.inl n), none]) (st' := [.inl n]) dX7_type_35 rfl ?_
          refine ev_cst (v := 1) (pc' := 37) dX7_type_36 (by decide) rfl ?_
          refine ev_p (pc' := 38) (ls' := [some (.inr (.inr 0)), some (.inr (.inl w)), none, some (.inl n), none]) (st' := [.inl (n - 1)]) dX7_type_37 rfl ?_
          refine ev_p (pc' := 40) (ls' := [some (.inr (.inr 0)), some (.inr (.inl w)), none, some (.inl n), some (.inl (n - 1))]) (st' := []) dX7_type_38 rfl ?_
          exact k
        · have k := k.1 h4
          refine ev_cst (v := (-3)) (pc' := 34) dX7_type_32 (by decide) rfl ?_
          exact ev_ret dX7_type_34 rfl k
      · have k := k.1 h3
        refine ev_cst (v := (-1)) (pc' := 20) dX7_type_19 (by decide) rfl ?_
        exact ev_ret dX7_type_20 rfl k
set_option maxRecDepth 20000 in
theorem s_X7_type_40 {σ : ab_M} {Q : Option ab_V → ab_M → Prop} {w : Int64} {n : Int32} {i : Int32}
    (k : ((i < 0 → evm mX0_length [.inr (.inr 3)] σ (fun v τ1 => ∃ r2 : Int32, v = some (.inl r2) ∧ Q (some (.inl r2)) τ1)) ∧ (¬ i < 0 → evm mX7_byteAt [.inr (.inl w), .inl i] σ (fun v τ1 => ∃ r2 : Int32, v = some (.inl r2) ∧ evm mX0_append [.inr (.inr 3), .inl r2] τ1 (fun v τ3 => v = none ∧ ev mX7_type 40 [some (.inr (.inr 0)), some (.inr (.inl w)), none, some (.inl n), some (.inl (i + (-1)))] [] τ3 Q))))) :
    ev mX7_type 40 [some (.inr (.inr 0)), some (.inr (.inl w)), none, some (.inl n), some (.inl i)] [] σ Q := by
  refine ev_p (pc' := 42) (ls' := [some (.inr (.inr 0)), some (.inr (.inl w)), none, some (.inl n), some (.inl i)]) (st' := [.inl i]) dX7_type_40 rfl ?_
  refine ev_if_lt (tgt := 64) (pc' := 45) dX7_type_42 (by decide) rfl (fun h1 => ?_) (fun h1 => ?_)
  · have k := k.1 h1
    refine ev_p (pc' := 65) (ls' := [some (.inr (.inr 0)), some (.inr (.inl w)), none, some (.inl n), some (.inl i)]) (st' := [.inr (.inr 0)]) dX7_type_64 rfl ?_
    refine ev_getA (pc' := 68) (z := 3) dX7_type_65 rfl rfl rfl rfl ?_
    refine ev_call (y := 19) (as := [.inr (.inr 3)]) (r := []) (M' := mX0_length) (pc' := 71) dX7_type_68 rfl rfl ⟨rfl, rfl⟩ rfl k rfl (fun v τ1 hq => ?_)
    obtain ⟨r2, hv, k⟩ := hq
    rw [hv]
    change ev mX7_type 71 [some (.inr (.inr 0)), some (.inr (.inl w)), none, some (.inl n), some (.inl i)] [.inl r2] τ1 _
    exact ev_ret dX7_type_71 rfl k
  · have k := k.2 h1
    refine ev_p (pc' := 46) (ls' := [some (.inr (.inr 0)), some (.inr (.inl w)), none, some (.inl n), some (.inl i)]) (st' := [.inr (.inr 0)]) dX7_type_45 rfl ?_
    refine ev_getA (pc' := 49) (z := 3) dX7_type_46 rfl rfl rfl rfl ?_
    refine ev_p (pc' := 50) (ls' := [some (.inr (.inr 0)), some (.inr (.inl w)), none, some (.inl n), some (.inl i)]) (st' := [.inr (.inl w), .inr (.inr 3)]) dX7_type_49 rfl ?_
    refine ev_p (pc' := 52) (ls' := [some (.inr (.inr 0)), some (.inr (.inl w)), none, some (.inl n), some (.inl i)]) (st' := [.inl i, .inr (.inl w), .inr (.inr 3)]) dX7_type_50 rfl ?_
    refine ev_call (y := 16) (as := [.inr (.inl w), .inl i]) (r := [.inr (.inr 3)]) (M' := mX7_byteAt) (pc' := 55) dX7_type_52 rfl rfl ⟨rfl, rfl⟩ rfl k rfl (fun v τ1 hq => ?_)
    obtain ⟨r2, hv, k⟩ := hq
    rw [hv]
    change ev mX7_type 55 [some (.inr (.inr 0)), some (.inr (.inl w)), none, some (.inl n), some (.inl i)] [.inl r2, .inr (.inr 3)] τ1 _
    refine ev_call (y := 18) (as := [.inr (.inr 3), .inl r2]) (r := []) (M' := mX0_append) (pc' := 58) dX7_type_55 rfl rfl ⟨rfl, rfl⟩ rfl k rfl (fun v τ3 hq => ?_)
    obtain ⟨hv, k⟩ := hq
    rw [hv]
    change ev mX7_type 58 [some (.inr (.inr 0)), some (.inr (.inl w)), none, some (.inl n), some (.inl i)] [] τ3 _
    refine ev_p (pc' := 61) (ls' := [some (.inr (.inr 0)), some (.inr (.inl w)), none, some (.inl n), some (.inl (i + (-1)))]) (st' := []) dX7_type_58 rfl ?_
    refine ev_go (tgt := 40) dX7_type_61 (by decide) ?_
    exact k
set_option maxRecDepth 20000 in
theorem s_X8_type_0 {σ : ab_M} {Q : Option ab_V → ab_M → Prop} {w : Int64} {n : Int32}
    (k : ((n < 1 → ev mX8_type 21 [some (.inr (.inr 50)), some (.inr (.inl w)), none, some (.inl n), some (.inl 0), some (.inl 0), none, none] [] σ Q) ∧ (¬ n < 1 → ((8 < n → ev mX8_type 21 [some (.inr (.inr 50)), some (.inr (.inl w)), none, some (.inl n), some (.inl 0), some (.inl 0), none, none] [] σ Q) ∧ (¬ 8 < n → ev mX8_type 21 [some (.inr (.inr 50)), some (.inr (.inl w)), none, some (.inl n), some (.inl 1), some (.inl 0), none, none] [] σ Q))))) :
    ev mX8_type 0 [some (.inr (.inr 50)), some (.inr (.inl w)), none, some (.inl n), none, none, none, none] [] σ Q := by
  refine ev_p (pc' := 1) (ls' := [some (.inr (.inr 50)), some (.inr (.inl w)), none, some (.inl n), none, none, none, none]) (st' := [.inl n]) dX8_type_0 rfl ?_
  refine ev_cst (v := 1) (pc' := 2) dX8_type_1 (by decide) rfl ?_
  refine ev_ic_lt (tgt := 15) (pc' := 5) dX8_type_2 (by decide) rfl (fun h1 => ?_) (fun h1 => ?_)
  · have k := k.1 h1
    refine ev_cst (v := 0) (pc' := 16) dX8_type_15 (by decide) rfl ?_
    refine ev_p (pc' := 18) (ls' := [some (.inr (.inr 50)), some (.inr (.inl w)), none, some (.inl n), some (.inl 0), none, none, none]) (st' := []) dX8_type_16 rfl ?_
    refine ev_cst (v := 0) (pc' := 19) dX8_type_18 (by decide) rfl ?_
    refine ev_p (pc' := 21) (ls' := [some (.inr (.inr 50)), some (.inr (.inl w)), none, some (.inl n), some (.inl 0), some (.inl 0), none, none]) (st' := []) dX8_type_19 rfl ?_
    exact k
  · have k := k.2 h1
    refine ev_p (pc' := 6) (ls' := [some (.inr (.inr 50)), some (.inr (.inl w)), none, some (.inl n), none, none, none, none]) (st' := [.inl n]) dX8_type_5 rfl ?_
    refine ev_cst (v := 8) (pc' := 8) dX8_type_6 (by decide) rfl ?_
    refine ev_ic_gt (tgt := 15) (pc' := 11) dX8_type_8 (by decide) rfl (fun h2 => ?_) (fun h2 => ?_)
    · have k := k.1 h2
      refine ev_cst (v := 0) (pc' := 16) dX8_type_15 (by decide) rfl ?_
      refine ev_p (pc' := 18) (ls' := [some (.inr (.inr 50)), some (.inr (.inl w)), none, some (.inl n), some (.inl 0), none, none, none]) (st' := []) dX8_type_16 rfl ?_
      refine ev_cst (v := 0) (pc' := 19) dX8_type_18 (by decide) rfl ?_
      refine ev_p (pc' := 21) (ls' := [some (.inr (.inr 50)), some (.inr (.inl w)), none, some (.inl n), some (.inl 0), some (.inl 0), none, none]) (st' := []) dX8_type_19 rfl ?_
      exact k
    · have k := k.2 h2
      refine ev_cst (v := 1) (pc' := 12) dX8_type_11 (by decide) rfl ?_
      refine ev_go (tgt := 16) dX8_type_12 (by decide) ?_
      refine ev_p (pc' := 18) (ls' := [some (.inr (.inr 50)), some (.inr (.inl w)), none, some (.inl n), some (.inl 1), none, none, none]) (st' := []) dX8_type_16 rfl ?_
      refine ev_cst (v := 0) (pc' := 19) dX8_type_18 (by decide) rfl ?_
      refine ev_p (pc' := 21) (ls' := [some (.inr (.inr 50)), some (.inr (.inl w)), none, some (.inl n), some (.inl 1), some (.inl 0), none, none]) (st' := []) dX8_type_19 rfl ?_
      exact k
set_option maxRecDepth 20000 in
theorem s_X8_type_21 {σ : ab_M} {Q : Option ab_V → ab_M → Prop} {w : Int64} {n : Int32} {g : Int32} {i : Int32} {o6 : Option ab_V} {o7 : Option ab_V}
    (k : ((n ≤ i → ((g = 0 → Q (some (.inl (-1))) σ) ∧ (¬ g = 0 → ((((σ 50 2) + n) ≤ 60 → ev mX8_type 102 [some (.inr (.inr 50)), some (.inr (.inl w)), none, some (.inl n), some (.inl g), some (.inl (n - 1)), o6, o7] [] σ Q) ∧ (¬ ((σ 50 2) + n) ≤ 60 → Q (some (.inl (-3))) σ))))) ∧ (¬ n ≤ i → ((g = 0 → ((g = 0 → Q (some (.inl (-1))) σ) ∧ (¬ g = 0 → ((((σ 50 2) + n) ≤ 60 → ev mX8_type 102 [some (.inr (.inr 50)), some (.inr (.inl w)), none, some (.inl n), some (.inl g), some (.inl (n - 1)), o6, o7] [] σ Q) ∧ (¬ ((σ 50 2) + n) ≤ 60 → Q (some (.inl (-3))) σ))))) ∧ (¬ g = 0 → (((lg_cmp ((w >>> ((8 * i).toInt64 &&& 63)) &&& 255) 33) < 0 → ev mX8_type 21 [some (.inr (.inr 50)), some (.inr (.inl w)), none, some (.inl n), some (.inl 0), some (.inl (i + 1)), some (.inr (.inl ((w >>> ((8 * i).toInt64 &&& 63)) &&& 255))), none] [] σ Q) ∧ (¬ (lg_cmp ((w >>> ((8 * i).toInt64 &&& 63)) &&& 255) 33) < 0 → ((0 < (lg_cmp ((w >>> ((8 * i).toInt64 &&& 63)) &&& 255) 126) → ev mX8_type 21 [some (.inr (.inr 50)), some (.inr (.inl w)), none, some (.inl n), some (.inl 0), some (.inl (i + 1)), some (.inr (.inl ((w >>> ((8 * i).toInt64 &&& 63)) &&& 255))), none] [] σ Q) ∧ (¬ 0 < (lg_cmp ((w >>> ((8 * i).toInt64 &&& 63)) &&& 255) 126) → ev mX8_type 21 [some (.inr (.inr 50)), some (.inr (.inl w)), none, some (.inl n), some (.inl 1), some (.inl (i + 1)), some (.inr (.inl ((w >>> ((8 * i).toInt64 &&& 63)) &&& 255))), none] [] σ Q))))))))) :
    ev mX8_type 21 [some (.inr (.inr 50)), some (.inr (.inl w)), none, some (.inl n), some (.inl g), some (.inl i), o6, o7] [] σ Q := by
  refine ev_p (pc' := 23) (ls' := [some (.inr (.inr 50)), some (.inr (.inl w)), none, some (.inl n), some (.inl g), some (.inl i), o6, o7]) (st' := [.inl i]) dX8_type_21 rfl ?_
  refine ev_p (pc' := 24) (ls' := [some (.inr (.inr 50)), some (.inr (.inl w)), none, some (.inl n), some (.inl g), some (.inl i), o6, o7]) (st' := [.inl n, .inl i]) dX8_type_23 rfl ?_
  refine ev_ic_ge (tgt := 76) (pc' := 27) dX8_type_24 (by decide) rfl (fun h1 => ?_) (fun h1 => ?_)
  · have k := k.1 h1
    refine ev_p (pc' := 78) (ls' := [some (.inr (.inr 50)), some (.inr (.inl w)), none, some (.inl n), some (.inl g), some (.inl i), o6, o7]) (st' := [.inl g]) dX8_type_76 rfl ?_
    refine ev_if_ne (tgt := 83) (pc' := 81) dX8_type_78 (by decide) rfl (fun h2 => ?_) (fun h2 => ?_)
    · have k := k.2 h2
      refine ev_p (pc' := 84) (ls' := [some (.inr (.inr 50)), some (.inr (.inl w)), none, some (.inl n), some (.inl g), some (.inl i), o6, o7]) (st' := [.inr (.inr 50)]) dX8_type_83 rfl ?_
      refine ev_getI (pc' := 87) dX8_type_84 rfl rfl rfl rfl ?_
      refine ev_p (pc' := 88) (ls' := [some (.inr (.inr 50)), some (.inr (.inl w)), none, some (.inl n), some (.inl g), some (.inl i), o6, o7]) (st' := [.inl n, .inl (σ 50 2)]) dX8_type_87 rfl ?_
      refine ev_p (pc' := 89) (ls' := [some (.inr (.inr 50)), some (.inr (.inl w)), none, some (.inl n), some (.inl g), some (.inl i), o6, o7]) (st' := [.inl ((σ 50 2) + n)]) dX8_type_88 rfl ?_
      refine ev_cst (v := 60) (pc' := 91) dX8_type_89 (by decide) rfl ?_
      refine ev_ic_le (tgt := 97) (pc' := 94) dX8_type_91 (by decide) rfl (fun h3 => ?_) (fun h3 => ?_)
      · have k := k.1 h3
        refine ev_p (pc' := 98) (ls' := [some (.inr (.inr 50)), some (.inr (.inl w)), none, some (.inl n), some (.inl g), some (.inl i), o6, o7]) (st' := [.inl n]) dX8_type_97 rfl ?_
        refine ev_cst (v := 1) (pc' := 99) dX8_type_98 (by decide) rfl ?_
        refine ev_p (pc' := 100) (ls' := [some (.inr (.inr 50)), some (.inr (.inl w)), none, some (.inl n), some (.inl g), some (.inl i), o6, o7]) (st' := [.inl (n - 1)]) dX8_type_99 rfl ?_
        refine ev_p (pc' := 102) (ls' := [some (.inr (.inr 50)), some (.inr (.inl w)), none, some (.inl n), some (.inl g), some (.inl (n - 1)), o6, o7]) (st' := []) dX8_type_100 rfl ?_
        exact k
      · have k := k.2 h3
        refine ev_cst (v := (-3)) (pc' := 96) dX8_type_94 (by decide) rfl ?_
        exact ev_ret dX8_type_96 rfl k
    · have k := k.1 h2
      refine ev_cst (v := (-1)) (pc' := 82) dX8_type_81 (by decide) rfl ?_
      exact ev_ret dX8_type_82 rfl k
  · have k := k.2 h1
    refine ev_p (pc' := 29) (ls' := [some (.inr (.inr 50)), some (.inr (.inl w)), none, some (.inl n), some (.inl g), some (.inl i), o6, o7]) (st' := [.inl g]) dX8_type_27 rfl ?_
    refine ev_if_eq (tgt := 76) (pc' := 32) dX8_type_29 (by decide) rfl (fun h4 => ?_) (fun h4 => ?_)
    · have k := k.1 h4
      refine ev_p (pc' := 78) (ls' := [some (.inr (.inr 50)), some (.inr (.inl w)), none, some (.inl n), some (.inl g), some (.inl i), o6, o7]) (st' := [.inl g]) dX8_type_76 rfl ?_
      refine ev_if_ne (tgt := 83) (pc' := 81) dX8_type_78 (by decide) rfl (fun h5 => ?_) (fun h5 => ?_)
      · have k := k.2 h5
        refine ev_p (pc' := 84) (ls' := [some (.inr (.inr 50)), some (.inr (.inl w)), none, some (.inl n), some (.inl g), some (.inl i), o6, o7]) (st' := [.inr (.inr 50)]) dX8_type_83 rfl ?_
        refine ev_getI (pc' := 87) dX8_type_84 rfl rfl rfl rfl ?_
        refine ev_p (pc' := 88) (ls' := [some (.inr (.inr 50)), some (.inr (.inl w)), none, some (.inl n), some (.inl g), some (.inl i), o6, o7]) (st' := [.inl n, .inl (σ 50 2)]) dX8_type_87 rfl ?_
        refine ev_p (pc' := 89) (ls' := [some (.inr (.inr 50)), some (.inr (.inl w)), none, some (.inl n), some (.inl g), some (.inl i), o6, o7]) (st' := [.inl ((σ 50 2) + n)]) dX8_type_88 rfl ?_
        refine ev_cst (v := 60) (pc' := 91) dX8_type_89 (by decide) rfl ?_
        refine ev_ic_le (tgt := 97) (pc' := 94) dX8_type_91 (by decide) rfl (fun h6 => ?_) (fun h6 => ?_)
        · have k := k.1 h6
          refine ev_p (pc' := 98) (ls' := [some (.inr (.inr 50)), some (.inr (.inl w)), none, some (.inl n), some (.inl g), some (.inl i), o6, o7]) (st' := [.inl n]) dX8_type_97 rfl ?_
          refine ev_cst (v := 1) (pc' := 99) dX8_type_98 (by decide) rfl ?_
          refine ev_p (pc' := 100) (ls' := [some (.inr (.inr 50)), some (.inr (.inl w)), none, some (.inl n), some (.inl g), some (.inl i), o6, o7]) (st' := [.inl (n - 1)]) dX8_type_99 rfl ?_
          refine ev_p (pc' := 102) (ls' := [some (.inr (.inr 50)), some (.inr (.inl w)), none, some (.inl n), some (.inl g), some (.inl (n - 1)), o6, o7]) (st' := []) dX8_type_100 rfl ?_
          exact k
        · have k := k.2 h6
          refine ev_cst (v := (-3)) (pc' := 96) dX8_type_94 (by decide) rfl ?_
          exact ev_ret dX8_type_96 rfl k
      · have k := k.1 h5
        refine ev_cst (v := (-1)) (pc' := 82) dX8_type_81 (by decide) rfl ?_
        exact ev_ret dX8_type_82 rfl k
    · have k := k.2 h4
      refine ev_p (pc' := 33) (ls' := [some (.inr (.inr 50)), some (.inr (.inl w)), none, some (.inl n), some (.inl g), some (.inl i), o6, o7]) (st' := [.inr (.inl w)]) dX8_type_32 rfl ?_
      refine ev_cst (v := 8) (pc' := 35) dX8_type_33 (by decide) rfl ?_
      refine ev_p (pc' := 37) (ls' := [some (.inr (.inr 50)), some (.inr (.inl w)), none, some (.inl n), some (.inl g), some (.inl i), o6, o7]) (st' := [.inl i, .inl 8, .inr (.inl w)]) dX8_type_35 rfl ?_
      refine ev_p (pc' := 38) (ls' := [some (.inr (.inr 50)), some (.inr (.inl w)), none, some (.inl n), some (.inl g), some (.inl i), o6, o7]) (st' := [.inl (8 * i), .inr (.inl w)]) dX8_type_37 rfl ?_
      refine ev_p (pc' := 39) (ls' := [some (.inr (.inr 50)), some (.inr (.inl w)), none, some (.inl n), some (.inl g), some (.inl i), o6, o7]) (st' := [.inr (.inl (w >>> ((8 * i).toInt64 &&& 63)))]) dX8_type_38 rfl ?_
      refine ev_p (pc' := 42) (ls' := [some (.inr (.inr 50)), some (.inr (.inl w)), none, some (.inl n), some (.inl g), some (.inl i), o6, o7]) (st' := [.inr (.inl 255), .inr (.inl (w >>> ((8 * i).toInt64 &&& 63)))]) dX8_type_39 rfl ?_
      refine ev_p (pc' := 43) (ls' := [some (.inr (.inr 50)), some (.inr (.inl w)), none, some (.inl n), some (.inl g), some (.inl i), o6, o7]) (st' := [.inr (.inl ((w >>> ((8 * i).toInt64 &&& 63)) &&& 255))]) dX8_type_42 rfl ?_
      refine ev_p (pc' := 45) (ls' := [some (.inr (.inr 50)), some (.inr (.inl w)), none, some (.inl n), some (.inl g), some (.inl i), some (.inr (.inl ((w >>> ((8 * i).toInt64 &&& 63)) &&& 255))), none]) (st' := []) dX8_type_43 rfl ?_
      refine ev_p (pc' := 47) (ls' := [some (.inr (.inr 50)), some (.inr (.inl w)), none, some (.inl n), some (.inl g), some (.inl i), some (.inr (.inl ((w >>> ((8 * i).toInt64 &&& 63)) &&& 255))), none]) (st' := [.inr (.inl ((w >>> ((8 * i).toInt64 &&& 63)) &&& 255))]) dX8_type_45 rfl ?_
      refine ev_p (pc' := 50) (ls' := [some (.inr (.inr 50)), some (.inr (.inl w)), none, some (.inl n), some (.inl g), some (.inl i), some (.inr (.inl ((w >>> ((8 * i).toInt64 &&& 63)) &&& 255))), none]) (st' := [.inr (.inl 33), .inr (.inl ((w >>> ((8 * i).toInt64 &&& 63)) &&& 255))]) dX8_type_47 rfl ?_
      refine ev_p (pc' := 51) (ls' := [some (.inr (.inr 50)), some (.inr (.inl w)), none, some (.inl n), some (.inl g), some (.inl i), some (.inr (.inl ((w >>> ((8 * i).toInt64 &&& 63)) &&& 255))), none]) (st' := [.inl (lg_cmp ((w >>> ((8 * i).toInt64 &&& 63)) &&& 255) 33)]) dX8_type_50 rfl ?_
      refine ev_if_lt (tgt := 67) (pc' := 54) dX8_type_51 (by decide) rfl (fun h7 => ?_) (fun h7 => ?_)
      · have k := k.1 h7
        refine ev_cst (v := 0) (pc' := 68) dX8_type_67 (by decide) rfl ?_
        refine ev_p (pc' := 70) (ls' := [some (.inr (.inr 50)), some (.inr (.inl w)), none, some (.inl n), some (.inl 0), some (.inl i), some (.inr (.inl ((w >>> ((8 * i).toInt64 &&& 63)) &&& 255))), none]) (st' := []) dX8_type_68 rfl ?_
        refine ev_p (pc' := 73) (ls' := [some (.inr (.inr 50)), some (.inr (.inl w)), none, some (.inl n), some (.inl 0), some (.inl (i + 1)), some (.inr (.inl ((w >>> ((8 * i).toInt64 &&& 63)) &&& 255))), none]) (st' := []) dX8_type_70 rfl ?_
        refine ev_go (tgt := 21) dX8_type_73 (by decide) ?_
        exact k
      · have k := k.2 h7
        refine ev_p (pc' := 56) (ls' := [some (.inr (.inr 50)), some (.inr (.inl w)), none, some (.inl n), some (.inl g), some (.inl i), some (.inr (.inl ((w >>> ((8 * i).toInt64 &&& 63)) &&& 255))), none]) (st' := [.inr (.inl ((w >>> ((8 * i).toInt64 &&& 63)) &&& 255))]) dX8_type_54 rfl ?_
        refine ev_p (pc' := 59) (ls' := [some (.inr (.inr 50)), some (.inr (.inl w)), none, some (.inl n), some (.inl g), some (.inl i), some (.inr (.inl ((w >>> ((8 * i).toInt64 &&& 63)) &&& 255))), none]) (st' := [.inr (.inl 126), .inr (.inl ((w >>> ((8 * i).toInt64 &&& 63)) &&& 255))]) dX8_type_56 rfl ?_
        refine ev_p (pc' := 60) (ls' := [some (.inr (.inr 50)), some (.inr (.inl w)), none, some (.inl n), some (.inl g), some (.inl i), some (.inr (.inl ((w >>> ((8 * i).toInt64 &&& 63)) &&& 255))), none]) (st' := [.inl (lg_cmp ((w >>> ((8 * i).toInt64 &&& 63)) &&& 255) 126)]) dX8_type_59 rfl ?_
        refine ev_if_gt (tgt := 67) (pc' := 63) dX8_type_60 (by decide) rfl (fun h8 => ?_) (fun h8 => ?_)
        · have k := k.1 h8
          refine ev_cst (v := 0) (pc' := 68) dX8_type_67 (by decide) rfl ?_
          refine ev_p (pc' := 70) (ls' := [some (.inr (.inr 50)), some (.inr (.inl w)), none, some (.inl n), some (.inl 0), some (.inl i), some (.inr (.inl ((w >>> ((8 * i).toInt64 &&& 63)) &&& 255))), none]) (st' := []) dX8_type_68 rfl ?_
          refine ev_p (pc' := 73) (ls' := [some (.inr (.inr 50)), some (.inr (.inl w)), none, some (.inl n), some (.inl 0), some (.inl (i + 1)), some (.inr (.inl ((w >>> ((8 * i).toInt64 &&& 63)) &&& 255))), none]) (st' := []) dX8_type_70 rfl ?_
          refine ev_go (tgt := 21) dX8_type_73 (by decide) ?_
          exact k
        · have k := k.2 h8
          refine ev_cst (v := 1) (pc' := 64) dX8_type_63 (by decide) rfl ?_
          refine ev_go (tgt := 68) dX8_type_64 (by decide) ?_
          refine ev_p (pc' := 70) (ls' := [some (.inr (.inr 50)), some (.inr (.inl w)), none, some (.inl n), some (.inl 1), some (.inl i), some (.inr (.inl ((w >>> ((8 * i).toInt64 &&& 63)) &&& 255))), none]) (st' := []) dX8_type_68 rfl ?_
          refine ev_p (pc' := 73) (ls' := [some (.inr (.inr 50)), some (.inr (.inl w)), none, some (.inl n), some (.inl 1), some (.inl (i + 1)), some (.inr (.inl ((w >>> ((8 * i).toInt64 &&& 63)) &&& 255))), none]) (st' := []) dX8_type_70 rfl ?_
          refine ev_go (tgt := 21) dX8_type_73 (by decide) ?_
          exact k
set_option maxRecDepth 20000 in
theorem s_X8_type_102 {σ : ab_M} {Q : Option ab_V → ab_M → Prop} {w : Int64} {n : Int32} {g : Int32} {i : Int32} {o6 : Option ab_V} {o7 : Option ab_V}
    (k : ((i < 0 → Q (some (.inl (σ 50 2))) σ) ∧ (¬ i < 0 → ab_in (σ 50 2) 60 = true ∧ ev mX8_type 102 [some (.inr (.inr 50)), some (.inr (.inl w)), none, some (.inl n), some (.inl g), some (.inl (i + (-1))), o6, o7] [] (ab_upd (ab_upd σ 52 (σ 50 2).toNatClampNeg (((w >>> ((8 * i).toInt64 &&& 63)) &&& 255).toInt32)) 50 2 (((ab_upd σ 52 (σ 50 2).toNatClampNeg (((w >>> ((8 * i).toInt64 &&& 63)) &&& 255).toInt32)) 50 2) + 1)) Q))) :
    ev mX8_type 102 [some (.inr (.inr 50)), some (.inr (.inl w)), none, some (.inl n), some (.inl g), some (.inl i), o6, o7] [] σ Q := by
  refine ev_p (pc' := 104) (ls' := [some (.inr (.inr 50)), some (.inr (.inl w)), none, some (.inl n), some (.inl g), some (.inl i), o6, o7]) (st' := [.inl i]) dX8_type_102 rfl ?_
  refine ev_if_lt (tgt := 144) (pc' := 107) dX8_type_104 (by decide) rfl (fun h1 => ?_) (fun h1 => ?_)
  · have k := k.1 h1
    refine ev_p (pc' := 145) (ls' := [some (.inr (.inr 50)), some (.inr (.inl w)), none, some (.inl n), some (.inl g), some (.inl i), o6, o7]) (st' := [.inr (.inr 50)]) dX8_type_144 rfl ?_
    refine ev_getI (pc' := 148) dX8_type_145 rfl rfl rfl rfl ?_
    exact ev_ret dX8_type_148 rfl k
  · have k := k.2 h1
    refine ev_p (pc' := 108) (ls' := [some (.inr (.inr 50)), some (.inr (.inl w)), none, some (.inl n), some (.inl g), some (.inl i), o6, o7]) (st' := [.inr (.inr 50)]) dX8_type_107 rfl ?_
    refine ev_getA (pc' := 111) (z := 52) dX8_type_108 rfl rfl rfl rfl ?_
    refine ev_p (pc' := 112) (ls' := [some (.inr (.inr 50)), some (.inr (.inl w)), none, some (.inl n), some (.inl g), some (.inl i), o6, o7]) (st' := [.inr (.inr 50), .inr (.inr 52)]) dX8_type_111 rfl ?_
    refine ev_getI (pc' := 115) dX8_type_112 rfl rfl rfl rfl ?_
    refine ev_p (pc' := 116) (ls' := [some (.inr (.inr 50)), some (.inr (.inl w)), none, some (.inl n), some (.inl g), some (.inl i), o6, o7]) (st' := [.inr (.inl w), .inl (σ 50 2), .inr (.inr 52)]) dX8_type_115 rfl ?_
    refine ev_cst (v := 8) (pc' := 118) dX8_type_116 (by decide) rfl ?_
    refine ev_p (pc' := 120) (ls' := [some (.inr (.inr 50)), some (.inr (.inl w)), none, some (.inl n), some (.inl g), some (.inl i), o6, o7]) (st' := [.inl i, .inl 8, .inr (.inl w), .inl (σ 50 2), .inr (.inr 52)]) dX8_type_118 rfl ?_
    refine ev_p (pc' := 121) (ls' := [some (.inr (.inr 50)), some (.inr (.inl w)), none, some (.inl n), some (.inl g), some (.inl i), o6, o7]) (st' := [.inl (8 * i), .inr (.inl w), .inl (σ 50 2), .inr (.inr 52)]) dX8_type_120 rfl ?_
    refine ev_p (pc' := 122) (ls' := [some (.inr (.inr 50)), some (.inr (.inl w)), none, some (.inl n), some (.inl g), some (.inl i), o6, o7]) (st' := [.inr (.inl (w >>> ((8 * i).toInt64 &&& 63))), .inl (σ 50 2), .inr (.inr 52)]) dX8_type_121 rfl ?_
    refine ev_p (pc' := 125) (ls' := [some (.inr (.inr 50)), some (.inr (.inl w)), none, some (.inl n), some (.inl g), some (.inl i), o6, o7]) (st' := [.inr (.inl 255), .inr (.inl (w >>> ((8 * i).toInt64 &&& 63))), .inl (σ 50 2), .inr (.inr 52)]) dX8_type_122 rfl ?_
    refine ev_p (pc' := 126) (ls' := [some (.inr (.inr 50)), some (.inr (.inl w)), none, some (.inl n), some (.inl g), some (.inl i), o6, o7]) (st' := [.inr (.inl ((w >>> ((8 * i).toInt64 &&& 63)) &&& 255)), .inl (σ 50 2), .inr (.inr 52)]) dX8_type_125 rfl ?_
    refine ev_p (pc' := 127) (ls' := [some (.inr (.inr 50)), some (.inr (.inl w)), none, some (.inl n), some (.inl g), some (.inl i), o6, o7]) (st' := [.inl (((w >>> ((8 * i).toInt64 &&& 63)) &&& 255).toInt32), .inl (σ 50 2), .inr (.inr 52)]) dX8_type_126 rfl ?_
    refine ev_stor (pc' := 128) (z := (((w >>> ((8 * i).toInt64 &&& 63)) &&& 255).toInt32)) rfl dX8_type_127 rfl rfl k.1 rfl rfl ?_
    have k := k.2
    refine ev_p (pc' := 129) (ls' := [some (.inr (.inr 50)), some (.inr (.inl w)), none, some (.inl n), some (.inl g), some (.inl i), o6, o7]) (st' := [.inr (.inr 50)]) dX8_type_128 rfl ?_
    refine ev_p (pc' := 130) (ls' := [some (.inr (.inr 50)), some (.inr (.inl w)), none, some (.inl n), some (.inl g), some (.inl i), o6, o7]) (st' := [.inr (.inr 50), .inr (.inr 50)]) dX8_type_129 rfl ?_
    refine ev_getI (pc' := 133) dX8_type_130 rfl rfl rfl rfl ?_
    refine ev_cst (v := 1) (pc' := 134) dX8_type_133 (by decide) rfl ?_
    refine ev_p (pc' := 135) (ls' := [some (.inr (.inr 50)), some (.inr (.inl w)), none, some (.inl n), some (.inl g), some (.inl i), o6, o7]) (st' := [.inl (((ab_upd σ 52 (σ 50 2).toNatClampNeg (((w >>> ((8 * i).toInt64 &&& 63)) &&& 255).toInt32)) 50 2) + 1), .inr (.inr 50)]) dX8_type_134 rfl ?_
    refine ev_putI (pc' := 138) dX8_type_135 rfl rfl rfl rfl rfl rfl ?_
    refine ev_p (pc' := 141) (ls' := [some (.inr (.inr 50)), some (.inr (.inl w)), none, some (.inl n), some (.inl g), some (.inl (i + (-1))), o6, o7]) (st' := []) dX8_type_138 rfl ?_
    refine ev_go (tgt := 102) dX8_type_141 (by decide) ?_
    exact k
set_option maxRecDepth 20000 in
theorem s_X7_find_0 {σ : ab_M} {Q : Option ab_V → ab_M → Prop} {n : Int32}
    (k : evm mX4_countAnew [.inr (.inr 45)] σ (fun v τ1 => v = none ∧ ((n < 1 → Q (some (.inl (-1))) τ1) ∧ (¬ n < 1 → ((n ≤ 4 → ev mX7_find 26 [some (.inr (.inr 0)), some (.inl n), some (.inl 1), none] [] (ab_upd τ1 0 8 0) Q) ∧ (¬ n ≤ 4 → Q (some (.inl (-1))) τ1)))))) :
    ev mX7_find 0 [some (.inr (.inr 0)), some (.inl n), none, none] [] σ Q := by
  refine ev_p (pc' := 1) (ls' := [some (.inr (.inr 0)), some (.inl n), none, none]) (st' := [.inr (.inr 0)]) dX7_find_0 rfl ?_
  refine ev_getA (pc' := 4) (z := 45) dX7_find_1 rfl rfl rfl rfl ?_
  refine ev_call (y := 41) (as := [.inr (.inr 45)]) (r := []) (M' := mX4_countAnew) (pc' := 7) dX7_find_4 rfl rfl ⟨rfl, rfl⟩ rfl k rfl (fun v τ1 hq => ?_)
  obtain ⟨hv, k⟩ := hq
  rw [hv]
  change ev mX7_find 7 [some (.inr (.inr 0)), some (.inl n), none, none] [] τ1 _
  refine ev_p (pc' := 8) (ls' := [some (.inr (.inr 0)), some (.inl n), none, none]) (st' := [.inl n]) dX7_find_7 rfl ?_
  refine ev_cst (v := 1) (pc' := 9) dX7_find_8 (by decide) rfl ?_
  refine ev_ic_lt (tgt := 17) (pc' := 12) dX7_find_9 (by decide) rfl (fun h1 => ?_) (fun h1 => ?_)
  · have k := k.1 h1
    refine ev_cst (v := (-1)) (pc' := 18) dX7_find_17 (by decide) rfl ?_
    exact ev_ret dX7_find_18 rfl k
  · have k := k.2 h1
    refine ev_p (pc' := 13) (ls' := [some (.inr (.inr 0)), some (.inl n), none, none]) (st' := [.inl n]) dX7_find_12 rfl ?_
    refine ev_cst (v := 4) (pc' := 14) dX7_find_13 (by decide) rfl ?_
    refine ev_ic_le (tgt := 19) (pc' := 17) dX7_find_14 (by decide) rfl (fun h2 => ?_) (fun h2 => ?_)
    · have k := k.1 h2
      refine ev_p (pc' := 20) (ls' := [some (.inr (.inr 0)), some (.inl n), none, none]) (st' := [.inr (.inr 0)]) dX7_find_19 rfl ?_
      refine ev_cst (v := 0) (pc' := 21) dX7_find_20 (by decide) rfl ?_
      refine ev_putI (pc' := 24) dX7_find_21 rfl rfl rfl rfl rfl rfl ?_
      refine ev_cst (v := 1) (pc' := 25) dX7_find_24 (by decide) rfl ?_
      refine ev_p (pc' := 26) (ls' := [some (.inr (.inr 0)), some (.inl n), some (.inl 1), none]) (st' := []) dX7_find_25 rfl ?_
      exact k
    · have k := k.2 h2
      refine ev_cst (v := (-1)) (pc' := 18) dX7_find_17 (by decide) rfl ?_
      exact ev_ret dX7_find_18 rfl k
set_option maxRecDepth 20000 in
theorem s_X7_find_26 {σ : ab_M} {Q : Option ab_V → ab_M → Prop} {n : Int32} {i : Int32} {o3 : Option ab_V}
    (k : ((n < i → Q (some (.inl 0)) σ) ∧ (¬ n < i → evm mX4_begin [.inr (.inr 45), .inl i, .inr (.inr 1)] σ (fun v τ1 => ∃ r2 : Int32, v = some (.inl r2) ∧ ((r2 = (-4) → Q (some (.inl (-4))) τ1) ∧ (¬ r2 = (-4) → ((r2 = 1 → Q (some (.inl i)) (ab_upd (ab_upd τ1 0 8 i) 0 9 0)) ∧ (¬ r2 = 1 → ev mX7_find 26 [some (.inr (.inr 0)), some (.inl n), some (.inl (i + 1)), some (.inl r2)] [] τ1 Q)))))))) :
    ev mX7_find 26 [some (.inr (.inr 0)), some (.inl n), some (.inl i), o3] [] σ Q := by
  refine ev_p (pc' := 27) (ls' := [some (.inr (.inr 0)), some (.inl n), some (.inl i), o3]) (st' := [.inl i]) dX7_find_26 rfl ?_
  refine ev_p (pc' := 28) (ls' := [some (.inr (.inr 0)), some (.inl n), some (.inl i), o3]) (st' := [.inl n, .inl i]) dX7_find_27 rfl ?_
  refine ev_ic_gt (tgt := 76) (pc' := 31) dX7_find_28 (by decide) rfl (fun h1 => ?_) (fun h1 => ?_)
  · have k := k.1 h1
    refine ev_cst (v := 0) (pc' := 77) dX7_find_76 (by decide) rfl ?_
    exact ev_ret dX7_find_77 rfl k
  · have k := k.2 h1
    refine ev_p (pc' := 32) (ls' := [some (.inr (.inr 0)), some (.inl n), some (.inl i), o3]) (st' := [.inr (.inr 0)]) dX7_find_31 rfl ?_
    refine ev_getA (pc' := 35) (z := 45) dX7_find_32 rfl rfl rfl rfl ?_
    refine ev_p (pc' := 36) (ls' := [some (.inr (.inr 0)), some (.inl n), some (.inl i), o3]) (st' := [.inl i, .inr (.inr 45)]) dX7_find_35 rfl ?_
    refine ev_p (pc' := 37) (ls' := [some (.inr (.inr 0)), some (.inl n), some (.inl i), o3]) (st' := [.inr (.inr 0), .inl i, .inr (.inr 45)]) dX7_find_36 rfl ?_
    refine ev_getA (pc' := 40) (z := 1) dX7_find_37 rfl rfl rfl rfl ?_
    refine ev_call (y := 42) (as := [.inr (.inr 45), .inl i, .inr (.inr 1)]) (r := []) (M' := mX4_begin) (pc' := 43) dX7_find_40 rfl rfl ⟨rfl, rfl⟩ rfl k rfl (fun v τ1 hq => ?_)
    obtain ⟨r2, hv, k⟩ := hq
    rw [hv]
    change ev mX7_find 43 [some (.inr (.inr 0)), some (.inl n), some (.inl i), o3] [.inl r2] τ1 _
    refine ev_p (pc' := 44) (ls' := [some (.inr (.inr 0)), some (.inl n), some (.inl i), some (.inl r2)]) (st' := []) dX7_find_43 rfl ?_
    refine ev_p (pc' := 45) (ls' := [some (.inr (.inr 0)), some (.inl n), some (.inl i), some (.inl r2)]) (st' := [.inl r2]) dX7_find_44 rfl ?_
    refine ev_cst (v := (-4)) (pc' := 47) dX7_find_45 (by decide) rfl ?_
    refine ev_ic_ne (tgt := 53) (pc' := 50) dX7_find_47 (by decide) rfl (fun h2 => ?_) (fun h2 => ?_)
    · have k := k.2 h2
      refine ev_p (pc' := 54) (ls' := [some (.inr (.inr 0)), some (.inl n), some (.inl i), some (.inl r2)]) (st' := [.inl r2]) dX7_find_53 rfl ?_
      refine ev_cst (v := 1) (pc' := 55) dX7_find_54 (by decide) rfl ?_
      refine ev_ic_ne (tgt := 70) (pc' := 58) dX7_find_55 (by decide) rfl (fun h3 => ?_) (fun h3 => ?_)
      · have k := k.2 h3
        refine ev_p (pc' := 73) (ls' := [some (.inr (.inr 0)), some (.inl n), some (.inl (i + 1)), some (.inl r2)]) (st' := []) dX7_find_70 rfl ?_
        refine ev_go (tgt := 26) dX7_find_73 (by decide) ?_
        exact k
      · have k := k.1 h3
        refine ev_p (pc' := 59) (ls' := [some (.inr (.inr 0)), some (.inl n), some (.inl i), some (.inl r2)]) (st' := [.inr (.inr 0)]) dX7_find_58 rfl ?_
        refine ev_p (pc' := 60) (ls' := [some (.inr (.inr 0)), some (.inl n), some (.inl i), some (.inl r2)]) (st' := [.inl i, .inr (.inr 0)]) dX7_find_59 rfl ?_
        refine ev_putI (pc' := 63) dX7_find_60 rfl rfl rfl rfl rfl rfl ?_
        refine ev_p (pc' := 64) (ls' := [some (.inr (.inr 0)), some (.inl n), some (.inl i), some (.inl r2)]) (st' := [.inr (.inr 0)]) dX7_find_63 rfl ?_
        refine ev_cst (v := 0) (pc' := 65) dX7_find_64 (by decide) rfl ?_
        refine ev_putI (pc' := 68) dX7_find_65 rfl rfl rfl rfl rfl rfl ?_
        refine ev_p (pc' := 69) (ls' := [some (.inr (.inr 0)), some (.inl n), some (.inl i), some (.inl r2)]) (st' := [.inl i]) dX7_find_68 rfl ?_
        exact ev_ret dX7_find_69 rfl k
    · have k := k.1 h2
      refine ev_cst (v := (-4)) (pc' := 52) dX7_find_50 (by decide) rfl ?_
      exact ev_ret dX7_find_52 rfl k
set_option maxRecDepth 20000 in
theorem s_X8_find_0 {σ : ab_M} {Q : Option ab_V → ab_M → Prop} {n : Int32}
    (k : ((n < 1 → Q (some (.inl (-1))) σ) ∧ (¬ n < 1 → ((n ≤ 4 → ev mX8_find 26 [some (.inr (.inr 50)), some (.inl n), some (.inl 0), some (.inl 1)] [] (ab_upd (ab_upd σ 50 14 0) 50 12 0) Q) ∧ (¬ n ≤ 4 → Q (some (.inl (-1))) σ))))) :
    ev mX8_find 0 [some (.inr (.inr 50)), some (.inl n), none, none] [] σ Q := by
  refine ev_p (pc' := 1) (ls' := [some (.inr (.inr 50)), some (.inl n), none, none]) (st' := [.inl n]) dX8_find_0 rfl ?_
  refine ev_cst (v := 1) (pc' := 2) dX8_find_1 (by decide) rfl ?_
  refine ev_ic_lt (tgt := 10) (pc' := 5) dX8_find_2 (by decide) rfl (fun h1 => ?_) (fun h1 => ?_)
  · have k := k.1 h1
    refine ev_cst (v := (-1)) (pc' := 11) dX8_find_10 (by decide) rfl ?_
    exact ev_ret dX8_find_11 rfl k
  · have k := k.2 h1
    refine ev_p (pc' := 6) (ls' := [some (.inr (.inr 50)), some (.inl n), none, none]) (st' := [.inl n]) dX8_find_5 rfl ?_
    refine ev_cst (v := 4) (pc' := 7) dX8_find_6 (by decide) rfl ?_
    refine ev_ic_le (tgt := 12) (pc' := 10) dX8_find_7 (by decide) rfl (fun h2 => ?_) (fun h2 => ?_)
    · have k := k.1 h2
      refine ev_p (pc' := 13) (ls' := [some (.inr (.inr 50)), some (.inl n), none, none]) (st' := [.inr (.inr 50)]) dX8_find_12 rfl ?_
      refine ev_cst (v := 0) (pc' := 14) dX8_find_13 (by decide) rfl ?_
      refine ev_putI (pc' := 17) dX8_find_14 rfl rfl rfl rfl rfl rfl ?_
      refine ev_p (pc' := 18) (ls' := [some (.inr (.inr 50)), some (.inl n), none, none]) (st' := [.inr (.inr 50)]) dX8_find_17 rfl ?_
      refine ev_cst (v := 0) (pc' := 19) dX8_find_18 (by decide) rfl ?_
      refine ev_putI (pc' := 22) dX8_find_19 rfl rfl rfl rfl rfl rfl ?_
      refine ev_cst (v := 0) (pc' := 23) dX8_find_22 (by decide) rfl ?_
      refine ev_p (pc' := 24) (ls' := [some (.inr (.inr 50)), some (.inl n), some (.inl 0), none]) (st' := []) dX8_find_23 rfl ?_
      refine ev_cst (v := 1) (pc' := 25) dX8_find_24 (by decide) rfl ?_
      refine ev_p (pc' := 26) (ls' := [some (.inr (.inr 50)), some (.inl n), some (.inl 0), some (.inl 1)]) (st' := []) dX8_find_25 rfl ?_
      exact k
    · have k := k.2 h2
      refine ev_cst (v := (-1)) (pc' := 11) dX8_find_10 (by decide) rfl ?_
      exact ev_ret dX8_find_11 rfl k
set_option maxRecDepth 20000 in
theorem s_X8_find_26 {σ : ab_M} {Q : Option ab_V → ab_M → Prop} {n : Int32} {g : Int32} {i : Int32}
    (k : ((n < i → ((g = 1 → ab_fit .boolean ((ab_upd σ 50 12 1) 50 12) = true ∧ ((g = 1 → Q (some (.inl ((ab_upd (ab_upd σ 50 12 1) 50 13 ((ab_upd σ 50 12 1) 50 12)) 50 7))) (ab_upd (ab_upd σ 50 12 1) 50 13 ((ab_upd σ 50 12 1) 50 12))) ∧ (¬ g = 1 → Q (some (.inl g)) (ab_upd (ab_upd σ 50 12 1) 50 13 ((ab_upd σ 50 12 1) 50 12))))) ∧ (¬ g = 1 → ab_fit .boolean ((ab_upd σ 50 12 0) 50 12) = true ∧ ((g = 1 → Q (some (.inl ((ab_upd (ab_upd σ 50 12 0) 50 13 ((ab_upd σ 50 12 0) 50 12)) 50 7))) (ab_upd (ab_upd σ 50 12 0) 50 13 ((ab_upd σ 50 12 0) 50 12))) ∧ (¬ g = 1 → Q (some (.inl g)) (ab_upd (ab_upd σ 50 12 0) 50 13 ((ab_upd σ 50 12 0) 50 12))))))) ∧ (¬ n < i → ((g = 0 → evm mX8_list [.inr (.inr 50), .inl i] σ (fun v τ1 => v = none ∧ evm mX8_someBreaks [.inr (.inr 50), .inl (-1)] τ1 (fun v τ2 => ∃ r3 : Int32, v = some (.inl r3) ∧ ((r3 = 0 → evm mX8_walk [.inr (.inr 50), .inl 0] τ2 (fun v τ4 => ∃ r5 : Int32, v = some (.inl r5) ∧ ev mX8_find 26 [some (.inr (.inr 50)), some (.inl n), some (.inl r5), some (.inl (i + 1))] [] τ4 Q)) ∧ (¬ r3 = 0 → ev mX8_find 26 [some (.inr (.inr 50)), some (.inl n), some (.inl g), some (.inl (i + 1))] [] τ2 Q))))) ∧ (¬ g = 0 → ((g = 1 → ab_fit .boolean ((ab_upd σ 50 12 1) 50 12) = true ∧ ((g = 1 → Q (some (.inl ((ab_upd (ab_upd σ 50 12 1) 50 13 ((ab_upd σ 50 12 1) 50 12)) 50 7))) (ab_upd (ab_upd σ 50 12 1) 50 13 ((ab_upd σ 50 12 1) 50 12))) ∧ (¬ g = 1 → Q (some (.inl g)) (ab_upd (ab_upd σ 50 12 1) 50 13 ((ab_upd σ 50 12 1) 50 12))))) ∧ (¬ g = 1 → ab_fit .boolean ((ab_upd σ 50 12 0) 50 12) = true ∧ ((g = 1 → Q (some (.inl ((ab_upd (ab_upd σ 50 12 0) 50 13 ((ab_upd σ 50 12 0) 50 12)) 50 7))) (ab_upd (ab_upd σ 50 12 0) 50 13 ((ab_upd σ 50 12 0) 50 12))) ∧ (¬ g = 1 → Q (some (.inl g)) (ab_upd (ab_upd σ 50 12 0) 50 13 ((ab_upd σ 50 12 0) 50 12))))))))))) :
    ev mX8_find 26 [some (.inr (.inr 50)), some (.inl n), some (.inl g), some (.inl i)] [] σ Q := by
  refine ev_p (pc' := 27) (ls' := [some (.inr (.inr 50)), some (.inl n), some (.inl g), some (.inl i)]) (st' := [.inl i]) dX8_find_26 rfl ?_
  refine ev_p (pc' := 28) (ls' := [some (.inr (.inr 50)), some (.inl n), some (.inl g), some (.inl i)]) (st' := [.inl n, .inl i]) dX8_find_27 rfl ?_
  refine ev_ic_gt (tgt := 60) (pc' := 31) dX8_find_28 (by decide) rfl (fun h1 => ?_) (fun h1 => ?_)
  · have k := k.1 h1
    refine ev_p (pc' := 61) (ls' := [some (.inr (.inr 50)), some (.inl n), some (.inl g), some (.inl i)]) (st' := [.inr (.inr 50)]) dX8_find_60 rfl ?_
    refine ev_p (pc' := 62) (ls' := [some (.inr (.inr 50)), some (.inl n), some (.inl g), some (.inl i)]) (st' := [.inl g, .inr (.inr 50)]) dX8_find_61 rfl ?_
    refine ev_cst (v := 1) (pc' := 63) dX8_find_62 (by decide) rfl ?_
    refine ev_ic_ne (tgt := 70) (pc' := 66) dX8_find_63 (by decide) rfl (fun h2 => ?_) (fun h2 => ?_)
    · have k := k.2 h2
      refine ev_cst (v := 0) (pc' := 71) dX8_find_70 (by decide) rfl ?_
      refine ev_putI (pc' := 74) dX8_find_71 rfl rfl rfl rfl rfl rfl ?_
      refine ev_p (pc' := 75) (ls' := [some (.inr (.inr 50)), some (.inl n), some (.inl g), some (.inl i)]) (st' := [.inr (.inr 50)]) dX8_find_74 rfl ?_
      refine ev_p (pc' := 76) (ls' := [some (.inr (.inr 50)), some (.inl n), some (.inl g), some (.inl i)]) (st' := [.inr (.inr 50), .inr (.inr 50)]) dX8_find_75 rfl ?_
      refine ev_getI (pc' := 79) dX8_find_76 rfl rfl rfl rfl ?_
      refine ev_putI (pc' := 82) dX8_find_79 rfl rfl rfl rfl k.1 rfl ?_
      have k := k.2
      refine ev_p (pc' := 83) (ls' := [some (.inr (.inr 50)), some (.inl n), some (.inl g), some (.inl i)]) (st' := [.inl g]) dX8_find_82 rfl ?_
      refine ev_cst (v := 1) (pc' := 84) dX8_find_83 (by decide) rfl ?_
      refine ev_ic_ne (tgt := 94) (pc' := 87) dX8_find_84 (by decide) rfl (fun h3 => ?_) (fun h3 => ?_)
      · have k := k.2 h3
        refine ev_p (pc' := 95) (ls' := [some (.inr (.inr 50)), some (.inl n), some (.inl g), some (.inl i)]) (st' := [.inl g]) dX8_find_94 rfl ?_
        exact ev_ret dX8_find_95 rfl k
      · have k := k.1 h3
        refine ev_p (pc' := 88) (ls' := [some (.inr (.inr 50)), some (.inl n), some (.inl g), some (.inl i)]) (st' := [.inr (.inr 50)]) dX8_find_87 rfl ?_
        refine ev_getI (pc' := 91) dX8_find_88 rfl rfl rfl rfl ?_
        refine ev_go (tgt := 95) dX8_find_91 (by decide) ?_
        exact ev_ret dX8_find_95 rfl k
    · have k := k.1 h2
      refine ev_cst (v := 1) (pc' := 67) dX8_find_66 (by decide) rfl ?_
      refine ev_go (tgt := 71) dX8_find_67 (by decide) ?_
      refine ev_putI (pc' := 74) dX8_find_71 rfl rfl rfl rfl rfl rfl ?_
      refine ev_p (pc' := 75) (ls' := [some (.inr (.inr 50)), some (.inl n), some (.inl g), some (.inl i)]) (st' := [.inr (.inr 50)]) dX8_find_74 rfl ?_
      refine ev_p (pc' := 76) (ls' := [some (.inr (.inr 50)), some (.inl n), some (.inl g), some (.inl i)]) (st' := [.inr (.inr 50), .inr (.inr 50)]) dX8_find_75 rfl ?_
      refine ev_getI (pc' := 79) dX8_find_76 rfl rfl rfl rfl ?_
      refine ev_putI (pc' := 82) dX8_find_79 rfl rfl rfl rfl k.1 rfl ?_
      have k := k.2
      refine ev_p (pc' := 83) (ls' := [some (.inr (.inr 50)), some (.inl n), some (.inl g), some (.inl i)]) (st' := [.inl g]) dX8_find_82 rfl ?_
      refine ev_cst (v := 1) (pc' := 84) dX8_find_83 (by decide) rfl ?_
      refine ev_ic_ne (tgt := 94) (pc' := 87) dX8_find_84 (by decide) rfl (fun h4 => ?_) (fun h4 => ?_)
      · have k := k.2 h4
        refine ev_p (pc' := 95) (ls' := [some (.inr (.inr 50)), some (.inl n), some (.inl g), some (.inl i)]) (st' := [.inl g]) dX8_find_94 rfl ?_
        exact ev_ret dX8_find_95 rfl k
      · have k := k.1 h4
        refine ev_p (pc' := 88) (ls' := [some (.inr (.inr 50)), some (.inl n), some (.inl g), some (.inl i)]) (st' := [.inr (.inr 50)]) dX8_find_87 rfl ?_
        refine ev_getI (pc' := 91) dX8_find_88 rfl rfl rfl rfl ?_
        refine ev_go (tgt := 95) dX8_find_91 (by decide) ?_
        exact ev_ret dX8_find_95 rfl k
  · have k := k.2 h1
    refine ev_p (pc' := 32) (ls' := [some (.inr (.inr 50)), some (.inl n), some (.inl g), some (.inl i)]) (st' := [.inl g]) dX8_find_31 rfl ?_
    refine ev_if_ne (tgt := 60) (pc' := 35) dX8_find_32 (by decide) rfl (fun h5 => ?_) (fun h5 => ?_)
    · have k := k.2 h5
      refine ev_p (pc' := 61) (ls' := [some (.inr (.inr 50)), some (.inl n), some (.inl g), some (.inl i)]) (st' := [.inr (.inr 50)]) dX8_find_60 rfl ?_
      refine ev_p (pc' := 62) (ls' := [some (.inr (.inr 50)), some (.inl n), some (.inl g), some (.inl i)]) (st' := [.inl g, .inr (.inr 50)]) dX8_find_61 rfl ?_
      refine ev_cst (v := 1) (pc' := 63) dX8_find_62 (by decide) rfl ?_
      refine ev_ic_ne (tgt := 70) (pc' := 66) dX8_find_63 (by decide) rfl (fun h6 => ?_) (fun h6 => ?_)
      · have k := k.2 h6
        refine ev_cst (v := 0) (pc' := 71) dX8_find_70 (by decide) rfl ?_
        refine ev_putI (pc' := 74) dX8_find_71 rfl rfl rfl rfl rfl rfl ?_
        refine ev_p (pc' := 75) (ls' := [some (.inr (.inr 50)), some (.inl n), some (.inl g), some (.inl i)]) (st' := [.inr (.inr 50)]) dX8_find_74 rfl ?_
        refine ev_p (pc' := 76) (ls' := [some (.inr (.inr 50)), some (.inl n), some (.inl g), some (.inl i)]) (st' := [.inr (.inr 50), .inr (.inr 50)]) dX8_find_75 rfl ?_
        refine ev_getI (pc' := 79) dX8_find_76 rfl rfl rfl rfl ?_
        refine ev_putI (pc' := 82) dX8_find_79 rfl rfl rfl rfl k.1 rfl ?_
        have k := k.2
        refine ev_p (pc' := 83) (ls' := [some (.inr (.inr 50)), some (.inl n), some (.inl g), some (.inl i)]) (st' := [.inl g]) dX8_find_82 rfl ?_
        refine ev_cst (v := 1) (pc' := 84) dX8_find_83 (by decide) rfl ?_
        refine ev_ic_ne (tgt := 94) (pc' := 87) dX8_find_84 (by decide) rfl (fun h7 => ?_) (fun h7 => ?_)
        · have k := k.2 h7
          refine ev_p (pc' := 95) (ls' := [some (.inr (.inr 50)), some (.inl n), some (.inl g), some (.inl i)]) (st' := [.inl g]) dX8_find_94 rfl ?_
          exact ev_ret dX8_find_95 rfl k
        · have k := k.1 h7
          refine ev_p (pc' := 88) (ls' := [some (.inr (.inr 50)), some (.inl n), some (.inl g), some (.inl i)]) (st' := [.inr (.inr 50)]) dX8_find_87 rfl ?_
          refine ev_getI (pc' := 91) dX8_find_88 rfl rfl rfl rfl ?_
          refine ev_go (tgt := 95) dX8_find_91 (by decide) ?_
          exact ev_ret dX8_find_95 rfl k
      · have k := k.1 h6
        refine ev_cst (v := 1) (pc' := 67) dX8_find_66 (by decide) rfl ?_
        refine ev_go (tgt := 71) dX8_find_67 (by decide) ?_
        refine ev_putI (pc' := 74) dX8_find_71 rfl rfl rfl rfl rfl rfl ?_
        refine ev_p (pc' := 75) (ls' := [some (.inr (.inr 50)), some (.inl n), some (.inl g), some (.inl i)]) (st' := [.inr (.inr 50)]) dX8_find_74 rfl ?_
        refine ev_p (pc' := 76) (ls' := [some (.inr (.inr 50)), some (.inl n), some (.inl g), some (.inl i)]) (st' := [.inr (.inr 50), .inr (.inr 50)]) dX8_find_75 rfl ?_
        refine ev_getI (pc' := 79) dX8_find_76 rfl rfl rfl rfl ?_
        refine ev_putI (pc' := 82) dX8_find_79 rfl rfl rfl rfl k.1 rfl ?_
        have k := k.2
        refine ev_p (pc' := 83) (ls' := [some (.inr (.inr 50)), some (.inl n), some (.inl g), some (.inl i)]) (st' := [.inl g]) dX8_find_82 rfl ?_
        refine ev_cst (v := 1) (pc' := 84) dX8_find_83 (by decide) rfl ?_
        refine ev_ic_ne (tgt := 94) (pc' := 87) dX8_find_84 (by decide) rfl (fun h8 => ?_) (fun h8 => ?_)
        · have k := k.2 h8
          refine ev_p (pc' := 95) (ls' := [some (.inr (.inr 50)), some (.inl n), some (.inl g), some (.inl i)]) (st' := [.inl g]) dX8_find_94 rfl ?_
          exact ev_ret dX8_find_95 rfl k
        · have k := k.1 h8
          refine ev_p (pc' := 88) (ls' := [some (.inr (.inr 50)), some (.inl n), some (.inl g), some (.inl i)]) (st' := [.inr (.inr 50)]) dX8_find_87 rfl ?_
          refine ev_getI (pc' := 91) dX8_find_88 rfl rfl rfl rfl ?_
          refine ev_go (tgt := 95) dX8_find_91 (by decide) ?_
          exact ev_ret dX8_find_95 rfl k
    · have k := k.1 h5
      refine ev_p (pc' := 36) (ls' := [some (.inr (.inr 50)), some (.inl n), some (.inl g), some (.inl i)]) (st' := [.inr (.inr 50)]) dX8_find_35 rfl ?_
      refine ev_p (pc' := 37) (ls' := [some (.inr (.inr 50)), some (.inl n), some (.inl g), some (.inl i)]) (st' := [.inl i, .inr (.inr 50)]) dX8_find_36 rfl ?_
      refine ev_call (y := 94) (as := [.inr (.inr 50), .inl i]) (r := []) (M' := mX8_list) (pc' := 40) dX8_find_37 rfl rfl ⟨rfl, rfl⟩ rfl k rfl (fun v τ1 hq => ?_)
      obtain ⟨hv, k⟩ := hq
      rw [hv]
      change ev mX8_find 40 [some (.inr (.inr 50)), some (.inl n), some (.inl g), some (.inl i)] [] τ1 _
      refine ev_p (pc' := 41) (ls' := [some (.inr (.inr 50)), some (.inl n), some (.inl g), some (.inl i)]) (st' := [.inr (.inr 50)]) dX8_find_40 rfl ?_
      refine ev_cst (v := (-1)) (pc' := 42) dX8_find_41 (by decide) rfl ?_
      refine ev_call (y := 96) (as := [.inr (.inr 50), .inl (-1)]) (r := []) (M' := mX8_someBreaks) (pc' := 45) dX8_find_42 rfl rfl ⟨rfl, rfl⟩ rfl k rfl (fun v τ2 hq => ?_)
      obtain ⟨r3, hv, k⟩ := hq
      rw [hv]
      change ev mX8_find 45 [some (.inr (.inr 50)), some (.inl n), some (.inl g), some (.inl i)] [.inl r3] τ2 _
      refine ev_if_ne (tgt := 54) (pc' := 48) dX8_find_45 (by decide) rfl (fun h9 => ?_) (fun h9 => ?_)
      · have k := k.2 h9
        refine ev_p (pc' := 57) (ls' := [some (.inr (.inr 50)), some (.inl n), some (.inl g), some (.inl (i + 1))]) (st' := []) dX8_find_54 rfl ?_
        refine ev_go (tgt := 26) dX8_find_57 (by decide) ?_
        exact k
      · have k := k.1 h9
        refine ev_p (pc' := 49) (ls' := [some (.inr (.inr 50)), some (.inl n), some (.inl g), some (.inl i)]) (st' := [.inr (.inr 50)]) dX8_find_48 rfl ?_
        refine ev_cst (v := 0) (pc' := 50) dX8_find_49 (by decide) rfl ?_
        refine ev_call (y := 103) (as := [.inr (.inr 50), .inl 0]) (r := []) (M' := mX8_walk) (pc' := 53) dX8_find_50 rfl rfl ⟨rfl, rfl⟩ rfl k rfl (fun v τ4 hq => ?_)
        obtain ⟨r5, hv, k⟩ := hq
        rw [hv]
        change ev mX8_find 53 [some (.inr (.inr 50)), some (.inl n), some (.inl g), some (.inl i)] [.inl r5] τ4 _
        refine ev_p (pc' := 54) (ls' := [some (.inr (.inr 50)), some (.inl n), some (.inl r5), some (.inl i)]) (st' := []) dX8_find_53 rfl ?_
        refine ev_p (pc' := 57) (ls' := [some (.inr (.inr 50)), some (.inl n), some (.inl r5), some (.inl (i + 1))]) (st' := []) dX8_find_54 rfl ?_
        refine ev_go (tgt := 26) dX8_find_57 (by decide) ?_
        exact k
set_option maxRecDepth 20000 in
theorem s_X4_countAnew_0 {σ : ab_M} {Q : Option ab_V → ab_M → Prop} 
    (k : Q none (ab_upd σ 45 6 0)) :
    ev mX4_countAnew 0 [some (.inr (.inr 45))] [] σ Q := by
  refine ev_p (pc' := 1) (ls' := [some (.inr (.inr 45))]) (st' := [.inr (.inr 45)]) dX4_countAnew_0 rfl ?_
  refine ev_cst (v := 0) (pc' := 2) dX4_countAnew_1 (by decide) rfl ?_
  refine ev_putI (pc' := 5) dX4_countAnew_2 rfl rfl rfl rfl rfl rfl ?_
  exact ev_ret dX4_countAnew_5 rfl k
set_option maxRecDepth 20000 in
theorem s_X7_caseOf_0 {σ : ab_M} {Q : Option ab_V → ab_M → Prop} {v : Int32}
    (k : ((v < 0 → Q (some (.inl (-1))) σ) ∧ (¬ v < 0 → ((v < 3 → ab_in v 3 = true ∧ Q (some (.inl (σ 49 v.toNatClampNeg))) σ) ∧ (¬ v < 3 → Q (some (.inl (-1))) σ))))) :
    ev mX7_caseOf 0 [some (.inr (.inr 0)), some (.inl v)] [] σ Q := by
  refine ev_p (pc' := 1) (ls' := [some (.inr (.inr 0)), some (.inl v)]) (st' := [.inl v]) dX7_caseOf_0 rfl ?_
  refine ev_if_lt (tgt := 9) (pc' := 4) dX7_caseOf_1 (by decide) rfl (fun h1 => ?_) (fun h1 => ?_)
  · have k := k.1 h1
    refine ev_cst (v := (-1)) (pc' := 10) dX7_caseOf_9 (by decide) rfl ?_
    refine ev_go (tgt := 19) dX7_caseOf_10 (by decide) ?_
    exact ev_ret dX7_caseOf_19 rfl k
  · have k := k.2 h1
    refine ev_p (pc' := 5) (ls' := [some (.inr (.inr 0)), some (.inl v)]) (st' := [.inl v]) dX7_caseOf_4 rfl ?_
    refine ev_cst (v := 3) (pc' := 6) dX7_caseOf_5 (by decide) rfl ?_
    refine ev_ic_lt (tgt := 13) (pc' := 9) dX7_caseOf_6 (by decide) rfl (fun h2 => ?_) (fun h2 => ?_)
    · have k := k.1 h2
      refine ev_p (pc' := 14) (ls' := [some (.inr (.inr 0)), some (.inl v)]) (st' := [.inr (.inr 0)]) dX7_caseOf_13 rfl ?_
      refine ev_getA (pc' := 17) (z := 49) dX7_caseOf_14 rfl rfl rfl rfl ?_
      refine ev_p (pc' := 18) (ls' := [some (.inr (.inr 0)), some (.inl v)]) (st' := [.inl v, .inr (.inr 49)]) dX7_caseOf_17 rfl ?_
      refine ev_load (pc' := 19) rfl dX7_caseOf_18 rfl rfl k.1 rfl ?_
      have k := k.2
      exact ev_ret dX7_caseOf_19 rfl k
    · have k := k.2 h2
      refine ev_cst (v := (-1)) (pc' := 10) dX7_caseOf_9 (by decide) rfl ?_
      refine ev_go (tgt := 19) dX7_caseOf_10 (by decide) ?_
      exact ev_ret dX7_caseOf_19 rfl k
set_option maxRecDepth 20000 in
theorem s_X8_caseOf_0 {σ : ab_M} {Q : Option ab_V → ab_M → Prop} {v : Int32}
    (k : ((v < 0 → Q (some (.inl (-1))) σ) ∧ (¬ v < 0 → ((2 < v → Q (some (.inl (-1))) σ) ∧ (¬ 2 < v → ab_in v 3 = true ∧ Q (some (.inl (σ 60 v.toNatClampNeg))) σ))))) :
    ev mX8_caseOf 0 [some (.inr (.inr 50)), some (.inl v)] [] σ Q := by
  refine ev_p (pc' := 1) (ls' := [some (.inr (.inr 50)), some (.inl v)]) (st' := [.inl v]) dX8_caseOf_0 rfl ?_
  refine ev_if_lt (tgt := 18) (pc' := 4) dX8_caseOf_1 (by decide) rfl (fun h1 => ?_) (fun h1 => ?_)
  · have k := k.1 h1
    refine ev_cst (v := (-1)) (pc' := 19) dX8_caseOf_18 (by decide) rfl ?_
    exact ev_ret dX8_caseOf_19 rfl k
  · have k := k.2 h1
    refine ev_p (pc' := 5) (ls' := [some (.inr (.inr 50)), some (.inl v)]) (st' := [.inl v]) dX8_caseOf_4 rfl ?_
    refine ev_cst (v := 2) (pc' := 6) dX8_caseOf_5 (by decide) rfl ?_
    refine ev_ic_gt (tgt := 18) (pc' := 9) dX8_caseOf_6 (by decide) rfl (fun h2 => ?_) (fun h2 => ?_)
    · have k := k.1 h2
      refine ev_cst (v := (-1)) (pc' := 19) dX8_caseOf_18 (by decide) rfl ?_
      exact ev_ret dX8_caseOf_19 rfl k
    · have k := k.2 h2
      refine ev_p (pc' := 10) (ls' := [some (.inr (.inr 50)), some (.inl v)]) (st' := [.inr (.inr 50)]) dX8_caseOf_9 rfl ?_
      refine ev_getA (pc' := 13) (z := 60) dX8_caseOf_10 rfl rfl rfl rfl ?_
      refine ev_p (pc' := 14) (ls' := [some (.inr (.inr 50)), some (.inl v)]) (st' := [.inl v, .inr (.inr 60)]) dX8_caseOf_13 rfl ?_
      refine ev_load (pc' := 15) rfl dX8_caseOf_14 rfl rfl k.1 rfl ?_
      have k := k.2
      refine ev_go (tgt := 19) dX8_caseOf_15 (by decide) ?_
      exact ev_ret dX8_caseOf_19 rfl k
set_option maxRecDepth 20000 in
theorem s_X7_value_0 {σ : ab_M} {Q : Option ab_V → ab_M → Prop} {c : Int32} {i : Int32} {j : Int32}
    (k : evm mX7_codeOf [.inl c] σ (fun v τ1 => ∃ r2 : Int32, v = some (.inl r2) ∧ evm mX5_arityOf [.inr (.inr 1), .inl r2] τ1 (fun v τ3 => ∃ r4 : Int32, v = some (.inl r4) ∧ (((τ3 0 8) = 0 → Q (some (.inl (-1))) τ3) ∧ (¬ (τ3 0 8) = 0 → ((r4 = (-1) → Q (some (.inl (-1))) τ3) ∧ (¬ r4 = (-1) → ((r4 < 1 → ((r4 < 2 → evm mX7_isArgument [.inr (.inr 0), .inl 0] τ3 (fun v τ5 => ∃ r6 : Int32, v = some (.inl r6) ∧ ((r6 = 0 → Q (some (.inl (-1))) τ5) ∧ (¬ r6 = 0 → evm mX7_isArgument [.inr (.inr 0), .inl 0] τ5 (fun v τ7 => ∃ r8 : Int32, v = some (.inl r8) ∧ ((r8 = 0 → Q (some (.inl (-1))) τ7) ∧ (¬ r8 = 0 → evm mX6_cellOf [.inl r2, .inl 0, .inl 0] τ7 (fun v τ9 => ∃ r10 : Int32, v = some (.inl r10) ∧ evm mX6_valueOf [.inr (.inr 37), .inl r10] τ9 (fun v τ11 => ∃ r12 : Int32, v = some (.inl r12) ∧ Q (some (.inl r12)) τ11))))))))) ∧ (¬ r4 < 2 → evm mX7_isArgument [.inr (.inr 0), .inl 0] τ3 (fun v τ5 => ∃ r6 : Int32, v = some (.inl r6) ∧ ((r6 = 0 → Q (some (.inl (-1))) τ5) ∧ (¬ r6 = 0 → evm mX7_isArgument [.inr (.inr 0), .inl j] τ5 (fun v τ7 => ∃ r8 : Int32, v = some (.inl r8) ∧ ((r8 = 0 → Q (some (.inl (-1))) τ7) ∧ (¬ r8 = 0 → evm mX6_cellOf [.inl r2, .inl 0, .inl j] τ7 (fun v τ9 => ∃ r10 : Int32, v = some (.inl r10) ∧ evm mX6_valueOf [.inr (.inr 37), .inl r10] τ9 (fun v τ11 => ∃ r12 : Int32, v = some (.inl r12) ∧ Q (some (.inl r12)) τ11))))))))))) ∧ (¬ r4 < 1 → ((r4 < 2 → evm mX7_isArgument [.inr (.inr 0), .inl i] τ3 (fun v τ5 => ∃ r6 : Int32, v = some (.inl r6) ∧ ((r6 = 0 → Q (some (.inl (-1))) τ5) ∧ (¬ r6 = 0 → evm mX7_isArgument [.inr (.inr 0), .inl 0] τ5 (fun v τ7 => ∃ r8 : Int32, v = some (.inl r8) ∧ ((r8 = 0 → Q (some (.inl (-1))) τ7) ∧ (¬ r8 = 0 → evm mX6_cellOf [.inl r2, .inl i, .inl 0] τ7 (fun v τ9 => ∃ r10 : Int32, v = some (.inl r10) ∧ evm mX6_valueOf [.inr (.inr 37), .inl r10] τ9 (fun v τ11 => ∃ r12 : Int32, v = some (.inl r12) ∧ Q (some (.inl r12)) τ11))))))))) ∧ (¬ r4 < 2 → evm mX7_isArgument [.inr (.inr 0), .inl i] τ3 (fun v τ5 => ∃ r6 : Int32, v = some (.inl r6) ∧ ((r6 = 0 → Q (some (.inl (-1))) τ5) ∧ (¬ r6 = 0 → evm mX7_isArgument [.inr (.inr 0), .inl j] τ5 (fun v τ7 => ∃ r8 : Int32, v = some (.inl r8) ∧ ((r8 = 0 → Q (some (.inl (-1))) τ7) ∧ (¬ r8 = 0 → evm mX6_cellOf [.inl r2, .inl i, .inl j] τ7 (fun v τ9 => ∃ r10 : Int32, v = some (.inl r10) ∧ evm mX6_valueOf [.inr (.inr 37), .inl r10] τ9 (fun v τ11 => ∃ r12 : Int32, v = some (.inl r12) ∧ Q (some (.inl r12)) τ11))))))))))))))))))) :
    ev mX7_value 0 [some (.inr (.inr 0)), some (.inl c), some (.inl i), some (.inl j), none, none, none, none] [] σ Q := by
  refine ev_p (pc' := 1) (ls' := [some (.inr (.inr 0)), some (.inl c), some (.inl i), some (.inl j), none, none, none, none]) (st' := [.inl c]) dX7_value_0 rfl ?_
  refine ev_call (y := 11) (as := [.inl c]) (r := []) (M' := mX7_codeOf) (pc' := 4) dX7_value_1 rfl rfl ⟨rfl, rfl⟩ rfl k rfl (fun v τ1 hq => ?_)
  obtain ⟨r2, hv, k⟩ := hq
  rw [hv]
  change ev mX7_value 4 [some (.inr (.inr 0)), some (.inl c), some (.inl i), some (.inl j), none, none, none, none] [.inl r2] τ1 _
  refine ev_p (pc' := 6) (ls' := [some (.inr (.inr 0)), some (.inl c), some (.inl i), some (.inl j), some (.inl r2), none, none, none]) (st' := []) dX7_value_4 rfl ?_
  refine ev_p (pc' := 7) (ls' := [some (.inr (.inr 0)), some (.inl c), some (.inl i), some (.inl j), some (.inl r2), none, none, none]) (st' := [.inr (.inr 0)]) dX7_value_6 rfl ?_
  refine ev_getA (pc' := 10) (z := 1) dX7_value_7 rfl rfl rfl rfl ?_
  refine ev_p (pc' := 12) (ls' := [some (.inr (.inr 0)), some (.inl c), some (.inl i), some (.inl j), some (.inl r2), none, none, none]) (st' := [.inl r2, .inr (.inr 1)]) dX7_value_10 rfl ?_
  refine ev_call (y := 29) (as := [.inr (.inr 1), .inl r2]) (r := []) (M' := mX5_arityOf) (pc' := 15) dX7_value_12 rfl rfl ⟨rfl, rfl⟩ rfl k rfl (fun v τ3 hq => ?_)
  obtain ⟨r4, hv, k⟩ := hq
  rw [hv]
  change ev mX7_value 15 [some (.inr (.inr 0)), some (.inl c), some (.inl i), some (.inl j), some (.inl r2), none, none, none] [.inl r4] τ3 _
  refine ev_p (pc' := 17) (ls' := [some (.inr (.inr 0)), some (.inl c), some (.inl i), some (.inl j), some (.inl r2), some (.inl r4), none, none]) (st' := []) dX7_value_15 rfl ?_
  refine ev_p (pc' := 18) (ls' := [some (.inr (.inr 0)), some (.inl c), some (.inl i), some (.inl j), some (.inl r2), some (.inl r4), none, none]) (st' := [.inr (.inr 0)]) dX7_value_17 rfl ?_
  refine ev_getI (pc' := 21) dX7_value_18 rfl rfl rfl rfl ?_
  refine ev_if_eq (tgt := 30) (pc' := 24) dX7_value_21 (by decide) rfl (fun h1 => ?_) (fun h1 => ?_)
  · have k := k.1 h1
    refine ev_cst (v := (-1)) (pc' := 31) dX7_value_30 (by decide) rfl ?_
    exact ev_ret dX7_value_31 rfl k
  · have k := k.2 h1
    refine ev_p (pc' := 26) (ls' := [some (.inr (.inr 0)), some (.inl c), some (.inl i), some (.inl j), some (.inl r2), some (.inl r4), none, none]) (st' := [.inl r4]) dX7_value_24 rfl ?_
    refine ev_cst (v := (-1)) (pc' := 27) dX7_value_26 (by decide) rfl ?_
    refine ev_ic_ne (tgt := 32) (pc' := 30) dX7_value_27 (by decide) rfl (fun h2 => ?_) (fun h2 => ?_)
    · have k := k.2 h2
      refine ev_p (pc' := 34) (ls' := [some (.inr (.inr 0)), some (.inl c), some (.inl i), some (.inl j), some (.inl r2), some (.inl r4), none, none]) (st' := [.inl r4]) dX7_value_32 rfl ?_
      refine ev_cst (v := 1) (pc' := 35) dX7_value_34 (by decide) rfl ?_
      refine ev_ic_lt (tgt := 42) (pc' := 38) dX7_value_35 (by decide) rfl (fun h3 => ?_) (fun h3 => ?_)
      · have k := k.1 h3
        refine ev_cst (v := 0) (pc' := 43) dX7_value_42 (by decide) rfl ?_
        refine ev_p (pc' := 45) (ls' := [some (.inr (.inr 0)), some (.inl c), some (.inl i), some (.inl j), some (.inl r2), some (.inl r4), some (.inl 0), none]) (st' := []) dX7_value_43 rfl ?_
        refine ev_p (pc' := 47) (ls' := [some (.inr (.inr 0)), some (.inl c), some (.inl i), some (.inl j), some (.inl r2), some (.inl r4), some (.inl 0), none]) (st' := [.inl r4]) dX7_value_45 rfl ?_
        refine ev_cst (v := 2) (pc' := 48) dX7_value_47 (by decide) rfl ?_
        refine ev_ic_lt (tgt := 55) (pc' := 51) dX7_value_48 (by decide) rfl (fun h4 => ?_) (fun h4 => ?_)
        · have k := k.1 h4
          refine ev_cst (v := 0) (pc' := 56) dX7_value_55 (by decide) rfl ?_
          refine ev_p (pc' := 58) (ls' := [some (.inr (.inr 0)), some (.inl c), some (.inl i), some (.inl j), some (.inl r2), some (.inl r4), some (.inl 0), some (.inl 0)]) (st' := []) dX7_value_56 rfl ?_
          refine ev_p (pc' := 59) (ls' := [some (.inr (.inr 0)), some (.inl c), some (.inl i), some (.inl j), some (.inl r2), some (.inl r4), some (.inl 0), some (.inl 0)]) (st' := [.inr (.inr 0)]) dX7_value_58 rfl ?_
          refine ev_p (pc' := 61) (ls' := [some (.inr (.inr 0)), some (.inl c), some (.inl i), some (.inl j), some (.inl r2), some (.inl r4), some (.inl 0), some (.inl 0)]) (st' := [.inl 0, .inr (.inr 0)]) dX7_value_59 rfl ?_
          refine ev_call (y := 76) (as := [.inr (.inr 0), .inl 0]) (r := []) (M' := mX7_isArgument) (pc' := 64) dX7_value_61 rfl rfl ⟨rfl, rfl⟩ rfl k rfl (fun v τ5 hq => ?_)
          obtain ⟨r6, hv, k⟩ := hq
          rw [hv]
          change ev mX7_value 64 [some (.inr (.inr 0)), some (.inl c), some (.inl i), some (.inl j), some (.inl r2), some (.inl r4), some (.inl 0), some (.inl 0)] [.inl r6] τ5 _
          refine ev_if_eq (tgt := 76) (pc' := 67) dX7_value_64 (by decide) rfl (fun h5 => ?_) (fun h5 => ?_)
          · have k := k.1 h5
            refine ev_cst (v := (-1)) (pc' := 77) dX7_value_76 (by decide) rfl ?_
            exact ev_ret dX7_value_77 rfl k
          · have k := k.2 h5
            refine ev_p (pc' := 68) (ls' := [some (.inr (.inr 0)), some (.inl c), some (.inl i), some (.inl j), some (.inl r2), some (.inl r4), some (.inl 0), some (.inl 0)]) (st' := [.inr (.inr 0)]) dX7_value_67 rfl ?_
            refine ev_p (pc' := 70) (ls' := [some (.inr (.inr 0)), some (.inl c), some (.inl i), some (.inl j), some (.inl r2), some (.inl r4), some (.inl 0), some (.inl 0)]) (st' := [.inl 0, .inr (.inr 0)]) dX7_value_68 rfl ?_
            refine ev_call (y := 76) (as := [.inr (.inr 0), .inl 0]) (r := []) (M' := mX7_isArgument) (pc' := 73) dX7_value_70 rfl rfl ⟨rfl, rfl⟩ rfl k rfl (fun v τ7 hq => ?_)
            obtain ⟨r8, hv, k⟩ := hq
            rw [hv]
            change ev mX7_value 73 [some (.inr (.inr 0)), some (.inl c), some (.inl i), some (.inl j), some (.inl r2), some (.inl r4), some (.inl 0), some (.inl 0)] [.inl r8] τ7 _
            refine ev_if_ne (tgt := 78) (pc' := 76) dX7_value_73 (by decide) rfl (fun h6 => ?_) (fun h6 => ?_)
            · have k := k.2 h6
              refine ev_p (pc' := 79) (ls' := [some (.inr (.inr 0)), some (.inl c), some (.inl i), some (.inl j), some (.inl r2), some (.inl r4), some (.inl 0), some (.inl 0)]) (st' := [.inr (.inr 0)]) dX7_value_78 rfl ?_
              refine ev_getA (pc' := 82) (z := 37) dX7_value_79 rfl rfl rfl rfl ?_
              refine ev_p (pc' := 84) (ls' := [some (.inr (.inr 0)), some (.inl c), some (.inl i), some (.inl j), some (.inl r2), some (.inl r4), some (.inl 0), some (.inl 0)]) (st' := [.inl r2, .inr (.inr 37)]) dX7_value_82 rfl ?_
              refine ev_p (pc' := 86) (ls' := [some (.inr (.inr 0)), some (.inl c), some (.inl i), some (.inl j), some (.inl r2), some (.inl r4), some (.inl 0), some (.inl 0)]) (st' := [.inl 0, .inl r2, .inr (.inr 37)]) dX7_value_84 rfl ?_
              refine ev_p (pc' := 88) (ls' := [some (.inr (.inr 0)), some (.inl c), some (.inl i), some (.inl j), some (.inl r2), some (.inl r4), some (.inl 0), some (.inl 0)]) (st' := [.inl 0, .inl 0, .inl r2, .inr (.inr 37)]) dX7_value_86 rfl ?_
              refine ev_call (y := 45) (as := [.inl r2, .inl 0, .inl 0]) (r := [.inr (.inr 37)]) (M' := mX6_cellOf) (pc' := 91) dX7_value_88 rfl rfl ⟨rfl, rfl⟩ rfl k rfl (fun v τ9 hq => ?_)
              obtain ⟨r10, hv, k⟩ := hq
              rw [hv]
              change ev mX7_value 91 [some (.inr (.inr 0)), some (.inl c), some (.inl i), some (.inl j), some (.inl r2), some (.inl r4), some (.inl 0), some (.inl 0)] [.inl r10, .inr (.inr 37)] τ9 _
              refine ev_call (y := 60) (as := [.inr (.inr 37), .inl r10]) (r := []) (M' := mX6_valueOf) (pc' := 94) dX7_value_91 rfl rfl ⟨rfl, rfl⟩ rfl k rfl (fun v τ11 hq => ?_)
              obtain ⟨r12, hv, k⟩ := hq
              rw [hv]
              change ev mX7_value 94 [some (.inr (.inr 0)), some (.inl c), some (.inl i), some (.inl j), some (.inl r2), some (.inl r4), some (.inl 0), some (.inl 0)] [.inl r12] τ11 _
              exact ev_ret dX7_value_94 rfl k
            · have k := k.1 h6
              refine ev_cst (v := (-1)) (pc' := 77) dX7_value_76 (by decide) rfl ?_
              exact ev_ret dX7_value_77 rfl k
        · have k := k.2 h4
          refine ev_p (pc' := 52) (ls' := [some (.inr (.inr 0)), some (.inl c), some (.inl i), some (.inl j), some (.inl r2), some (.inl r4), some (.inl 0), none]) (st' := [.inl j]) dX7_value_51 rfl ?_
          refine ev_go (tgt := 56) dX7_value_52 (by decide) ?_
          refine ev_p (pc' := 58) (ls' := [some (.inr (.inr 0)), some (.inl c), some (.inl i), some (.inl j), some (.inl r2), some (.inl r4), some (.inl 0), some (.inl j)]) (st' := []) dX7_value_56 rfl ?_
          refine ev_p (pc' := 59) (ls' := [some (.inr (.inr 0)), some (.inl c), some (.inl i), some (.inl j), some (.inl r2), some (.inl r4), some (.inl 0), some (.inl j)]) (st' := [.inr (.inr 0)]) dX7_value_58 rfl ?_
          refine ev_p (pc' := 61) (ls' := [some (.inr (.inr 0)), some (.inl c), some (.inl i), some (.inl j), some (.inl r2), some (.inl r4), some (.inl 0), some (.inl j)]) (st' := [.inl 0, .inr (.inr 0)]) dX7_value_59 rfl ?_
          refine ev_call (y := 76) (as := [.inr (.inr 0), .inl 0]) (r := []) (M' := mX7_isArgument) (pc' := 64) dX7_value_61 rfl rfl ⟨rfl, rfl⟩ rfl k rfl (fun v τ5 hq => ?_)
          obtain ⟨r6, hv, k⟩ := hq
          rw [hv]
          change ev mX7_value 64 [some (.inr (.inr 0)), some (.inl c), some (.inl i), some (.inl j), some (.inl r2), some (.inl r4), some (.inl 0), some (.inl j)] [.inl r6] τ5 _
          refine ev_if_eq (tgt := 76) (pc' := 67) dX7_value_64 (by decide) rfl (fun h7 => ?_) (fun h7 => ?_)
          · have k := k.1 h7
            refine ev_cst (v := (-1)) (pc' := 77) dX7_value_76 (by decide) rfl ?_
            exact ev_ret dX7_value_77 rfl k
          · have k := k.2 h7
            refine ev_p (pc' := 68) (ls' := [some (.inr (.inr 0)), some (.inl c), some (.inl i), some (.inl j), some (.inl r2), some (.inl r4), some (.inl 0), some (.inl j)]) (st' := [.inr (.inr 0)]) dX7_value_67 rfl ?_
            refine ev_p (pc' := 70) (ls' := [some (.inr (.inr 0)), some (.inl c), some (.inl i), some (.inl j), some (.inl r2), some (.inl r4), some (.inl 0), some (.inl j)]) (st' := [.inl j, .inr (.inr 0)]) dX7_value_68 rfl ?_
            refine ev_call (y := 76) (as := [.inr (.inr 0), .inl j]) (r := []) (M' := mX7_isArgument) (pc' := 73) dX7_value_70 rfl rfl ⟨rfl, rfl⟩ rfl k rfl (fun v τ7 hq => ?_)
            obtain ⟨r8, hv, k⟩ := hq
            rw [hv]
            change ev mX7_value 73 [some (.inr (.inr 0)), some (.inl c), some (.inl i), some (.inl j), some (.inl r2), some (.inl r4), some (.inl 0), some (.inl j)] [.inl r8] τ7 _
            refine ev_if_ne (tgt := 78) (pc' := 76) dX7_value_73 (by decide) rfl (fun h8 => ?_) (fun h8 => ?_)
            · have k := k.2 h8
              refine ev_p (pc' := 79) (ls' := [some (.inr (.inr 0)), some (.inl c), some (.inl i), some (.inl j), some (.inl r2), some (.inl r4), some (.inl 0), some (.inl j)]) (st' := [.inr (.inr 0)]) dX7_value_78 rfl ?_
              refine ev_getA (pc' := 82) (z := 37) dX7_value_79 rfl rfl rfl rfl ?_
              refine ev_p (pc' := 84) (ls' := [some (.inr (.inr 0)), some (.inl c), some (.inl i), some (.inl j), some (.inl r2), some (.inl r4), some (.inl 0), some (.inl j)]) (st' := [.inl r2, .inr (.inr 37)]) dX7_value_82 rfl ?_
              refine ev_p (pc' := 86) (ls' := [some (.inr (.inr 0)), some (.inl c), some (.inl i), some (.inl j), some (.inl r2), some (.inl r4), some (.inl 0), some (.inl j)]) (st' := [.inl 0, .inl r2, .inr (.inr 37)]) dX7_value_84 rfl ?_
              refine ev_p (pc' := 88) (ls' := [some (.inr (.inr 0)), some (.inl c), some (.inl i), some (.inl j), some (.inl r2), some (.inl r4), some (.inl 0), some (.inl j)]) (st' := [.inl j, .inl 0, .inl r2, .inr (.inr 37)]) dX7_value_86 rfl ?_
              refine ev_call (y := 45) (as := [.inl r2, .inl 0, .inl j]) (r := [.inr (.inr 37)]) (M' := mX6_cellOf) (pc' := 91) dX7_value_88 rfl rfl ⟨rfl, rfl⟩ rfl k rfl (fun v τ9 hq => ?_)
              obtain ⟨r10, hv, k⟩ := hq
              rw [hv]
              change ev mX7_value 91 [some (.inr (.inr 0)), some (.inl c), some (.inl i), some (.inl j), some (.inl r2), some (.inl r4), some (.inl 0), some (.inl j)] [.inl r10, .inr (.inr 37)] τ9 _
              refine ev_call (y := 60) (as := [.inr (.inr 37), .inl r10]) (r := []) (M' := mX6_valueOf) (pc' := 94) dX7_value_91 rfl rfl ⟨rfl, rfl⟩ rfl k rfl (fun v τ11 hq => ?_)
              obtain ⟨r12, hv, k⟩ := hq
              rw [hv]
              change ev mX7_value 94 [some (.inr (.inr 0)), some (.inl c), some (.inl i), some (.inl j), some (.inl r2), some (.inl r4), some (.inl 0), some (.inl j)] [.inl r12] τ11 _
              exact ev_ret dX7_value_94 rfl k
            · have k := k.1 h8
              refine ev_cst (v := (-1)) (pc' := 77) dX7_value_76 (by decide) rfl ?_
              exact ev_ret dX7_value_77 rfl k
      · have k := k.2 h3
        refine ev_p (pc' := 39) (ls' := [some (.inr (.inr 0)), some (.inl c), some (.inl i), some (.inl j), some (.inl r2), some (.inl r4), none, none]) (st' := [.inl i]) dX7_value_38 rfl ?_
        refine ev_go (tgt := 43) dX7_value_39 (by decide) ?_
        refine ev_p (pc' := 45) (ls' := [some (.inr (.inr 0)), some (.inl c), some (.inl i), some (.inl j), some (.inl r2), some (.inl r4), some (.inl i), none]) (st' := []) dX7_value_43 rfl ?_
        refine ev_p (pc' := 47) (ls' := [some (.inr (.inr 0)), some (.inl c), some (.inl i), some (.inl j), some (.inl r2), some (.inl r4), some (.inl i), none]) (st' := [.inl r4]) dX7_value_45 rfl ?_
        refine ev_cst (v := 2) (pc' := 48) dX7_value_47 (by decide) rfl ?_
        refine ev_ic_lt (tgt := 55) (pc' := 51) dX7_value_48 (by decide) rfl (fun h9 => ?_) (fun h9 => ?_)
        · have k := k.1 h9
          refine ev_cst (v := 0) (pc' := 56) dX7_value_55 (by decide) rfl ?_
          refine ev_p (pc' := 58) (ls' := [some (.inr (.inr 0)), some (.inl c), some (.inl i), some (.inl j), some (.inl r2), some (.inl r4), some (.inl i), some (.inl 0)]) (st' := []) dX7_value_56 rfl ?_
          refine ev_p (pc' := 59) (ls' := [some (.inr (.inr 0)), some (.inl c), some (.inl i), some (.inl j), some (.inl r2), some (.inl r4), some (.inl i), some (.inl 0)]) (st' := [.inr (.inr 0)]) dX7_value_58 rfl ?_
          refine ev_p (pc' := 61) (ls' := [some (.inr (.inr 0)), some (.inl c), some (.inl i), some (.inl j), some (.inl r2), some (.inl r4), some (.inl i), some (.inl 0)]) (st' := [.inl i, .inr (.inr 0)]) dX7_value_59 rfl ?_
          refine ev_call (y := 76) (as := [.inr (.inr 0), .inl i]) (r := []) (M' := mX7_isArgument) (pc' := 64) dX7_value_61 rfl rfl ⟨rfl, rfl⟩ rfl k rfl (fun v τ5 hq => ?_)
          obtain ⟨r6, hv, k⟩ := hq
          rw [hv]
          change ev mX7_value 64 [some (.inr (.inr 0)), some (.inl c), some (.inl i), some (.inl j), some (.inl r2), some (.inl r4), some (.inl i), some (.inl 0)] [.inl r6] τ5 _
          refine ev_if_eq (tgt := 76) (pc' := 67) dX7_value_64 (by decide) rfl (fun h10 => ?_) (fun h10 => ?_)
          · have k := k.1 h10
            refine ev_cst (v := (-1)) (pc' := 77) dX7_value_76 (by decide) rfl ?_
            exact ev_ret dX7_value_77 rfl k
          · have k := k.2 h10
            refine ev_p (pc' := 68) (ls' := [some (.inr (.inr 0)), some (.inl c), some (.inl i), some (.inl j), some (.inl r2), some (.inl r4), some (.inl i), some (.inl 0)]) (st' := [.inr (.inr 0)]) dX7_value_67 rfl ?_
            refine ev_p (pc' := 70) (ls' := [some (.inr (.inr 0)), some (.inl c), some (.inl i), some (.inl j), some (.inl r2), some (.inl r4), some (.inl i), some (.inl 0)]) (st' := [.inl 0, .inr (.inr 0)]) dX7_value_68 rfl ?_
            refine ev_call (y := 76) (as := [.inr (.inr 0), .inl 0]) (r := []) (M' := mX7_isArgument) (pc' := 73) dX7_value_70 rfl rfl ⟨rfl, rfl⟩ rfl k rfl (fun v τ7 hq => ?_)
            obtain ⟨r8, hv, k⟩ := hq
            rw [hv]
            change ev mX7_value 73 [some (.inr (.inr 0)), some (.inl c), some (.inl i), some (.inl j), some (.inl r2), some (.inl r4), some (.inl i), some (.inl 0)] [.inl r8] τ7 _
            refine ev_if_ne (tgt := 78) (pc' := 76) dX7_value_73 (by decide) rfl (fun h11 => ?_) (fun h11 => ?_)
            · have k := k.2 h11
              refine ev_p (pc' := 79) (ls' := [some (.inr (.inr 0)), some (.inl c), some (.inl i), some (.inl j), some (.inl r2), some (.inl r4), some (.inl i), some (.inl 0)]) (st' := [.inr (.inr 0)]) dX7_value_78 rfl ?_
              refine ev_getA (pc' := 82) (z := 37) dX7_value_79 rfl rfl rfl rfl ?_
              refine ev_p (pc' := 84) (ls' := [some (.inr (.inr 0)), some (.inl c), some (.inl i), some (.inl j), some (.inl r2), some (.inl r4), some (.inl i), some (.inl 0)]) (st' := [.inl r2, .inr (.inr 37)]) dX7_value_82 rfl ?_
              refine ev_p (pc' := 86) (ls' := [some (.inr (.inr 0)), some (.inl c), some (.inl i), some (.inl j), some (.inl r2), some (.inl r4), some (.inl i), some (.inl 0)]) (st' := [.inl i, .inl r2, .inr (.inr 37)]) dX7_value_84 rfl ?_
              refine ev_p (pc' := 88) (ls' := [some (.inr (.inr 0)), some (.inl c), some (.inl i), some (.inl j), some (.inl r2), some (.inl r4), some (.inl i), some (.inl 0)]) (st' := [.inl 0, .inl i, .inl r2, .inr (.inr 37)]) dX7_value_86 rfl ?_
              refine ev_call (y := 45) (as := [.inl r2, .inl i, .inl 0]) (r := [.inr (.inr 37)]) (M' := mX6_cellOf) (pc' := 91) dX7_value_88 rfl rfl ⟨rfl, rfl⟩ rfl k rfl (fun v τ9 hq => ?_)
              obtain ⟨r10, hv, k⟩ := hq
              rw [hv]
              change ev mX7_value 91 [some (.inr (.inr 0)), some (.inl c), some (.inl i), some (.inl j), some (.inl r2), some (.inl r4), some (.inl i), some (.inl 0)] [.inl r10, .inr (.inr 37)] τ9 _
              refine ev_call (y := 60) (as := [.inr (.inr 37), .inl r10]) (r := []) (M' := mX6_valueOf) (pc' := 94) dX7_value_91 rfl rfl ⟨rfl, rfl⟩ rfl k rfl (fun v τ11 hq => ?_)
              obtain ⟨r12, hv, k⟩ := hq
              rw [hv]
              change ev mX7_value 94 [some (.inr (.inr 0)), some (.inl c), some (.inl i), some (.inl j), some (.inl r2), some (.inl r4), some (.inl i), some (.inl 0)] [.inl r12] τ11 _
              exact ev_ret dX7_value_94 rfl k
            · have k := k.1 h11
              refine ev_cst (v := (-1)) (pc' := 77) dX7_value_76 (by decide) rfl ?_
              exact ev_ret dX7_value_77 rfl k
        · have k := k.2 h9
          refine ev_p (pc' := 52) (ls' := [some (.inr (.inr 0)), some (.inl c), some (.inl i), some (.inl j), some (.inl r2), some (.inl r4), some (.inl i), none]) (st' := [.inl j]) dX7_value_51 rfl ?_
          refine ev_go (tgt := 56) dX7_value_52 (by decide) ?_
          refine ev_p (pc' := 58) (ls' := [some (.inr (.inr 0)), some (.inl c), some (.inl i), some (.inl j), some (.inl r2), some (.inl r4), some (.inl i), some (.inl j)]) (st' := []) dX7_value_56 rfl ?_
          refine ev_p (pc' := 59) (ls' := [some (.inr (.inr 0)), some (.inl c), some (.inl i), some (.inl j), some (.inl r2), some (.inl r4), some (.inl i), some (.inl j)]) (st' := [.inr (.inr 0)]) dX7_value_58 rfl ?_
          refine ev_p (pc' := 61) (ls' := [some (.inr (.inr 0)), some (.inl c), some (.inl i), some (.inl j), some (.inl r2), some (.inl r4), some (.inl i), some (.inl j)]) (st' := [.inl i, .inr (.inr 0)]) dX7_value_59 rfl ?_
          refine ev_call (y := 76) (as := [.inr (.inr 0), .inl i]) (r := []) (M' := mX7_isArgument) (pc' := 64) dX7_value_61 rfl rfl ⟨rfl, rfl⟩ rfl k rfl (fun v τ5 hq => ?_)
          obtain ⟨r6, hv, k⟩ := hq
          rw [hv]
          change ev mX7_value 64 [some (.inr (.inr 0)), some (.inl c), some (.inl i), some (.inl j), some (.inl r2), some (.inl r4), some (.inl i), some (.inl j)] [.inl r6] τ5 _
          refine ev_if_eq (tgt := 76) (pc' := 67) dX7_value_64 (by decide) rfl (fun h12 => ?_) (fun h12 => ?_)
          · have k := k.1 h12
            refine ev_cst (v := (-1)) (pc' := 77) dX7_value_76 (by decide) rfl ?_
            exact ev_ret dX7_value_77 rfl k
          · have k := k.2 h12
            refine ev_p (pc' := 68) (ls' := [some (.inr (.inr 0)), some (.inl c), some (.inl i), some (.inl j), some (.inl r2), some (.inl r4), some (.inl i), some (.inl j)]) (st' := [.inr (.inr 0)]) dX7_value_67 rfl ?_
            refine ev_p (pc' := 70) (ls' := [some (.inr (.inr 0)), some (.inl c), some (.inl i), some (.inl j), some (.inl r2), some (.inl r4), some (.inl i), some (.inl j)]) (st' := [.inl j, .inr (.inr 0)]) dX7_value_68 rfl ?_
            refine ev_call (y := 76) (as := [.inr (.inr 0), .inl j]) (r := []) (M' := mX7_isArgument) (pc' := 73) dX7_value_70 rfl rfl ⟨rfl, rfl⟩ rfl k rfl (fun v τ7 hq => ?_)
            obtain ⟨r8, hv, k⟩ := hq
            rw [hv]
            change ev mX7_value 73 [some (.inr (.inr 0)), some (.inl c), some (.inl i), some (.inl j), some (.inl r2), some (.inl r4), some (.inl i), some (.inl j)] [.inl r8] τ7 _
            refine ev_if_ne (tgt := 78) (pc' := 76) dX7_value_73 (by decide) rfl (fun h13 => ?_) (fun h13 => ?_)
            · have k := k.2 h13
              refine ev_p (pc' := 79) (ls' := [some (.inr (.inr 0)), some (.inl c), some (.inl i), some (.inl j), some (.inl r2), some (.inl r4), some (.inl i), some (.inl j)]) (st' := [.inr (.inr 0)]) dX7_value_78 rfl ?_
              refine ev_getA (pc' := 82) (z := 37) dX7_value_79 rfl rfl rfl rfl ?_
              refine ev_p (pc' := 84) (ls' := [some (.inr (.inr 0)), some (.inl c), some (.inl i), some (.inl j), some (.inl r2), some (.inl r4), some (.inl i), some (.inl j)]) (st' := [.inl r2, .inr (.inr 37)]) dX7_value_82 rfl ?_
              refine ev_p (pc' := 86) (ls' := [some (.inr (.inr 0)), some (.inl c), some (.inl i), some (.inl j), some (.inl r2), some (.inl r4), some (.inl i), some (.inl j)]) (st' := [.inl i, .inl r2, .inr (.inr 37)]) dX7_value_84 rfl ?_
              refine ev_p (pc' := 88) (ls' := [some (.inr (.inr 0)), some (.inl c), some (.inl i), some (.inl j), some (.inl r2), some (.inl r4), some (.inl i), some (.inl j)]) (st' := [.inl j, .inl i, .inl r2, .inr (.inr 37)]) dX7_value_86 rfl ?_
              refine ev_call (y := 45) (as := [.inl r2, .inl i, .inl j]) (r := [.inr (.inr 37)]) (M' := mX6_cellOf) (pc' := 91) dX7_value_88 rfl rfl ⟨rfl, rfl⟩ rfl k rfl (fun v τ9 hq => ?_)
              obtain ⟨r10, hv, k⟩ := hq
              rw [hv]
              change ev mX7_value 91 [some (.inr (.inr 0)), some (.inl c), some (.inl i), some (.inl j), some (.inl r2), some (.inl r4), some (.inl i), some (.inl j)] [.inl r10, .inr (.inr 37)] τ9 _
              refine ev_call (y := 60) (as := [.inr (.inr 37), .inl r10]) (r := []) (M' := mX6_valueOf) (pc' := 94) dX7_value_91 rfl rfl ⟨rfl, rfl⟩ rfl k rfl (fun v τ11 hq => ?_)
              obtain ⟨r12, hv, k⟩ := hq
              rw [hv]
              change ev mX7_value 94 [some (.inr (.inr 0)), some (.inl c), some (.inl i), some (.inl j), some (.inl r2), some (.inl r4), some (.inl i), some (.inl j)] [.inl r12] τ11 _
              exact ev_ret dX7_value_94 rfl k
            · have k := k.1 h13
              refine ev_cst (v := (-1)) (pc' := 77) dX7_value_76 (by decide) rfl ?_
              exact ev_ret dX7_value_77 rfl k
    · have k := k.1 h2
      refine ev_cst (v := (-1)) (pc' := 31) dX7_value_30 (by decide) rfl ?_
      exact ev_ret dX7_value_31 rfl k
set_option maxRecDepth 20000 in
theorem s_X8_value_0 {σ : ab_M} {Q : Option ab_V → ab_M → Prop} {c : Int32} {i : Int32} {j : Int32}
    (k : evm mX8_symbolOf [.inl c] σ (fun v τ1 => ∃ r2 : Int32, v = some (.inl r2) ∧ (((τ1 50 12) = 0 → Q (some (.inl (-1))) τ1) ∧ (¬ (τ1 50 12) = 0 → ((r2 < 0 → Q (some (.inl (-1))) τ1) ∧ (¬ r2 < 0 → ab_in r2 8 = true ∧ ((0 ≤ (τ1 51 r2.toNatClampNeg) → ab_in r2 8 = true ∧ (((τ1 51 r2.toNatClampNeg) ≤ 0 → ab_in r2 8 = true ∧ (((τ1 51 r2.toNatClampNeg) ≤ 1 → ab_in r2 8 = true ∧ (((τ1 51 r2.toNatClampNeg) ≤ 0 → ab_in r2 8 = true ∧ (((τ1 51 r2.toNatClampNeg) ≤ 1 → ab_in (((16 * r2) + 0) + 0) 128 = true ∧ Q (some (.inl (τ1 55 (((16 * r2) + 0) + 0).toNatClampNeg))) τ1) ∧ (¬ (τ1 51 r2.toNatClampNeg) ≤ 1 → ab_in (((16 * r2) + 0) + j) 128 = true ∧ Q (some (.inl (τ1 55 (((16 * r2) + 0) + j).toNatClampNeg))) τ1))) ∧ (¬ (τ1 51 r2.toNatClampNeg) ≤ 0 → ab_in r2 8 = true ∧ (((τ1 51 r2.toNatClampNeg) ≤ 1 → ab_in (((16 * r2) + (4 * i)) + 0) 128 = true ∧ Q (some (.inl (τ1 55 (((16 * r2) + (4 * i)) + 0).toNatClampNeg))) τ1) ∧ (¬ (τ1 51 r2.toNatClampNeg) ≤ 1 → ab_in (((16 * r2) + (4 * i)) + j) 128 = true ∧ Q (some (.inl (τ1 55 (((16 * r2) + (4 * i)) + j).toNatClampNeg))) τ1))))) ∧ (¬ (τ1 51 r2.toNatClampNeg) ≤ 1 → ((j < 0 → Q (some (.inl (-1))) τ1) ∧ (¬ j < 0 → ((j < (τ1 50 7) → ab_in r2 8 = true ∧ (((τ1 51 r2.toNatClampNeg) ≤ 0 → ab_in r2 8 = true ∧ (((τ1 51 r2.toNatClampNeg) ≤ 1 → ab_in (((16 * r2) + 0) + 0) 128 = true ∧ Q (some (.inl (τ1 55 (((16 * r2) + 0) + 0).toNatClampNeg))) τ1) ∧ (¬ (τ1 51 r2.toNatClampNeg) ≤ 1 → ab_in (((16 * r2) + 0) + j) 128 = true ∧ Q (some (.inl (τ1 55 (((16 * r2) + 0) + j).toNatClampNeg))) τ1))) ∧ (¬ (τ1 51 r2.toNatClampNeg) ≤ 0 → ab_in r2 8 = true ∧ (((τ1 51 r2.toNatClampNeg) ≤ 1 → ab_in (((16 * r2) + (4 * i)) + 0) 128 = true ∧ Q (some (.inl (τ1 55 (((16 * r2) + (4 * i)) + 0).toNatClampNeg))) τ1) ∧ (¬ (τ1 51 r2.toNatClampNeg) ≤ 1 → ab_in (((16 * r2) + (4 * i)) + j) 128 = true ∧ Q (some (.inl (τ1 55 (((16 * r2) + (4 * i)) + j).toNatClampNeg))) τ1))))) ∧ (¬ j < (τ1 50 7) → Q (some (.inl (-1))) τ1))))))) ∧ (¬ (τ1 51 r2.toNatClampNeg) ≤ 0 → ((i < 0 → Q (some (.inl (-1))) τ1) ∧ (¬ i < 0 → (((τ1 50 7) ≤ i → Q (some (.inl (-1))) τ1) ∧ (¬ (τ1 50 7) ≤ i → ab_in r2 8 = true ∧ (((τ1 51 r2.toNatClampNeg) ≤ 1 → ab_in r2 8 = true ∧ (((τ1 51 r2.toNatClampNeg) ≤ 0 → ab_in r2 8 = true ∧ (((τ1 51 r2.toNatClampNeg) ≤ 1 → ab_in (((16 * r2) + 0) + 0) 128 = true ∧ Q (some (.inl (τ1 55 (((16 * r2) + 0) + 0).toNatClampNeg))) τ1) ∧ (¬ (τ1 51 r2.toNatClampNeg) ≤ 1 → ab_in (((16 * r2) + 0) + j) 128 = true ∧ Q (some (.inl (τ1 55 (((16 * r2) + 0) + j).toNatClampNeg))) τ1))) ∧ (¬ (τ1 51 r2.toNatClampNeg) ≤ 0 → ab_in r2 8 = true ∧ (((τ1 51 r2.toNatClampNeg) ≤ 1 → ab_in (((16 * r2) + (4 * i)) + 0) 128 = true ∧ Q (some (.inl (τ1 55 (((16 * r2) + (4 * i)) + 0).toNatClampNeg))) τ1) ∧ (¬ (τ1 51 r2.toNatClampNeg) ≤ 1 → ab_in (((16 * r2) + (4 * i)) + j) 128 = true ∧ Q (some (.inl (τ1 55 (((16 * r2) + (4 * i)) + j).toNatClampNeg))) τ1))))) ∧ (¬ (τ1 51 r2.toNatClampNeg) ≤ 1 → ((j < 0 → Q (some (.inl (-1))) τ1) ∧ (¬ j < 0 → ((j < (τ1 50 7) → ab_in r2 8 = true ∧ (((τ1 51 r2.toNatClampNeg) ≤ 0 → ab_in r2 8 = true ∧ (((τ1 51 r2.toNatClampNeg) ≤ 1 → ab_in (((16 * r2) + 0) + 0) 128 = true ∧ Q (some (.inl (τ1 55 (((16 * r2) + 0) + 0).toNatClampNeg))) τ1) ∧ (¬ (τ1 51 r2.toNatClampNeg) ≤ 1 → ab_in (((16 * r2) + 0) + j) 128 = true ∧ Q (some (.inl (τ1 55 (((16 * r2) + 0) + j).toNatClampNeg))) τ1))) ∧ (¬ (τ1 51 r2.toNatClampNeg) ≤ 0 → ab_in r2 8 = true ∧ (((τ1 51 r2.toNatClampNeg) ≤ 1 → ab_in (((16 * r2) + (4 * i)) + 0) 128 = true ∧ Q (some (.inl (τ1 55 (((16 * r2) + (4 * i)) + 0).toNatClampNeg))) τ1) ∧ (¬ (τ1 51 r2.toNatClampNeg) ≤ 1 → ab_in (((16 * r2) + (4 * i)) + j) 128 = true ∧ Q (some (.inl (τ1 55 (((16 * r2) + (4 * i)) + j).toNatClampNeg))) τ1))))) ∧ (¬ j < (τ1 50 7) → Q (some (.inl (-1))) τ1))))))))))))) ∧ (¬ 0 ≤ (τ1 51 r2.toNatClampNeg) → Q (some (.inl (-1))) τ1)))))))) :
    ev mX8_value 0 [some (.inr (.inr 50)), some (.inl c), some (.inl i), some (.inl j), none] [] σ Q := by
  refine ev_p (pc' := 1) (ls' := [some (.inr (.inr 50)), some (.inl c), some (.inl i), some (.inl j), none]) (st' := [.inl c]) dX8_value_0 rfl ?_
  refine ev_call (y := 85) (as := [.inl c]) (r := []) (M' := mX8_symbolOf) (pc' := 4) dX8_value_1 rfl rfl ⟨rfl, rfl⟩ rfl k rfl (fun v τ1 hq => ?_)
  obtain ⟨r2, hv, k⟩ := hq
  rw [hv]
  change ev mX8_value 4 [some (.inr (.inr 50)), some (.inl c), some (.inl i), some (.inl j), none] [.inl r2] τ1 _
  refine ev_p (pc' := 6) (ls' := [some (.inr (.inr 50)), some (.inl c), some (.inl i), some (.inl j), some (.inl r2)]) (st' := []) dX8_value_4 rfl ?_
  refine ev_p (pc' := 7) (ls' := [some (.inr (.inr 50)), some (.inl c), some (.inl i), some (.inl j), some (.inl r2)]) (st' := [.inr (.inr 50)]) dX8_value_6 rfl ?_
  refine ev_getI (pc' := 10) dX8_value_7 rfl rfl rfl rfl ?_
  refine ev_if_eq (tgt := 28) (pc' := 13) dX8_value_10 (by decide) rfl (fun h1 => ?_) (fun h1 => ?_)
  · have k := k.1 h1
    refine ev_cst (v := (-1)) (pc' := 29) dX8_value_28 (by decide) rfl ?_
    exact ev_ret dX8_value_29 rfl k
  · have k := k.2 h1
    refine ev_p (pc' := 15) (ls' := [some (.inr (.inr 50)), some (.inl c), some (.inl i), some (.inl j), some (.inl r2)]) (st' := [.inl r2]) dX8_value_13 rfl ?_
    refine ev_if_lt (tgt := 28) (pc' := 18) dX8_value_15 (by decide) rfl (fun h2 => ?_) (fun h2 => ?_)
    · have k := k.1 h2
      refine ev_cst (v := (-1)) (pc' := 29) dX8_value_28 (by decide) rfl ?_
      exact ev_ret dX8_value_29 rfl k
    · have k := k.2 h2
      refine ev_p (pc' := 19) (ls' := [some (.inr (.inr 50)), some (.inl c), some (.inl i), some (.inl j), some (.inl r2)]) (st' := [.inr (.inr 50)]) dX8_value_18 rfl ?_
      refine ev_getA (pc' := 22) (z := 51) dX8_value_19 rfl rfl rfl rfl ?_
      refine ev_p (pc' := 24) (ls' := [some (.inr (.inr 50)), some (.inl c), some (.inl i), some (.inl j), some (.inl r2)]) (st' := [.inl r2, .inr (.inr 51)]) dX8_value_22 rfl ?_
      refine ev_load (pc' := 25) rfl dX8_value_24 rfl rfl k.1 rfl ?_
      have k := k.2
      refine ev_if_ge (tgt := 30) (pc' := 28) dX8_value_25 (by decide) rfl (fun h3 => ?_) (fun h3 => ?_)
      · have k := k.1 h3
        refine ev_p (pc' := 31) (ls' := [some (.inr (.inr 50)), some (.inl c), some (.inl i), some (.inl j), some (.inl r2)]) (st' := [.inr (.inr 50)]) dX8_value_30 rfl ?_
        refine ev_getA (pc' := 34) (z := 51) dX8_value_31 rfl rfl rfl rfl ?_
        refine ev_p (pc' := 36) (ls' := [some (.inr (.inr 50)), some (.inl c), some (.inl i), some (.inl j), some (.inl r2)]) (st' := [.inl r2, .inr (.inr 51)]) dX8_value_34 rfl ?_
        refine ev_load (pc' := 37) rfl dX8_value_36 rfl rfl k.1 rfl ?_
        have k := k.2
        refine ev_if_le (tgt := 52) (pc' := 40) dX8_value_37 (by decide) rfl (fun h4 => ?_) (fun h4 => ?_)
        · have k := k.1 h4
          refine ev_p (pc' := 53) (ls' := [some (.inr (.inr 50)), some (.inl c), some (.inl i), some (.inl j), some (.inl r2)]) (st' := [.inr (.inr 50)]) dX8_value_52 rfl ?_
          refine ev_getA (pc' := 56) (z := 51) dX8_value_53 rfl rfl rfl rfl ?_
          refine ev_p (pc' := 58) (ls' := [some (.inr (.inr 50)), some (.inl c), some (.inl i), some (.inl j), some (.inl r2)]) (st' := [.inl r2, .inr (.inr 51)]) dX8_value_56 rfl ?_
          refine ev_load (pc' := 59) rfl dX8_value_58 rfl rfl k.1 rfl ?_
          have k := k.2
          refine ev_cst (v := 1) (pc' := 60) dX8_value_59 (by decide) rfl ?_
          refine ev_ic_le (tgt := 77) (pc' := 63) dX8_value_60 (by decide) rfl (fun h5 => ?_) (fun h5 => ?_)
          · have k := k.1 h5
            refine ev_p (pc' := 78) (ls' := [some (.inr (.inr 50)), some (.inl c), some (.inl i), some (.inl j), some (.inl r2)]) (st' := [.inr (.inr 50)]) dX8_value_77 rfl ?_
            refine ev_getA (pc' := 81) (z := 55) dX8_value_78 rfl rfl rfl rfl ?_
            refine ev_cst (v := 16) (pc' := 83) dX8_value_81 (by decide) rfl ?_
            refine ev_p (pc' := 85) (ls' := [some (.inr (.inr 50)), some (.inl c), some (.inl i), some (.inl j), some (.inl r2)]) (st' := [.inl r2, .inl 16, .inr (.inr 55)]) dX8_value_83 rfl ?_
            refine ev_p (pc' := 86) (ls' := [some (.inr (.inr 50)), some (.inl c), some (.inl i), some (.inl j), some (.inl r2)]) (st' := [.inl (16 * r2), .inr (.inr 55)]) dX8_value_85 rfl ?_
            refine ev_p (pc' := 87) (ls' := [some (.inr (.inr 50)), some (.inl c), some (.inl i), some (.inl j), some (.inl r2)]) (st' := [.inr (.inr 50), .inl (16 * r2), .inr (.inr 55)]) dX8_value_86 rfl ?_
            refine ev_getA (pc' := 90) (z := 51) dX8_value_87 rfl rfl rfl rfl ?_
            refine ev_p (pc' := 92) (ls' := [some (.inr (.inr 50)), some (.inl c), some (.inl i), some (.inl j), some (.inl r2)]) (st' := [.inl r2, .inr (.inr 51), .inl (16 * r2), .inr (.inr 55)]) dX8_value_90 rfl ?_
            refine ev_load (pc' := 93) rfl dX8_value_92 rfl rfl k.1 rfl ?_
            have k := k.2
            refine ev_if_le (tgt := 102) (pc' := 96) dX8_value_93 (by decide) rfl (fun h6 => ?_) (fun h6 => ?_)
            · have k := k.1 h6
              refine ev_cst (v := 0) (pc' := 103) dX8_value_102 (by decide) rfl ?_
              refine ev_p (pc' := 104) (ls' := [some (.inr (.inr 50)), some (.inl c), some (.inl i), some (.inl j), some (.inl r2)]) (st' := [.inl ((16 * r2) + 0), .inr (.inr 55)]) dX8_value_103 rfl ?_
              refine ev_p (pc' := 105) (ls' := [some (.inr (.inr 50)), some (.inl c), some (.inl i), some (.inl j), some (.inl r2)]) (st' := [.inr (.inr 50), .inl ((16 * r2) + 0), .inr (.inr 55)]) dX8_value_104 rfl ?_
              refine ev_getA (pc' := 108) (z := 51) dX8_value_105 rfl rfl rfl rfl ?_
              refine ev_p (pc' := 110) (ls' := [some (.inr (.inr 50)), some (.inl c), some (.inl i), some (.inl j), some (.inl r2)]) (st' := [.inl r2, .inr (.inr 51), .inl ((16 * r2) + 0), .inr (.inr 55)]) dX8_value_108 rfl ?_
              refine ev_load (pc' := 111) rfl dX8_value_110 rfl rfl k.1 rfl ?_
              have k := k.2
              refine ev_cst (v := 1) (pc' := 112) dX8_value_111 (by decide) rfl ?_
              refine ev_ic_le (tgt := 119) (pc' := 115) dX8_value_112 (by decide) rfl (fun h7 => ?_) (fun h7 => ?_)
              · have k := k.1 h7
                refine ev_cst (v := 0) (pc' := 120) dX8_value_119 (by decide) rfl ?_
                refine ev_p (pc' := 121) (ls' := [some (.inr (.inr 50)), some (.inl c), some (.inl i), some (.inl j), some (.inl r2)]) (st' := [.inl (((16 * r2) + 0) + 0), .inr (.inr 55)]) dX8_value_120 rfl ?_
                refine ev_load (pc' := 122) rfl dX8_value_121 rfl rfl k.1 rfl ?_
                have k := k.2
                exact ev_ret dX8_value_122 rfl k
              · have k := k.2 h7
                refine ev_p (pc' := 116) (ls' := [some (.inr (.inr 50)), some (.inl c), some (.inl i), some (.inl j), some (.inl r2)]) (st' := [.inl j, .inl ((16 * r2) + 0), .inr (.inr 55)]) dX8_value_115 rfl ?_
                refine ev_go (tgt := 120) dX8_value_116 (by decide) ?_
                refine ev_p (pc' := 121) (ls' := [some (.inr (.inr 50)), some (.inl c), some (.inl i), some (.inl j), some (.inl r2)]) (st' := [.inl (((16 * r2) + 0) + j), .inr (.inr 55)]) dX8_value_120 rfl ?_
                refine ev_load (pc' := 122) rfl dX8_value_121 rfl rfl k.1 rfl ?_
                have k := k.2
                exact ev_ret dX8_value_122 rfl k
            · have k := k.2 h6
              refine ev_cst (v := 4) (pc' := 97) dX8_value_96 (by decide) rfl ?_
              refine ev_p (pc' := 98) (ls' := [some (.inr (.inr 50)), some (.inl c), some (.inl i), some (.inl j), some (.inl r2)]) (st' := [.inl i, .inl 4, .inl (16 * r2), .inr (.inr 55)]) dX8_value_97 rfl ?_
              refine ev_p (pc' := 99) (ls' := [some (.inr (.inr 50)), some (.inl c), some (.inl i), some (.inl j), some (.inl r2)]) (st' := [.inl (4 * i), .inl (16 * r2), .inr (.inr 55)]) dX8_value_98 rfl ?_
              refine ev_go (tgt := 103) dX8_value_99 (by decide) ?_
              refine ev_p (pc' := 104) (ls' := [some (.inr (.inr 50)), some (.inl c), some (.inl i), some (.inl j), some (.inl r2)]) (st' := [.inl ((16 * r2) + (4 * i)), .inr (.inr 55)]) dX8_value_103 rfl ?_
              refine ev_p (pc' := 105) (ls' := [some (.inr (.inr 50)), some (.inl c), some (.inl i), some (.inl j), some (.inl r2)]) (st' := [.inr (.inr 50), .inl ((16 * r2) + (4 * i)), .inr (.inr 55)]) dX8_value_104 rfl ?_
              refine ev_getA (pc' := 108) (z := 51) dX8_value_105 rfl rfl rfl rfl ?_
              refine ev_p (pc' := 110) (ls' := [some (.inr (.inr 50)), some (.inl c), some (.inl i), some (.inl j), some (.inl r2)]) (st' := [.inl r2, .inr (.inr 51), .inl ((16 * r2) + (4 * i)), .inr (.inr 55)]) dX8_value_108 rfl ?_
              refine ev_load (pc' := 111) rfl dX8_value_110 rfl rfl k.1 rfl ?_
              have k := k.2
              refine ev_cst (v := 1) (pc' := 112) dX8_value_111 (by decide) rfl ?_
              refine ev_ic_le (tgt := 119) (pc' := 115) dX8_value_112 (by decide) rfl (fun h8 => ?_) (fun h8 => ?_)
              · have k := k.1 h8
                refine ev_cst (v := 0) (pc' := 120) dX8_value_119 (by decide) rfl ?_
                refine ev_p (pc' := 121) (ls' := [some (.inr (.inr 50)), some (.inl c), some (.inl i), some (.inl j), some (.inl r2)]) (st' := [.inl (((16 * r2) + (4 * i)) + 0), .inr (.inr 55)]) dX8_value_120 rfl ?_
                refine ev_load (pc' := 122) rfl dX8_value_121 rfl rfl k.1 rfl ?_
                have k := k.2
                exact ev_ret dX8_value_122 rfl k
              · have k := k.2 h8
                refine ev_p (pc' := 116) (ls' := [some (.inr (.inr 50)), some (.inl c), some (.inl i), some (.inl j), some (.inl r2)]) (st' := [.inl j, .inl ((16 * r2) + (4 * i)), .inr (.inr 55)]) dX8_value_115 rfl ?_
                refine ev_go (tgt := 120) dX8_value_116 (by decide) ?_
                refine ev_p (pc' := 121) (ls' := [some (.inr (.inr 50)), some (.inl c), some (.inl i), some (.inl j), some (.inl r2)]) (st' := [.inl (((16 * r2) + (4 * i)) + j), .inr (.inr 55)]) dX8_value_120 rfl ?_
                refine ev_load (pc' := 122) rfl dX8_value_121 rfl rfl k.1 rfl ?_
                have k := k.2
                exact ev_ret dX8_value_122 rfl k
          · have k := k.2 h5
            refine ev_p (pc' := 64) (ls' := [some (.inr (.inr 50)), some (.inl c), some (.inl i), some (.inl j), some (.inl r2)]) (st' := [.inl j]) dX8_value_63 rfl ?_
            refine ev_if_lt (tgt := 75) (pc' := 67) dX8_value_64 (by decide) rfl (fun h9 => ?_) (fun h9 => ?_)
            · have k := k.1 h9
              refine ev_cst (v := (-1)) (pc' := 76) dX8_value_75 (by decide) rfl ?_
              exact ev_ret dX8_value_76 rfl k
            · have k := k.2 h9
              refine ev_p (pc' := 68) (ls' := [some (.inr (.inr 50)), some (.inl c), some (.inl i), some (.inl j), some (.inl r2)]) (st' := [.inl j]) dX8_value_67 rfl ?_
              refine ev_p (pc' := 69) (ls' := [some (.inr (.inr 50)), some (.inl c), some (.inl i), some (.inl j), some (.inl r2)]) (st' := [.inr (.inr 50), .inl j]) dX8_value_68 rfl ?_
              refine ev_getI (pc' := 72) dX8_value_69 rfl rfl rfl rfl ?_
              refine ev_ic_lt (tgt := 77) (pc' := 75) dX8_value_72 (by decide) rfl (fun h10 => ?_) (fun h10 => ?_)
              · have k := k.1 h10
                refine ev_p (pc' := 78) (ls' := [some (.inr (.inr 50)), some (.inl c), some (.inl i), some (.inl j), some (.inl r2)]) (st' := [.inr (.inr 50)]) dX8_value_77 rfl ?_
                refine ev_getA (pc' := 81) (z := 55) dX8_value_78 rfl rfl rfl rfl ?_
                refine ev_cst (v := 16) (pc' := 83) dX8_value_81 (by decide) rfl ?_
                refine ev_p (pc' := 85) (ls' := [some (.inr (.inr 50)), some (.inl c), some (.inl i), some (.inl j), some (.inl r2)]) (st' := [.inl r2, .inl 16, .inr (.inr 55)]) dX8_value_83 rfl ?_
                refine ev_p (pc' := 86) (ls' := [some (.inr (.inr 50)), some (.inl c), some (.inl i), some (.inl j), some (.inl r2)]) (st' := [.inl (16 * r2), .inr (.inr 55)]) dX8_value_85 rfl ?_
                refine ev_p (pc' := 87) (ls' := [some (.inr (.inr 50)), some (.inl c), some (.inl i), some (.inl j), some (.inl r2)]) (st' := [.inr (.inr 50), .inl (16 * r2), .inr (.inr 55)]) dX8_value_86 rfl ?_
                refine ev_getA (pc' := 90) (z := 51) dX8_value_87 rfl rfl rfl rfl ?_
                refine ev_p (pc' := 92) (ls' := [some (.inr (.inr 50)), some (.inl c), some (.inl i), some (.inl j), some (.inl r2)]) (st' := [.inl r2, .inr (.inr 51), .inl (16 * r2), .inr (.inr 55)]) dX8_value_90 rfl ?_
                refine ev_load (pc' := 93) rfl dX8_value_92 rfl rfl k.1 rfl ?_
                have k := k.2
                refine ev_if_le (tgt := 102) (pc' := 96) dX8_value_93 (by decide) rfl (fun h11 => ?_) (fun h11 => ?_)
                · have k := k.1 h11
                  refine ev_cst (v := 0) (pc' := 103) dX8_value_102 (by decide) rfl ?_
                  refine ev_p (pc' := 104) (ls' := [some (.inr (.inr 50)), some (.inl c), some (.inl i), some (.inl j), some (.inl r2)]) (st' := [.inl ((16 * r2) + 0), .inr (.inr 55)]) dX8_value_103 rfl ?_
                  refine ev_p (pc' := 105) (ls' := [some (.inr (.inr 50)), some (.inl c), some (.inl i), some (.inl j), some (.inl r2)]) (st' := [.inr (.inr 50), .inl ((16 * r2) + 0), .inr (.inr 55)]) dX8_value_104 rfl ?_
                  refine ev_getA (pc' := 108) (z := 51) dX8_value_105 rfl rfl rfl rfl ?_
                  refine ev_p (pc' := 110) (ls' := [some (.inr (.inr 50)), some (.inl c), some (.inl i), some (.inl j), some (.inl r2)]) (st' := [.inl r2, .inr (.inr 51), .inl ((16 * r2) + 0), .inr (.inr 55)]) dX8_value_108 rfl ?_
                  refine ev_load (pc' := 111) rfl dX8_value_110 rfl rfl k.1 rfl ?_
                  have k := k.2
                  refine ev_cst (v := 1) (pc' := 112) dX8_value_111 (by decide) rfl ?_
                  refine ev_ic_le (tgt := 119) (pc' := 115) dX8_value_112 (by decide) rfl (fun h12 => ?_) (fun h12 => ?_)
                  · have k := k.1 h12
                    refine ev_cst (v := 0) (pc' := 120) dX8_value_119 (by decide) rfl ?_
                    refine ev_p (pc' := 121) (ls' := [some (.inr (.inr 50)), some (.inl c), some (.inl i), some (.inl j), some (.inl r2)]) (st' := [.inl (((16 * r2) + 0) + 0), .inr (.inr 55)]) dX8_value_120 rfl ?_
                    refine ev_load (pc' := 122) rfl dX8_value_121 rfl rfl k.1 rfl ?_
                    have k := k.2
                    exact ev_ret dX8_value_122 rfl k
                  · have k := k.2 h12
                    refine ev_p (pc' := 116) (ls' := [some (.inr (.inr 50)), some (.inl c), some (.inl i), some (.inl j), some (.inl r2)]) (st' := [.inl j, .inl ((16 * r2) + 0), .inr (.inr 55)]) dX8_value_115 rfl ?_
                    refine ev_go (tgt := 120) dX8_value_116 (by decide) ?_
                    refine ev_p (pc' := 121) (ls' := [some (.inr (.inr 50)), some (.inl c), some (.inl i), some (.inl j), some (.inl r2)]) (st' := [.inl (((16 * r2) + 0) + j), .inr (.inr 55)]) dX8_value_120 rfl ?_
                    refine ev_load (pc' := 122) rfl dX8_value_121 rfl rfl k.1 rfl ?_
                    have k := k.2
                    exact ev_ret dX8_value_122 rfl k
                · have k := k.2 h11
                  refine ev_cst (v := 4) (pc' := 97) dX8_value_96 (by decide) rfl ?_
                  refine ev_p (pc' := 98) (ls' := [some (.inr (.inr 50)), some (.inl c), some (.inl i), some (.inl j), some (.inl r2)]) (st' := [.inl i, .inl 4, .inl (16 * r2), .inr (.inr 55)]) dX8_value_97 rfl ?_
                  refine ev_p (pc' := 99) (ls' := [some (.inr (.inr 50)), some (.inl c), some (.inl i), some (.inl j), some (.inl r2)]) (st' := [.inl (4 * i), .inl (16 * r2), .inr (.inr 55)]) dX8_value_98 rfl ?_
                  refine ev_go (tgt := 103) dX8_value_99 (by decide) ?_
                  refine ev_p (pc' := 104) (ls' := [some (.inr (.inr 50)), some (.inl c), some (.inl i), some (.inl j), some (.inl r2)]) (st' := [.inl ((16 * r2) + (4 * i)), .inr (.inr 55)]) dX8_value_103 rfl ?_
                  refine ev_p (pc' := 105) (ls' := [some (.inr (.inr 50)), some (.inl c), some (.inl i), some (.inl j), some (.inl r2)]) (st' := [.inr (.inr 50), .inl ((16 * r2) + (4 * i)), .inr (.inr 55)]) dX8_value_104 rfl ?_
                  refine ev_getA (pc' := 108) (z := 51) dX8_value_105 rfl rfl rfl rfl ?_
                  refine ev_p (pc' := 110) (ls' := [some (.inr (.inr 50)), some (.inl c), some (.inl i), some (.inl j), some (.inl r2)]) (st' := [.inl r2, .inr (.inr 51), .inl ((16 * r2) + (4 * i)), .inr (.inr 55)]) dX8_value_108 rfl ?_
                  refine ev_load (pc' := 111) rfl dX8_value_110 rfl rfl k.1 rfl ?_
                  have k := k.2
                  refine ev_cst (v := 1) (pc' := 112) dX8_value_111 (by decide) rfl ?_
                  refine ev_ic_le (tgt := 119) (pc' := 115) dX8_value_112 (by decide) rfl (fun h13 => ?_) (fun h13 => ?_)
                  · have k := k.1 h13
                    refine ev_cst (v := 0) (pc' := 120) dX8_value_119 (by decide) rfl ?_
                    refine ev_p (pc' := 121) (ls' := [some (.inr (.inr 50)), some (.inl c), some (.inl i), some (.inl j), some (.inl r2)]) (st' := [.inl (((16 * r2) + (4 * i)) + 0), .inr (.inr 55)]) dX8_value_120 rfl ?_
                    refine ev_load (pc' := 122) rfl dX8_value_121 rfl rfl k.1 rfl ?_
                    have k := k.2
                    exact ev_ret dX8_value_122 rfl k
                  · have k := k.2 h13
                    refine ev_p (pc' := 116) (ls' := [some (.inr (.inr 50)), some (.inl c), some (.inl i), some (.inl j), some (.inl r2)]) (st' := [.inl j, .inl ((16 * r2) + (4 * i)), .inr (.inr 55)]) dX8_value_115 rfl ?_
                    refine ev_go (tgt := 120) dX8_value_116 (by decide) ?_
                    refine ev_p (pc' := 121) (ls' := [some (.inr (.inr 50)), some (.inl c), some (.inl i), some (.inl j), some (.inl r2)]) (st' := [.inl (((16 * r2) + (4 * i)) + j), .inr (.inr 55)]) dX8_value_120 rfl ?_
                    refine ev_load (pc' := 122) rfl dX8_value_121 rfl rfl k.1 rfl ?_
                    have k := k.2
                    exact ev_ret dX8_value_122 rfl k
              · have k := k.2 h10
                refine ev_cst (v := (-1)) (pc' := 76) dX8_value_75 (by decide) rfl ?_
                exact ev_ret dX8_value_76 rfl k
        · have k := k.2 h4
          refine ev_p (pc' := 41) (ls' := [some (.inr (.inr 50)), some (.inl c), some (.inl i), some (.inl j), some (.inl r2)]) (st' := [.inl i]) dX8_value_40 rfl ?_
          refine ev_if_lt (tgt := 75) (pc' := 44) dX8_value_41 (by decide) rfl (fun h14 => ?_) (fun h14 => ?_)
          · have k := k.1 h14
            refine ev_cst (v := (-1)) (pc' := 76) dX8_value_75 (by decide) rfl ?_
            exact ev_ret dX8_value_76 rfl k
          · have k := k.2 h14
            refine ev_p (pc' := 45) (ls' := [some (.inr (.inr 50)), some (.inl c), some (.inl i), some (.inl j), some (.inl r2)]) (st' := [.inl i]) dX8_value_44 rfl ?_
            refine ev_p (pc' := 46) (ls' := [some (.inr (.inr 50)), some (.inl c), some (.inl i), some (.inl j), some (.inl r2)]) (st' := [.inr (.inr 50), .inl i]) dX8_value_45 rfl ?_
            refine ev_getI (pc' := 49) dX8_value_46 rfl rfl rfl rfl ?_
            refine ev_ic_ge (tgt := 75) (pc' := 52) dX8_value_49 (by decide) rfl (fun h15 => ?_) (fun h15 => ?_)
            · have k := k.1 h15
              refine ev_cst (v := (-1)) (pc' := 76) dX8_value_75 (by decide) rfl ?_
              exact ev_ret dX8_value_76 rfl k
            · have k := k.2 h15
              refine ev_p (pc' := 53) (ls' := [some (.inr (.inr 50)), some (.inl c), some (.inl i), some (.inl j), some (.inl r2)]) (st' := [.inr (.inr 50)]) dX8_value_52 rfl ?_
              refine ev_getA (pc' := 56) (z := 51) dX8_value_53 rfl rfl rfl rfl ?_
              refine ev_p (pc' := 58) (ls' := [some (.inr (.inr 50)), some (.inl c), some (.inl i), some (.inl j), some (.inl r2)]) (st' := [.inl r2, .inr (.inr 51)]) dX8_value_56 rfl ?_
              refine ev_load (pc' := 59) rfl dX8_value_58 rfl rfl k.1 rfl ?_
              have k := k.2
              refine ev_cst (v := 1) (pc' := 60) dX8_value_59 (by decide) rfl ?_
              refine ev_ic_le (tgt := 77) (pc' := 63) dX8_value_60 (by decide) rfl (fun h16 => ?_) (fun h16 => ?_)
              · have k := k.1 h16
                refine ev_p (pc' := 78) (ls' := [some (.inr (.inr 50)), some (.inl c), some (.inl i), some (.inl j), some (.inl r2)]) (st' := [.inr (.inr 50)]) dX8_value_77 rfl ?_
                refine ev_getA (pc' := 81) (z := 55) dX8_value_78 rfl rfl rfl rfl ?_
                refine ev_cst (v := 16) (pc' := 83) dX8_value_81 (by decide) rfl ?_
                refine ev_p (pc' := 85) (ls' := [some (.inr (.inr 50)), some (.inl c), some (.inl i), some (.inl j), some (.inl r2)]) (st' := [.inl r2, .inl 16, .inr (.inr 55)]) dX8_value_83 rfl ?_
                refine ev_p (pc' := 86) (ls' := [some (.inr (.inr 50)), some (.inl c), some (.inl i), some (.inl j), some (.inl r2)]) (st' := [.inl (16 * r2), .inr (.inr 55)]) dX8_value_85 rfl ?_
                refine ev_p (pc' := 87) (ls' := [some (.inr (.inr 50)), some (.inl c), some (.inl i), some (.inl j), some (.inl r2)]) (st' := [.inr (.inr 50), .inl (16 * r2), .inr (.inr 55)]) dX8_value_86 rfl ?_
                refine ev_getA (pc' := 90) (z := 51) dX8_value_87 rfl rfl rfl rfl ?_
                refine ev_p (pc' := 92) (ls' := [some (.inr (.inr 50)), some (.inl c), some (.inl i), some (.inl j), some (.inl r2)]) (st' := [.inl r2, .inr (.inr 51), .inl (16 * r2), .inr (.inr 55)]) dX8_value_90 rfl ?_
                refine ev_load (pc' := 93) rfl dX8_value_92 rfl rfl k.1 rfl ?_
                have k := k.2
                refine ev_if_le (tgt := 102) (pc' := 96) dX8_value_93 (by decide) rfl (fun h17 => ?_) (fun h17 => ?_)
                · have k := k.1 h17
                  refine ev_cst (v := 0) (pc' := 103) dX8_value_102 (by decide) rfl ?_
                  refine ev_p (pc' := 104) (ls' := [some (.inr (.inr 50)), some (.inl c), some (.inl i), some (.inl j), some (.inl r2)]) (st' := [.inl ((16 * r2) + 0), .inr (.inr 55)]) dX8_value_103 rfl ?_
                  refine ev_p (pc' := 105) (ls' := [some (.inr (.inr 50)), some (.inl c), some (.inl i), some (.inl j), some (.inl r2)]) (st' := [.inr (.inr 50), .inl ((16 * r2) + 0), .inr (.inr 55)]) dX8_value_104 rfl ?_
                  refine ev_getA (pc' := 108) (z := 51) dX8_value_105 rfl rfl rfl rfl ?_
                  refine ev_p (pc' := 110) (ls' := [some (.inr (.inr 50)), some (.inl c), some (.inl i), some (.inl j), some (.inl r2)]) (st' := [.inl r2, .inr (.inr 51), .inl ((16 * r2) + 0), .inr (.inr 55)]) dX8_value_108 rfl ?_
                  refine ev_load (pc' := 111) rfl dX8_value_110 rfl rfl k.1 rfl ?_
                  have k := k.2
                  refine ev_cst (v := 1) (pc' := 112) dX8_value_111 (by decide) rfl ?_
                  refine ev_ic_le (tgt := 119) (pc' := 115) dX8_value_112 (by decide) rfl (fun h18 => ?_) (fun h18 => ?_)
                  · have k := k.1 h18
                    refine ev_cst (v := 0) (pc' := 120) dX8_value_119 (by decide) rfl ?_
                    refine ev_p (pc' := 121) (ls' := [some (.inr (.inr 50)), some (.inl c), some (.inl i), some (.inl j), some (.inl r2)]) (st' := [.inl (((16 * r2) + 0) + 0), .inr (.inr 55)]) dX8_value_120 rfl ?_
                    refine ev_load (pc' := 122) rfl dX8_value_121 rfl rfl k.1 rfl ?_
                    have k := k.2
                    exact ev_ret dX8_value_122 rfl k
                  · have k := k.2 h18
                    refine ev_p (pc' := 116) (ls' := [some (.inr (.inr 50)), some (.inl c), some (.inl i), some (.inl j), some (.inl r2)]) (st' := [.inl j, .inl ((16 * r2) + 0), .inr (.inr 55)]) dX8_value_115 rfl ?_
                    refine ev_go (tgt := 120) dX8_value_116 (by decide) ?_
                    refine ev_p (pc' := 121) (ls' := [some (.inr (.inr 50)), some (.inl c), some (.inl i), some (.inl j), some (.inl r2)]) (st' := [.inl (((16 * r2) + 0) + j), .inr (.inr 55)]) dX8_value_120 rfl ?_
                    refine ev_load (pc' := 122) rfl dX8_value_121 rfl rfl k.1 rfl ?_
                    have k := k.2
                    exact ev_ret dX8_value_122 rfl k
                · have k := k.2 h17
                  refine ev_cst (v := 4) (pc' := 97) dX8_value_96 (by decide) rfl ?_
                  refine ev_p (pc' := 98) (ls' := [some (.inr (.inr 50)), some (.inl c), some (.inl i), some (.inl j), some (.inl r2)]) (st' := [.inl i, .inl 4, .inl (16 * r2), .inr (.inr 55)]) dX8_value_97 rfl ?_
                  refine ev_p (pc' := 99) (ls' := [some (.inr (.inr 50)), some (.inl c), some (.inl i), some (.inl j), some (.inl r2)]) (st' := [.inl (4 * i), .inl (16 * r2), .inr (.inr 55)]) dX8_value_98 rfl ?_
                  refine ev_go (tgt := 103) dX8_value_99 (by decide) ?_
                  refine ev_p (pc' := 104) (ls' := [some (.inr (.inr 50)), some (.inl c), some (.inl i), some (.inl j), some (.inl r2)]) (st' := [.inl ((16 * r2) + (4 * i)), .inr (.inr 55)]) dX8_value_103 rfl ?_
                  refine ev_p (pc' := 105) (ls' := [some (.inr (.inr 50)), some (.inl c), some (.inl i), some (.inl j), some (.inl r2)]) (st' := [.inr (.inr 50), .inl ((16 * r2) + (4 * i)), .inr (.inr 55)]) dX8_value_104 rfl ?_
                  refine ev_getA (pc' := 108) (z := 51) dX8_value_105 rfl rfl rfl rfl ?_
                  refine ev_p (pc' := 110) (ls' := [some (.inr (.inr 50)), some (.inl c), some (.inl i), some (.inl j), some (.inl r2)]) (st' := [.inl r2, .inr (.inr 51), .inl ((16 * r2) + (4 * i)), .inr (.inr 55)]) dX8_value_108 rfl ?_
                  refine ev_load (pc' := 111) rfl dX8_value_110 rfl rfl k.1 rfl ?_
                  have k := k.2
                  refine ev_cst (v := 1) (pc' := 112) dX8_value_111 (by decide) rfl ?_
                  refine ev_ic_le (tgt := 119) (pc' := 115) dX8_value_112 (by decide) rfl (fun h19 => ?_) (fun h19 => ?_)
                  · have k := k.1 h19
                    refine ev_cst (v := 0) (pc' := 120) dX8_value_119 (by decide) rfl ?_
                    refine ev_p (pc' := 121) (ls' := [some (.inr (.inr 50)), some (.inl c), some (.inl i), some (.inl j), some (.inl r2)]) (st' := [.inl (((16 * r2) + (4 * i)) + 0), .inr (.inr 55)]) dX8_value_120 rfl ?_
                    refine ev_load (pc' := 122) rfl dX8_value_121 rfl rfl k.1 rfl ?_
                    have k := k.2
                    exact ev_ret dX8_value_122 rfl k
                  · have k := k.2 h19
                    refine ev_p (pc' := 116) (ls' := [some (.inr (.inr 50)), some (.inl c), some (.inl i), some (.inl j), some (.inl r2)]) (st' := [.inl j, .inl ((16 * r2) + (4 * i)), .inr (.inr 55)]) dX8_value_115 rfl ?_
                    refine ev_go (tgt := 120) dX8_value_116 (by decide) ?_
                    refine ev_p (pc' := 121) (ls' := [some (.inr (.inr 50)), some (.inl c), some (.inl i), some (.inl j), some (.inl r2)]) (st' := [.inl (((16 * r2) + (4 * i)) + j), .inr (.inr 55)]) dX8_value_120 rfl ?_
                    refine ev_load (pc' := 122) rfl dX8_value_121 rfl rfl k.1 rfl ?_
                    have k := k.2
                    exact ev_ret dX8_value_122 rfl k
              · have k := k.2 h16
                refine ev_p (pc' := 64) (ls' := [some (.inr (.inr 50)), some (.inl c), some (.inl i), some (.inl j), some (.inl r2)]) (st' := [.inl j]) dX8_value_63 rfl ?_
                refine ev_if_lt (tgt := 75) (pc' := 67) dX8_value_64 (by decide) rfl (fun h20 => ?_) (fun h20 => ?_)
                · have k := k.1 h20
                  refine ev_cst (v := (-1)) (pc' := 76) dX8_value_75 (by decide) rfl ?_
                  exact ev_ret dX8_value_76 rfl k
                · have k := k.2 h20
                  refine ev_p (pc' := 68) (ls' := [some (.inr (.inr 50)), some (.inl c), some (.inl i), some (.inl j), some (.inl r2)]) (st' := [.inl j]) dX8_value_67 rfl ?_
                  refine ev_p (pc' := 69) (ls' := [some (.inr (.inr 50)), some (.inl c), some (.inl i), some (.inl j), some (.inl r2)]) (st' := [.inr (.inr 50), .inl j]) dX8_value_68 rfl ?_
                  refine ev_getI (pc' := 72) dX8_value_69 rfl rfl rfl rfl ?_
                  refine ev_ic_lt (tgt := 77) (pc' := 75) dX8_value_72 (by decide) rfl (fun h21 => ?_) (fun h21 => ?_)
                  · have k := k.1 h21
                    refine ev_p (pc' := 78) (ls' := [some (.inr (.inr 50)), some (.inl c), some (.inl i), some (.inl j), some (.inl r2)]) (st' := [.inr (.inr 50)]) dX8_value_77 rfl ?_
                    refine ev_getA (pc' := 81) (z := 55) dX8_value_78 rfl rfl rfl rfl ?_
                    refine ev_cst (v := 16) (pc' := 83) dX8_value_81 (by decide) rfl ?_
                    refine ev_p (pc' := 85) (ls' := [some (.inr (.inr 50)), some (.inl c), some (.inl i), some (.inl j), some (.inl r2)]) (st' := [.inl r2, .inl 16, .inr (.inr 55)]) dX8_value_83 rfl ?_
                    refine ev_p (pc' := 86) (ls' := [some (.inr (.inr 50)), some (.inl c), some (.inl i), some (.inl j), some (.inl r2)]) (st' := [.inl (16 * r2), .inr (.inr 55)]) dX8_value_85 rfl ?_
                    refine ev_p (pc' := 87) (ls' := [some (.inr (.inr 50)), some (.inl c), some (.inl i), some (.inl j), some (.inl r2)]) (st' := [.inr (.inr 50), .inl (16 * r2), .inr (.inr 55)]) dX8_value_86 rfl ?_
                    refine ev_getA (pc' := 90) (z := 51) dX8_value_87 rfl rfl rfl rfl ?_
                    refine ev_p (pc' := 92) (ls' := [some (.inr (.inr 50)), some (.inl c), some (.inl i), some (.inl j), some (.inl r2)]) (st' := [.inl r2, .inr (.inr 51), .inl (16 * r2), .inr (.inr 55)]) dX8_value_90 rfl ?_
                    refine ev_load (pc' := 93) rfl dX8_value_92 rfl rfl k.1 rfl ?_
                    have k := k.2
                    refine ev_if_le (tgt := 102) (pc' := 96) dX8_value_93 (by decide) rfl (fun h22 => ?_) (fun h22 => ?_)
                    · have k := k.1 h22
                      refine ev_cst (v := 0) (pc' := 103) dX8_value_102 (by decide) rfl ?_
                      refine ev_p (pc' := 104) (ls' := [some (.inr (.inr 50)), some (.inl c), some (.inl i), some (.inl j), some (.inl r2)]) (st' := [.inl ((16 * r2) + 0), .inr (.inr 55)]) dX8_value_103 rfl ?_
                      refine ev_p (pc' := 105) (ls' := [some (.inr (.inr 50)), some (.inl c), some (.inl i), some (.inl j), some (.inl r2)]) (st' := [.inr (.inr 50), .inl ((16 * r2) + 0), .inr (.inr 55)]) dX8_value_104 rfl ?_
                      refine ev_getA (pc' := 108) (z := 51) dX8_value_105 rfl rfl rfl rfl ?_
                      refine ev_p (pc' := 110) (ls' := [some (.inr (.inr 50)), some (.inl c), some (.inl i), some (.inl j), some (.inl r2)]) (st' := [.inl r2, .inr (.inr 51), .inl ((16 * r2) + 0), .inr (.inr 55)]) dX8_value_108 rfl ?_
                      refine ev_load (pc' := 111) rfl dX8_value_110 rfl rfl k.1 rfl ?_
                      have k := k.2
                      refine ev_cst (v := 1) (pc' := 112) dX8_value_111 (by decide) rfl ?_
                      refine ev_ic_le (tgt := 119) (pc' := 115) dX8_value_112 (by decide) rfl (fun h23 => ?_) (fun h23 => ?_)
                      · have k := k.1 h23
                        refine ev_cst (v := 0) (pc' := 120) dX8_value_119 (by decide) rfl ?_
                        refine ev_p (pc' := 121) (ls' := [some (.inr (.inr 50)), some (.inl c), some (.inl i), some (.inl j), some (.inl r2)]) (st' := [.inl (((16 * r2) + 0) + 0), .inr (.inr 55)]) dX8_value_120 rfl ?_
                        refine ev_load (pc' := 122) rfl dX8_value_121 rfl rfl k.1 rfl ?_
                        have k := k.2
                        exact ev_ret dX8_value_122 rfl k
                      · have k := k.2 h23
                        refine ev_p (pc' := 116) (ls' := [some (.inr (.inr 50)), some (.inl c), some (.inl i), some (.inl j), some (.inl r2)]) (st' := [.inl j, .inl ((16 * r2) + 0), .inr (.inr 55)]) dX8_value_115 rfl ?_
                        refine ev_go (tgt := 120) dX8_value_116 (by decide) ?_
                        refine ev_p (pc' := 121) (ls' := [some (.inr (.inr 50)), some (.inl c), some (.inl i), some (.inl j), some (.inl r2)]) (st' := [.inl (((16 * r2) + 0) + j), .inr (.inr 55)]) dX8_value_120 rfl ?_
                        refine ev_load (pc' := 122) rfl dX8_value_121 rfl rfl k.1 rfl ?_
                        have k := k.2
                        exact ev_ret dX8_value_122 rfl k
                    · have k := k.2 h22
                      refine ev_cst (v := 4) (pc' := 97) dX8_value_96 (by decide) rfl ?_
                      refine ev_p (pc' := 98) (ls' := [some (.inr (.inr 50)), some (.inl c), some (.inl i), some (.inl j), some (.inl r2)]) (st' := [.inl i, .inl 4, .inl (16 * r2), .inr (.inr 55)]) dX8_value_97 rfl ?_
                      refine ev_p (pc' := 99) (ls' := [some (.inr (.inr 50)), some (.inl c), some (.inl i), some (.inl j), some (.inl r2)]) (st' := [.inl (4 * i), .inl (16 * r2), .inr (.inr 55)]) dX8_value_98 rfl ?_
                      refine ev_go (tgt := 103) dX8_value_99 (by decide) ?_
                      refine ev_p (pc' := 104) (ls' := [some (.inr (.inr 50)), some (.inl c), some (.inl i), some (.inl j), some (.inl r2)]) (st' := [.inl ((16 * r2) + (4 * i)), .inr (.inr 55)]) dX8_value_103 rfl ?_
                      refine ev_p (pc' := 105) (ls' := [some (.inr (.inr 50)), some (.inl c), some (.inl i), some (.inl j), some (.inl r2)]) (st' := [.inr (.inr 50), .inl ((16 * r2) + (4 * i)), .inr (.inr 55)]) dX8_value_104 rfl ?_
                      refine ev_getA (pc' := 108) (z := 51) dX8_value_105 rfl rfl rfl rfl ?_
                      refine ev_p (pc' := 110) (ls' := [some (.inr (.inr 50)), some (.inl c), some (.inl i), some (.inl j), some (.inl r2)]) (st' := [.inl r2, .inr (.inr 51), .inl ((16 * r2) + (4 * i)), .inr (.inr 55)]) dX8_value_108 rfl ?_
                      refine ev_load (pc' := 111) rfl dX8_value_110 rfl rfl k.1 rfl ?_
                      have k := k.2
                      refine ev_cst (v := 1) (pc' := 112) dX8_value_111 (by decide) rfl ?_
                      refine ev_ic_le (tgt := 119) (pc' := 115) dX8_value_112 (by decide) rfl (fun h24 => ?_) (fun h24 => ?_)
                      · have k := k.1 h24
                        refine ev_cst (v := 0) (pc' := 120) dX8_value_119 (by decide) rfl ?_
                        refine ev_p (pc' := 121) (ls' := [some (.inr (.inr 50)), some (.inl c), some (.inl i), some (.inl j), some (.inl r2)]) (st' := [.inl (((16 * r2) + (4 * i)) + 0), .inr (.inr 55)]) dX8_value_120 rfl ?_
                        refine ev_load (pc' := 122) rfl dX8_value_121 rfl rfl k.1 rfl ?_
                        have k := k.2
                        exact ev_ret dX8_value_122 rfl k
                      · have k := k.2 h24
                        refine ev_p (pc' := 116) (ls' := [some (.inr (.inr 50)), some (.inl c), some (.inl i), some (.inl j), some (.inl r2)]) (st' := [.inl j, .inl ((16 * r2) + (4 * i)), .inr (.inr 55)]) dX8_value_115 rfl ?_
                        refine ev_go (tgt := 120) dX8_value_116 (by decide) ?_
                        refine ev_p (pc' := 121) (ls' := [some (.inr (.inr 50)), some (.inl c), some (.inl i), some (.inl j), some (.inl r2)]) (st' := [.inl (((16 * r2) + (4 * i)) + j), .inr (.inr 55)]) dX8_value_120 rfl ?_
                        refine ev_load (pc' := 122) rfl dX8_value_121 rfl rfl k.1 rfl ?_
                        have k := k.2
                        exact ev_ret dX8_value_122 rfl k
                  · have k := k.2 h21
                    refine ev_cst (v := (-1)) (pc' := 76) dX8_value_75 (by decide) rfl ?_
                    exact ev_ret dX8_value_76 rfl k
      · have k := k.2 h3
        refine ev_cst (v := (-1)) (pc' := 29) dX8_value_28 (by decide) rfl ?_
        exact ev_ret dX8_value_29 rfl k
set_option maxRecDepth 20000 in
theorem s_X5_arityOf_0 {σ : ab_M} {Q : Option ab_V → ab_M → Prop} {c : Int32}
    (k : ((c < 0 → Q (some (.inl (-1))) σ) ∧ (¬ c < 0 → ((c < 8 → ab_in c 8 = true ∧ Q (some (.inl (σ 2 c.toNatClampNeg))) σ) ∧ (¬ c < 8 → Q (some (.inl (-1))) σ))))) :
    ev mX5_arityOf 0 [some (.inr (.inr 1)), some (.inl c)] [] σ Q := by
  refine ev_p (pc' := 1) (ls' := [some (.inr (.inr 1)), some (.inl c)]) (st' := [.inl c]) dX5_arityOf_0 rfl ?_
  refine ev_if_lt (tgt := 10) (pc' := 4) dX5_arityOf_1 (by decide) rfl (fun h1 => ?_) (fun h1 => ?_)
  · have k := k.1 h1
    refine ev_cst (v := (-1)) (pc' := 11) dX5_arityOf_10 (by decide) rfl ?_
    refine ev_go (tgt := 20) dX5_arityOf_11 (by decide) ?_
    exact ev_ret dX5_arityOf_20 rfl k
  · have k := k.2 h1
    refine ev_p (pc' := 5) (ls' := [some (.inr (.inr 1)), some (.inl c)]) (st' := [.inl c]) dX5_arityOf_4 rfl ?_
    refine ev_cst (v := 8) (pc' := 7) dX5_arityOf_5 (by decide) rfl ?_
    refine ev_ic_lt (tgt := 14) (pc' := 10) dX5_arityOf_7 (by decide) rfl (fun h2 => ?_) (fun h2 => ?_)
    · have k := k.1 h2
      refine ev_p (pc' := 15) (ls' := [some (.inr (.inr 1)), some (.inl c)]) (st' := [.inr (.inr 1)]) dX5_arityOf_14 rfl ?_
      refine ev_getA (pc' := 18) (z := 2) dX5_arityOf_15 rfl rfl rfl rfl ?_
      refine ev_p (pc' := 19) (ls' := [some (.inr (.inr 1)), some (.inl c)]) (st' := [.inl c, .inr (.inr 2)]) dX5_arityOf_18 rfl ?_
      refine ev_load (pc' := 20) rfl dX5_arityOf_19 rfl rfl k.1 rfl ?_
      have k := k.2
      exact ev_ret dX5_arityOf_20 rfl k
    · have k := k.2 h2
      refine ev_cst (v := (-1)) (pc' := 11) dX5_arityOf_10 (by decide) rfl ?_
      refine ev_go (tgt := 20) dX5_arityOf_11 (by decide) ?_
      exact ev_ret dX5_arityOf_20 rfl k
set_option maxRecDepth 20000 in
theorem s_X7_isArgument_0 {σ : ab_M} {Q : Option ab_V → ab_M → Prop} {i : Int32}
    (k : ((i < 0 → Q (some (.inl 0)) σ) ∧ (¬ i < 0 → (((σ 0 8) ≤ i → Q (some (.inl 0)) σ) ∧ (¬ (σ 0 8) ≤ i → Q (some (.inl 1)) σ))))) :
    ev mX7_isArgument 0 [some (.inr (.inr 0)), some (.inl i)] [] σ Q := by
  refine ev_p (pc' := 1) (ls' := [some (.inr (.inr 0)), some (.inl i)]) (st' := [.inl i]) dX7_isArgument_0 rfl ?_
  refine ev_if_lt (tgt := 16) (pc' := 4) dX7_isArgument_1 (by decide) rfl (fun h1 => ?_) (fun h1 => ?_)
  · have k := k.1 h1
    refine ev_cst (v := 0) (pc' := 17) dX7_isArgument_16 (by decide) rfl ?_
    exact ev_retZ dX7_isArgument_17 rfl rfl k
  · have k := k.2 h1
    refine ev_p (pc' := 5) (ls' := [some (.inr (.inr 0)), some (.inl i)]) (st' := [.inl i]) dX7_isArgument_4 rfl ?_
    refine ev_p (pc' := 6) (ls' := [some (.inr (.inr 0)), some (.inl i)]) (st' := [.inr (.inr 0), .inl i]) dX7_isArgument_5 rfl ?_
    refine ev_getI (pc' := 9) dX7_isArgument_6 rfl rfl rfl rfl ?_
    refine ev_ic_ge (tgt := 16) (pc' := 12) dX7_isArgument_9 (by decide) rfl (fun h2 => ?_) (fun h2 => ?_)
    · have k := k.1 h2
      refine ev_cst (v := 0) (pc' := 17) dX7_isArgument_16 (by decide) rfl ?_
      exact ev_retZ dX7_isArgument_17 rfl rfl k
    · have k := k.2 h2
      refine ev_cst (v := 1) (pc' := 13) dX7_isArgument_12 (by decide) rfl ?_
      refine ev_go (tgt := 17) dX7_isArgument_13 (by decide) ?_
      exact ev_retZ dX7_isArgument_17 rfl rfl k
set_option maxRecDepth 20000 in
theorem s_X6_cellOf_0 {σ : ab_M} {Q : Option ab_V → ab_M → Prop} {c : Int32} {i : Int32} {j : Int32}
    (k : Q (some (.inl ((((c * 4) + i) * 4) + j))) σ) :
    ev mX6_cellOf 0 [some (.inl c), some (.inl i), some (.inl j)] [] σ Q := by
  refine ev_p (pc' := 1) (ls' := [some (.inl c), some (.inl i), some (.inl j)]) (st' := [.inl c]) dX6_cellOf_0 rfl ?_
  refine ev_cst (v := 4) (pc' := 2) dX6_cellOf_1 (by decide) rfl ?_
  refine ev_p (pc' := 3) (ls' := [some (.inl c), some (.inl i), some (.inl j)]) (st' := [.inl (c * 4)]) dX6_cellOf_2 rfl ?_
  refine ev_p (pc' := 4) (ls' := [some (.inl c), some (.inl i), some (.inl j)]) (st' := [.inl i, .inl (c * 4)]) dX6_cellOf_3 rfl ?_
  refine ev_p (pc' := 5) (ls' := [some (.inl c), some (.inl i), some (.inl j)]) (st' := [.inl ((c * 4) + i)]) dX6_cellOf_4 rfl ?_
  refine ev_cst (v := 4) (pc' := 6) dX6_cellOf_5 (by decide) rfl ?_
  refine ev_p (pc' := 7) (ls' := [some (.inl c), some (.inl i), some (.inl j)]) (st' := [.inl (((c * 4) + i) * 4)]) dX6_cellOf_6 rfl ?_
  refine ev_p (pc' := 8) (ls' := [some (.inl c), some (.inl i), some (.inl j)]) (st' := [.inl j, .inl (((c * 4) + i) * 4)]) dX6_cellOf_7 rfl ?_
  refine ev_p (pc' := 9) (ls' := [some (.inl c), some (.inl i), some (.inl j)]) (st' := [.inl ((((c * 4) + i) * 4) + j)]) dX6_cellOf_8 rfl ?_
  exact ev_ret dX6_cellOf_9 rfl k
set_option maxRecDepth 20000 in
theorem s_X6_valueOf_0 {σ : ab_M} {Q : Option ab_V → ab_M → Prop} {c : Int32}
    (k : ((c < 0 → Q (some (.inl (-1))) σ) ∧ (¬ c < 0 → ((c < 128 → ab_in c 128 = true ∧ Q (some (.inl (σ 38 c.toNatClampNeg))) σ) ∧ (¬ c < 128 → Q (some (.inl (-1))) σ))))) :
    ev mX6_valueOf 0 [some (.inr (.inr 37)), some (.inl c)] [] σ Q := by
  refine ev_p (pc' := 1) (ls' := [some (.inr (.inr 37)), some (.inl c)]) (st' := [.inl c]) dX6_valueOf_0 rfl ?_
  refine ev_if_lt (tgt := 11) (pc' := 4) dX6_valueOf_1 (by decide) rfl (fun h1 => ?_) (fun h1 => ?_)
  · have k := k.1 h1
    refine ev_cst (v := (-1)) (pc' := 12) dX6_valueOf_11 (by decide) rfl ?_
    refine ev_go (tgt := 21) dX6_valueOf_12 (by decide) ?_
    exact ev_ret dX6_valueOf_21 rfl k
  · have k := k.2 h1
    refine ev_p (pc' := 5) (ls' := [some (.inr (.inr 37)), some (.inl c)]) (st' := [.inl c]) dX6_valueOf_4 rfl ?_
    refine ev_cst (v := 128) (pc' := 8) dX6_valueOf_5 (by decide) rfl ?_
    refine ev_ic_lt (tgt := 15) (pc' := 11) dX6_valueOf_8 (by decide) rfl (fun h2 => ?_) (fun h2 => ?_)
    · have k := k.1 h2
      refine ev_p (pc' := 16) (ls' := [some (.inr (.inr 37)), some (.inl c)]) (st' := [.inr (.inr 37)]) dX6_valueOf_15 rfl ?_
      refine ev_getA (pc' := 19) (z := 38) dX6_valueOf_16 rfl rfl rfl rfl ?_
      refine ev_p (pc' := 20) (ls' := [some (.inr (.inr 37)), some (.inl c)]) (st' := [.inl c, .inr (.inr 38)]) dX6_valueOf_19 rfl ?_
      refine ev_load (pc' := 21) rfl dX6_valueOf_20 rfl rfl k.1 rfl ?_
      have k := k.2
      exact ev_ret dX6_valueOf_21 rfl k
    · have k := k.2 h2
      refine ev_cst (v := (-1)) (pc' := 12) dX6_valueOf_11 (by decide) rfl ?_
      refine ev_go (tgt := 21) dX6_valueOf_12 (by decide) ?_
      exact ev_ret dX6_valueOf_21 rfl k
set_option maxRecDepth 20000 in
theorem s_X8_symbol_0 {σ : ab_M} {Q : Option ab_V → ab_M → Prop} {c : Int32} {a : Int32}
    (k : evm mX8_symbolOf [.inl c] σ (fun v τ1 => ∃ r2 : Int32, v = some (.inl r2) ∧ ((r2 < 0 → Q (some (.inl 0)) τ1) ∧ (¬ r2 < 0 → ((a < (-1) → Q (some (.inl 0)) τ1) ∧ (¬ a < (-1) → ((a ≤ 2 → ab_in r2 8 = true ∧ Q (some (.inl 1)) (ab_upd (ab_upd (ab_upd τ1 51 r2.toNatClampNeg a) 50 5 0) 50 12 0)) ∧ (¬ a ≤ 2 → Q (some (.inl 0)) τ1)))))))) :
    ev mX8_symbol 0 [some (.inr (.inr 50)), some (.inl c), some (.inl a), none] [] σ Q := by
  refine ev_p (pc' := 1) (ls' := [some (.inr (.inr 50)), some (.inl c), some (.inl a), none]) (st' := [.inl c]) dX8_symbol_0 rfl ?_
  refine ev_call (y := 85) (as := [.inl c]) (r := []) (M' := mX8_symbolOf) (pc' := 4) dX8_symbol_1 rfl rfl ⟨rfl, rfl⟩ rfl k rfl (fun v τ1 hq => ?_)
  obtain ⟨r2, hv, k⟩ := hq
  rw [hv]
  change ev mX8_symbol 4 [some (.inr (.inr 50)), some (.inl c), some (.inl a), none] [.inl r2] τ1 _
  refine ev_p (pc' := 5) (ls' := [some (.inr (.inr 50)), some (.inl c), some (.inl a), some (.inl r2)]) (st' := []) dX8_symbol_4 rfl ?_
  refine ev_p (pc' := 6) (ls' := [some (.inr (.inr 50)), some (.inl c), some (.inl a), some (.inl r2)]) (st' := [.inl r2]) dX8_symbol_5 rfl ?_
  refine ev_if_lt (tgt := 19) (pc' := 9) dX8_symbol_6 (by decide) rfl (fun h1 => ?_) (fun h1 => ?_)
  · have k := k.1 h1
    refine ev_cst (v := 0) (pc' := 20) dX8_symbol_19 (by decide) rfl ?_
    exact ev_retZ dX8_symbol_20 rfl rfl k
  · have k := k.2 h1
    refine ev_p (pc' := 10) (ls' := [some (.inr (.inr 50)), some (.inl c), some (.inl a), some (.inl r2)]) (st' := [.inl a]) dX8_symbol_9 rfl ?_
    refine ev_cst (v := (-1)) (pc' := 11) dX8_symbol_10 (by decide) rfl ?_
    refine ev_ic_lt (tgt := 19) (pc' := 14) dX8_symbol_11 (by decide) rfl (fun h2 => ?_) (fun h2 => ?_)
    · have k := k.1 h2
      refine ev_cst (v := 0) (pc' := 20) dX8_symbol_19 (by decide) rfl ?_
      exact ev_retZ dX8_symbol_20 rfl rfl k
    · have k := k.2 h2
      refine ev_p (pc' := 15) (ls' := [some (.inr (.inr 50)), some (.inl c), some (.inl a), some (.inl r2)]) (st' := [.inl a]) dX8_symbol_14 rfl ?_
      refine ev_cst (v := 2) (pc' := 16) dX8_symbol_15 (by decide) rfl ?_
      refine ev_ic_le (tgt := 21) (pc' := 19) dX8_symbol_16 (by decide) rfl (fun h3 => ?_) (fun h3 => ?_)
      · have k := k.1 h3
        refine ev_p (pc' := 22) (ls' := [some (.inr (.inr 50)), some (.inl c), some (.inl a), some (.inl r2)]) (st' := [.inr (.inr 50)]) dX8_symbol_21 rfl ?_
        refine ev_getA (pc' := 25) (z := 51) dX8_symbol_22 rfl rfl rfl rfl ?_
        refine ev_p (pc' := 26) (ls' := [some (.inr (.inr 50)), some (.inl c), some (.inl a), some (.inl r2)]) (st' := [.inl r2, .inr (.inr 51)]) dX8_symbol_25 rfl ?_
        refine ev_p (pc' := 27) (ls' := [some (.inr (.inr 50)), some (.inl c), some (.inl a), some (.inl r2)]) (st' := [.inl a, .inl r2, .inr (.inr 51)]) dX8_symbol_26 rfl ?_
        refine ev_stor (pc' := 28) (z := a) rfl dX8_symbol_27 rfl rfl k.1 rfl rfl ?_
        have k := k.2
        refine ev_p (pc' := 29) (ls' := [some (.inr (.inr 50)), some (.inl c), some (.inl a), some (.inl r2)]) (st' := [.inr (.inr 50)]) dX8_symbol_28 rfl ?_
        refine ev_cst (v := 0) (pc' := 30) dX8_symbol_29 (by decide) rfl ?_
        refine ev_putI (pc' := 33) dX8_symbol_30 rfl rfl rfl rfl rfl rfl ?_
        refine ev_p (pc' := 34) (ls' := [some (.inr (.inr 50)), some (.inl c), some (.inl a), some (.inl r2)]) (st' := [.inr (.inr 50)]) dX8_symbol_33 rfl ?_
        refine ev_cst (v := 0) (pc' := 35) dX8_symbol_34 (by decide) rfl ?_
        refine ev_putI (pc' := 38) dX8_symbol_35 rfl rfl rfl rfl rfl rfl ?_
        refine ev_cst (v := 1) (pc' := 39) dX8_symbol_38 (by decide) rfl ?_
        exact ev_retZ dX8_symbol_39 rfl rfl k
      · have k := k.2 h3
        refine ev_cst (v := 0) (pc' := 20) dX8_symbol_19 (by decide) rfl ?_
        exact ev_retZ dX8_symbol_20 rfl rfl k
