theorem dX7_symbol_0 : decode (me_b mX7_symbol) 0 = .ok (.iload_n 1, 1) := by decide +kernel
theorem dX7_symbol_1 : decode (me_b mX7_symbol) 1 = .ok (.invokestatic 74, 3) := by decide +kernel
theorem dX7_symbol_4 : decode (me_b mX7_symbol) 4 = .ok (.istore_n 3, 1) := by decide +kernel
theorem dX7_symbol_5 : decode (me_b mX7_symbol) 5 = .ok (.iload_n 3, 1) := by decide +kernel
theorem dX7_symbol_6 : decode (me_b mX7_symbol) 6 = .ok (.ifCond .lt 19, 3) := by decide +kernel
theorem dX7_symbol_9 : decode (me_b mX7_symbol) 9 = .ok (.iload_n 3, 1) := by decide +kernel
theorem dX7_symbol_10 : decode (me_b mX7_symbol) 10 = .ok (.bipush 8, 2) := by decide +kernel
theorem dX7_symbol_12 : decode (me_b mX7_symbol) 12 = .ok (.if_icmp .ge 13, 3) := by decide +kernel
theorem dX7_symbol_15 : decode (me_b mX7_symbol) 15 = .ok (.iload_n 2, 1) := by decide +kernel
theorem dX7_symbol_16 : decode (me_b mX7_symbol) 16 = .ok (.iconst (-1), 1) := by decide +kernel
theorem dX7_symbol_17 : decode (me_b mX7_symbol) 17 = .ok (.if_icmp .lt 8, 3) := by decide +kernel
theorem dX7_symbol_20 : decode (me_b mX7_symbol) 20 = .ok (.iload_n 2, 1) := by decide +kernel
theorem dX7_symbol_21 : decode (me_b mX7_symbol) 21 = .ok (.iconst 2, 1) := by decide +kernel
theorem dX7_symbol_22 : decode (me_b mX7_symbol) 22 = .ok (.if_icmp .le 5, 3) := by decide +kernel
theorem dX7_symbol_25 : decode (me_b mX7_symbol) 25 = .ok (.iconst 0, 1) := by decide +kernel
theorem dX7_symbol_26 : decode (me_b mX7_symbol) 26 = .ok (.ireturn, 1) := by decide +kernel
theorem dX7_symbol_27 : decode (me_b mX7_symbol) 27 = .ok (.aload_n 0, 1) := by decide +kernel
theorem dX7_symbol_28 : decode (me_b mX7_symbol) 28 = .ok (.getfield 12, 3) := by decide +kernel
theorem dX7_symbol_31 : decode (me_b mX7_symbol) 31 = .ok (.iload_n 3, 1) := by decide +kernel
theorem dX7_symbol_32 : decode (me_b mX7_symbol) 32 = .ok (.iload_n 2, 1) := by decide +kernel
theorem dX7_symbol_33 : decode (me_b mX7_symbol) 33 = .ok (.invokevirtual 78, 3) := by decide +kernel
theorem dX7_symbol_36 : decode (me_b mX7_symbol) 36 = .ok (.aload_n 0, 1) := by decide +kernel
theorem dX7_symbol_37 : decode (me_b mX7_symbol) 37 = .ok (.getfield 26, 3) := by decide +kernel
theorem dX7_symbol_40 : decode (me_b mX7_symbol) 40 = .ok (.invokevirtual 82, 3) := by decide +kernel
theorem dX7_symbol_43 : decode (me_b mX7_symbol) 43 = .ok (.aload_n 0, 1) := by decide +kernel
theorem dX7_symbol_44 : decode (me_b mX7_symbol) 44 = .ok (.iconst 0, 1) := by decide +kernel
theorem dX7_symbol_45 : decode (me_b mX7_symbol) 45 = .ok (.putfield 66, 3) := by decide +kernel
theorem dX7_symbol_48 : decode (me_b mX7_symbol) 48 = .ok (.iconst 1, 1) := by decide +kernel
theorem dX7_symbol_49 : decode (me_b mX7_symbol) 49 = .ok (.ireturn, 1) := by decide +kernel
theorem dX7_type_0 : decode (me_b mX7_type) 0 = .ok (.iload_n 3, 1) := by decide +kernel
theorem dX7_type_1 : decode (me_b mX7_type) 1 = .ok (.iconst 1, 1) := by decide +kernel
theorem dX7_type_2 : decode (me_b mX7_type) 2 = .ok (.if_icmp .lt 17, 3) := by decide +kernel
theorem dX7_type_5 : decode (me_b mX7_type) 5 = .ok (.iload_n 3, 1) := by decide +kernel
theorem dX7_type_6 : decode (me_b mX7_type) 6 = .ok (.bipush 8, 2) := by decide +kernel
theorem dX7_type_8 : decode (me_b mX7_type) 8 = .ok (.if_icmp .gt 11, 3) := by decide +kernel
theorem dX7_type_11 : decode (me_b mX7_type) 11 = .ok (.lload_n 1, 1) := by decide +kernel
theorem dX7_type_12 : decode (me_b mX7_type) 12 = .ok (.iload_n 3, 1) := by decide +kernel
theorem dX7_type_13 : decode (me_b mX7_type) 13 = .ok (.invokestatic 85, 3) := by decide +kernel
theorem dX7_type_16 : decode (me_b mX7_type) 16 = .ok (.ifCond .ne 5, 3) := by decide +kernel
theorem dX7_type_19 : decode (me_b mX7_type) 19 = .ok (.iconst (-1), 1) := by decide +kernel
theorem dX7_type_20 : decode (me_b mX7_type) 20 = .ok (.ireturn, 1) := by decide +kernel
theorem dX7_type_21 : decode (me_b mX7_type) 21 = .ok (.aload_n 0, 1) := by decide +kernel
theorem dX7_type_22 : decode (me_b mX7_type) 22 = .ok (.getfield 19, 3) := by decide +kernel
theorem dX7_type_25 : decode (me_b mX7_type) 25 = .ok (.iload_n 3, 1) := by decide +kernel
theorem dX7_type_26 : decode (me_b mX7_type) 26 = .ok (.invokevirtual 89, 3) := by decide +kernel
theorem dX7_type_29 : decode (me_b mX7_type) 29 = .ok (.ifCond .ne 6, 3) := by decide +kernel
theorem dX7_type_32 : decode (me_b mX7_type) 32 = .ok (.bipush (-3), 2) := by decide +kernel
theorem dX7_type_34 : decode (me_b mX7_type) 34 = .ok (.ireturn, 1) := by decide +kernel
theorem dX7_type_35 : decode (me_b mX7_type) 35 = .ok (.iload_n 3, 1) := by decide +kernel
theorem dX7_type_36 : decode (me_b mX7_type) 36 = .ok (.iconst 1, 1) := by decide +kernel
theorem dX7_type_37 : decode (me_b mX7_type) 37 = .ok (.isub, 1) := by decide +kernel
theorem dX7_type_38 : decode (me_b mX7_type) 38 = .ok (.istore 4, 2) := by decide +kernel
theorem dX7_type_40 : decode (me_b mX7_type) 40 = .ok (.iload 4, 2) := by decide +kernel
theorem dX7_type_42 : decode (me_b mX7_type) 42 = .ok (.ifCond .lt 22, 3) := by decide +kernel
theorem dX7_type_45 : decode (me_b mX7_type) 45 = .ok (.aload_n 0, 1) := by decide +kernel
theorem dX7_type_46 : decode (me_b mX7_type) 46 = .ok (.getfield 19, 3) := by decide +kernel
theorem dX7_type_49 : decode (me_b mX7_type) 49 = .ok (.lload_n 1, 1) := by decide +kernel
theorem dX7_type_50 : decode (me_b mX7_type) 50 = .ok (.iload 4, 2) := by decide +kernel
theorem dX7_type_52 : decode (me_b mX7_type) 52 = .ok (.invokestatic 93, 3) := by decide +kernel
theorem dX7_type_55 : decode (me_b mX7_type) 55 = .ok (.invokevirtual 97, 3) := by decide +kernel
theorem dX7_type_58 : decode (me_b mX7_type) 58 = .ok (.iinc 4 (-1), 3) := by decide +kernel
theorem dX7_type_61 : decode (me_b mX7_type) 61 = .ok (.goto (-21), 3) := by decide +kernel
theorem dX7_type_64 : decode (me_b mX7_type) 64 = .ok (.aload_n 0, 1) := by decide +kernel
theorem dX7_type_65 : decode (me_b mX7_type) 65 = .ok (.getfield 19, 3) := by decide +kernel
theorem dX7_type_68 : decode (me_b mX7_type) 68 = .ok (.invokevirtual 101, 3) := by decide +kernel
theorem dX7_type_71 : decode (me_b mX7_type) 71 = .ok (.ireturn, 1) := by decide +kernel
theorem dX7_clause_0 : decode (me_b mX7_clause) 0 = .ok (.aload_n 0, 1) := by decide +kernel
theorem dX7_clause_1 : decode (me_b mX7_clause) 1 = .ok (.getfield 26, 3) := by decide +kernel
theorem dX7_clause_4 : decode (me_b mX7_clause) 4 = .ok (.invokevirtual 105, 3) := by decide +kernel
theorem dX7_clause_7 : decode (me_b mX7_clause) 7 = .ok (.aload_n 0, 1) := by decide +kernel
theorem dX7_clause_8 : decode (me_b mX7_clause) 8 = .ok (.getfield 19, 3) := by decide +kernel
theorem dX7_clause_11 : decode (me_b mX7_clause) 11 = .ok (.aload_n 0, 1) := by decide +kernel
theorem dX7_clause_12 : decode (me_b mX7_clause) 12 = .ok (.getfield 12, 3) := by decide +kernel
theorem dX7_clause_15 : decode (me_b mX7_clause) 15 = .ok (.invokevirtual 109, 3) := by decide +kernel
theorem dX7_clause_18 : decode (me_b mX7_clause) 18 = .ok (.istore_n 1, 1) := by decide +kernel
theorem dX7_clause_19 : decode (me_b mX7_clause) 19 = .ok (.aload_n 0, 1) := by decide +kernel
theorem dX7_clause_20 : decode (me_b mX7_clause) 20 = .ok (.getfield 19, 3) := by decide +kernel
theorem dX7_clause_23 : decode (me_b mX7_clause) 23 = .ok (.invokevirtual 113, 3) := by decide +kernel
theorem dX7_clause_26 : decode (me_b mX7_clause) 26 = .ok (.iload_n 1, 1) := by decide +kernel
theorem dX7_clause_27 : decode (me_b mX7_clause) 27 = .ok (.iconst (-1), 1) := by decide +kernel
theorem dX7_clause_28 : decode (me_b mX7_clause) 28 = .ok (.if_icmp .eq 8, 3) := by decide +kernel
theorem dX7_clause_31 : decode (me_b mX7_clause) 31 = .ok (.bipush (-100), 2) := by decide +kernel
theorem dX7_clause_33 : decode (me_b mX7_clause) 33 = .ok (.iload_n 1, 1) := by decide +kernel
theorem dX7_clause_34 : decode (me_b mX7_clause) 34 = .ok (.isub, 1) := by decide +kernel
theorem dX7_clause_35 : decode (me_b mX7_clause) 35 = .ok (.ireturn, 1) := by decide +kernel
theorem dX7_clause_36 : decode (me_b mX7_clause) 36 = .ok (.aload_n 0, 1) := by decide +kernel
theorem dX7_clause_37 : decode (me_b mX7_clause) 37 = .ok (.getfield 26, 3) := by decide +kernel
theorem dX7_clause_40 : decode (me_b mX7_clause) 40 = .ok (.invokevirtual 116, 3) := by decide +kernel
theorem dX7_clause_43 : decode (me_b mX7_clause) 43 = .ok (.ifCond .eq 6, 3) := by decide +kernel
theorem dX7_clause_46 : decode (me_b mX7_clause) 46 = .ok (.bipush (-3), 2) := by decide +kernel
theorem dX7_clause_48 : decode (me_b mX7_clause) 48 = .ok (.ireturn, 1) := by decide +kernel
theorem dX7_clause_49 : decode (me_b mX7_clause) 49 = .ok (.aload_n 0, 1) := by decide +kernel
theorem dX7_clause_50 : decode (me_b mX7_clause) 50 = .ok (.iconst 1, 1) := by decide +kernel
theorem dX7_clause_51 : decode (me_b mX7_clause) 51 = .ok (.putfield 70, 3) := by decide +kernel
theorem dX7_clause_54 : decode (me_b mX7_clause) 54 = .ok (.aload_n 0, 1) := by decide +kernel
theorem dX7_clause_55 : decode (me_b mX7_clause) 55 = .ok (.getfield 26, 3) := by decide +kernel
theorem dX7_clause_58 : decode (me_b mX7_clause) 58 = .ok (.invokevirtual 120, 3) := by decide +kernel
theorem dX7_clause_61 : decode (me_b mX7_clause) 61 = .ok (.ireturn, 1) := by decide +kernel
theorem dX7_drop_0 : decode (me_b mX7_drop) 0 = .ok (.aload_n 0, 1) := by decide +kernel
theorem dX7_drop_1 : decode (me_b mX7_drop) 1 = .ok (.getfield 26, 3) := by decide +kernel
theorem dX7_drop_4 : decode (me_b mX7_drop) 4 = .ok (.invokevirtual 123, 3) := by decide +kernel
theorem dX7_drop_7 : decode (me_b mX7_drop) 7 = .ok (.ifCond .ne 6, 3) := by decide +kernel
theorem dX7_drop_10 : decode (me_b mX7_drop) 10 = .ok (.bipush (-2), 2) := by decide +kernel
theorem dX7_drop_12 : decode (me_b mX7_drop) 12 = .ok (.ireturn, 1) := by decide +kernel
theorem dX7_drop_13 : decode (me_b mX7_drop) 13 = .ok (.aload_n 0, 1) := by decide +kernel
theorem dX7_drop_14 : decode (me_b mX7_drop) 14 = .ok (.iconst 1, 1) := by decide +kernel
theorem dX7_drop_15 : decode (me_b mX7_drop) 15 = .ok (.putfield 70, 3) := by decide +kernel
theorem dX7_drop_18 : decode (me_b mX7_drop) 18 = .ok (.aload_n 0, 1) := by decide +kernel
theorem dX7_drop_19 : decode (me_b mX7_drop) 19 = .ok (.getfield 26, 3) := by decide +kernel
theorem dX7_drop_22 : decode (me_b mX7_drop) 22 = .ok (.invokevirtual 126, 3) := by decide +kernel
theorem dX7_drop_25 : decode (me_b mX7_drop) 25 = .ok (.ireturn, 1) := by decide +kernel
theorem dX7_find_0 : decode (me_b mX7_find) 0 = .ok (.aload_n 0, 1) := by decide +kernel
theorem dX7_find_1 : decode (me_b mX7_find) 1 = .ok (.getfield 58, 3) := by decide +kernel
theorem dX7_find_4 : decode (me_b mX7_find) 4 = .ok (.invokevirtual 129, 3) := by decide +kernel
theorem dX7_find_7 : decode (me_b mX7_find) 7 = .ok (.iload_n 1, 1) := by decide +kernel
theorem dX7_find_8 : decode (me_b mX7_find) 8 = .ok (.iconst 1, 1) := by decide +kernel
theorem dX7_find_9 : decode (me_b mX7_find) 9 = .ok (.if_icmp .lt 8, 3) := by decide +kernel
theorem dX7_find_12 : decode (me_b mX7_find) 12 = .ok (.iload_n 1, 1) := by decide +kernel
theorem dX7_find_13 : decode (me_b mX7_find) 13 = .ok (.iconst 4, 1) := by decide +kernel
theorem dX7_find_14 : decode (me_b mX7_find) 14 = .ok (.if_icmp .le 5, 3) := by decide +kernel
theorem dX7_find_17 : decode (me_b mX7_find) 17 = .ok (.iconst (-1), 1) := by decide +kernel
theorem dX7_find_18 : decode (me_b mX7_find) 18 = .ok (.ireturn, 1) := by decide +kernel
theorem dX7_find_19 : decode (me_b mX7_find) 19 = .ok (.aload_n 0, 1) := by decide +kernel
theorem dX7_find_20 : decode (me_b mX7_find) 20 = .ok (.iconst 0, 1) := by decide +kernel
theorem dX7_find_21 : decode (me_b mX7_find) 21 = .ok (.putfield 66, 3) := by decide +kernel
theorem dX7_find_24 : decode (me_b mX7_find) 24 = .ok (.iconst 1, 1) := by decide +kernel
theorem dX7_find_25 : decode (me_b mX7_find) 25 = .ok (.istore_n 2, 1) := by decide +kernel
theorem dX7_find_26 : decode (me_b mX7_find) 26 = .ok (.iload_n 2, 1) := by decide +kernel
theorem dX7_find_27 : decode (me_b mX7_find) 27 = .ok (.iload_n 1, 1) := by decide +kernel
theorem dX7_find_28 : decode (me_b mX7_find) 28 = .ok (.if_icmp .gt 48, 3) := by decide +kernel
theorem dX7_find_31 : decode (me_b mX7_find) 31 = .ok (.aload_n 0, 1) := by decide +kernel
theorem dX7_find_32 : decode (me_b mX7_find) 32 = .ok (.getfield 58, 3) := by decide +kernel
theorem dX7_find_35 : decode (me_b mX7_find) 35 = .ok (.iload_n 2, 1) := by decide +kernel
theorem dX7_find_36 : decode (me_b mX7_find) 36 = .ok (.aload_n 0, 1) := by decide +kernel
theorem dX7_find_37 : decode (me_b mX7_find) 37 = .ok (.getfield 12, 3) := by decide +kernel
theorem dX7_find_40 : decode (me_b mX7_find) 40 = .ok (.invokevirtual 132, 3) := by decide +kernel
theorem dX7_find_43 : decode (me_b mX7_find) 43 = .ok (.istore_n 3, 1) := by decide +kernel
theorem dX7_find_44 : decode (me_b mX7_find) 44 = .ok (.iload_n 3, 1) := by decide +kernel
theorem dX7_find_45 : decode (me_b mX7_find) 45 = .ok (.bipush (-4), 2) := by decide +kernel
theorem dX7_find_47 : decode (me_b mX7_find) 47 = .ok (.if_icmp .ne 6, 3) := by decide +kernel
theorem dX7_find_50 : decode (me_b mX7_find) 50 = .ok (.bipush (-4), 2) := by decide +kernel
theorem dX7_find_52 : decode (me_b mX7_find) 52 = .ok (.ireturn, 1) := by decide +kernel
theorem dX7_find_53 : decode (me_b mX7_find) 53 = .ok (.iload_n 3, 1) := by decide +kernel
theorem dX7_find_54 : decode (me_b mX7_find) 54 = .ok (.iconst 1, 1) := by decide +kernel
theorem dX7_find_55 : decode (me_b mX7_find) 55 = .ok (.if_icmp .ne 15, 3) := by decide +kernel
theorem dX7_find_58 : decode (me_b mX7_find) 58 = .ok (.aload_n 0, 1) := by decide +kernel
theorem dX7_find_59 : decode (me_b mX7_find) 59 = .ok (.iload_n 2, 1) := by decide +kernel
theorem dX7_find_60 : decode (me_b mX7_find) 60 = .ok (.putfield 66, 3) := by decide +kernel
theorem dX7_find_63 : decode (me_b mX7_find) 63 = .ok (.aload_n 0, 1) := by decide +kernel
theorem dX7_find_64 : decode (me_b mX7_find) 64 = .ok (.iconst 0, 1) := by decide +kernel
theorem dX7_find_65 : decode (me_b mX7_find) 65 = .ok (.putfield 70, 3) := by decide +kernel
theorem dX7_find_68 : decode (me_b mX7_find) 68 = .ok (.iload_n 2, 1) := by decide +kernel
theorem dX7_find_69 : decode (me_b mX7_find) 69 = .ok (.ireturn, 1) := by decide +kernel
theorem dX7_find_70 : decode (me_b mX7_find) 70 = .ok (.iinc 2 1, 3) := by decide +kernel
theorem dX7_find_73 : decode (me_b mX7_find) 73 = .ok (.goto (-47), 3) := by decide +kernel
theorem dX7_find_76 : decode (me_b mX7_find) 76 = .ok (.iconst 0, 1) := by decide +kernel
theorem dX7_find_77 : decode (me_b mX7_find) 77 = .ok (.ireturn, 1) := by decide +kernel
theorem dX7_more_0 : decode (me_b mX7_more) 0 = .ok (.aload_n 0, 1) := by decide +kernel
theorem dX7_more_1 : decode (me_b mX7_more) 1 = .ok (.getfield 58, 3) := by decide +kernel
theorem dX7_more_4 : decode (me_b mX7_more) 4 = .ok (.invokevirtual 129, 3) := by decide +kernel
theorem dX7_more_7 : decode (me_b mX7_more) 7 = .ok (.aload_n 0, 1) := by decide +kernel
theorem dX7_more_8 : decode (me_b mX7_more) 8 = .ok (.getfield 66, 3) := by decide +kernel
theorem dX7_more_11 : decode (me_b mX7_more) 11 = .ok (.ifCond .eq 10, 3) := by decide +kernel
theorem dX7_more_14 : decode (me_b mX7_more) 14 = .ok (.aload_n 0, 1) := by decide +kernel
theorem dX7_more_15 : decode (me_b mX7_more) 15 = .ok (.getfield 70, 3) := by decide +kernel
theorem dX7_more_18 : decode (me_b mX7_more) 18 = .ok (.ifCond .eq 6, 3) := by decide +kernel
theorem dX7_more_21 : decode (me_b mX7_more) 21 = .ok (.bipush (-2), 2) := by decide +kernel
theorem dX7_more_23 : decode (me_b mX7_more) 23 = .ok (.ireturn, 1) := by decide +kernel
theorem dX7_more_24 : decode (me_b mX7_more) 24 = .ok (.aload_n 0, 1) := by decide +kernel
theorem dX7_more_25 : decode (me_b mX7_more) 25 = .ok (.getfield 58, 3) := by decide +kernel
theorem dX7_more_28 : decode (me_b mX7_more) 28 = .ok (.invokevirtual 136, 3) := by decide +kernel
theorem dX7_more_31 : decode (me_b mX7_more) 31 = .ok (.istore_n 1, 1) := by decide +kernel
theorem dX7_more_32 : decode (me_b mX7_more) 32 = .ok (.iload_n 1, 1) := by decide +kernel
theorem dX7_more_33 : decode (me_b mX7_more) 33 = .ok (.iconst 1, 1) := by decide +kernel
theorem dX7_more_34 : decode (me_b mX7_more) 34 = .ok (.if_icmp .eq 8, 3) := by decide +kernel
theorem dX7_more_37 : decode (me_b mX7_more) 37 = .ok (.aload_n 0, 1) := by decide +kernel
theorem dX7_more_38 : decode (me_b mX7_more) 38 = .ok (.iconst 0, 1) := by decide +kernel
theorem dX7_more_39 : decode (me_b mX7_more) 39 = .ok (.putfield 66, 3) := by decide +kernel
theorem dX7_more_42 : decode (me_b mX7_more) 42 = .ok (.iload_n 1, 1) := by decide +kernel
theorem dX7_more_43 : decode (me_b mX7_more) 43 = .ok (.ireturn, 1) := by decide +kernel
theorem dX7_size_0 : decode (me_b mX7_size) 0 = .ok (.aload_n 0, 1) := by decide +kernel
theorem dX7_size_1 : decode (me_b mX7_size) 1 = .ok (.getfield 66, 3) := by decide +kernel
theorem dX7_size_4 : decode (me_b mX7_size) 4 = .ok (.ireturn, 1) := by decide +kernel
theorem dX7_value_0 : decode (me_b mX7_value) 0 = .ok (.iload_n 1, 1) := by decide +kernel
theorem dX7_value_1 : decode (me_b mX7_value) 1 = .ok (.invokestatic 74, 3) := by decide +kernel
theorem dX7_value_4 : decode (me_b mX7_value) 4 = .ok (.istore 4, 2) := by decide +kernel
theorem dX7_value_6 : decode (me_b mX7_value) 6 = .ok (.aload_n 0, 1) := by decide +kernel
theorem dX7_value_7 : decode (me_b mX7_value) 7 = .ok (.getfield 12, 3) := by decide +kernel
theorem dX7_value_10 : decode (me_b mX7_value) 10 = .ok (.iload 4, 2) := by decide +kernel
theorem dX7_value_12 : decode (me_b mX7_value) 12 = .ok (.invokevirtual 139, 3) := by decide +kernel
theorem dX7_value_15 : decode (me_b mX7_value) 15 = .ok (.istore 5, 2) := by decide +kernel
theorem dX7_value_17 : decode (me_b mX7_value) 17 = .ok (.aload_n 0, 1) := by decide +kernel
theorem dX7_value_18 : decode (me_b mX7_value) 18 = .ok (.getfield 66, 3) := by decide +kernel
theorem dX7_value_21 : decode (me_b mX7_value) 21 = .ok (.ifCond .eq 9, 3) := by decide +kernel
theorem dX7_value_24 : decode (me_b mX7_value) 24 = .ok (.iload 5, 2) := by decide +kernel
theorem dX7_value_26 : decode (me_b mX7_value) 26 = .ok (.iconst (-1), 1) := by decide +kernel
theorem dX7_value_27 : decode (me_b mX7_value) 27 = .ok (.if_icmp .ne 5, 3) := by decide +kernel
theorem dX7_value_30 : decode (me_b mX7_value) 30 = .ok (.iconst (-1), 1) := by decide +kernel
theorem dX7_value_31 : decode (me_b mX7_value) 31 = .ok (.ireturn, 1) := by decide +kernel
theorem dX7_value_32 : decode (me_b mX7_value) 32 = .ok (.iload 5, 2) := by decide +kernel
theorem dX7_value_34 : decode (me_b mX7_value) 34 = .ok (.iconst 1, 1) := by decide +kernel
theorem dX7_value_35 : decode (me_b mX7_value) 35 = .ok (.if_icmp .lt 7, 3) := by decide +kernel
theorem dX7_value_38 : decode (me_b mX7_value) 38 = .ok (.iload_n 2, 1) := by decide +kernel
theorem dX7_value_39 : decode (me_b mX7_value) 39 = .ok (.goto 4, 3) := by decide +kernel
theorem dX7_value_42 : decode (me_b mX7_value) 42 = .ok (.iconst 0, 1) := by decide +kernel
theorem dX7_value_43 : decode (me_b mX7_value) 43 = .ok (.istore 6, 2) := by decide +kernel
theorem dX7_value_45 : decode (me_b mX7_value) 45 = .ok (.iload 5, 2) := by decide +kernel
theorem dX7_value_47 : decode (me_b mX7_value) 47 = .ok (.iconst 2, 1) := by decide +kernel
theorem dX7_value_48 : decode (me_b mX7_value) 48 = .ok (.if_icmp .lt 7, 3) := by decide +kernel
theorem dX7_value_51 : decode (me_b mX7_value) 51 = .ok (.iload_n 3, 1) := by decide +kernel
theorem dX7_value_52 : decode (me_b mX7_value) 52 = .ok (.goto 4, 3) := by decide +kernel
theorem dX7_value_55 : decode (me_b mX7_value) 55 = .ok (.iconst 0, 1) := by decide +kernel
theorem dX7_value_56 : decode (me_b mX7_value) 56 = .ok (.istore 7, 2) := by decide +kernel
theorem dX7_value_58 : decode (me_b mX7_value) 58 = .ok (.aload_n 0, 1) := by decide +kernel
theorem dX7_value_59 : decode (me_b mX7_value) 59 = .ok (.iload 6, 2) := by decide +kernel
theorem dX7_value_61 : decode (me_b mX7_value) 61 = .ok (.invokevirtual 143, 3) := by decide +kernel
theorem dX7_value_64 : decode (me_b mX7_value) 64 = .ok (.ifCond .eq 12, 3) := by decide +kernel
theorem dX7_value_67 : decode (me_b mX7_value) 67 = .ok (.aload_n 0, 1) := by decide +kernel
theorem dX7_value_68 : decode (me_b mX7_value) 68 = .ok (.iload 7, 2) := by decide +kernel
theorem dX7_value_70 : decode (me_b mX7_value) 70 = .ok (.invokevirtual 143, 3) := by decide +kernel
theorem dX7_value_73 : decode (me_b mX7_value) 73 = .ok (.ifCond .ne 5, 3) := by decide +kernel
theorem dX7_value_76 : decode (me_b mX7_value) 76 = .ok (.iconst (-1), 1) := by decide +kernel
theorem dX7_value_77 : decode (me_b mX7_value) 77 = .ok (.ireturn, 1) := by decide +kernel
theorem dX7_value_78 : decode (me_b mX7_value) 78 = .ok (.aload_n 0, 1) := by decide +kernel
theorem dX7_value_79 : decode (me_b mX7_value) 79 = .ok (.getfield 40, 3) := by decide +kernel
theorem dX7_value_82 : decode (me_b mX7_value) 82 = .ok (.iload 4, 2) := by decide +kernel
theorem dX7_value_84 : decode (me_b mX7_value) 84 = .ok (.iload 6, 2) := by decide +kernel
theorem dX7_value_86 : decode (me_b mX7_value) 86 = .ok (.iload 7, 2) := by decide +kernel
theorem dX7_value_88 : decode (me_b mX7_value) 88 = .ok (.invokestatic 146, 3) := by decide +kernel
theorem dX7_value_91 : decode (me_b mX7_value) 91 = .ok (.invokevirtual 150, 3) := by decide +kernel
theorem dX7_value_94 : decode (me_b mX7_value) 94 = .ok (.ireturn, 1) := by decide +kernel
theorem dX7_tries_0 : decode (me_b mX7_tries) 0 = .ok (.aload_n 0, 1) := by decide +kernel
theorem dX7_tries_1 : decode (me_b mX7_tries) 1 = .ok (.getfield 58, 3) := by decide +kernel
theorem dX7_tries_4 : decode (me_b mX7_tries) 4 = .ok (.invokevirtual 153, 3) := by decide +kernel
theorem dX7_tries_7 : decode (me_b mX7_tries) 7 = .ok (.ireturn, 1) := by decide +kernel
theorem dX7_check_0 : decode (me_b mX7_check) 0 = .ok (.aload_n 0, 1) := by decide +kernel
theorem dX7_check_1 : decode (me_b mX7_check) 1 = .ok (.getfield 33, 3) := by decide +kernel
theorem dX7_check_4 : decode (me_b mX7_check) 4 = .ok (.aload_n 0, 1) := by decide +kernel
theorem dX7_check_5 : decode (me_b mX7_check) 5 = .ok (.getfield 19, 3) := by decide +kernel
theorem dX7_check_8 : decode (me_b mX7_check) 8 = .ok (.aload_n 0, 1) := by decide +kernel
theorem dX7_check_9 : decode (me_b mX7_check) 9 = .ok (.getfield 12, 3) := by decide +kernel
theorem dX7_check_12 : decode (me_b mX7_check) 12 = .ok (.invokevirtual 109, 3) := by decide +kernel
theorem dX7_check_15 : decode (me_b mX7_check) 15 = .ok (.istore_n 1, 1) := by decide +kernel
theorem dX7_check_16 : decode (me_b mX7_check) 16 = .ok (.aload_n 0, 1) := by decide +kernel
theorem dX7_check_17 : decode (me_b mX7_check) 17 = .ok (.getfield 19, 3) := by decide +kernel
theorem dX7_check_20 : decode (me_b mX7_check) 20 = .ok (.invokevirtual 113, 3) := by decide +kernel
theorem dX7_check_23 : decode (me_b mX7_check) 23 = .ok (.iload_n 1, 1) := by decide +kernel
theorem dX7_check_24 : decode (me_b mX7_check) 24 = .ok (.iconst (-1), 1) := by decide +kernel
theorem dX7_check_25 : decode (me_b mX7_check) 25 = .ok (.if_icmp .eq 8, 3) := by decide +kernel
theorem dX7_check_28 : decode (me_b mX7_check) 28 = .ok (.bipush (-100), 2) := by decide +kernel
theorem dX7_check_30 : decode (me_b mX7_check) 30 = .ok (.iload_n 1, 1) := by decide +kernel
theorem dX7_check_31 : decode (me_b mX7_check) 31 = .ok (.isub, 1) := by decide +kernel
theorem dX7_check_32 : decode (me_b mX7_check) 32 = .ok (.ireturn, 1) := by decide +kernel
theorem dX7_check_33 : decode (me_b mX7_check) 33 = .ok (.aload_n 0, 1) := by decide +kernel
theorem dX7_check_34 : decode (me_b mX7_check) 34 = .ok (.getfield 66, 3) := by decide +kernel
theorem dX7_check_37 : decode (me_b mX7_check) 37 = .ok (.ifCond .ne 6, 3) := by decide +kernel
theorem dX7_check_40 : decode (me_b mX7_check) 40 = .ok (.bipush (-2), 2) := by decide +kernel
theorem dX7_check_42 : decode (me_b mX7_check) 42 = .ok (.ireturn, 1) := by decide +kernel
theorem dX7_check_43 : decode (me_b mX7_check) 43 = .ok (.aload_n 0, 1) := by decide +kernel
theorem dX7_check_44 : decode (me_b mX7_check) 44 = .ok (.invokevirtual 156, 3) := by decide +kernel
theorem dX7_check_47 : decode (me_b mX7_check) 47 = .ok (.ifCond .eq 7, 3) := by decide +kernel
theorem dX7_check_50 : decode (me_b mX7_check) 50 = .ok (.iconst 1, 1) := by decide +kernel
theorem dX7_check_51 : decode (me_b mX7_check) 51 = .ok (.goto 4, 3) := by decide +kernel
theorem dX7_check_54 : decode (me_b mX7_check) 54 = .ok (.iconst 0, 1) := by decide +kernel
theorem dX7_check_55 : decode (me_b mX7_check) 55 = .ok (.ireturn, 1) := by decide +kernel
theorem dX7_caseOf_0 : decode (me_b mX7_caseOf) 0 = .ok (.iload_n 1, 1) := by decide +kernel
theorem dX7_caseOf_1 : decode (me_b mX7_caseOf) 1 = .ok (.ifCond .lt 8, 3) := by decide +kernel
theorem dX7_caseOf_4 : decode (me_b mX7_caseOf) 4 = .ok (.iload_n 1, 1) := by decide +kernel
theorem dX7_caseOf_5 : decode (me_b mX7_caseOf) 5 = .ok (.iconst 3, 1) := by decide +kernel
theorem dX7_caseOf_6 : decode (me_b mX7_caseOf) 6 = .ok (.if_icmp .lt 7, 3) := by decide +kernel
theorem dX7_caseOf_9 : decode (me_b mX7_caseOf) 9 = .ok (.iconst (-1), 1) := by decide +kernel
theorem dX7_caseOf_10 : decode (me_b mX7_caseOf) 10 = .ok (.goto 9, 3) := by decide +kernel
theorem dX7_caseOf_13 : decode (me_b mX7_caseOf) 13 = .ok (.aload_n 0, 1) := by decide +kernel
theorem dX7_caseOf_14 : decode (me_b mX7_caseOf) 14 = .ok (.getfield 62, 3) := by decide +kernel
theorem dX7_caseOf_17 : decode (me_b mX7_caseOf) 17 = .ok (.iload_n 1, 1) := by decide +kernel
theorem dX7_caseOf_18 : decode (me_b mX7_caseOf) 18 = .ok (.iaload, 1) := by decide +kernel
theorem dX7_caseOf_19 : decode (me_b mX7_caseOf) 19 = .ok (.ireturn, 1) := by decide +kernel
theorem dX7_clauses_0 : decode (me_b mX7_clauses) 0 = .ok (.aload_n 0, 1) := by decide +kernel
theorem dX7_clauses_1 : decode (me_b mX7_clauses) 1 = .ok (.getfield 26, 3) := by decide +kernel
theorem dX7_clauses_4 : decode (me_b mX7_clauses) 4 = .ok (.invokevirtual 123, 3) := by decide +kernel
theorem dX7_clauses_7 : decode (me_b mX7_clauses) 7 = .ok (.ireturn, 1) := by decide +kernel
theorem dX7_holdsInStructure_0 : decode (me_b mX7_holdsInStructure) 0 = .ok (.iconst 0, 1) := by decide +kernel
theorem dX7_holdsInStructure_1 : decode (me_b mX7_holdsInStructure) 1 = .ok (.istore_n 1, 1) := by decide +kernel
theorem dX7_holdsInStructure_2 : decode (me_b mX7_holdsInStructure) 2 = .ok (.iload_n 1, 1) := by decide +kernel
theorem dX7_holdsInStructure_3 : decode (me_b mX7_holdsInStructure) 3 = .ok (.aload_n 0, 1) := by decide +kernel
theorem dX7_holdsInStructure_4 : decode (me_b mX7_holdsInStructure) 4 = .ok (.getfield 33, 3) := by decide +kernel
theorem dX7_holdsInStructure_7 : decode (me_b mX7_holdsInStructure) 7 = .ok (.iconst 0, 1) := by decide +kernel
theorem dX7_holdsInStructure_8 : decode (me_b mX7_holdsInStructure) 8 = .ok (.aload_n 0, 1) := by decide +kernel
theorem dX7_holdsInStructure_9 : decode (me_b mX7_holdsInStructure) 9 = .ok (.getfield 66, 3) := by decide +kernel
theorem dX7_holdsInStructure_12 : decode (me_b mX7_holdsInStructure) 12 = .ok (.invokevirtual 159, 3) := by decide +kernel
theorem dX7_holdsInStructure_15 : decode (me_b mX7_holdsInStructure) 15 = .ok (.if_icmp .ge 97, 3) := by decide +kernel
theorem dX7_holdsInStructure_18 : decode (me_b mX7_holdsInStructure) 18 = .ok (.iconst 0, 1) := by decide +kernel
theorem dX7_holdsInStructure_19 : decode (me_b mX7_holdsInStructure) 19 = .ok (.istore_n 2, 1) := by decide +kernel
theorem dX7_holdsInStructure_20 : decode (me_b mX7_holdsInStructure) 20 = .ok (.iload_n 2, 1) := by decide +kernel
theorem dX7_holdsInStructure_21 : decode (me_b mX7_holdsInStructure) 21 = .ok (.aload_n 0, 1) := by decide +kernel
theorem dX7_holdsInStructure_22 : decode (me_b mX7_holdsInStructure) 22 = .ok (.getfield 33, 3) := by decide +kernel
theorem dX7_holdsInStructure_25 : decode (me_b mX7_holdsInStructure) 25 = .ok (.iconst 1, 1) := by decide +kernel
theorem dX7_holdsInStructure_26 : decode (me_b mX7_holdsInStructure) 26 = .ok (.aload_n 0, 1) := by decide +kernel
theorem dX7_holdsInStructure_27 : decode (me_b mX7_holdsInStructure) 27 = .ok (.getfield 66, 3) := by decide +kernel
theorem dX7_holdsInStructure_30 : decode (me_b mX7_holdsInStructure) 30 = .ok (.invokevirtual 159, 3) := by decide +kernel
theorem dX7_holdsInStructure_33 : decode (me_b mX7_holdsInStructure) 33 = .ok (.if_icmp .ge 73, 3) := by decide +kernel
theorem dX7_holdsInStructure_36 : decode (me_b mX7_holdsInStructure) 36 = .ok (.iconst 0, 1) := by decide +kernel
theorem dX7_holdsInStructure_37 : decode (me_b mX7_holdsInStructure) 37 = .ok (.istore_n 3, 1) := by decide +kernel
theorem dX7_holdsInStructure_38 : decode (me_b mX7_holdsInStructure) 38 = .ok (.iload_n 3, 1) := by decide +kernel
theorem dX7_holdsInStructure_39 : decode (me_b mX7_holdsInStructure) 39 = .ok (.aload_n 0, 1) := by decide +kernel
theorem dX7_holdsInStructure_40 : decode (me_b mX7_holdsInStructure) 40 = .ok (.getfield 33, 3) := by decide +kernel
theorem dX7_holdsInStructure_43 : decode (me_b mX7_holdsInStructure) 43 = .ok (.iconst 2, 1) := by decide +kernel
theorem dX7_holdsInStructure_44 : decode (me_b mX7_holdsInStructure) 44 = .ok (.aload_n 0, 1) := by decide +kernel
theorem dX7_holdsInStructure_45 : decode (me_b mX7_holdsInStructure) 45 = .ok (.getfield 66, 3) := by decide +kernel
theorem dX7_holdsInStructure_48 : decode (me_b mX7_holdsInStructure) 48 = .ok (.invokevirtual 159, 3) := by decide +kernel
theorem dX7_holdsInStructure_51 : decode (me_b mX7_holdsInStructure) 51 = .ok (.if_icmp .ge 49, 3) := by decide +kernel
theorem dX7_holdsInStructure_54 : decode (me_b mX7_holdsInStructure) 54 = .ok (.aload_n 0, 1) := by decide +kernel
theorem dX7_holdsInStructure_55 : decode (me_b mX7_holdsInStructure) 55 = .ok (.getfield 49, 3) := by decide +kernel
theorem dX7_holdsInStructure_58 : decode (me_b mX7_holdsInStructure) 58 = .ok (.aload_n 0, 1) := by decide +kernel
theorem dX7_holdsInStructure_59 : decode (me_b mX7_holdsInStructure) 59 = .ok (.getfield 33, 3) := by decide +kernel
theorem dX7_holdsInStructure_62 : decode (me_b mX7_holdsInStructure) 62 = .ok (.iload_n 1, 1) := by decide +kernel
theorem dX7_holdsInStructure_63 : decode (me_b mX7_holdsInStructure) 63 = .ok (.iload_n 2, 1) := by decide +kernel
theorem dX7_holdsInStructure_64 : decode (me_b mX7_holdsInStructure) 64 = .ok (.iload_n 3, 1) := by decide +kernel
theorem dX7_holdsInStructure_65 : decode (me_b mX7_holdsInStructure) 65 = .ok (.invokevirtual 163, 3) := by decide +kernel
theorem dX7_holdsInStructure_68 : decode (me_b mX7_holdsInStructure) 68 = .ok (.ifCond .eq 26, 3) := by decide +kernel
theorem dX7_holdsInStructure_71 : decode (me_b mX7_holdsInStructure) 71 = .ok (.aload_n 0, 1) := by decide +kernel
theorem dX7_holdsInStructure_72 : decode (me_b mX7_holdsInStructure) 72 = .ok (.getfield 62, 3) := by decide +kernel
theorem dX7_holdsInStructure_75 : decode (me_b mX7_holdsInStructure) 75 = .ok (.iconst 0, 1) := by decide +kernel
theorem dX7_holdsInStructure_76 : decode (me_b mX7_holdsInStructure) 76 = .ok (.iload_n 1, 1) := by decide +kernel
theorem dX7_holdsInStructure_77 : decode (me_b mX7_holdsInStructure) 77 = .ok (.iastore, 1) := by decide +kernel
theorem dX7_holdsInStructure_78 : decode (me_b mX7_holdsInStructure) 78 = .ok (.aload_n 0, 1) := by decide +kernel
theorem dX7_holdsInStructure_79 : decode (me_b mX7_holdsInStructure) 79 = .ok (.getfield 62, 3) := by decide +kernel
theorem dX7_holdsInStructure_82 : decode (me_b mX7_holdsInStructure) 82 = .ok (.iconst 1, 1) := by decide +kernel
theorem dX7_holdsInStructure_83 : decode (me_b mX7_holdsInStructure) 83 = .ok (.iload_n 2, 1) := by decide +kernel
theorem dX7_holdsInStructure_84 : decode (me_b mX7_holdsInStructure) 84 = .ok (.iastore, 1) := by decide +kernel
theorem dX7_holdsInStructure_85 : decode (me_b mX7_holdsInStructure) 85 = .ok (.aload_n 0, 1) := by decide +kernel
theorem dX7_holdsInStructure_86 : decode (me_b mX7_holdsInStructure) 86 = .ok (.getfield 62, 3) := by decide +kernel
theorem dX7_holdsInStructure_89 : decode (me_b mX7_holdsInStructure) 89 = .ok (.iconst 2, 1) := by decide +kernel
theorem dX7_holdsInStructure_90 : decode (me_b mX7_holdsInStructure) 90 = .ok (.iload_n 3, 1) := by decide +kernel
theorem dX7_holdsInStructure_91 : decode (me_b mX7_holdsInStructure) 91 = .ok (.iastore, 1) := by decide +kernel
theorem dX7_holdsInStructure_92 : decode (me_b mX7_holdsInStructure) 92 = .ok (.iconst 0, 1) := by decide +kernel
theorem dX7_holdsInStructure_93 : decode (me_b mX7_holdsInStructure) 93 = .ok (.ireturn, 1) := by decide +kernel
theorem dX7_holdsInStructure_94 : decode (me_b mX7_holdsInStructure) 94 = .ok (.iinc 3 1, 3) := by decide +kernel
theorem dX7_holdsInStructure_97 : decode (me_b mX7_holdsInStructure) 97 = .ok (.goto (-59), 3) := by decide +kernel
theorem dX7_holdsInStructure_100 : decode (me_b mX7_holdsInStructure) 100 = .ok (.iinc 2 1, 3) := by decide +kernel
theorem dX7_holdsInStructure_103 : decode (me_b mX7_holdsInStructure) 103 = .ok (.goto (-83), 3) := by decide +kernel
theorem dX7_holdsInStructure_106 : decode (me_b mX7_holdsInStructure) 106 = .ok (.iinc 1 1, 3) := by decide +kernel
theorem dX7_holdsInStructure_109 : decode (me_b mX7_holdsInStructure) 109 = .ok (.goto (-107), 3) := by decide +kernel
theorem dX7_holdsInStructure_112 : decode (me_b mX7_holdsInStructure) 112 = .ok (.iconst 1, 1) := by decide +kernel
theorem dX7_holdsInStructure_113 : decode (me_b mX7_holdsInStructure) 113 = .ok (.ireturn, 1) := by decide +kernel
theorem dX7_isArgument_0 : decode (me_b mX7_isArgument) 0 = .ok (.iload_n 1, 1) := by decide +kernel
theorem dX7_isArgument_1 : decode (me_b mX7_isArgument) 1 = .ok (.ifCond .lt 15, 3) := by decide +kernel
theorem dX7_isArgument_4 : decode (me_b mX7_isArgument) 4 = .ok (.iload_n 1, 1) := by decide +kernel
theorem dX7_isArgument_5 : decode (me_b mX7_isArgument) 5 = .ok (.aload_n 0, 1) := by decide +kernel
theorem dX7_isArgument_6 : decode (me_b mX7_isArgument) 6 = .ok (.getfield 66, 3) := by decide +kernel
theorem dX7_isArgument_9 : decode (me_b mX7_isArgument) 9 = .ok (.if_icmp .ge 7, 3) := by decide +kernel
theorem dX7_isArgument_12 : decode (me_b mX7_isArgument) 12 = .ok (.iconst 1, 1) := by decide +kernel
theorem dX7_isArgument_13 : decode (me_b mX7_isArgument) 13 = .ok (.goto 4, 3) := by decide +kernel
theorem dX7_isArgument_16 : decode (me_b mX7_isArgument) 16 = .ok (.iconst 0, 1) := by decide +kernel
theorem dX7_isArgument_17 : decode (me_b mX7_isArgument) 17 = .ok (.ireturn, 1) := by decide +kernel
theorem dX7_areAllVisible_0 : decode (me_b mX7_areAllVisible) 0 = .ok (.iconst 0, 1) := by decide +kernel
theorem dX7_areAllVisible_1 : decode (me_b mX7_areAllVisible) 1 = .ok (.istore_n 3, 1) := by decide +kernel
theorem dX7_areAllVisible_2 : decode (me_b mX7_areAllVisible) 2 = .ok (.iload_n 3, 1) := by decide +kernel
theorem dX7_areAllVisible_3 : decode (me_b mX7_areAllVisible) 3 = .ok (.iload_n 2, 1) := by decide +kernel
theorem dX7_areAllVisible_4 : decode (me_b mX7_areAllVisible) 4 = .ok (.if_icmp .ge 32, 3) := by decide +kernel
theorem dX7_areAllVisible_7 : decode (me_b mX7_areAllVisible) 7 = .ok (.lload_n 0, 1) := by decide +kernel
theorem dX7_areAllVisible_8 : decode (me_b mX7_areAllVisible) 8 = .ok (.iload_n 3, 1) := by decide +kernel
theorem dX7_areAllVisible_9 : decode (me_b mX7_areAllVisible) 9 = .ok (.invokestatic 93, 3) := by decide +kernel
theorem dX7_areAllVisible_12 : decode (me_b mX7_areAllVisible) 12 = .ok (.istore 4, 2) := by decide +kernel
theorem dX7_areAllVisible_14 : decode (me_b mX7_areAllVisible) 14 = .ok (.iload 4, 2) := by decide +kernel
theorem dX7_areAllVisible_16 : decode (me_b mX7_areAllVisible) 16 = .ok (.bipush 33, 2) := by decide +kernel
theorem dX7_areAllVisible_18 : decode (me_b mX7_areAllVisible) 18 = .ok (.if_icmp .lt 10, 3) := by decide +kernel
theorem dX7_areAllVisible_21 : decode (me_b mX7_areAllVisible) 21 = .ok (.iload 4, 2) := by decide +kernel
theorem dX7_areAllVisible_23 : decode (me_b mX7_areAllVisible) 23 = .ok (.bipush 126, 2) := by decide +kernel
theorem dX7_areAllVisible_25 : decode (me_b mX7_areAllVisible) 25 = .ok (.if_icmp .le 5, 3) := by decide +kernel
theorem dX7_areAllVisible_28 : decode (me_b mX7_areAllVisible) 28 = .ok (.iconst 0, 1) := by decide +kernel
theorem dX7_areAllVisible_29 : decode (me_b mX7_areAllVisible) 29 = .ok (.ireturn, 1) := by decide +kernel
theorem dX7_areAllVisible_30 : decode (me_b mX7_areAllVisible) 30 = .ok (.iinc 3 1, 3) := by decide +kernel
theorem dX7_areAllVisible_33 : decode (me_b mX7_areAllVisible) 33 = .ok (.goto (-31), 3) := by decide +kernel
theorem dX7_areAllVisible_36 : decode (me_b mX7_areAllVisible) 36 = .ok (.iconst 1, 1) := by decide +kernel
theorem dX7_areAllVisible_37 : decode (me_b mX7_areAllVisible) 37 = .ok (.ireturn, 1) := by decide +kernel
theorem dX7_byteAt_0 : decode (me_b mX7_byteAt) 0 = .ok (.lload_n 0, 1) := by decide +kernel
theorem dX7_byteAt_1 : decode (me_b mX7_byteAt) 1 = .ok (.bipush 8, 2) := by decide +kernel
theorem dX7_byteAt_3 : decode (me_b mX7_byteAt) 3 = .ok (.iload_n 2, 1) := by decide +kernel
theorem dX7_byteAt_4 : decode (me_b mX7_byteAt) 4 = .ok (.imul, 1) := by decide +kernel
theorem dX7_byteAt_5 : decode (me_b mX7_byteAt) 5 = .ok (.lushr, 1) := by decide +kernel
theorem dX7_byteAt_6 : decode (me_b mX7_byteAt) 6 = .ok (.ldc2_w 167, 3) := by decide +kernel
theorem dX7_byteAt_9 : decode (me_b mX7_byteAt) 9 = .ok (.land, 1) := by decide +kernel
theorem dX7_byteAt_10 : decode (me_b mX7_byteAt) 10 = .ok (.l2i, 1) := by decide +kernel
theorem dX7_byteAt_11 : decode (me_b mX7_byteAt) 11 = .ok (.i2c, 1) := by decide +kernel
theorem dX7_byteAt_12 : decode (me_b mX7_byteAt) 12 = .ok (.ireturn, 1) := by decide +kernel
theorem dX7_codeOf_0 : decode (me_b mX7_codeOf) 0 = .ok (.iload_n 0, 1) := by decide +kernel
theorem dX7_codeOf_1 : decode (me_b mX7_codeOf) 1 = .ok (.bipush 97, 2) := by decide +kernel
theorem dX7_codeOf_3 : decode (me_b mX7_codeOf) 3 = .ok (.if_icmp .lt 14, 3) := by decide +kernel
theorem dX7_codeOf_6 : decode (me_b mX7_codeOf) 6 = .ok (.iload_n 0, 1) := by decide +kernel
theorem dX7_codeOf_7 : decode (me_b mX7_codeOf) 7 = .ok (.bipush 100, 2) := by decide +kernel
theorem dX7_codeOf_9 : decode (me_b mX7_codeOf) 9 = .ok (.if_icmp .gt 8, 3) := by decide +kernel
theorem dX7_codeOf_12 : decode (me_b mX7_codeOf) 12 = .ok (.iload_n 0, 1) := by decide +kernel
theorem dX7_codeOf_13 : decode (me_b mX7_codeOf) 13 = .ok (.bipush 97, 2) := by decide +kernel
theorem dX7_codeOf_15 : decode (me_b mX7_codeOf) 15 = .ok (.isub, 1) := by decide +kernel
theorem dX7_codeOf_16 : decode (me_b mX7_codeOf) 16 = .ok (.ireturn, 1) := by decide +kernel
theorem dX7_codeOf_17 : decode (me_b mX7_codeOf) 17 = .ok (.iload_n 0, 1) := by decide +kernel
theorem dX7_codeOf_18 : decode (me_b mX7_codeOf) 18 = .ok (.bipush 80, 2) := by decide +kernel
theorem dX7_codeOf_20 : decode (me_b mX7_codeOf) 20 = .ok (.if_icmp .lt 16, 3) := by decide +kernel
theorem dX7_codeOf_23 : decode (me_b mX7_codeOf) 23 = .ok (.iload_n 0, 1) := by decide +kernel
theorem dX7_codeOf_24 : decode (me_b mX7_codeOf) 24 = .ok (.bipush 83, 2) := by decide +kernel
theorem dX7_codeOf_26 : decode (me_b mX7_codeOf) 26 = .ok (.if_icmp .gt 10, 3) := by decide +kernel
theorem dX7_codeOf_29 : decode (me_b mX7_codeOf) 29 = .ok (.iconst 4, 1) := by decide +kernel
theorem dX7_codeOf_30 : decode (me_b mX7_codeOf) 30 = .ok (.iload_n 0, 1) := by decide +kernel
theorem dX7_codeOf_31 : decode (me_b mX7_codeOf) 31 = .ok (.bipush 80, 2) := by decide +kernel
theorem dX7_codeOf_33 : decode (me_b mX7_codeOf) 33 = .ok (.isub, 1) := by decide +kernel
theorem dX7_codeOf_34 : decode (me_b mX7_codeOf) 34 = .ok (.iadd, 1) := by decide +kernel
theorem dX7_codeOf_35 : decode (me_b mX7_codeOf) 35 = .ok (.ireturn, 1) := by decide +kernel
theorem dX7_codeOf_36 : decode (me_b mX7_codeOf) 36 = .ok (.iload_n 0, 1) := by decide +kernel
theorem dX7_codeOf_37 : decode (me_b mX7_codeOf) 37 = .ok (.bipush 120, 2) := by decide +kernel
theorem dX7_codeOf_39 : decode (me_b mX7_codeOf) 39 = .ok (.if_icmp .lt 17, 3) := by decide +kernel
theorem dX7_codeOf_42 : decode (me_b mX7_codeOf) 42 = .ok (.iload_n 0, 1) := by decide +kernel
theorem dX7_codeOf_43 : decode (me_b mX7_codeOf) 43 = .ok (.bipush 122, 2) := by decide +kernel
theorem dX7_codeOf_45 : decode (me_b mX7_codeOf) 45 = .ok (.if_icmp .gt 11, 3) := by decide +kernel
theorem dX7_codeOf_48 : decode (me_b mX7_codeOf) 48 = .ok (.bipush 8, 2) := by decide +kernel
theorem dX7_codeOf_50 : decode (me_b mX7_codeOf) 50 = .ok (.iload_n 0, 1) := by decide +kernel
theorem dX7_codeOf_51 : decode (me_b mX7_codeOf) 51 = .ok (.bipush 120, 2) := by decide +kernel
theorem dX7_codeOf_53 : decode (me_b mX7_codeOf) 53 = .ok (.isub, 1) := by decide +kernel
theorem dX7_codeOf_54 : decode (me_b mX7_codeOf) 54 = .ok (.iadd, 1) := by decide +kernel
theorem dX7_codeOf_55 : decode (me_b mX7_codeOf) 55 = .ok (.ireturn, 1) := by decide +kernel
theorem dX7_codeOf_56 : decode (me_b mX7_codeOf) 56 = .ok (.iload_n 0, 1) := by decide +kernel
theorem dX7_codeOf_57 : decode (me_b mX7_codeOf) 57 = .ok (.bipush 61, 2) := by decide +kernel
theorem dX7_codeOf_59 : decode (me_b mX7_codeOf) 59 = .ok (.if_icmp .ne 6, 3) := by decide +kernel
theorem dX7_codeOf_62 : decode (me_b mX7_codeOf) 62 = .ok (.bipush 11, 2) := by decide +kernel
theorem dX7_codeOf_64 : decode (me_b mX7_codeOf) 64 = .ok (.ireturn, 1) := by decide +kernel
theorem dX7_codeOf_65 : decode (me_b mX7_codeOf) 65 = .ok (.iload_n 0, 1) := by decide +kernel
theorem dX7_codeOf_66 : decode (me_b mX7_codeOf) 66 = .ok (.bipush 33, 2) := by decide +kernel
theorem dX7_codeOf_68 : decode (me_b mX7_codeOf) 68 = .ok (.if_icmp .ne 6, 3) := by decide +kernel
theorem dX7_codeOf_71 : decode (me_b mX7_codeOf) 71 = .ok (.bipush 12, 2) := by decide +kernel
theorem dX7_codeOf_73 : decode (me_b mX7_codeOf) 73 = .ok (.ireturn, 1) := by decide +kernel
theorem dX7_codeOf_74 : decode (me_b mX7_codeOf) 74 = .ok (.iload_n 0, 1) := by decide +kernel
theorem dX7_codeOf_75 : decode (me_b mX7_codeOf) 75 = .ok (.bipush 124, 2) := by decide +kernel
theorem dX7_codeOf_77 : decode (me_b mX7_codeOf) 77 = .ok (.if_icmp .ne 8, 3) := by decide +kernel
theorem dX7_codeOf_80 : decode (me_b mX7_codeOf) 80 = .ok (.bipush 13, 2) := by decide +kernel
theorem dX7_codeOf_82 : decode (me_b mX7_codeOf) 82 = .ok (.goto 4, 3) := by decide +kernel
theorem dX7_codeOf_85 : decode (me_b mX7_codeOf) 85 = .ok (.iconst (-1), 1) := by decide +kernel
theorem dX7_codeOf_86 : decode (me_b mX7_codeOf) 86 = .ok (.ireturn, 1) := by decide +kernel
theorem dX7_isFunction_0 : decode (me_b mX7_isFunction) 0 = .ok (.iload_n 0, 1) := by decide +kernel
theorem dX7_isFunction_1 : decode (me_b mX7_isFunction) 1 = .ok (.ifCond .lt 12, 3) := by decide +kernel
theorem dX7_isFunction_4 : decode (me_b mX7_isFunction) 4 = .ok (.iload_n 0, 1) := by decide +kernel
theorem dX7_isFunction_5 : decode (me_b mX7_isFunction) 5 = .ok (.iconst 4, 1) := by decide +kernel
theorem dX7_isFunction_6 : decode (me_b mX7_isFunction) 6 = .ok (.if_icmp .ge 7, 3) := by decide +kernel
theorem dX7_isFunction_9 : decode (me_b mX7_isFunction) 9 = .ok (.iconst 1, 1) := by decide +kernel
theorem dX7_isFunction_10 : decode (me_b mX7_isFunction) 10 = .ok (.goto 4, 3) := by decide +kernel
theorem dX7_isFunction_13 : decode (me_b mX7_isFunction) 13 = .ok (.iconst 0, 1) := by decide +kernel
theorem dX7_isFunction_14 : decode (me_b mX7_isFunction) 14 = .ok (.ireturn, 1) := by decide +kernel
theorem dX7_isPredicate_0 : decode (me_b mX7_isPredicate) 0 = .ok (.iload_n 0, 1) := by decide +kernel
theorem dX7_isPredicate_1 : decode (me_b mX7_isPredicate) 1 = .ok (.iconst 4, 1) := by decide +kernel
theorem dX7_isPredicate_2 : decode (me_b mX7_isPredicate) 2 = .ok (.if_icmp .lt 13, 3) := by decide +kernel
theorem dX7_isPredicate_5 : decode (me_b mX7_isPredicate) 5 = .ok (.iload_n 0, 1) := by decide +kernel
theorem dX7_isPredicate_6 : decode (me_b mX7_isPredicate) 6 = .ok (.bipush 8, 2) := by decide +kernel
theorem dX7_isPredicate_8 : decode (me_b mX7_isPredicate) 8 = .ok (.if_icmp .ge 7, 3) := by decide +kernel
theorem dX7_isPredicate_11 : decode (me_b mX7_isPredicate) 11 = .ok (.iconst 1, 1) := by decide +kernel
theorem dX7_isPredicate_12 : decode (me_b mX7_isPredicate) 12 = .ok (.goto 4, 3) := by decide +kernel
theorem dX7_isPredicate_15 : decode (me_b mX7_isPredicate) 15 = .ok (.iconst 0, 1) := by decide +kernel
theorem dX7_isPredicate_16 : decode (me_b mX7_isPredicate) 16 = .ok (.ireturn, 1) := by decide +kernel
theorem dX7_isVariable_0 : decode (me_b mX7_isVariable) 0 = .ok (.iload_n 0, 1) := by decide +kernel
theorem dX7_isVariable_1 : decode (me_b mX7_isVariable) 1 = .ok (.bipush 8, 2) := by decide +kernel
theorem dX7_isVariable_3 : decode (me_b mX7_isVariable) 3 = .ok (.if_icmp .lt 13, 3) := by decide +kernel
theorem dX7_isVariable_6 : decode (me_b mX7_isVariable) 6 = .ok (.iload_n 0, 1) := by decide +kernel
theorem dX7_isVariable_7 : decode (me_b mX7_isVariable) 7 = .ok (.bipush 11, 2) := by decide +kernel
theorem dX7_isVariable_9 : decode (me_b mX7_isVariable) 9 = .ok (.if_icmp .ge 7, 3) := by decide +kernel
theorem dX7_isVariable_12 : decode (me_b mX7_isVariable) 12 = .ok (.iconst 1, 1) := by decide +kernel
theorem dX7_isVariable_13 : decode (me_b mX7_isVariable) 13 = .ok (.goto 4, 3) := by decide +kernel
theorem dX7_isVariable_16 : decode (me_b mX7_isVariable) 16 = .ok (.iconst 0, 1) := by decide +kernel
theorem dX7_isVariable_17 : decode (me_b mX7_isVariable) 17 = .ok (.ireturn, 1) := by decide +kernel
set_option maxRecDepth 20000 in
theorem s_X7_symbol_0 {σ : ab_M} {Q : Option ab_V → ab_M → Prop} {x1 : Int32} {x2 : Int32}
    (k : evm mX7_codeOf [.inl x1] σ (fun v τ1 => ∃ r2 : Int32, v = some (.inl r2) ∧ ((r2 < 0 → Q (some (.inl 0)) τ1) ∧ (¬ r2 < 0 → ((8 ≤ r2 → Q (some (.inl 0)) τ1) ∧ (¬ 8 ≤ r2 → ((x2 < (-1) → Q (some (.inl 0)) τ1) ∧ (¬ x2 < (-1) → ((x2 ≤ 2 → evm mX5_define [.inr (.inr 1), .inl r2, .inl x2] τ1 (fun v τ3 => v = none ∧ evm mX2_forgetAll [.inr (.inr 5)] τ3 (fun v τ4 => v = none ∧ Q (some (.inl 1)) (ab_upd τ4 0 8 0)))) ∧ (¬ x2 ≤ 2 → Q (some (.inl 0)) τ1)))))))))) :
    ev mX7_symbol 0 [some (.inr (.inr 0)), some (.inl x1), some (.inl x2), none] [] σ Q := by
  refine ev_p (pc' := 1) (ls' := [some (.inr (.inr 0)), some (.inl x1), some (.inl x2), none]) (st' := [.inl x1]) dX7_symbol_0 rfl ?_
  refine ev_call (y := 11) (as := [.inl x1]) (r := []) (M' := mX7_codeOf) (pc' := 4) dX7_symbol_1 rfl rfl ⟨rfl, rfl⟩ rfl k rfl (fun v τ1 hq => ?_)
  obtain ⟨r2, hv, k⟩ := hq
  rw [hv]
  change ev mX7_symbol 4 [some (.inr (.inr 0)), some (.inl x1), some (.inl x2), none] [.inl r2] τ1 _
  refine ev_p (pc' := 5) (ls' := [some (.inr (.inr 0)), some (.inl x1), some (.inl x2), some (.inl r2)]) (st' := []) dX7_symbol_4 rfl ?_
  refine ev_p (pc' := 6) (ls' := [some (.inr (.inr 0)), some (.inl x1), some (.inl x2), some (.inl r2)]) (st' := [.inl r2]) dX7_symbol_5 rfl ?_
  refine ev_if_lt (tgt := 25) (pc' := 9) dX7_symbol_6 (by decide) rfl (fun h1 => ?_) (fun h1 => ?_)
  · have k := k.1 h1
    refine ev_cst (v := 0) (pc' := 26) dX7_symbol_25 (by decide) rfl ?_
    exact ev_retZ dX7_symbol_26 rfl rfl k
  · have k := k.2 h1
    refine ev_p (pc' := 10) (ls' := [some (.inr (.inr 0)), some (.inl x1), some (.inl x2), some (.inl r2)]) (st' := [.inl r2]) dX7_symbol_9 rfl ?_
    refine ev_cst (v := 8) (pc' := 12) dX7_symbol_10 (by decide) rfl ?_
    refine ev_ic_ge (tgt := 25) (pc' := 15) dX7_symbol_12 (by decide) rfl (fun h2 => ?_) (fun h2 => ?_)
    · have k := k.1 h2
      refine ev_cst (v := 0) (pc' := 26) dX7_symbol_25 (by decide) rfl ?_
      exact ev_retZ dX7_symbol_26 rfl rfl k
    · have k := k.2 h2
      refine ev_p (pc' := 16) (ls' := [some (.inr (.inr 0)), some (.inl x1), some (.inl x2), some (.inl r2)]) (st' := [.inl x2]) dX7_symbol_15 rfl ?_
      refine ev_cst (v := (-1)) (pc' := 17) dX7_symbol_16 (by decide) rfl ?_
      refine ev_ic_lt (tgt := 25) (pc' := 20) dX7_symbol_17 (by decide) rfl (fun h3 => ?_) (fun h3 => ?_)
      · have k := k.1 h3
        refine ev_cst (v := 0) (pc' := 26) dX7_symbol_25 (by decide) rfl ?_
        exact ev_retZ dX7_symbol_26 rfl rfl k
      · have k := k.2 h3
        refine ev_p (pc' := 21) (ls' := [some (.inr (.inr 0)), some (.inl x1), some (.inl x2), some (.inl r2)]) (st' := [.inl x2]) dX7_symbol_20 rfl ?_
        refine ev_cst (v := 2) (pc' := 22) dX7_symbol_21 (by decide) rfl ?_
        refine ev_ic_le (tgt := 27) (pc' := 25) dX7_symbol_22 (by decide) rfl (fun h4 => ?_) (fun h4 => ?_)
        · have k := k.1 h4
          refine ev_p (pc' := 28) (ls' := [some (.inr (.inr 0)), some (.inl x1), some (.inl x2), some (.inl r2)]) (st' := [.inr (.inr 0)]) dX7_symbol_27 rfl ?_
          refine ev_getA (pc' := 31) (z := 1) dX7_symbol_28 rfl rfl rfl rfl ?_
          refine ev_p (pc' := 32) (ls' := [some (.inr (.inr 0)), some (.inl x1), some (.inl x2), some (.inl r2)]) (st' := [.inl r2, .inr (.inr 1)]) dX7_symbol_31 rfl ?_
          refine ev_p (pc' := 33) (ls' := [some (.inr (.inr 0)), some (.inl x1), some (.inl x2), some (.inl r2)]) (st' := [.inl x2, .inl r2, .inr (.inr 1)]) dX7_symbol_32 rfl ?_
          refine ev_call (y := 12) (as := [.inr (.inr 1), .inl r2, .inl x2]) (r := []) (M' := mX5_define) (pc' := 36) dX7_symbol_33 rfl rfl ⟨rfl, rfl⟩ rfl k rfl (fun v τ3 hq => ?_)
          obtain ⟨hv, k⟩ := hq
          rw [hv]
          change ev mX7_symbol 36 [some (.inr (.inr 0)), some (.inl x1), some (.inl x2), some (.inl r2)] [] τ3 _
          refine ev_p (pc' := 37) (ls' := [some (.inr (.inr 0)), some (.inl x1), some (.inl x2), some (.inl r2)]) (st' := [.inr (.inr 0)]) dX7_symbol_36 rfl ?_
          refine ev_getA (pc' := 40) (z := 5) dX7_symbol_37 rfl rfl rfl rfl ?_
          refine ev_call (y := 13) (as := [.inr (.inr 5)]) (r := []) (M' := mX2_forgetAll) (pc' := 43) dX7_symbol_40 rfl rfl ⟨rfl, rfl⟩ rfl k rfl (fun v τ4 hq => ?_)
          obtain ⟨hv, k⟩ := hq
          rw [hv]
          change ev mX7_symbol 43 [some (.inr (.inr 0)), some (.inl x1), some (.inl x2), some (.inl r2)] [] τ4 _
          refine ev_p (pc' := 44) (ls' := [some (.inr (.inr 0)), some (.inl x1), some (.inl x2), some (.inl r2)]) (st' := [.inr (.inr 0)]) dX7_symbol_43 rfl ?_
          refine ev_cst (v := 0) (pc' := 45) dX7_symbol_44 (by decide) rfl ?_
          refine ev_putI (pc' := 48) dX7_symbol_45 rfl rfl rfl rfl rfl rfl ?_
          refine ev_cst (v := 1) (pc' := 49) dX7_symbol_48 (by decide) rfl ?_
          exact ev_retZ dX7_symbol_49 rfl rfl k
        · have k := k.2 h4
          refine ev_cst (v := 0) (pc' := 26) dX7_symbol_25 (by decide) rfl ?_
          exact ev_retZ dX7_symbol_26 rfl rfl k
set_option maxRecDepth 20000 in
theorem s_X7_codeOf_0 {σ : ab_M} {Q : Option ab_V → ab_M → Prop} {x0 : Int32}
    (k : ((x0 < 97 → ((x0 < 80 → ((x0 < 120 → ((x0 = 61 → Q (some (.inl 11)) σ) ∧ (¬ x0 = 61 → ((x0 = 33 → Q (some (.inl 12)) σ) ∧ (¬ x0 = 33 → ((x0 = 124 → Q (some (.inl 13)) σ) ∧ (¬ x0 = 124 → Q (some (.inl (-1))) σ))))))) ∧ (¬ x0 < 120 → ((122 < x0 → ((x0 = 61 → Q (some (.inl 11)) σ) ∧ (¬ x0 = 61 → ((x0 = 33 → Q (some (.inl 12)) σ) ∧ (¬ x0 = 33 → ((x0 = 124 → Q (some (.inl 13)) σ) ∧ (¬ x0 = 124 → Q (some (.inl (-1))) σ))))))) ∧ (¬ 122 < x0 → Q (some (.inl (8 + (x0 - 120)))) σ))))) ∧ (¬ x0 < 80 → ((83 < x0 → ((x0 < 120 → ((x0 = 61 → Q (some (.inl 11)) σ) ∧ (¬ x0 = 61 → ((x0 = 33 → Q (some (.inl 12)) σ) ∧ (¬ x0 = 33 → ((x0 = 124 → Q (some (.inl 13)) σ) ∧ (¬ x0 = 124 → Q (some (.inl (-1))) σ))))))) ∧ (¬ x0 < 120 → ((122 < x0 → ((x0 = 61 → Q (some (.inl 11)) σ) ∧ (¬ x0 = 61 → ((x0 = 33 → Q (some (.inl 12)) σ) ∧ (¬ x0 = 33 → ((x0 = 124 → Q (some (.inl 13)) σ) ∧ (¬ x0 = 124 → Q (some (.inl (-1))) σ))))))) ∧ (¬ 122 < x0 → Q (some (.inl (8 + (x0 - 120)))) σ))))) ∧ (¬ 83 < x0 → Q (some (.inl (4 + (x0 - 80)))) σ))))) ∧ (¬ x0 < 97 → ((100 < x0 → ((x0 < 80 → ((x0 < 120 → ((x0 = 61 → Q (some (.inl 11)) σ) ∧ (¬ x0 = 61 → ((x0 = 33 → Q (some (.inl 12)) σ) ∧ (¬ x0 = 33 → ((x0 = 124 → Q (some (.inl 13)) σ) ∧ (¬ x0 = 124 → Q (some (.inl (-1))) σ))))))) ∧ (¬ x0 < 120 → ((122 < x0 → ((x0 = 61 → Q (some (.inl 11)) σ) ∧ (¬ x0 = 61 → ((x0 = 33 → Q (some (.inl 12)) σ) ∧ (¬ x0 = 33 → ((x0 = 124 → Q (some (.inl 13)) σ) ∧ (¬ x0 = 124 → Q (some (.inl (-1))) σ))))))) ∧ (¬ 122 < x0 → Q (some (.inl (8 + (x0 - 120)))) σ))))) ∧ (¬ x0 < 80 → ((83 < x0 → ((x0 < 120 → ((x0 = 61 → Q (some (.inl 11)) σ) ∧ (¬ x0 = 61 → ((x0 = 33 → Q (some (.inl 12)) σ) ∧ (¬ x0 = 33 → ((x0 = 124 → Q (some (.inl 13)) σ) ∧ (¬ x0 = 124 → Q (some (.inl (-1))) σ))))))) ∧ (¬ x0 < 120 → ((122 < x0 → ((x0 = 61 → Q (some (.inl 11)) σ) ∧ (¬ x0 = 61 → ((x0 = 33 → Q (some (.inl 12)) σ) ∧ (¬ x0 = 33 → ((x0 = 124 → Q (some (.inl 13)) σ) ∧ (¬ x0 = 124 → Q (some (.inl (-1))) σ))))))) ∧ (¬ 122 < x0 → Q (some (.inl (8 + (x0 - 120)))) σ))))) ∧ (¬ 83 < x0 → Q (some (.inl (4 + (x0 - 80)))) σ))))) ∧ (¬ 100 < x0 → Q (some (.inl (x0 - 97))) σ))))) :
    ev mX7_codeOf 0 [some (.inl x0)] [] σ Q := by
  refine ev_p (pc' := 1) (ls' := [some (.inl x0)]) (st' := [.inl x0]) dX7_codeOf_0 rfl ?_
  refine ev_cst (v := 97) (pc' := 3) dX7_codeOf_1 (by decide) rfl ?_
  refine ev_ic_lt (tgt := 17) (pc' := 6) dX7_codeOf_3 (by decide) rfl (fun h1 => ?_) (fun h1 => ?_)
  · have k := k.1 h1
    refine ev_p (pc' := 18) (ls' := [some (.inl x0)]) (st' := [.inl x0]) dX7_codeOf_17 rfl ?_
    refine ev_cst (v := 80) (pc' := 20) dX7_codeOf_18 (by decide) rfl ?_
    refine ev_ic_lt (tgt := 36) (pc' := 23) dX7_codeOf_20 (by decide) rfl (fun h2 => ?_) (fun h2 => ?_)
    · have k := k.1 h2
      refine ev_p (pc' := 37) (ls' := [some (.inl x0)]) (st' := [.inl x0]) dX7_codeOf_36 rfl ?_
      refine ev_cst (v := 120) (pc' := 39) dX7_codeOf_37 (by decide) rfl ?_
      refine ev_ic_lt (tgt := 56) (pc' := 42) dX7_codeOf_39 (by decide) rfl (fun h3 => ?_) (fun h3 => ?_)
      · have k := k.1 h3
        refine ev_p (pc' := 57) (ls' := [some (.inl x0)]) (st' := [.inl x0]) dX7_codeOf_56 rfl ?_
        refine ev_cst (v := 61) (pc' := 59) dX7_codeOf_57 (by decide) rfl ?_
        refine ev_ic_ne (tgt := 65) (pc' := 62) dX7_codeOf_59 (by decide) rfl (fun h4 => ?_) (fun h4 => ?_)
        · have k := k.2 h4
          refine ev_p (pc' := 66) (ls' := [some (.inl x0)]) (st' := [.inl x0]) dX7_codeOf_65 rfl ?_
          refine ev_cst (v := 33) (pc' := 68) dX7_codeOf_66 (by decide) rfl ?_
          refine ev_ic_ne (tgt := 74) (pc' := 71) dX7_codeOf_68 (by decide) rfl (fun h5 => ?_) (fun h5 => ?_)
          · have k := k.2 h5
            refine ev_p (pc' := 75) (ls' := [some (.inl x0)]) (st' := [.inl x0]) dX7_codeOf_74 rfl ?_
            refine ev_cst (v := 124) (pc' := 77) dX7_codeOf_75 (by decide) rfl ?_
            refine ev_ic_ne (tgt := 85) (pc' := 80) dX7_codeOf_77 (by decide) rfl (fun h6 => ?_) (fun h6 => ?_)
            · have k := k.2 h6
              refine ev_cst (v := (-1)) (pc' := 86) dX7_codeOf_85 (by decide) rfl ?_
              exact ev_ret dX7_codeOf_86 rfl k
            · have k := k.1 h6
              refine ev_cst (v := 13) (pc' := 82) dX7_codeOf_80 (by decide) rfl ?_
              refine ev_go (tgt := 86) dX7_codeOf_82 (by decide) ?_
              exact ev_ret dX7_codeOf_86 rfl k
          · have k := k.1 h5
            refine ev_cst (v := 12) (pc' := 73) dX7_codeOf_71 (by decide) rfl ?_
            exact ev_ret dX7_codeOf_73 rfl k
        · have k := k.1 h4
          refine ev_cst (v := 11) (pc' := 64) dX7_codeOf_62 (by decide) rfl ?_
          exact ev_ret dX7_codeOf_64 rfl k
      · have k := k.2 h3
        refine ev_p (pc' := 43) (ls' := [some (.inl x0)]) (st' := [.inl x0]) dX7_codeOf_42 rfl ?_
        refine ev_cst (v := 122) (pc' := 45) dX7_codeOf_43 (by decide) rfl ?_
        refine ev_ic_gt (tgt := 56) (pc' := 48) dX7_codeOf_45 (by decide) rfl (fun h7 => ?_) (fun h7 => ?_)
        · have k := k.1 h7
          refine ev_p (pc' := 57) (ls' := [some (.inl x0)]) (st' := [.inl x0]) dX7_codeOf_56 rfl ?_
          refine ev_cst (v := 61) (pc' := 59) dX7_codeOf_57 (by decide) rfl ?_
          refine ev_ic_ne (tgt := 65) (pc' := 62) dX7_codeOf_59 (by decide) rfl (fun h8 => ?_) (fun h8 => ?_)
          · have k := k.2 h8
            refine ev_p (pc' := 66) (ls' := [some (.inl x0)]) (st' := [.inl x0]) dX7_codeOf_65 rfl ?_
            refine ev_cst (v := 33) (pc' := 68) dX7_codeOf_66 (by decide) rfl ?_
            refine ev_ic_ne (tgt := 74) (pc' := 71) dX7_codeOf_68 (by decide) rfl (fun h9 => ?_) (fun h9 => ?_)
            · have k := k.2 h9
              refine ev_p (pc' := 75) (ls' := [some (.inl x0)]) (st' := [.inl x0]) dX7_codeOf_74 rfl ?_
              refine ev_cst (v := 124) (pc' := 77) dX7_codeOf_75 (by decide) rfl ?_
              refine ev_ic_ne (tgt := 85) (pc' := 80) dX7_codeOf_77 (by decide) rfl (fun h10 => ?_) (fun h10 => ?_)
              · have k := k.2 h10
                refine ev_cst (v := (-1)) (pc' := 86) dX7_codeOf_85 (by decide) rfl ?_
                exact ev_ret dX7_codeOf_86 rfl k
              · have k := k.1 h10
                refine ev_cst (v := 13) (pc' := 82) dX7_codeOf_80 (by decide) rfl ?_
                refine ev_go (tgt := 86) dX7_codeOf_82 (by decide) ?_
                exact ev_ret dX7_codeOf_86 rfl k
            · have k := k.1 h9
              refine ev_cst (v := 12) (pc' := 73) dX7_codeOf_71 (by decide) rfl ?_
              exact ev_ret dX7_codeOf_73 rfl k
          · have k := k.1 h8
            refine ev_cst (v := 11) (pc' := 64) dX7_codeOf_62 (by decide) rfl ?_
            exact ev_ret dX7_codeOf_64 rfl k
        · have k := k.2 h7
          refine ev_cst (v := 8) (pc' := 50) dX7_codeOf_48 (by decide) rfl ?_
          refine ev_p (pc' := 51) (ls' := [some (.inl x0)]) (st' := [.inl x0, .inl 8]) dX7_codeOf_50 rfl ?_
          refine ev_cst (v := 120) (pc' := 53) dX7_codeOf_51 (by decide) rfl ?_
          refine ev_p (pc' := 54) (ls' := [some (.inl x0)]) (st' := [.inl (x0 - 120), .inl 8]) dX7_codeOf_53 rfl ?_
          refine ev_p (pc' := 55) (ls' := [some (.inl x0)]) (st' := [.inl (8 + (x0 - 120))]) dX7_codeOf_54 rfl ?_
          exact ev_ret dX7_codeOf_55 rfl k
    · have k := k.2 h2
      refine ev_p (pc' := 24) (ls' := [some (.inl x0)]) (st' := [.inl x0]) dX7_codeOf_23 rfl ?_
      refine ev_cst (v := 83) (pc' := 26) dX7_codeOf_24 (by decide) rfl ?_
      refine ev_ic_gt (tgt := 36) (pc' := 29) dX7_codeOf_26 (by decide) rfl (fun h11 => ?_) (fun h11 => ?_)
      · have k := k.1 h11
        refine ev_p (pc' := 37) (ls' := [some (.inl x0)]) (st' := [.inl x0]) dX7_codeOf_36 rfl ?_
        refine ev_cst (v := 120) (pc' := 39) dX7_codeOf_37 (by decide) rfl ?_
        refine ev_ic_lt (tgt := 56) (pc' := 42) dX7_codeOf_39 (by decide) rfl (fun h12 => ?_) (fun h12 => ?_)
        · have k := k.1 h12
          refine ev_p (pc' := 57) (ls' := [some (.inl x0)]) (st' := [.inl x0]) dX7_codeOf_56 rfl ?_
          refine ev_cst (v := 61) (pc' := 59) dX7_codeOf_57 (by decide) rfl ?_
          refine ev_ic_ne (tgt := 65) (pc' := 62) dX7_codeOf_59 (by decide) rfl (fun h13 => ?_) (fun h13 => ?_)
          · have k := k.2 h13
            refine ev_p (pc' := 66) (ls' := [some (.inl x0)]) (st' := [.inl x0]) dX7_codeOf_65 rfl ?_
            refine ev_cst (v := 33) (pc' := 68) dX7_codeOf_66 (by decide) rfl ?_
            refine ev_ic_ne (tgt := 74) (pc' := 71) dX7_codeOf_68 (by decide) rfl (fun h14 => ?_) (fun h14 => ?_)
            · have k := k.2 h14
              refine ev_p (pc' := 75) (ls' := [some (.inl x0)]) (st' := [.inl x0]) dX7_codeOf_74 rfl ?_
              refine ev_cst (v := 124) (pc' := 77) dX7_codeOf_75 (by decide) rfl ?_
              refine ev_ic_ne (tgt := 85) (pc' := 80) dX7_codeOf_77 (by decide) rfl (fun h15 => ?_) (fun h15 => ?_)
              · have k := k.2 h15
                refine ev_cst (v := (-1)) (pc' := 86) dX7_codeOf_85 (by decide) rfl ?_
                exact ev_ret dX7_codeOf_86 rfl k
              · have k := k.1 h15
                refine ev_cst (v := 13) (pc' := 82) dX7_codeOf_80 (by decide) rfl ?_
                refine ev_go (tgt := 86) dX7_codeOf_82 (by decide) ?_
                exact ev_ret dX7_codeOf_86 rfl k
            · have k := k.1 h14
              refine ev_cst (v := 12) (pc' := 73) dX7_codeOf_71 (by decide) rfl ?_
              exact ev_ret dX7_codeOf_73 rfl k
          · have k := k.1 h13
            refine ev_cst (v := 11) (pc' := 64) dX7_codeOf_62 (by decide) rfl ?_
            exact ev_ret dX7_codeOf_64 rfl k
        · have k := k.2 h12
          refine ev_p (pc' := 43) (ls' := [some (.inl x0)]) (st' := [.inl x0]) dX7_codeOf_42 rfl ?_
          refine ev_cst (v := 122) (pc' := 45) dX7_codeOf_43 (by decide) rfl ?_
          refine ev_ic_gt (tgt := 56) (pc' := 48) dX7_codeOf_45 (by decide) rfl (fun h16 => ?_) (fun h16 => ?_)
          · have k := k.1 h16
            refine ev_p (pc' := 57) (ls' := [some (.inl x0)]) (st' := [.inl x0]) dX7_codeOf_56 rfl ?_
            refine ev_cst (v := 61) (pc' := 59) dX7_codeOf_57 (by decide) rfl ?_
            refine ev_ic_ne (tgt := 65) (pc' := 62) dX7_codeOf_59 (by decide) rfl (fun h17 => ?_) (fun h17 => ?_)
            · have k := k.2 h17
              refine ev_p (pc' := 66) (ls' := [some (.inl x0)]) (st' := [.inl x0]) dX7_codeOf_65 rfl ?_
              refine ev_cst (v := 33) (pc' := 68) dX7_codeOf_66 (by decide) rfl ?_
              refine ev_ic_ne (tgt := 74) (pc' := 71) dX7_codeOf_68 (by decide) rfl (fun h18 => ?_) (fun h18 => ?_)
              · have k := k.2 h18
                refine ev_p (pc' := 75) (ls' := [some (.inl x0)]) (st' := [.inl x0]) dX7_codeOf_74 rfl ?_
                refine ev_cst (v := 124) (pc' := 77) dX7_codeOf_75 (by decide) rfl ?_
                refine ev_ic_ne (tgt := 85) (pc' := 80) dX7_codeOf_77 (by decide) rfl (fun h19 => ?_) (fun h19 => ?_)
                · have k := k.2 h19
                  refine ev_cst (v := (-1)) (pc' := 86) dX7_codeOf_85 (by decide) rfl ?_
                  exact ev_ret dX7_codeOf_86 rfl k
                · have k := k.1 h19
                  refine ev_cst (v := 13) (pc' := 82) dX7_codeOf_80 (by decide) rfl ?_
                  refine ev_go (tgt := 86) dX7_codeOf_82 (by decide) ?_
                  exact ev_ret dX7_codeOf_86 rfl k
              · have k := k.1 h18
                refine ev_cst (v := 12) (pc' := 73) dX7_codeOf_71 (by decide) rfl ?_
                exact ev_ret dX7_codeOf_73 rfl k
            · have k := k.1 h17
              refine ev_cst (v := 11) (pc' := 64) dX7_codeOf_62 (by decide) rfl ?_
              exact ev_ret dX7_codeOf_64 rfl k
          · have k := k.2 h16
            refine ev_cst (v := 8) (pc' := 50) dX7_codeOf_48 (by decide) rfl ?_
            refine ev_p (pc' := 51) (ls' := [some (.inl x0)]) (st' := [.inl x0, .inl 8]) dX7_codeOf_50 rfl ?_
            refine ev_cst (v := 120) (pc' := 53) dX7_codeOf_51 (by decide) rfl ?_
            refine ev_p (pc' := 54) (ls' := [some (.inl x0)]) (st' := [.inl (x0 - 120), .inl 8]) dX7_codeOf_53 rfl ?_
            refine ev_p (pc' := 55) (ls' := [some (.inl x0)]) (st' := [.inl (8 + (x0 - 120))]) dX7_codeOf_54 rfl ?_
            exact ev_ret dX7_codeOf_55 rfl k
      · have k := k.2 h11
        refine ev_cst (v := 4) (pc' := 30) dX7_codeOf_29 (by decide) rfl ?_
        refine ev_p (pc' := 31) (ls' := [some (.inl x0)]) (st' := [.inl x0, .inl 4]) dX7_codeOf_30 rfl ?_
        refine ev_cst (v := 80) (pc' := 33) dX7_codeOf_31 (by decide) rfl ?_
        refine ev_p (pc' := 34) (ls' := [some (.inl x0)]) (st' := [.inl (x0 - 80), .inl 4]) dX7_codeOf_33 rfl ?_
        refine ev_p (pc' := 35) (ls' := [some (.inl x0)]) (st' := [.inl (4 + (x0 - 80))]) dX7_codeOf_34 rfl ?_
        exact ev_ret dX7_codeOf_35 rfl k
  · have k := k.2 h1
    refine ev_p (pc' := 7) (ls' := [some (.inl x0)]) (st' := [.inl x0]) dX7_codeOf_6 rfl ?_
    refine ev_cst (v := 100) (pc' := 9) dX7_codeOf_7 (by decide) rfl ?_
    refine ev_ic_gt (tgt := 17) (pc' := 12) dX7_codeOf_9 (by decide) rfl (fun h20 => ?_) (fun h20 => ?_)
    · have k := k.1 h20
      refine ev_p (pc' := 18) (ls' := [some (.inl x0)]) (st' := [.inl x0]) dX7_codeOf_17 rfl ?_
      refine ev_cst (v := 80) (pc' := 20) dX7_codeOf_18 (by decide) rfl ?_
      refine ev_ic_lt (tgt := 36) (pc' := 23) dX7_codeOf_20 (by decide) rfl (fun h21 => ?_) (fun h21 => ?_)
      · have k := k.1 h21
        refine ev_p (pc' := 37) (ls' := [some (.inl x0)]) (st' := [.inl x0]) dX7_codeOf_36 rfl ?_
        refine ev_cst (v := 120) (pc' := 39) dX7_codeOf_37 (by decide) rfl ?_
        refine ev_ic_lt (tgt := 56) (pc' := 42) dX7_codeOf_39 (by decide) rfl (fun h22 => ?_) (fun h22 => ?_)
        · have k := k.1 h22
          refine ev_p (pc' := 57) (ls' := [some (.inl x0)]) (st' := [.inl x0]) dX7_codeOf_56 rfl ?_
          refine ev_cst (v := 61) (pc' := 59) dX7_codeOf_57 (by decide) rfl ?_
          refine ev_ic_ne (tgt := 65) (pc' := 62) dX7_codeOf_59 (by decide) rfl (fun h23 => ?_) (fun h23 => ?_)
          · have k := k.2 h23
            refine ev_p (pc' := 66) (ls' := [some (.inl x0)]) (st' := [.inl x0]) dX7_codeOf_65 rfl ?_
            refine ev_cst (v := 33) (pc' := 68) dX7_codeOf_66 (by decide) rfl ?_
            refine ev_ic_ne (tgt := 74) (pc' := 71) dX7_codeOf_68 (by decide) rfl (fun h24 => ?_) (fun h24 => ?_)
            · have k := k.2 h24
              refine ev_p (pc' := 75) (ls' := [some (.inl x0)]) (st' := [.inl x0]) dX7_codeOf_74 rfl ?_
              refine ev_cst (v := 124) (pc' := 77) dX7_codeOf_75 (by decide) rfl ?_
              refine ev_ic_ne (tgt := 85) (pc' := 80) dX7_codeOf_77 (by decide) rfl (fun h25 => ?_) (fun h25 => ?_)
              · have k := k.2 h25
                refine ev_cst (v := (-1)) (pc' := 86) dX7_codeOf_85 (by decide) rfl ?_
                exact ev_ret dX7_codeOf_86 rfl k
              · have k := k.1 h25
                refine ev_cst (v := 13) (pc' := 82) dX7_codeOf_80 (by decide) rfl ?_
                refine ev_go (tgt := 86) dX7_codeOf_82 (by decide) ?_
                exact ev_ret dX7_codeOf_86 rfl k
            · have k := k.1 h24
              refine ev_cst (v := 12) (pc' := 73) dX7_codeOf_71 (by decide) rfl ?_
              exact ev_ret dX7_codeOf_73 rfl k
          · have k := k.1 h23
            refine ev_cst (v := 11) (pc' := 64) dX7_codeOf_62 (by decide) rfl ?_
            exact ev_ret dX7_codeOf_64 rfl k
        · have k := k.2 h22
          refine ev_p (pc' := 43) (ls' := [some (.inl x0)]) (st' := [.inl x0]) dX7_codeOf_42 rfl ?_
          refine ev_cst (v := 122) (pc' := 45) dX7_codeOf_43 (by decide) rfl ?_
          refine ev_ic_gt (tgt := 56) (pc' := 48) dX7_codeOf_45 (by decide) rfl (fun h26 => ?_) (fun h26 => ?_)
          · have k := k.1 h26
            refine ev_p (pc' := 57) (ls' := [some (.inl x0)]) (st' := [.inl x0]) dX7_codeOf_56 rfl ?_
            refine ev_cst (v := 61) (pc' := 59) dX7_codeOf_57 (by decide) rfl ?_
            refine ev_ic_ne (tgt := 65) (pc' := 62) dX7_codeOf_59 (by decide) rfl (fun h27 => ?_) (fun h27 => ?_)
            · have k := k.2 h27
              refine ev_p (pc' := 66) (ls' := [some (.inl x0)]) (st' := [.inl x0]) dX7_codeOf_65 rfl ?_
              refine ev_cst (v := 33) (pc' := 68) dX7_codeOf_66 (by decide) rfl ?_
              refine ev_ic_ne (tgt := 74) (pc' := 71) dX7_codeOf_68 (by decide) rfl (fun h28 => ?_) (fun h28 => ?_)
              · have k := k.2 h28
                refine ev_p (pc' := 75) (ls' := [some (.inl x0)]) (st' := [.inl x0]) dX7_codeOf_74 rfl ?_
                refine ev_cst (v := 124) (pc' := 77) dX7_codeOf_75 (by decide) rfl ?_
                refine ev_ic_ne (tgt := 85) (pc' := 80) dX7_codeOf_77 (by decide) rfl (fun h29 => ?_) (fun h29 => ?_)
                · have k := k.2 h29
                  refine ev_cst (v := (-1)) (pc' := 86) dX7_codeOf_85 (by decide) rfl ?_
                  exact ev_ret dX7_codeOf_86 rfl k
                · have k := k.1 h29
                  refine ev_cst (v := 13) (pc' := 82) dX7_codeOf_80 (by decide) rfl ?_
                  refine ev_go (tgt := 86) dX7_codeOf_82 (by decide) ?_
                  exact ev_ret dX7_codeOf_86 rfl k
              · have k := k.1 h28
                refine ev_cst (v := 12) (pc' := 73) dX7_codeOf_71 (by decide) rfl ?_
                exact ev_ret dX7_codeOf_73 rfl k
            · have k := k.1 h27
              refine ev_cst (v := 11) (pc' := 64) dX7_codeOf_62 (by decide) rfl ?_
              exact ev_ret dX7_codeOf_64 rfl k
          · have k := k.2 h26
            refine ev_cst (v := 8) (pc' := 50) dX7_codeOf_48 (by decide) rfl ?_
            refine ev_p (pc' := 51) (ls' := [some (.inl x0)]) (st' := [.inl x0, .inl 8]) dX7_codeOf_50 rfl ?_
            refine ev_cst (v := 120) (pc' := 53) dX7_codeOf_51 (by decide) rfl ?_
            refine ev_p (pc' := 54) (ls' := [some (.inl x0)]) (st' := [.inl (x0 - 120), .inl 8]) dX7_codeOf_53 rfl ?_
            refine ev_p (pc' := 55) (ls' := [some (.inl x0)]) (st' := [.inl (8 + (x0 - 120))]) dX7_codeOf_54 rfl ?_
            exact ev_ret dX7_codeOf_55 rfl k
      · have k := k.2 h21
        refine ev_p (pc' := 24) (ls' := [some (.inl x0)]) (st' := [.inl x0]) dX7_codeOf_23 rfl ?_
        refine ev_cst (v := 83) (pc' := 26) dX7_codeOf_24 (by decide) rfl ?_
        refine ev_ic_gt (tgt := 36) (pc' := 29) dX7_codeOf_26 (by decide) rfl (fun h30 => ?_) (fun h30 => ?_)
        · have k := k.1 h30
          refine ev_p (pc' := 37) (ls' := [some (.inl x0)]) (st' := [.inl x0]) dX7_codeOf_36 rfl ?_
          refine ev_cst (v := 120) (pc' := 39) dX7_codeOf_37 (by decide) rfl ?_
          refine ev_ic_lt (tgt := 56) (pc' := 42) dX7_codeOf_39 (by decide) rfl (fun h31 => ?_) (fun h31 => ?_)
          · have k := k.1 h31
            refine ev_p (pc' := 57) (ls' := [some (.inl x0)]) (st' := [.inl x0]) dX7_codeOf_56 rfl ?_
            refine ev_cst (v := 61) (pc' := 59) dX7_codeOf_57 (by decide) rfl ?_
            refine ev_ic_ne (tgt := 65) (pc' := 62) dX7_codeOf_59 (by decide) rfl (fun h32 => ?_) (fun h32 => ?_)
            · have k := k.2 h32
              refine ev_p (pc' := 66) (ls' := [some (.inl x0)]) (st' := [.inl x0]) dX7_codeOf_65 rfl ?_
              refine ev_cst (v := 33) (pc' := 68) dX7_codeOf_66 (by decide) rfl ?_
              refine ev_ic_ne (tgt := 74) (pc' := 71) dX7_codeOf_68 (by decide) rfl (fun h33 => ?_) (fun h33 => ?_)
              · have k := k.2 h33
                refine ev_p (pc' := 75) (ls' := [some (.inl x0)]) (st' := [.inl x0]) dX7_codeOf_74 rfl ?_
                refine ev_cst (v := 124) (pc' := 77) dX7_codeOf_75 (by decide) rfl ?_
                refine ev_ic_ne (tgt := 85) (pc' := 80) dX7_codeOf_77 (by decide) rfl (fun h34 => ?_) (fun h34 => ?_)
                · have k := k.2 h34
                  refine ev_cst (v := (-1)) (pc' := 86) dX7_codeOf_85 (by decide) rfl ?_
                  exact ev_ret dX7_codeOf_86 rfl k
                · have k := k.1 h34
                  refine ev_cst (v := 13) (pc' := 82) dX7_codeOf_80 (by decide) rfl ?_
                  refine ev_go (tgt := 86) dX7_codeOf_82 (by decide) ?_
                  exact ev_ret dX7_codeOf_86 rfl k
              · have k := k.1 h33
                refine ev_cst (v := 12) (pc' := 73) dX7_codeOf_71 (by decide) rfl ?_
                exact ev_ret dX7_codeOf_73 rfl k
            · have k := k.1 h32
              refine ev_cst (v := 11) (pc' := 64) dX7_codeOf_62 (by decide) rfl ?_
              exact ev_ret dX7_codeOf_64 rfl k
          · have k := k.2 h31
            refine ev_p (pc' := 43) (ls' := [some (.inl x0)]) (st' := [.inl x0]) dX7_codeOf_42 rfl ?_
            refine ev_cst (v := 122) (pc' := 45) dX7_codeOf_43 (by decide) rfl ?_
            refine ev_ic_gt (tgt := 56) (pc' := 48) dX7_codeOf_45 (by decide) rfl (fun h35 => ?_) (fun h35 => ?_)
            · have k := k.1 h35
              refine ev_p (pc' := 57) (ls' := [some (.inl x0)]) (st' := [.inl x0]) dX7_codeOf_56 rfl ?_
              refine ev_cst (v := 61) (pc' := 59) dX7_codeOf_57 (by decide) rfl ?_
              refine ev_ic_ne (tgt := 65) (pc' := 62) dX7_codeOf_59 (by decide) rfl (fun h36 => ?_) (fun h36 => ?_)
              · have k := k.2 h36
                refine ev_p (pc' := 66) (ls' := [some (.inl x0)]) (st' := [.inl x0]) dX7_codeOf_65 rfl ?_
                refine ev_cst (v := 33) (pc' := 68) dX7_codeOf_66 (by decide) rfl ?_
                refine ev_ic_ne (tgt := 74) (pc' := 71) dX7_codeOf_68 (by decide) rfl (fun h37 => ?_) (fun h37 => ?_)
                · have k := k.2 h37
                  refine ev_p (pc' := 75) (ls' := [some (.inl x0)]) (st' := [.inl x0]) dX7_codeOf_74 rfl ?_
                  refine ev_cst (v := 124) (pc' := 77) dX7_codeOf_75 (by decide) rfl ?_
                  refine ev_ic_ne (tgt := 85) (pc' := 80) dX7_codeOf_77 (by decide) rfl (fun h38 => ?_) (fun h38 => ?_)
                  · have k := k.2 h38
                    refine ev_cst (v := (-1)) (pc' := 86) dX7_codeOf_85 (by decide) rfl ?_
                    exact ev_ret dX7_codeOf_86 rfl k
                  · have k := k.1 h38
                    refine ev_cst (v := 13) (pc' := 82) dX7_codeOf_80 (by decide) rfl ?_
                    refine ev_go (tgt := 86) dX7_codeOf_82 (by decide) ?_
                    exact ev_ret dX7_codeOf_86 rfl k
                · have k := k.1 h37
                  refine ev_cst (v := 12) (pc' := 73) dX7_codeOf_71 (by decide) rfl ?_
                  exact ev_ret dX7_codeOf_73 rfl k
              · have k := k.1 h36
                refine ev_cst (v := 11) (pc' := 64) dX7_codeOf_62 (by decide) rfl ?_
                exact ev_ret dX7_codeOf_64 rfl k
            · have k := k.2 h35
              refine ev_cst (v := 8) (pc' := 50) dX7_codeOf_48 (by decide) rfl ?_
              refine ev_p (pc' := 51) (ls' := [some (.inl x0)]) (st' := [.inl x0, .inl 8]) dX7_codeOf_50 rfl ?_
              refine ev_cst (v := 120) (pc' := 53) dX7_codeOf_51 (by decide) rfl ?_
              refine ev_p (pc' := 54) (ls' := [some (.inl x0)]) (st' := [.inl (x0 - 120), .inl 8]) dX7_codeOf_53 rfl ?_
              refine ev_p (pc' := 55) (ls' := [some (.inl x0)]) (st' := [.inl (8 + (x0 - 120))]) dX7_codeOf_54 rfl ?_
              exact ev_ret dX7_codeOf_55 rfl k
        · have k := k.2 h30
          refine ev_cst (v := 4) (pc' := 30) dX7_codeOf_29 (by decide) rfl ?_
          refine ev_p (pc' := 31) (ls' := [some (.inl x0)]) (st' := [.inl x0, .inl 4]) dX7_codeOf_30 rfl ?_
          refine ev_cst (v := 80) (pc' := 33) dX7_codeOf_31 (by decide) rfl ?_
          refine ev_p (pc' := 34) (ls' := [some (.inl x0)]) (st' := [.inl (x0 - 80), .inl 4]) dX7_codeOf_33 rfl ?_
          refine ev_p (pc' := 35) (ls' := [some (.inl x0)]) (st' := [.inl (4 + (x0 - 80))]) dX7_codeOf_34 rfl ?_
          exact ev_ret dX7_codeOf_35 rfl k
    · have k := k.2 h20
      refine ev_p (pc' := 13) (ls' := [some (.inl x0)]) (st' := [.inl x0]) dX7_codeOf_12 rfl ?_
      refine ev_cst (v := 97) (pc' := 15) dX7_codeOf_13 (by decide) rfl ?_
      refine ev_p (pc' := 16) (ls' := [some (.inl x0)]) (st' := [.inl (x0 - 97)]) dX7_codeOf_15 rfl ?_
      exact ev_ret dX7_codeOf_16 rfl k
set_option maxRecDepth 20000 in
theorem s_X7_type_0 {σ : ab_M} {Q : Option ab_V → ab_M → Prop} {x1 : Int64} {x3 : Int32}
    (k : ((x3 < 1 → Q (some (.inl (-1))) σ) ∧ (¬ x3 < 1 → ((8 < x3 → Q (some (.inl (-1))) σ) ∧ (¬ 8 < x3 → evm mX7_areAllVisible [.inr (.inl x1), .inl x3] σ (fun v τ1 => ∃ r2 : Int32, v = some (.inl r2) ∧ ((r2 = 0 → Q (some (.inl (-1))) τ1) ∧ (¬ r2 = 0 → evm mX0_hasRoomFor [.inr (.inr 3), .inl x3] τ1 (fun v τ3 => ∃ r4 : Int32, v = some (.inl r4) ∧ ((r4 = 0 → Q (some (.inl (-3))) τ3) ∧ (¬ r4 = 0 → ev mX7_type 40 [some (.inr (.inr 0)), some (.inr (.inl x1)), none, some (.inl x3), some (.inl (x3 - 1))] [] τ3 Q))))))))))) :
    ev mX7_type 0 [some (.inr (.inr 0)), some (.inr (.inl x1)), none, some (.inl x3), none] [] σ Q := by
  refine ev_p (pc' := 1) (ls' := [some (.inr (.inr 0)), some (.inr (.inl x1)), none, some (.inl x3), none]) (st' := [.inl x3]) dX7_type_0 rfl ?_
  refine ev_cst (v := 1) (pc' := 2) dX7_type_1 (by decide) rfl ?_
  refine ev_ic_lt (tgt := 19) (pc' := 5) dX7_type_2 (by decide) rfl (fun h1 => ?_) (fun h1 => ?_)
  · have k := k.1 h1
    refine ev_cst (v := (-1)) (pc' := 20) dX7_type_19 (by decide) rfl ?_
    exact ev_ret dX7_type_20 rfl k
  · have k := k.2 h1
    refine ev_p (pc' := 6) (ls' := [some (.inr (.inr 0)), some (.inr (.inl x1)), none, some (.inl x3), none]) (st' := [.inl x3]) dX7_type_5 rfl ?_
    refine ev_cst (v := 8) (pc' := 8) dX7_type_6 (by decide) rfl ?_
    refine ev_ic_gt (tgt := 19) (pc' := 11) dX7_type_8 (by decide) rfl (fun h2 => ?_) (fun h2 => ?_)
    · have k := k.1 h2
      refine ev_cst (v := (-1)) (pc' := 20) dX7_type_19 (by decide) rfl ?_
      exact ev_ret dX7_type_20 rfl k
    · have k := k.2 h2
      refine ev_p (pc' := 12) (ls' := [some (.inr (.inr 0)), some (.inr (.inl x1)), none, some (.inl x3), none]) (st' := [.inr (.inl x1)]) dX7_type_11 rfl ?_
      refine ev_p (pc' := 13) (ls' := [some (.inr (.inr 0)), some (.inr (.inl x1)), none, some (.inl x3), none]) (st' := [.inl x3, .inr (.inl x1)]) dX7_type_12 rfl ?_
      refine ev_call (y := 15) (as := [.inr (.inl x1), .inl x3]) (r := []) (M' := mX7_areAllVisible) (pc' := 16) dX7_type_13 rfl rfl ⟨rfl, rfl⟩ rfl k rfl (fun v τ1 hq => ?_)
      obtain ⟨r2, hv, k⟩ := hq
      rw [hv]
      change ev mX7_type 16 [some (.inr (.inr 0)), some (.inr (.inl x1)), none, some (.inl x3), none] [.inl r2] τ1 _
      refine ev_if_ne (tgt := 21) (pc' := 19) dX7_type_16 (by decide) rfl (fun h3 => ?_) (fun h3 => ?_)
      · have k := k.2 h3
        refine ev_p (pc' := 22) (ls' := [some (.inr (.inr 0)), some (.inr (.inl x1)), none, some (.inl x3), none]) (st' := [.inr (.inr 0)]) dX7_type_21 rfl ?_
        refine ev_getA (pc' := 25) (z := 3) dX7_type_22 rfl rfl rfl rfl ?_
        refine ev_p (pc' := 26) (ls' := [some (.inr (.inr 0)), some (.inr (.inl x1)), none, some (.inl x3), none]) (st' := [.inl x3, .inr (.inr 3)]) dX7_type_25 rfl ?_
        refine ev_call (y := 17) (as := [.inr (.inr 3), .inl x3]) (r := []) (M' := mX0_hasRoomFor) (pc' := 29) dX7_type_26 rfl rfl ⟨rfl, rfl⟩ rfl k rfl (fun v τ3 hq => ?_)
        obtain ⟨r4, hv, k⟩ := hq
        rw [hv]
        change ev mX7_type 29 [some (.inr (.inr 0)), some (.inr (.inl x1)), none, some (.inl x3), none] [.inl r4] τ3 _
        refine ev_if_ne (tgt := 35) (pc' := 32) dX7_type_29 (by decide) rfl (fun h4 => ?_) (fun h4 => ?_)
        · have k := k.2 h4
          refine ev_p (pc' := 36) (ls' := [some (.inr (.inr 0)), some (.inr (.inl x1)), none, some (.inl x3), none]) (st' := [.inl x3]) dX7_type_35 rfl ?_
          refine ev_cst (v := 1) (pc' := 37) dX7_type_36 (by decide) rfl ?_
          refine ev_p (pc' := 38) (ls' := [some (.inr (.inr 0)), some (.inr (.inl x1)), none, some (.inl x3), none]) (st' := [.inl (x3 - 1)]) dX7_type_37 rfl ?_
          refine ev_p (pc' := 40) (ls' := [some (.inr (.inr 0)), some (.inr (.inl x1)), none, some (.inl x3), some (.inl (x3 - 1))]) (st' := []) dX7_type_38 rfl ?_
          exact k
        · have k := k.1 h4
          refine ev_cst (v := (-3)) (pc' := 34) dX7_type_32 (by decide) rfl ?_
          exact ev_ret dX7_type_34 rfl k
      · have k := k.1 h3
        refine ev_cst (v := (-1)) (pc' := 20) dX7_type_19 (by decide) rfl ?_
        exact ev_ret dX7_type_20 rfl k
set_option maxRecDepth 20000 in
theorem s_X7_type_40 {σ : ab_M} {Q : Option ab_V → ab_M → Prop} {x1 : Int64} {x3 : Int32} {x4 : Int32}
    (k : ((x4 < 0 → evm mX0_length [.inr (.inr 3)] σ (fun v τ1 => ∃ r2 : Int32, v = some (.inl r2) ∧ Q (some (.inl r2)) τ1)) ∧ (¬ x4 < 0 → evm mX7_byteAt [.inr (.inl x1), .inl x4] σ (fun v τ1 => ∃ r2 : Int32, v = some (.inl r2) ∧ evm mX0_append [.inr (.inr 3), .inl r2] τ1 (fun v τ3 => v = none ∧ ev mX7_type 40 [some (.inr (.inr 0)), some (.inr (.inl x1)), none, some (.inl x3), some (.inl (x4 + (-1)))] [] τ3 Q))))) :
    ev mX7_type 40 [some (.inr (.inr 0)), some (.inr (.inl x1)), none, some (.inl x3), some (.inl x4)] [] σ Q := by
  refine ev_p (pc' := 42) (ls' := [some (.inr (.inr 0)), some (.inr (.inl x1)), none, some (.inl x3), some (.inl x4)]) (st' := [.inl x4]) dX7_type_40 rfl ?_
  refine ev_if_lt (tgt := 64) (pc' := 45) dX7_type_42 (by decide) rfl (fun h1 => ?_) (fun h1 => ?_)
  · have k := k.1 h1
    refine ev_p (pc' := 65) (ls' := [some (.inr (.inr 0)), some (.inr (.inl x1)), none, some (.inl x3), some (.inl x4)]) (st' := [.inr (.inr 0)]) dX7_type_64 rfl ?_
    refine ev_getA (pc' := 68) (z := 3) dX7_type_65 rfl rfl rfl rfl ?_
    refine ev_call (y := 19) (as := [.inr (.inr 3)]) (r := []) (M' := mX0_length) (pc' := 71) dX7_type_68 rfl rfl ⟨rfl, rfl⟩ rfl k rfl (fun v τ1 hq => ?_)
    obtain ⟨r2, hv, k⟩ := hq
    rw [hv]
    change ev mX7_type 71 [some (.inr (.inr 0)), some (.inr (.inl x1)), none, some (.inl x3), some (.inl x4)] [.inl r2] τ1 _
    exact ev_ret dX7_type_71 rfl k
  · have k := k.2 h1
    refine ev_p (pc' := 46) (ls' := [some (.inr (.inr 0)), some (.inr (.inl x1)), none, some (.inl x3), some (.inl x4)]) (st' := [.inr (.inr 0)]) dX7_type_45 rfl ?_
    refine ev_getA (pc' := 49) (z := 3) dX7_type_46 rfl rfl rfl rfl ?_
    refine ev_p (pc' := 50) (ls' := [some (.inr (.inr 0)), some (.inr (.inl x1)), none, some (.inl x3), some (.inl x4)]) (st' := [.inr (.inl x1), .inr (.inr 3)]) dX7_type_49 rfl ?_
    refine ev_p (pc' := 52) (ls' := [some (.inr (.inr 0)), some (.inr (.inl x1)), none, some (.inl x3), some (.inl x4)]) (st' := [.inl x4, .inr (.inl x1), .inr (.inr 3)]) dX7_type_50 rfl ?_
    refine ev_call (y := 16) (as := [.inr (.inl x1), .inl x4]) (r := [.inr (.inr 3)]) (M' := mX7_byteAt) (pc' := 55) dX7_type_52 rfl rfl ⟨rfl, rfl⟩ rfl k rfl (fun v τ1 hq => ?_)
    obtain ⟨r2, hv, k⟩ := hq
    rw [hv]
    change ev mX7_type 55 [some (.inr (.inr 0)), some (.inr (.inl x1)), none, some (.inl x3), some (.inl x4)] [.inl r2, .inr (.inr 3)] τ1 _
    refine ev_call (y := 18) (as := [.inr (.inr 3), .inl r2]) (r := []) (M' := mX0_append) (pc' := 58) dX7_type_55 rfl rfl ⟨rfl, rfl⟩ rfl k rfl (fun v τ3 hq => ?_)
    obtain ⟨hv, k⟩ := hq
    rw [hv]
    change ev mX7_type 58 [some (.inr (.inr 0)), some (.inr (.inl x1)), none, some (.inl x3), some (.inl x4)] [] τ3 _
    refine ev_p (pc' := 61) (ls' := [some (.inr (.inr 0)), some (.inr (.inl x1)), none, some (.inl x3), some (.inl (x4 + (-1)))]) (st' := []) dX7_type_58 rfl ?_
    refine ev_go (tgt := 40) dX7_type_61 (by decide) ?_
    exact k
set_option maxRecDepth 20000 in
theorem s_X7_areAllVisible_0 {σ : ab_M} {Q : Option ab_V → ab_M → Prop} {x0 : Int64} {x2 : Int32}
    (k : ev mX7_areAllVisible 2 [some (.inr (.inl x0)), none, some (.inl x2), some (.inl 0), none] [] σ Q) :
    ev mX7_areAllVisible 0 [some (.inr (.inl x0)), none, some (.inl x2), none, none] [] σ Q := by
  refine ev_cst (v := 0) (pc' := 1) dX7_areAllVisible_0 (by decide) rfl ?_
  refine ev_p (pc' := 2) (ls' := [some (.inr (.inl x0)), none, some (.inl x2), some (.inl 0), none]) (st' := []) dX7_areAllVisible_1 rfl ?_
  exact k
set_option maxRecDepth 20000 in
theorem s_X7_areAllVisible_2 {σ : ab_M} {Q : Option ab_V → ab_M → Prop} {x0 : Int64} {x2 : Int32} {x3 : Int32} {o4 : Option ab_V}
    (k : ((x2 ≤ x3 → Q (some (.inl 1)) σ) ∧ (¬ x2 ≤ x3 → evm mX7_byteAt [.inr (.inl x0), .inl x3] σ (fun v τ1 => ∃ r2 : Int32, v = some (.inl r2) ∧ ((r2 < 33 → Q (some (.inl 0)) τ1) ∧ (¬ r2 < 33 → ((r2 ≤ 126 → ev mX7_areAllVisible 2 [some (.inr (.inl x0)), none, some (.inl x2), some (.inl (x3 + 1)), some (.inl r2)] [] τ1 Q) ∧ (¬ r2 ≤ 126 → Q (some (.inl 0)) τ1)))))))) :
    ev mX7_areAllVisible 2 [some (.inr (.inl x0)), none, some (.inl x2), some (.inl x3), o4] [] σ Q := by
  refine ev_p (pc' := 3) (ls' := [some (.inr (.inl x0)), none, some (.inl x2), some (.inl x3), o4]) (st' := [.inl x3]) dX7_areAllVisible_2 rfl ?_
  refine ev_p (pc' := 4) (ls' := [some (.inr (.inl x0)), none, some (.inl x2), some (.inl x3), o4]) (st' := [.inl x2, .inl x3]) dX7_areAllVisible_3 rfl ?_
  refine ev_ic_ge (tgt := 36) (pc' := 7) dX7_areAllVisible_4 (by decide) rfl (fun h1 => ?_) (fun h1 => ?_)
  · have k := k.1 h1
    refine ev_cst (v := 1) (pc' := 37) dX7_areAllVisible_36 (by decide) rfl ?_
    exact ev_retZ dX7_areAllVisible_37 rfl rfl k
  · have k := k.2 h1
    refine ev_p (pc' := 8) (ls' := [some (.inr (.inl x0)), none, some (.inl x2), some (.inl x3), o4]) (st' := [.inr (.inl x0)]) dX7_areAllVisible_7 rfl ?_
    refine ev_p (pc' := 9) (ls' := [some (.inr (.inl x0)), none, some (.inl x2), some (.inl x3), o4]) (st' := [.inl x3, .inr (.inl x0)]) dX7_areAllVisible_8 rfl ?_
    refine ev_call (y := 16) (as := [.inr (.inl x0), .inl x3]) (r := []) (M' := mX7_byteAt) (pc' := 12) dX7_areAllVisible_9 rfl rfl ⟨rfl, rfl⟩ rfl k rfl (fun v τ1 hq => ?_)
    obtain ⟨r2, hv, k⟩ := hq
    rw [hv]
    change ev mX7_areAllVisible 12 [some (.inr (.inl x0)), none, some (.inl x2), some (.inl x3), o4] [.inl r2] τ1 _
    refine ev_p (pc' := 14) (ls' := [some (.inr (.inl x0)), none, some (.inl x2), some (.inl x3), some (.inl r2)]) (st' := []) dX7_areAllVisible_12 rfl ?_
    refine ev_p (pc' := 16) (ls' := [some (.inr (.inl x0)), none, some (.inl x2), some (.inl x3), some (.inl r2)]) (st' := [.inl r2]) dX7_areAllVisible_14 rfl ?_
    refine ev_cst (v := 33) (pc' := 18) dX7_areAllVisible_16 (by decide) rfl ?_
    refine ev_ic_lt (tgt := 28) (pc' := 21) dX7_areAllVisible_18 (by decide) rfl (fun h2 => ?_) (fun h2 => ?_)
    · have k := k.1 h2
      refine ev_cst (v := 0) (pc' := 29) dX7_areAllVisible_28 (by decide) rfl ?_
      exact ev_retZ dX7_areAllVisible_29 rfl rfl k
    · have k := k.2 h2
      refine ev_p (pc' := 23) (ls' := [some (.inr (.inl x0)), none, some (.inl x2), some (.inl x3), some (.inl r2)]) (st' := [.inl r2]) dX7_areAllVisible_21 rfl ?_
      refine ev_cst (v := 126) (pc' := 25) dX7_areAllVisible_23 (by decide) rfl ?_
      refine ev_ic_le (tgt := 30) (pc' := 28) dX7_areAllVisible_25 (by decide) rfl (fun h3 => ?_) (fun h3 => ?_)
      · have k := k.1 h3
        refine ev_p (pc' := 33) (ls' := [some (.inr (.inl x0)), none, some (.inl x2), some (.inl (x3 + 1)), some (.inl r2)]) (st' := []) dX7_areAllVisible_30 rfl ?_
        refine ev_go (tgt := 2) dX7_areAllVisible_33 (by decide) ?_
        exact k
      · have k := k.2 h3
        refine ev_cst (v := 0) (pc' := 29) dX7_areAllVisible_28 (by decide) rfl ?_
        exact ev_retZ dX7_areAllVisible_29 rfl rfl k
set_option maxRecDepth 20000 in
theorem s_X7_byteAt_0 {σ : ab_M} {Q : Option ab_V → ab_M → Prop} {x0 : Int64} {x2 : Int32}
    (k : (ab_rok .char ((((((x0.toUInt64 >>> ((8 * x2).toInt64.toUInt64 &&& Int64.toUInt64 63)).toInt64) &&& 255).toInt32).toUInt32 % 65536).toInt32) = true ∧ Q (some (.inl ((((((x0.toUInt64 >>> ((8 * x2).toInt64.toUInt64 &&& Int64.toUInt64 63)).toInt64) &&& 255).toInt32).toUInt32 % 65536).toInt32))) σ)) :
    ev mX7_byteAt 0 [some (.inr (.inl x0)), none, some (.inl x2)] [] σ Q := by
  refine ev_p (pc' := 1) (ls' := [some (.inr (.inl x0)), none, some (.inl x2)]) (st' := [.inr (.inl x0)]) dX7_byteAt_0 rfl ?_
  refine ev_cst (v := 8) (pc' := 3) dX7_byteAt_1 (by decide) rfl ?_
  refine ev_p (pc' := 4) (ls' := [some (.inr (.inl x0)), none, some (.inl x2)]) (st' := [.inl x2, .inl 8, .inr (.inl x0)]) dX7_byteAt_3 rfl ?_
  refine ev_p (pc' := 5) (ls' := [some (.inr (.inl x0)), none, some (.inl x2)]) (st' := [.inl (8 * x2), .inr (.inl x0)]) dX7_byteAt_4 rfl ?_
  refine ev_p (pc' := 6) (ls' := [some (.inr (.inl x0)), none, some (.inl x2)]) (st' := [.inr (.inl ((x0.toUInt64 >>> ((8 * x2).toInt64.toUInt64 &&& Int64.toUInt64 63)).toInt64))]) dX7_byteAt_5 rfl ?_
  refine ev_p (pc' := 9) (ls' := [some (.inr (.inl x0)), none, some (.inl x2)]) (st' := [.inr (.inl 255), .inr (.inl ((x0.toUInt64 >>> ((8 * x2).toInt64.toUInt64 &&& Int64.toUInt64 63)).toInt64))]) dX7_byteAt_6 rfl ?_
  refine ev_p (pc' := 10) (ls' := [some (.inr (.inl x0)), none, some (.inl x2)]) (st' := [.inr (.inl (((x0.toUInt64 >>> ((8 * x2).toInt64.toUInt64 &&& Int64.toUInt64 63)).toInt64) &&& 255))]) dX7_byteAt_9 rfl ?_
  refine ev_p (pc' := 11) (ls' := [some (.inr (.inl x0)), none, some (.inl x2)]) (st' := [.inl ((((x0.toUInt64 >>> ((8 * x2).toInt64.toUInt64 &&& Int64.toUInt64 63)).toInt64) &&& 255).toInt32)]) dX7_byteAt_10 rfl ?_
  refine ev_p (pc' := 12) (ls' := [some (.inr (.inl x0)), none, some (.inl x2)]) (st' := [.inl ((((((x0.toUInt64 >>> ((8 * x2).toInt64.toUInt64 &&& Int64.toUInt64 63)).toInt64) &&& 255).toInt32).toUInt32 % 65536).toInt32)]) dX7_byteAt_11 rfl ?_
  exact ev_retZ dX7_byteAt_12 rfl k.1 k.2
set_option maxRecDepth 20000 in
theorem s_X7_clause_0 {σ : ab_M} {Q : Option ab_V → ab_M → Prop} 
    (k : evm mX2_free [.inr (.inr 5)] σ (fun v τ1 => ∃ q2 : Nat, v = some (.inr (.inr q2)) ∧ (∃ ff, sh0[q2]? = some (.inl (1, ff))) ∧ evm mX1_read [.inr (.inr q2), .inr (.inr 3), .inr (.inr 1)] τ1 (fun v τ3 => ∃ r4 : Int32, v = some (.inl r4) ∧ evm mX0_empty [.inr (.inr 3)] τ3 (fun v τ5 => v = none ∧ ((r4 = (-1) → evm mX2_isFull [.inr (.inr 5)] τ5 (fun v τ6 => ∃ r7 : Int32, v = some (.inl r7) ∧ ((r7 = 0 → evm mX2_keepFree [.inr (.inr 5)] (ab_upd τ6 0 9 1) (fun v τ8 => ∃ r9 : Int32, v = some (.inl r9) ∧ Q (some (.inl r9)) τ8)) ∧ (¬ r7 = 0 → Q (some (.inl (-3))) τ6)))) ∧ (¬ r4 = (-1) → Q (some (.inl ((-100) - r4))) τ5)))))) :
    ev mX7_clause 0 [some (.inr (.inr 0)), none] [] σ Q := by
  refine ev_p (pc' := 1) (ls' := [some (.inr (.inr 0)), none]) (st' := [.inr (.inr 0)]) dX7_clause_0 rfl ?_
  refine ev_getA (pc' := 4) (z := 5) dX7_clause_1 rfl rfl rfl rfl ?_
  refine ev_call (y := 21) (as := [.inr (.inr 5)]) (r := []) (M' := mX2_free) (pc' := 7) dX7_clause_4 rfl rfl ⟨rfl, rfl⟩ rfl k rfl (fun v τ1 hq => ?_)
  obtain ⟨q2, hv, k⟩ := hq
  rw [hv]
  change ev mX7_clause 7 [some (.inr (.inr 0)), none] [.inr (.inr q2)] τ1 _
  refine ev_p (pc' := 8) (ls' := [some (.inr (.inr 0)), none]) (st' := [.inr (.inr 0), .inr (.inr q2)]) dX7_clause_7 rfl ?_
  refine ev_getA (pc' := 11) (z := 3) dX7_clause_8 rfl rfl rfl rfl ?_
  refine ev_p (pc' := 12) (ls' := [some (.inr (.inr 0)), none]) (st' := [.inr (.inr 0), .inr (.inr 3), .inr (.inr q2)]) dX7_clause_11 rfl ?_
  refine ev_getA (pc' := 15) (z := 1) dX7_clause_12 rfl rfl rfl rfl ?_
  obtain ⟨⟨ff, hff⟩, k⟩ := k
  refine ev_call (y := 23) (as := [.inr (.inr q2), .inr (.inr 3), .inr (.inr 1)]) (r := []) (M' := mX1_read) (pc' := 18) dX7_clause_15 (ev_inv1 rfl rfl rfl rfl hff rfl rfl) rfl ⟨rfl, rfl⟩ rfl k rfl (fun v τ3 hq => ?_)
  obtain ⟨r4, hv, k⟩ := hq
  rw [hv]
  change ev mX7_clause 18 [some (.inr (.inr 0)), none] [.inl r4] τ3 _
  refine ev_p (pc' := 19) (ls' := [some (.inr (.inr 0)), some (.inl r4)]) (st' := []) dX7_clause_18 rfl ?_
  refine ev_p (pc' := 20) (ls' := [some (.inr (.inr 0)), some (.inl r4)]) (st' := [.inr (.inr 0)]) dX7_clause_19 rfl ?_
  refine ev_getA (pc' := 23) (z := 3) dX7_clause_20 rfl rfl rfl rfl ?_
  refine ev_call (y := 34) (as := [.inr (.inr 3)]) (r := []) (M' := mX0_empty) (pc' := 26) dX7_clause_23 rfl rfl ⟨rfl, rfl⟩ rfl k rfl (fun v τ5 hq => ?_)
  obtain ⟨hv, k⟩ := hq
  rw [hv]
  change ev mX7_clause 26 [some (.inr (.inr 0)), some (.inl r4)] [] τ5 _
  refine ev_p (pc' := 27) (ls' := [some (.inr (.inr 0)), some (.inl r4)]) (st' := [.inl r4]) dX7_clause_26 rfl ?_
  refine ev_cst (v := (-1)) (pc' := 28) dX7_clause_27 (by decide) rfl ?_
  refine ev_ic_eq (tgt := 36) (pc' := 31) dX7_clause_28 (by decide) rfl (fun h1 => ?_) (fun h1 => ?_)
  · have k := k.1 h1
    refine ev_p (pc' := 37) (ls' := [some (.inr (.inr 0)), some (.inl r4)]) (st' := [.inr (.inr 0)]) dX7_clause_36 rfl ?_
    refine ev_getA (pc' := 40) (z := 5) dX7_clause_37 rfl rfl rfl rfl ?_
    refine ev_call (y := 35) (as := [.inr (.inr 5)]) (r := []) (M' := mX2_isFull) (pc' := 43) dX7_clause_40 rfl rfl ⟨rfl, rfl⟩ rfl k rfl (fun v τ6 hq => ?_)
    obtain ⟨r7, hv, k⟩ := hq
    rw [hv]
    change ev mX7_clause 43 [some (.inr (.inr 0)), some (.inl r4)] [.inl r7] τ6 _
    refine ev_if_eq (tgt := 49) (pc' := 46) dX7_clause_43 (by decide) rfl (fun h2 => ?_) (fun h2 => ?_)
    · have k := k.1 h2
      refine ev_p (pc' := 50) (ls' := [some (.inr (.inr 0)), some (.inl r4)]) (st' := [.inr (.inr 0)]) dX7_clause_49 rfl ?_
      refine ev_cst (v := 1) (pc' := 51) dX7_clause_50 (by decide) rfl ?_
      refine ev_putI (pc' := 54) dX7_clause_51 rfl rfl rfl rfl rfl rfl ?_
      refine ev_p (pc' := 55) (ls' := [some (.inr (.inr 0)), some (.inl r4)]) (st' := [.inr (.inr 0)]) dX7_clause_54 rfl ?_
      refine ev_getA (pc' := 58) (z := 5) dX7_clause_55 rfl rfl rfl rfl ?_
      refine ev_call (y := 36) (as := [.inr (.inr 5)]) (r := []) (M' := mX2_keepFree) (pc' := 61) dX7_clause_58 rfl rfl ⟨rfl, rfl⟩ rfl k rfl (fun v τ8 hq => ?_)
      obtain ⟨r9, hv, k⟩ := hq
      rw [hv]
      change ev mX7_clause 61 [some (.inr (.inr 0)), some (.inl r4)] [.inl r9] τ8 _
      exact ev_ret dX7_clause_61 rfl k
    · have k := k.2 h2
      refine ev_cst (v := (-3)) (pc' := 48) dX7_clause_46 (by decide) rfl ?_
      exact ev_ret dX7_clause_48 rfl k
  · have k := k.2 h1
    refine ev_cst (v := (-100)) (pc' := 33) dX7_clause_31 (by decide) rfl ?_
    refine ev_p (pc' := 34) (ls' := [some (.inr (.inr 0)), some (.inl r4)]) (st' := [.inl r4, .inl (-100)]) dX7_clause_33 rfl ?_
    refine ev_p (pc' := 35) (ls' := [some (.inr (.inr 0)), some (.inl r4)]) (st' := [.inl ((-100) - r4)]) dX7_clause_34 rfl ?_
    exact ev_ret dX7_clause_35 rfl k
set_option maxRecDepth 20000 in
theorem s_X7_isPredicate_0 {σ : ab_M} {Q : Option ab_V → ab_M → Prop} {x0 : Int32}
    (k : ((x0 < 4 → Q (some (.inl 0)) σ) ∧ (¬ x0 < 4 → ((8 ≤ x0 → Q (some (.inl 0)) σ) ∧ (¬ 8 ≤ x0 → Q (some (.inl 1)) σ))))) :
    ev mX7_isPredicate 0 [some (.inl x0)] [] σ Q := by
  refine ev_p (pc' := 1) (ls' := [some (.inl x0)]) (st' := [.inl x0]) dX7_isPredicate_0 rfl ?_
  refine ev_cst (v := 4) (pc' := 2) dX7_isPredicate_1 (by decide) rfl ?_
  refine ev_ic_lt (tgt := 15) (pc' := 5) dX7_isPredicate_2 (by decide) rfl (fun h1 => ?_) (fun h1 => ?_)
  · have k := k.1 h1
    refine ev_cst (v := 0) (pc' := 16) dX7_isPredicate_15 (by decide) rfl ?_
    exact ev_retZ dX7_isPredicate_16 rfl rfl k
  · have k := k.2 h1
    refine ev_p (pc' := 6) (ls' := [some (.inl x0)]) (st' := [.inl x0]) dX7_isPredicate_5 rfl ?_
    refine ev_cst (v := 8) (pc' := 8) dX7_isPredicate_6 (by decide) rfl ?_
    refine ev_ic_ge (tgt := 15) (pc' := 11) dX7_isPredicate_8 (by decide) rfl (fun h2 => ?_) (fun h2 => ?_)
    · have k := k.1 h2
      refine ev_cst (v := 0) (pc' := 16) dX7_isPredicate_15 (by decide) rfl ?_
      exact ev_retZ dX7_isPredicate_16 rfl rfl k
    · have k := k.2 h2
      refine ev_cst (v := 1) (pc' := 12) dX7_isPredicate_11 (by decide) rfl ?_
      refine ev_go (tgt := 16) dX7_isPredicate_12 (by decide) ?_
      exact ev_retZ dX7_isPredicate_16 rfl rfl k
set_option maxRecDepth 20000 in
theorem s_X7_isVariable_0 {σ : ab_M} {Q : Option ab_V → ab_M → Prop} {x0 : Int32}
    (k : ((x0 < 8 → Q (some (.inl 0)) σ) ∧ (¬ x0 < 8 → ((11 ≤ x0 → Q (some (.inl 0)) σ) ∧ (¬ 11 ≤ x0 → Q (some (.inl 1)) σ))))) :
    ev mX7_isVariable 0 [some (.inl x0)] [] σ Q := by
  refine ev_p (pc' := 1) (ls' := [some (.inl x0)]) (st' := [.inl x0]) dX7_isVariable_0 rfl ?_
  refine ev_cst (v := 8) (pc' := 3) dX7_isVariable_1 (by decide) rfl ?_
  refine ev_ic_lt (tgt := 16) (pc' := 6) dX7_isVariable_3 (by decide) rfl (fun h1 => ?_) (fun h1 => ?_)
  · have k := k.1 h1
    refine ev_cst (v := 0) (pc' := 17) dX7_isVariable_16 (by decide) rfl ?_
    exact ev_retZ dX7_isVariable_17 rfl rfl k
  · have k := k.2 h1
    refine ev_p (pc' := 7) (ls' := [some (.inl x0)]) (st' := [.inl x0]) dX7_isVariable_6 rfl ?_
    refine ev_cst (v := 11) (pc' := 9) dX7_isVariable_7 (by decide) rfl ?_
    refine ev_ic_ge (tgt := 16) (pc' := 12) dX7_isVariable_9 (by decide) rfl (fun h2 => ?_) (fun h2 => ?_)
    · have k := k.1 h2
      refine ev_cst (v := 0) (pc' := 17) dX7_isVariable_16 (by decide) rfl ?_
      exact ev_retZ dX7_isVariable_17 rfl rfl k
    · have k := k.2 h2
      refine ev_cst (v := 1) (pc' := 13) dX7_isVariable_12 (by decide) rfl ?_
      refine ev_go (tgt := 17) dX7_isVariable_13 (by decide) ?_
      exact ev_retZ dX7_isVariable_17 rfl rfl k
set_option maxRecDepth 20000 in
theorem s_X7_isFunction_0 {σ : ab_M} {Q : Option ab_V → ab_M → Prop} {x0 : Int32}
    (k : ((x0 < 0 → Q (some (.inl 0)) σ) ∧ (¬ x0 < 0 → ((4 ≤ x0 → Q (some (.inl 0)) σ) ∧ (¬ 4 ≤ x0 → Q (some (.inl 1)) σ))))) :
    ev mX7_isFunction 0 [some (.inl x0)] [] σ Q := by
  refine ev_p (pc' := 1) (ls' := [some (.inl x0)]) (st' := [.inl x0]) dX7_isFunction_0 rfl ?_
  refine ev_if_lt (tgt := 13) (pc' := 4) dX7_isFunction_1 (by decide) rfl (fun h1 => ?_) (fun h1 => ?_)
  · have k := k.1 h1
    refine ev_cst (v := 0) (pc' := 14) dX7_isFunction_13 (by decide) rfl ?_
    exact ev_retZ dX7_isFunction_14 rfl rfl k
  · have k := k.2 h1
    refine ev_p (pc' := 5) (ls' := [some (.inl x0)]) (st' := [.inl x0]) dX7_isFunction_4 rfl ?_
    refine ev_cst (v := 4) (pc' := 6) dX7_isFunction_5 (by decide) rfl ?_
    refine ev_ic_ge (tgt := 13) (pc' := 9) dX7_isFunction_6 (by decide) rfl (fun h2 => ?_) (fun h2 => ?_)
    · have k := k.1 h2
      refine ev_cst (v := 0) (pc' := 14) dX7_isFunction_13 (by decide) rfl ?_
      exact ev_retZ dX7_isFunction_14 rfl rfl k
    · have k := k.2 h2
      refine ev_cst (v := 1) (pc' := 10) dX7_isFunction_9 (by decide) rfl ?_
      refine ev_go (tgt := 14) dX7_isFunction_10 (by decide) ?_
      exact ev_retZ dX7_isFunction_14 rfl rfl k
set_option maxRecDepth 20000 in
theorem s_X7_drop_0 {σ : ab_M} {Q : Option ab_V → ab_M → Prop} 
    (k : evm mX2_count [.inr (.inr 5)] σ (fun v τ1 => ∃ r2 : Int32, v = some (.inl r2) ∧ ((r2 = 0 → Q (some (.inl (-2))) τ1) ∧ (¬ r2 = 0 → evm mX2_forgetLast [.inr (.inr 5)] (ab_upd τ1 0 9 1) (fun v τ3 => ∃ r4 : Int32, v = some (.inl r4) ∧ Q (some (.inl r4)) τ3))))) :
    ev mX7_drop 0 [some (.inr (.inr 0))] [] σ Q := by
  refine ev_p (pc' := 1) (ls' := [some (.inr (.inr 0))]) (st' := [.inr (.inr 0)]) dX7_drop_0 rfl ?_
  refine ev_getA (pc' := 4) (z := 5) dX7_drop_1 rfl rfl rfl rfl ?_
  refine ev_call (y := 38) (as := [.inr (.inr 5)]) (r := []) (M' := mX2_count) (pc' := 7) dX7_drop_4 rfl rfl ⟨rfl, rfl⟩ rfl k rfl (fun v τ1 hq => ?_)
  obtain ⟨r2, hv, k⟩ := hq
  rw [hv]
  change ev mX7_drop 7 [some (.inr (.inr 0))] [.inl r2] τ1 _
  refine ev_if_ne (tgt := 13) (pc' := 10) dX7_drop_7 (by decide) rfl (fun h1 => ?_) (fun h1 => ?_)
  · have k := k.2 h1
    refine ev_p (pc' := 14) (ls' := [some (.inr (.inr 0))]) (st' := [.inr (.inr 0)]) dX7_drop_13 rfl ?_
    refine ev_cst (v := 1) (pc' := 15) dX7_drop_14 (by decide) rfl ?_
    refine ev_putI (pc' := 18) dX7_drop_15 rfl rfl rfl rfl rfl rfl ?_
    refine ev_p (pc' := 19) (ls' := [some (.inr (.inr 0))]) (st' := [.inr (.inr 0)]) dX7_drop_18 rfl ?_
    refine ev_getA (pc' := 22) (z := 5) dX7_drop_19 rfl rfl rfl rfl ?_
    refine ev_call (y := 39) (as := [.inr (.inr 5)]) (r := []) (M' := mX2_forgetLast) (pc' := 25) dX7_drop_22 rfl rfl ⟨rfl, rfl⟩ rfl k rfl (fun v τ3 hq => ?_)
    obtain ⟨r4, hv, k⟩ := hq
    rw [hv]
    change ev mX7_drop 25 [some (.inr (.inr 0))] [.inl r4] τ3 _
    exact ev_ret dX7_drop_25 rfl k
  · have k := k.1 h1
    refine ev_cst (v := (-2)) (pc' := 12) dX7_drop_10 (by decide) rfl ?_
    exact ev_ret dX7_drop_12 rfl k
set_option maxRecDepth 20000 in
theorem s_X7_find_0 {σ : ab_M} {Q : Option ab_V → ab_M → Prop} {x1 : Int32}
    (k : evm mX4_countAnew [.inr (.inr 45)] σ (fun v τ1 => v = none ∧ ((x1 < 1 → Q (some (.inl (-1))) τ1) ∧ (¬ x1 < 1 → ((x1 ≤ 4 → ev mX7_find 26 [some (.inr (.inr 0)), some (.inl x1), some (.inl 1), none] [] (ab_upd τ1 0 8 0) Q) ∧ (¬ x1 ≤ 4 → Q (some (.inl (-1))) τ1)))))) :
    ev mX7_find 0 [some (.inr (.inr 0)), some (.inl x1), none, none] [] σ Q := by
  refine ev_p (pc' := 1) (ls' := [some (.inr (.inr 0)), some (.inl x1), none, none]) (st' := [.inr (.inr 0)]) dX7_find_0 rfl ?_
  refine ev_getA (pc' := 4) (z := 45) dX7_find_1 rfl rfl rfl rfl ?_
  refine ev_call (y := 41) (as := [.inr (.inr 45)]) (r := []) (M' := mX4_countAnew) (pc' := 7) dX7_find_4 rfl rfl ⟨rfl, rfl⟩ rfl k rfl (fun v τ1 hq => ?_)
  obtain ⟨hv, k⟩ := hq
  rw [hv]
  change ev mX7_find 7 [some (.inr (.inr 0)), some (.inl x1), none, none] [] τ1 _
  refine ev_p (pc' := 8) (ls' := [some (.inr (.inr 0)), some (.inl x1), none, none]) (st' := [.inl x1]) dX7_find_7 rfl ?_
  refine ev_cst (v := 1) (pc' := 9) dX7_find_8 (by decide) rfl ?_
  refine ev_ic_lt (tgt := 17) (pc' := 12) dX7_find_9 (by decide) rfl (fun h1 => ?_) (fun h1 => ?_)
  · have k := k.1 h1
    refine ev_cst (v := (-1)) (pc' := 18) dX7_find_17 (by decide) rfl ?_
    exact ev_ret dX7_find_18 rfl k
  · have k := k.2 h1
    refine ev_p (pc' := 13) (ls' := [some (.inr (.inr 0)), some (.inl x1), none, none]) (st' := [.inl x1]) dX7_find_12 rfl ?_
    refine ev_cst (v := 4) (pc' := 14) dX7_find_13 (by decide) rfl ?_
    refine ev_ic_le (tgt := 19) (pc' := 17) dX7_find_14 (by decide) rfl (fun h2 => ?_) (fun h2 => ?_)
    · have k := k.1 h2
      refine ev_p (pc' := 20) (ls' := [some (.inr (.inr 0)), some (.inl x1), none, none]) (st' := [.inr (.inr 0)]) dX7_find_19 rfl ?_
      refine ev_cst (v := 0) (pc' := 21) dX7_find_20 (by decide) rfl ?_
      refine ev_putI (pc' := 24) dX7_find_21 rfl rfl rfl rfl rfl rfl ?_
      refine ev_cst (v := 1) (pc' := 25) dX7_find_24 (by decide) rfl ?_
      refine ev_p (pc' := 26) (ls' := [some (.inr (.inr 0)), some (.inl x1), some (.inl 1), none]) (st' := []) dX7_find_25 rfl ?_
      exact k
    · have k := k.2 h2
      refine ev_cst (v := (-1)) (pc' := 18) dX7_find_17 (by decide) rfl ?_
      exact ev_ret dX7_find_18 rfl k
set_option maxRecDepth 20000 in
theorem s_X7_find_26 {σ : ab_M} {Q : Option ab_V → ab_M → Prop} {x1 : Int32} {x2 : Int32} {o3 : Option ab_V}
    (k : ((x1 < x2 → Q (some (.inl 0)) σ) ∧ (¬ x1 < x2 → evm mX4_begin [.inr (.inr 45), .inl x2, .inr (.inr 1)] σ (fun v τ1 => ∃ r2 : Int32, v = some (.inl r2) ∧ ((r2 = (-4) → Q (some (.inl (-4))) τ1) ∧ (¬ r2 = (-4) → ((r2 = 1 → Q (some (.inl x2)) (ab_upd (ab_upd τ1 0 8 x2) 0 9 0)) ∧ (¬ r2 = 1 → ev mX7_find 26 [some (.inr (.inr 0)), some (.inl x1), some (.inl (x2 + 1)), some (.inl r2)] [] τ1 Q)))))))) :
    ev mX7_find 26 [some (.inr (.inr 0)), some (.inl x1), some (.inl x2), o3] [] σ Q := by
  refine ev_p (pc' := 27) (ls' := [some (.inr (.inr 0)), some (.inl x1), some (.inl x2), o3]) (st' := [.inl x2]) dX7_find_26 rfl ?_
  refine ev_p (pc' := 28) (ls' := [some (.inr (.inr 0)), some (.inl x1), some (.inl x2), o3]) (st' := [.inl x1, .inl x2]) dX7_find_27 rfl ?_
  refine ev_ic_gt (tgt := 76) (pc' := 31) dX7_find_28 (by decide) rfl (fun h1 => ?_) (fun h1 => ?_)
  · have k := k.1 h1
    refine ev_cst (v := 0) (pc' := 77) dX7_find_76 (by decide) rfl ?_
    exact ev_ret dX7_find_77 rfl k
  · have k := k.2 h1
    refine ev_p (pc' := 32) (ls' := [some (.inr (.inr 0)), some (.inl x1), some (.inl x2), o3]) (st' := [.inr (.inr 0)]) dX7_find_31 rfl ?_
    refine ev_getA (pc' := 35) (z := 45) dX7_find_32 rfl rfl rfl rfl ?_
    refine ev_p (pc' := 36) (ls' := [some (.inr (.inr 0)), some (.inl x1), some (.inl x2), o3]) (st' := [.inl x2, .inr (.inr 45)]) dX7_find_35 rfl ?_
    refine ev_p (pc' := 37) (ls' := [some (.inr (.inr 0)), some (.inl x1), some (.inl x2), o3]) (st' := [.inr (.inr 0), .inl x2, .inr (.inr 45)]) dX7_find_36 rfl ?_
    refine ev_getA (pc' := 40) (z := 1) dX7_find_37 rfl rfl rfl rfl ?_
    refine ev_call (y := 42) (as := [.inr (.inr 45), .inl x2, .inr (.inr 1)]) (r := []) (M' := mX4_begin) (pc' := 43) dX7_find_40 rfl rfl ⟨rfl, rfl⟩ rfl k rfl (fun v τ1 hq => ?_)
    obtain ⟨r2, hv, k⟩ := hq
    rw [hv]
    change ev mX7_find 43 [some (.inr (.inr 0)), some (.inl x1), some (.inl x2), o3] [.inl r2] τ1 _
    refine ev_p (pc' := 44) (ls' := [some (.inr (.inr 0)), some (.inl x1), some (.inl x2), some (.inl r2)]) (st' := []) dX7_find_43 rfl ?_
    refine ev_p (pc' := 45) (ls' := [some (.inr (.inr 0)), some (.inl x1), some (.inl x2), some (.inl r2)]) (st' := [.inl r2]) dX7_find_44 rfl ?_
    refine ev_cst (v := (-4)) (pc' := 47) dX7_find_45 (by decide) rfl ?_
    refine ev_ic_ne (tgt := 53) (pc' := 50) dX7_find_47 (by decide) rfl (fun h2 => ?_) (fun h2 => ?_)
    · have k := k.2 h2
      refine ev_p (pc' := 54) (ls' := [some (.inr (.inr 0)), some (.inl x1), some (.inl x2), some (.inl r2)]) (st' := [.inl r2]) dX7_find_53 rfl ?_
      refine ev_cst (v := 1) (pc' := 55) dX7_find_54 (by decide) rfl ?_
      refine ev_ic_ne (tgt := 70) (pc' := 58) dX7_find_55 (by decide) rfl (fun h3 => ?_) (fun h3 => ?_)
      · have k := k.2 h3
        refine ev_p (pc' := 73) (ls' := [some (.inr (.inr 0)), some (.inl x1), some (.inl (x2 + 1)), some (.inl r2)]) (st' := []) dX7_find_70 rfl ?_
        refine ev_go (tgt := 26) dX7_find_73 (by decide) ?_
        exact k
      · have k := k.1 h3
        refine ev_p (pc' := 59) (ls' := [some (.inr (.inr 0)), some (.inl x1), some (.inl x2), some (.inl r2)]) (st' := [.inr (.inr 0)]) dX7_find_58 rfl ?_
        refine ev_p (pc' := 60) (ls' := [some (.inr (.inr 0)), some (.inl x1), some (.inl x2), some (.inl r2)]) (st' := [.inl x2, .inr (.inr 0)]) dX7_find_59 rfl ?_
        refine ev_putI (pc' := 63) dX7_find_60 rfl rfl rfl rfl rfl rfl ?_
        refine ev_p (pc' := 64) (ls' := [some (.inr (.inr 0)), some (.inl x1), some (.inl x2), some (.inl r2)]) (st' := [.inr (.inr 0)]) dX7_find_63 rfl ?_
        refine ev_cst (v := 0) (pc' := 65) dX7_find_64 (by decide) rfl ?_
        refine ev_putI (pc' := 68) dX7_find_65 rfl rfl rfl rfl rfl rfl ?_
        refine ev_p (pc' := 69) (ls' := [some (.inr (.inr 0)), some (.inl x1), some (.inl x2), some (.inl r2)]) (st' := [.inl x2]) dX7_find_68 rfl ?_
        exact ev_ret dX7_find_69 rfl k
    · have k := k.1 h2
      refine ev_cst (v := (-4)) (pc' := 52) dX7_find_50 (by decide) rfl ?_
      exact ev_ret dX7_find_52 rfl k
set_option maxRecDepth 20000 in
theorem s_X7_more_0 {σ : ab_M} {Q : Option ab_V → ab_M → Prop} 
    (k : evm mX4_countAnew [.inr (.inr 45)] σ (fun v τ1 => v = none ∧ (((τ1 0 8) = 0 → Q (some (.inl (-2))) τ1) ∧ (¬ (τ1 0 8) = 0 → (((τ1 0 9) = 0 → evm mX4_goOn [.inr (.inr 45)] τ1 (fun v τ2 => ∃ r3 : Int32, v = some (.inl r3) ∧ ((r3 = 1 → Q (some (.inl r3)) τ2) ∧ (¬ r3 = 1 → Q (some (.inl r3)) (ab_upd τ2 0 8 0))))) ∧ (¬ (τ1 0 9) = 0 → Q (some (.inl (-2))) τ1)))))) :
    ev mX7_more 0 [some (.inr (.inr 0)), none] [] σ Q := by
  refine ev_p (pc' := 1) (ls' := [some (.inr (.inr 0)), none]) (st' := [.inr (.inr 0)]) dX7_more_0 rfl ?_
  refine ev_getA (pc' := 4) (z := 45) dX7_more_1 rfl rfl rfl rfl ?_
  refine ev_call (y := 41) (as := [.inr (.inr 45)]) (r := []) (M' := mX4_countAnew) (pc' := 7) dX7_more_4 rfl rfl ⟨rfl, rfl⟩ rfl k rfl (fun v τ1 hq => ?_)
  obtain ⟨hv, k⟩ := hq
  rw [hv]
  change ev mX7_more 7 [some (.inr (.inr 0)), none] [] τ1 _
  refine ev_p (pc' := 8) (ls' := [some (.inr (.inr 0)), none]) (st' := [.inr (.inr 0)]) dX7_more_7 rfl ?_
  refine ev_getI (pc' := 11) dX7_more_8 rfl rfl rfl rfl ?_
  refine ev_if_eq (tgt := 21) (pc' := 14) dX7_more_11 (by decide) rfl (fun h1 => ?_) (fun h1 => ?_)
  · have k := k.1 h1
    refine ev_cst (v := (-2)) (pc' := 23) dX7_more_21 (by decide) rfl ?_
    exact ev_ret dX7_more_23 rfl k
  · have k := k.2 h1
    refine ev_p (pc' := 15) (ls' := [some (.inr (.inr 0)), none]) (st' := [.inr (.inr 0)]) dX7_more_14 rfl ?_
    refine ev_getI (pc' := 18) dX7_more_15 rfl rfl rfl rfl ?_
    refine ev_if_eq (tgt := 24) (pc' := 21) dX7_more_18 (by decide) rfl (fun h2 => ?_) (fun h2 => ?_)
    · have k := k.1 h2
      refine ev_p (pc' := 25) (ls' := [some (.inr (.inr 0)), none]) (st' := [.inr (.inr 0)]) dX7_more_24 rfl ?_
      refine ev_getA (pc' := 28) (z := 45) dX7_more_25 rfl rfl rfl rfl ?_
      refine ev_call (y := 73) (as := [.inr (.inr 45)]) (r := []) (M' := mX4_goOn) (pc' := 31) dX7_more_28 rfl rfl ⟨rfl, rfl⟩ rfl k rfl (fun v τ2 hq => ?_)
      obtain ⟨r3, hv, k⟩ := hq
      rw [hv]
      change ev mX7_more 31 [some (.inr (.inr 0)), none] [.inl r3] τ2 _
      refine ev_p (pc' := 32) (ls' := [some (.inr (.inr 0)), some (.inl r3)]) (st' := []) dX7_more_31 rfl ?_
      refine ev_p (pc' := 33) (ls' := [some (.inr (.inr 0)), some (.inl r3)]) (st' := [.inl r3]) dX7_more_32 rfl ?_
      refine ev_cst (v := 1) (pc' := 34) dX7_more_33 (by decide) rfl ?_
      refine ev_ic_eq (tgt := 42) (pc' := 37) dX7_more_34 (by decide) rfl (fun h3 => ?_) (fun h3 => ?_)
      · have k := k.1 h3
        refine ev_p (pc' := 43) (ls' := [some (.inr (.inr 0)), some (.inl r3)]) (st' := [.inl r3]) dX7_more_42 rfl ?_
        exact ev_ret dX7_more_43 rfl k
      · have k := k.2 h3
        refine ev_p (pc' := 38) (ls' := [some (.inr (.inr 0)), some (.inl r3)]) (st' := [.inr (.inr 0)]) dX7_more_37 rfl ?_
        refine ev_cst (v := 0) (pc' := 39) dX7_more_38 (by decide) rfl ?_
        refine ev_putI (pc' := 42) dX7_more_39 rfl rfl rfl rfl rfl rfl ?_
        refine ev_p (pc' := 43) (ls' := [some (.inr (.inr 0)), some (.inl r3)]) (st' := [.inl r3]) dX7_more_42 rfl ?_
        exact ev_ret dX7_more_43 rfl k
    · have k := k.2 h2
      refine ev_cst (v := (-2)) (pc' := 23) dX7_more_21 (by decide) rfl ?_
      exact ev_ret dX7_more_23 rfl k
set_option maxRecDepth 20000 in
theorem s_X7_size_0 {σ : ab_M} {Q : Option ab_V → ab_M → Prop} 
    (k : Q (some (.inl (σ 0 8))) σ) :
    ev mX7_size 0 [some (.inr (.inr 0))] [] σ Q := by
  refine ev_p (pc' := 1) (ls' := [some (.inr (.inr 0))]) (st' := [.inr (.inr 0)]) dX7_size_0 rfl ?_
  refine ev_getI (pc' := 4) dX7_size_1 rfl rfl rfl rfl ?_
  exact ev_ret dX7_size_4 rfl k
set_option maxRecDepth 20000 in
theorem s_X7_value_0 {σ : ab_M} {Q : Option ab_V → ab_M → Prop} {x1 : Int32} {x2 : Int32} {x3 : Int32}
    (k : evm mX7_codeOf [.inl x1] σ (fun v τ1 => ∃ r2 : Int32, v = some (.inl r2) ∧ evm mX5_arityOf [.inr (.inr 1), .inl r2] τ1 (fun v τ3 => ∃ r4 : Int32, v = some (.inl r4) ∧ (((τ3 0 8) = 0 → Q (some (.inl (-1))) τ3) ∧ (¬ (τ3 0 8) = 0 → ((r4 = (-1) → Q (some (.inl (-1))) τ3) ∧ (¬ r4 = (-1) → ((r4 < 1 → ((r4 < 2 → evm mX7_isArgument [.inr (.inr 0), .inl 0] τ3 (fun v τ5 => ∃ r6 : Int32, v = some (.inl r6) ∧ ((r6 = 0 → Q (some (.inl (-1))) τ5) ∧ (¬ r6 = 0 → evm mX7_isArgument [.inr (.inr 0), .inl 0] τ5 (fun v τ7 => ∃ r8 : Int32, v = some (.inl r8) ∧ ((r8 = 0 → Q (some (.inl (-1))) τ7) ∧ (¬ r8 = 0 → evm mX6_cellOf [.inl r2, .inl 0, .inl 0] τ7 (fun v τ9 => ∃ r10 : Int32, v = some (.inl r10) ∧ evm mX6_valueOf [.inr (.inr 37), .inl r10] τ9 (fun v τ11 => ∃ r12 : Int32, v = some (.inl r12) ∧ Q (some (.inl r12)) τ11))))))))) ∧ (¬ r4 < 2 → evm mX7_isArgument [.inr (.inr 0), .inl 0] τ3 (fun v τ5 => ∃ r6 : Int32, v = some (.inl r6) ∧ ((r6 = 0 → Q (some (.inl (-1))) τ5) ∧ (¬ r6 = 0 → evm mX7_isArgument [.inr (.inr 0), .inl x3] τ5 (fun v τ7 => ∃ r8 : Int32, v = some (.inl r8) ∧ ((r8 = 0 → Q (some (.inl (-1))) τ7) ∧ (¬ r8 = 0 → evm mX6_cellOf [.inl r2, .inl 0, .inl x3] τ7 (fun v τ9 => ∃ r10 : Int32, v = some (.inl r10) ∧ evm mX6_valueOf [.inr (.inr 37), .inl r10] τ9 (fun v τ11 => ∃ r12 : Int32, v = some (.inl r12) ∧ Q (some (.inl r12)) τ11))))))))))) ∧ (¬ r4 < 1 → ((r4 < 2 → evm mX7_isArgument [.inr (.inr 0), .inl x2] τ3 (fun v τ5 => ∃ r6 : Int32, v = some (.inl r6) ∧ ((r6 = 0 → Q (some (.inl (-1))) τ5) ∧ (¬ r6 = 0 → evm mX7_isArgument [.inr (.inr 0), .inl 0] τ5 (fun v τ7 => ∃ r8 : Int32, v = some (.inl r8) ∧ ((r8 = 0 → Q (some (.inl (-1))) τ7) ∧ (¬ r8 = 0 → evm mX6_cellOf [.inl r2, .inl x2, .inl 0] τ7 (fun v τ9 => ∃ r10 : Int32, v = some (.inl r10) ∧ evm mX6_valueOf [.inr (.inr 37), .inl r10] τ9 (fun v τ11 => ∃ r12 : Int32, v = some (.inl r12) ∧ Q (some (.inl r12)) τ11))))))))) ∧ (¬ r4 < 2 → evm mX7_isArgument [.inr (.inr 0), .inl x2] τ3 (fun v τ5 => ∃ r6 : Int32, v = some (.inl r6) ∧ ((r6 = 0 → Q (some (.inl (-1))) τ5) ∧ (¬ r6 = 0 → evm mX7_isArgument [.inr (.inr 0), .inl x3] τ5 (fun v τ7 => ∃ r8 : Int32, v = some (.inl r8) ∧ ((r8 = 0 → Q (some (.inl (-1))) τ7) ∧ (¬ r8 = 0 → evm mX6_cellOf [.inl r2, .inl x2, .inl x3] τ7 (fun v τ9 => ∃ r10 : Int32, v = some (.inl r10) ∧ evm mX6_valueOf [.inr (.inr 37), .inl r10] τ9 (fun v τ11 => ∃ r12 : Int32, v = some (.inl r12) ∧ Q (some (.inl r12)) τ11))))))))))))))))))) :
    ev mX7_value 0 [some (.inr (.inr 0)), some (.inl x1), some (.inl x2), some (.inl x3), none, none, none, none] [] σ Q := by
  refine ev_p (pc' := 1) (ls' := [some (.inr (.inr 0)), some (.inl x1), some (.inl x2), some (.inl x3), none, none, none, none]) (st' := [.inl x1]) dX7_value_0 rfl ?_
  refine ev_call (y := 11) (as := [.inl x1]) (r := []) (M' := mX7_codeOf) (pc' := 4) dX7_value_1 rfl rfl ⟨rfl, rfl⟩ rfl k rfl (fun v τ1 hq => ?_)
  obtain ⟨r2, hv, k⟩ := hq
  rw [hv]
  change ev mX7_value 4 [some (.inr (.inr 0)), some (.inl x1), some (.inl x2), some (.inl x3), none, none, none, none] [.inl r2] τ1 _
  refine ev_p (pc' := 6) (ls' := [some (.inr (.inr 0)), some (.inl x1), some (.inl x2), some (.inl x3), some (.inl r2), none, none, none]) (st' := []) dX7_value_4 rfl ?_
  refine ev_p (pc' := 7) (ls' := [some (.inr (.inr 0)), some (.inl x1), some (.inl x2), some (.inl x3), some (.inl r2), none, none, none]) (st' := [.inr (.inr 0)]) dX7_value_6 rfl ?_
  refine ev_getA (pc' := 10) (z := 1) dX7_value_7 rfl rfl rfl rfl ?_
  refine ev_p (pc' := 12) (ls' := [some (.inr (.inr 0)), some (.inl x1), some (.inl x2), some (.inl x3), some (.inl r2), none, none, none]) (st' := [.inl r2, .inr (.inr 1)]) dX7_value_10 rfl ?_
  refine ev_call (y := 29) (as := [.inr (.inr 1), .inl r2]) (r := []) (M' := mX5_arityOf) (pc' := 15) dX7_value_12 rfl rfl ⟨rfl, rfl⟩ rfl k rfl (fun v τ3 hq => ?_)
  obtain ⟨r4, hv, k⟩ := hq
  rw [hv]
  change ev mX7_value 15 [some (.inr (.inr 0)), some (.inl x1), some (.inl x2), some (.inl x3), some (.inl r2), none, none, none] [.inl r4] τ3 _
  refine ev_p (pc' := 17) (ls' := [some (.inr (.inr 0)), some (.inl x1), some (.inl x2), some (.inl x3), some (.inl r2), some (.inl r4), none, none]) (st' := []) dX7_value_15 rfl ?_
  refine ev_p (pc' := 18) (ls' := [some (.inr (.inr 0)), some (.inl x1), some (.inl x2), some (.inl x3), some (.inl r2), some (.inl r4), none, none]) (st' := [.inr (.inr 0)]) dX7_value_17 rfl ?_
  refine ev_getI (pc' := 21) dX7_value_18 rfl rfl rfl rfl ?_
  refine ev_if_eq (tgt := 30) (pc' := 24) dX7_value_21 (by decide) rfl (fun h1 => ?_) (fun h1 => ?_)
  · have k := k.1 h1
    refine ev_cst (v := (-1)) (pc' := 31) dX7_value_30 (by decide) rfl ?_
    exact ev_ret dX7_value_31 rfl k
  · have k := k.2 h1
    refine ev_p (pc' := 26) (ls' := [some (.inr (.inr 0)), some (.inl x1), some (.inl x2), some (.inl x3), some (.inl r2), some (.inl r4), none, none]) (st' := [.inl r4]) dX7_value_24 rfl ?_
    refine ev_cst (v := (-1)) (pc' := 27) dX7_value_26 (by decide) rfl ?_
    refine ev_ic_ne (tgt := 32) (pc' := 30) dX7_value_27 (by decide) rfl (fun h2 => ?_) (fun h2 => ?_)
    · have k := k.2 h2
      refine ev_p (pc' := 34) (ls' := [some (.inr (.inr 0)), some (.inl x1), some (.inl x2), some (.inl x3), some (.inl r2), some (.inl r4), none, none]) (st' := [.inl r4]) dX7_value_32 rfl ?_
      refine ev_cst (v := 1) (pc' := 35) dX7_value_34 (by decide) rfl ?_
      refine ev_ic_lt (tgt := 42) (pc' := 38) dX7_value_35 (by decide) rfl (fun h3 => ?_) (fun h3 => ?_)
      · have k := k.1 h3
        refine ev_cst (v := 0) (pc' := 43) dX7_value_42 (by decide) rfl ?_
        refine ev_p (pc' := 45) (ls' := [some (.inr (.inr 0)), some (.inl x1), some (.inl x2), some (.inl x3), some (.inl r2), some (.inl r4), some (.inl 0), none]) (st' := []) dX7_value_43 rfl ?_
        refine ev_p (pc' := 47) (ls' := [some (.inr (.inr 0)), some (.inl x1), some (.inl x2), some (.inl x3), some (.inl r2), some (.inl r4), some (.inl 0), none]) (st' := [.inl r4]) dX7_value_45 rfl ?_
        refine ev_cst (v := 2) (pc' := 48) dX7_value_47 (by decide) rfl ?_
        refine ev_ic_lt (tgt := 55) (pc' := 51) dX7_value_48 (by decide) rfl (fun h4 => ?_) (fun h4 => ?_)
        · have k := k.1 h4
          refine ev_cst (v := 0) (pc' := 56) dX7_value_55 (by decide) rfl ?_
          refine ev_p (pc' := 58) (ls' := [some (.inr (.inr 0)), some (.inl x1), some (.inl x2), some (.inl x3), some (.inl r2), some (.inl r4), some (.inl 0), some (.inl 0)]) (st' := []) dX7_value_56 rfl ?_
          refine ev_p (pc' := 59) (ls' := [some (.inr (.inr 0)), some (.inl x1), some (.inl x2), some (.inl x3), some (.inl r2), some (.inl r4), some (.inl 0), some (.inl 0)]) (st' := [.inr (.inr 0)]) dX7_value_58 rfl ?_
          refine ev_p (pc' := 61) (ls' := [some (.inr (.inr 0)), some (.inl x1), some (.inl x2), some (.inl x3), some (.inl r2), some (.inl r4), some (.inl 0), some (.inl 0)]) (st' := [.inl 0, .inr (.inr 0)]) dX7_value_59 rfl ?_
          refine ev_call (y := 76) (as := [.inr (.inr 0), .inl 0]) (r := []) (M' := mX7_isArgument) (pc' := 64) dX7_value_61 rfl rfl ⟨rfl, rfl⟩ rfl k rfl (fun v τ5 hq => ?_)
          obtain ⟨r6, hv, k⟩ := hq
          rw [hv]
          change ev mX7_value 64 [some (.inr (.inr 0)), some (.inl x1), some (.inl x2), some (.inl x3), some (.inl r2), some (.inl r4), some (.inl 0), some (.inl 0)] [.inl r6] τ5 _
          refine ev_if_eq (tgt := 76) (pc' := 67) dX7_value_64 (by decide) rfl (fun h5 => ?_) (fun h5 => ?_)
          · have k := k.1 h5
            refine ev_cst (v := (-1)) (pc' := 77) dX7_value_76 (by decide) rfl ?_
            exact ev_ret dX7_value_77 rfl k
          · have k := k.2 h5
            refine ev_p (pc' := 68) (ls' := [some (.inr (.inr 0)), some (.inl x1), some (.inl x2), some (.inl x3), some (.inl r2), some (.inl r4), some (.inl 0), some (.inl 0)]) (st' := [.inr (.inr 0)]) dX7_value_67 rfl ?_
            refine ev_p (pc' := 70) (ls' := [some (.inr (.inr 0)), some (.inl x1), some (.inl x2), some (.inl x3), some (.inl r2), some (.inl r4), some (.inl 0), some (.inl 0)]) (st' := [.inl 0, .inr (.inr 0)]) dX7_value_68 rfl ?_
            refine ev_call (y := 76) (as := [.inr (.inr 0), .inl 0]) (r := []) (M' := mX7_isArgument) (pc' := 73) dX7_value_70 rfl rfl ⟨rfl, rfl⟩ rfl k rfl (fun v τ7 hq => ?_)
            obtain ⟨r8, hv, k⟩ := hq
            rw [hv]
            change ev mX7_value 73 [some (.inr (.inr 0)), some (.inl x1), some (.inl x2), some (.inl x3), some (.inl r2), some (.inl r4), some (.inl 0), some (.inl 0)] [.inl r8] τ7 _
            refine ev_if_ne (tgt := 78) (pc' := 76) dX7_value_73 (by decide) rfl (fun h6 => ?_) (fun h6 => ?_)
            · have k := k.2 h6
              refine ev_p (pc' := 79) (ls' := [some (.inr (.inr 0)), some (.inl x1), some (.inl x2), some (.inl x3), some (.inl r2), some (.inl r4), some (.inl 0), some (.inl 0)]) (st' := [.inr (.inr 0)]) dX7_value_78 rfl ?_
              refine ev_getA (pc' := 82) (z := 37) dX7_value_79 rfl rfl rfl rfl ?_
              refine ev_p (pc' := 84) (ls' := [some (.inr (.inr 0)), some (.inl x1), some (.inl x2), some (.inl x3), some (.inl r2), some (.inl r4), some (.inl 0), some (.inl 0)]) (st' := [.inl r2, .inr (.inr 37)]) dX7_value_82 rfl ?_
              refine ev_p (pc' := 86) (ls' := [some (.inr (.inr 0)), some (.inl x1), some (.inl x2), some (.inl x3), some (.inl r2), some (.inl r4), some (.inl 0), some (.inl 0)]) (st' := [.inl 0, .inl r2, .inr (.inr 37)]) dX7_value_84 rfl ?_
              refine ev_p (pc' := 88) (ls' := [some (.inr (.inr 0)), some (.inl x1), some (.inl x2), some (.inl x3), some (.inl r2), some (.inl r4), some (.inl 0), some (.inl 0)]) (st' := [.inl 0, .inl 0, .inl r2, .inr (.inr 37)]) dX7_value_86 rfl ?_
              refine ev_call (y := 45) (as := [.inl r2, .inl 0, .inl 0]) (r := [.inr (.inr 37)]) (M' := mX6_cellOf) (pc' := 91) dX7_value_88 rfl rfl ⟨rfl, rfl⟩ rfl k rfl (fun v τ9 hq => ?_)
              obtain ⟨r10, hv, k⟩ := hq
              rw [hv]
              change ev mX7_value 91 [some (.inr (.inr 0)), some (.inl x1), some (.inl x2), some (.inl x3), some (.inl r2), some (.inl r4), some (.inl 0), some (.inl 0)] [.inl r10, .inr (.inr 37)] τ9 _
              refine ev_call (y := 60) (as := [.inr (.inr 37), .inl r10]) (r := []) (M' := mX6_valueOf) (pc' := 94) dX7_value_91 rfl rfl ⟨rfl, rfl⟩ rfl k rfl (fun v τ11 hq => ?_)
              obtain ⟨r12, hv, k⟩ := hq
              rw [hv]
              change ev mX7_value 94 [some (.inr (.inr 0)), some (.inl x1), some (.inl x2), some (.inl x3), some (.inl r2), some (.inl r4), some (.inl 0), some (.inl 0)] [.inl r12] τ11 _
              exact ev_ret dX7_value_94 rfl k
            · have k := k.1 h6
              refine ev_cst (v := (-1)) (pc' := 77) dX7_value_76 (by decide) rfl ?_
              exact ev_ret dX7_value_77 rfl k
        · have k := k.2 h4
          refine ev_p (pc' := 52) (ls' := [some (.inr (.inr 0)), some (.inl x1), some (.inl x2), some (.inl x3), some (.inl r2), some (.inl r4), some (.inl 0), none]) (st' := [.inl x3]) dX7_value_51 rfl ?_
          refine ev_go (tgt := 56) dX7_value_52 (by decide) ?_
          refine ev_p (pc' := 58) (ls' := [some (.inr (.inr 0)), some (.inl x1), some (.inl x2), some (.inl x3), some (.inl r2), some (.inl r4), some (.inl 0), some (.inl x3)]) (st' := []) dX7_value_56 rfl ?_
          refine ev_p (pc' := 59) (ls' := [some (.inr (.inr 0)), some (.inl x1), some (.inl x2), some (.inl x3), some (.inl r2), some (.inl r4), some (.inl 0), some (.inl x3)]) (st' := [.inr (.inr 0)]) dX7_value_58 rfl ?_
          refine ev_p (pc' := 61) (ls' := [some (.inr (.inr 0)), some (.inl x1), some (.inl x2), some (.inl x3), some (.inl r2), some (.inl r4), some (.inl 0), some (.inl x3)]) (st' := [.inl 0, .inr (.inr 0)]) dX7_value_59 rfl ?_
          refine ev_call (y := 76) (as := [.inr (.inr 0), .inl 0]) (r := []) (M' := mX7_isArgument) (pc' := 64) dX7_value_61 rfl rfl ⟨rfl, rfl⟩ rfl k rfl (fun v τ5 hq => ?_)
          obtain ⟨r6, hv, k⟩ := hq
          rw [hv]
          change ev mX7_value 64 [some (.inr (.inr 0)), some (.inl x1), some (.inl x2), some (.inl x3), some (.inl r2), some (.inl r4), some (.inl 0), some (.inl x3)] [.inl r6] τ5 _
          refine ev_if_eq (tgt := 76) (pc' := 67) dX7_value_64 (by decide) rfl (fun h7 => ?_) (fun h7 => ?_)
          · have k := k.1 h7
            refine ev_cst (v := (-1)) (pc' := 77) dX7_value_76 (by decide) rfl ?_
            exact ev_ret dX7_value_77 rfl k
          · have k := k.2 h7
            refine ev_p (pc' := 68) (ls' := [some (.inr (.inr 0)), some (.inl x1), some (.inl x2), some (.inl x3), some (.inl r2), some (.inl r4), some (.inl 0), some (.inl x3)]) (st' := [.inr (.inr 0)]) dX7_value_67 rfl ?_
            refine ev_p (pc' := 70) (ls' := [some (.inr (.inr 0)), some (.inl x1), some (.inl x2), some (.inl x3), some (.inl r2), some (.inl r4), some (.inl 0), some (.inl x3)]) (st' := [.inl x3, .inr (.inr 0)]) dX7_value_68 rfl ?_
            refine ev_call (y := 76) (as := [.inr (.inr 0), .inl x3]) (r := []) (M' := mX7_isArgument) (pc' := 73) dX7_value_70 rfl rfl ⟨rfl, rfl⟩ rfl k rfl (fun v τ7 hq => ?_)
            obtain ⟨r8, hv, k⟩ := hq
            rw [hv]
            change ev mX7_value 73 [some (.inr (.inr 0)), some (.inl x1), some (.inl x2), some (.inl x3), some (.inl r2), some (.inl r4), some (.inl 0), some (.inl x3)] [.inl r8] τ7 _
            refine ev_if_ne (tgt := 78) (pc' := 76) dX7_value_73 (by decide) rfl (fun h8 => ?_) (fun h8 => ?_)
            · have k := k.2 h8
              refine ev_p (pc' := 79) (ls' := [some (.inr (.inr 0)), some (.inl x1), some (.inl x2), some (.inl x3), some (.inl r2), some (.inl r4), some (.inl 0), some (.inl x3)]) (st' := [.inr (.inr 0)]) dX7_value_78 rfl ?_
              refine ev_getA (pc' := 82) (z := 37) dX7_value_79 rfl rfl rfl rfl ?_
              refine ev_p (pc' := 84) (ls' := [some (.inr (.inr 0)), some (.inl x1), some (.inl x2), some (.inl x3), some (.inl r2), some (.inl r4), some (.inl 0), some (.inl x3)]) (st' := [.inl r2, .inr (.inr 37)]) dX7_value_82 rfl ?_
              refine ev_p (pc' := 86) (ls' := [some (.inr (.inr 0)), some (.inl x1), some (.inl x2), some (.inl x3), some (.inl r2), some (.inl r4), some (.inl 0), some (.inl x3)]) (st' := [.inl 0, .inl r2, .inr (.inr 37)]) dX7_value_84 rfl ?_
              refine ev_p (pc' := 88) (ls' := [some (.inr (.inr 0)), some (.inl x1), some (.inl x2), some (.inl x3), some (.inl r2), some (.inl r4), some (.inl 0), some (.inl x3)]) (st' := [.inl x3, .inl 0, .inl r2, .inr (.inr 37)]) dX7_value_86 rfl ?_
              refine ev_call (y := 45) (as := [.inl r2, .inl 0, .inl x3]) (r := [.inr (.inr 37)]) (M' := mX6_cellOf) (pc' := 91) dX7_value_88 rfl rfl ⟨rfl, rfl⟩ rfl k rfl (fun v τ9 hq => ?_)
              obtain ⟨r10, hv, k⟩ := hq
              rw [hv]
              change ev mX7_value 91 [some (.inr (.inr 0)), some (.inl x1), some (.inl x2), some (.inl x3), some (.inl r2), some (.inl r4), some (.inl 0), some (.inl x3)] [.inl r10, .inr (.inr 37)] τ9 _
              refine ev_call (y := 60) (as := [.inr (.inr 37), .inl r10]) (r := []) (M' := mX6_valueOf) (pc' := 94) dX7_value_91 rfl rfl ⟨rfl, rfl⟩ rfl k rfl (fun v τ11 hq => ?_)
              obtain ⟨r12, hv, k⟩ := hq
              rw [hv]
              change ev mX7_value 94 [some (.inr (.inr 0)), some (.inl x1), some (.inl x2), some (.inl x3), some (.inl r2), some (.inl r4), some (.inl 0), some (.inl x3)] [.inl r12] τ11 _
              exact ev_ret dX7_value_94 rfl k
            · have k := k.1 h8
              refine ev_cst (v := (-1)) (pc' := 77) dX7_value_76 (by decide) rfl ?_
              exact ev_ret dX7_value_77 rfl k
      · have k := k.2 h3
        refine ev_p (pc' := 39) (ls' := [some (.inr (.inr 0)), some (.inl x1), some (.inl x2), some (.inl x3), some (.inl r2), some (.inl r4), none, none]) (st' := [.inl x2]) dX7_value_38 rfl ?_
        refine ev_go (tgt := 43) dX7_value_39 (by decide) ?_
        refine ev_p (pc' := 45) (ls' := [some (.inr (.inr 0)), some (.inl x1), some (.inl x2), some (.inl x3), some (.inl r2), some (.inl r4), some (.inl x2), none]) (st' := []) dX7_value_43 rfl ?_
        refine ev_p (pc' := 47) (ls' := [some (.inr (.inr 0)), some (.inl x1), some (.inl x2), some (.inl x3), some (.inl r2), some (.inl r4), some (.inl x2), none]) (st' := [.inl r4]) dX7_value_45 rfl ?_
        refine ev_cst (v := 2) (pc' := 48) dX7_value_47 (by decide) rfl ?_
        refine ev_ic_lt (tgt := 55) (pc' := 51) dX7_value_48 (by decide) rfl (fun h9 => ?_) (fun h9 => ?_)
        · have k := k.1 h9
          refine ev_cst (v := 0) (pc' := 56) dX7_value_55 (by decide) rfl ?_
          refine ev_p (pc' := 58) (ls' := [some (.inr (.inr 0)), some (.inl x1), some (.inl x2), some (.inl x3), some (.inl r2), some (.inl r4), some (.inl x2), some (.inl 0)]) (st' := []) dX7_value_56 rfl ?_
          refine ev_p (pc' := 59) (ls' := [some (.inr (.inr 0)), some (.inl x1), some (.inl x2), some (.inl x3), some (.inl r2), some (.inl r4), some (.inl x2), some (.inl 0)]) (st' := [.inr (.inr 0)]) dX7_value_58 rfl ?_
          refine ev_p (pc' := 61) (ls' := [some (.inr (.inr 0)), some (.inl x1), some (.inl x2), some (.inl x3), some (.inl r2), some (.inl r4), some (.inl x2), some (.inl 0)]) (st' := [.inl x2, .inr (.inr 0)]) dX7_value_59 rfl ?_
          refine ev_call (y := 76) (as := [.inr (.inr 0), .inl x2]) (r := []) (M' := mX7_isArgument) (pc' := 64) dX7_value_61 rfl rfl ⟨rfl, rfl⟩ rfl k rfl (fun v τ5 hq => ?_)
          obtain ⟨r6, hv, k⟩ := hq
          rw [hv]
          change ev mX7_value 64 [some (.inr (.inr 0)), some (.inl x1), some (.inl x2), some (.inl x3), some (.inl r2), some (.inl r4), some (.inl x2), some (.inl 0)] [.inl r6] τ5 _
          refine ev_if_eq (tgt := 76) (pc' := 67) dX7_value_64 (by decide) rfl (fun h10 => ?_) (fun h10 => ?_)
          · have k := k.1 h10
            refine ev_cst (v := (-1)) (pc' := 77) dX7_value_76 (by decide) rfl ?_
            exact ev_ret dX7_value_77 rfl k
          · have k := k.2 h10
            refine ev_p (pc' := 68) (ls' := [some (.inr (.inr 0)), some (.inl x1), some (.inl x2), some (.inl x3), some (.inl r2), some (.inl r4), some (.inl x2), some (.inl 0)]) (st' := [.inr (.inr 0)]) dX7_value_67 rfl ?_
            refine ev_p (pc' := 70) (ls' := [some (.inr (.inr 0)), some (.inl x1), some (.inl x2), some (.inl x3), some (.inl r2), some (.inl r4), some (.inl x2), some (.inl 0)]) (st' := [.inl 0, .inr (.inr 0)]) dX7_value_68 rfl ?_
            refine ev_call (y := 76) (as := [.inr (.inr 0), .inl 0]) (r := []) (M' := mX7_isArgument) (pc' := 73) dX7_value_70 rfl rfl ⟨rfl, rfl⟩ rfl k rfl (fun v τ7 hq => ?_)
            obtain ⟨r8, hv, k⟩ := hq
            rw [hv]
            change ev mX7_value 73 [some (.inr (.inr 0)), some (.inl x1), some (.inl x2), some (.inl x3), some (.inl r2), some (.inl r4), some (.inl x2), some (.inl 0)] [.inl r8] τ7 _
            refine ev_if_ne (tgt := 78) (pc' := 76) dX7_value_73 (by decide) rfl (fun h11 => ?_) (fun h11 => ?_)
            · have k := k.2 h11
              refine ev_p (pc' := 79) (ls' := [some (.inr (.inr 0)), some (.inl x1), some (.inl x2), some (.inl x3), some (.inl r2), some (.inl r4), some (.inl x2), some (.inl 0)]) (st' := [.inr (.inr 0)]) dX7_value_78 rfl ?_
              refine ev_getA (pc' := 82) (z := 37) dX7_value_79 rfl rfl rfl rfl ?_
              refine ev_p (pc' := 84) (ls' := [some (.inr (.inr 0)), some (.inl x1), some (.inl x2), some (.inl x3), some (.inl r2), some (.inl r4), some (.inl x2), some (.inl 0)]) (st' := [.inl r2, .inr (.inr 37)]) dX7_value_82 rfl ?_
              refine ev_p (pc' := 86) (ls' := [some (.inr (.inr 0)), some (.inl x1), some (.inl x2), some (.inl x3), some (.inl r2), some (.inl r4), some (.inl x2), some (.inl 0)]) (st' := [.inl x2, .inl r2, .inr (.inr 37)]) dX7_value_84 rfl ?_
              refine ev_p (pc' := 88) (ls' := [some (.inr (.inr 0)), some (.inl x1), some (.inl x2), some (.inl x3), some (.inl r2), some (.inl r4), some (.inl x2), some (.inl 0)]) (st' := [.inl 0, .inl x2, .inl r2, .inr (.inr 37)]) dX7_value_86 rfl ?_
              refine ev_call (y := 45) (as := [.inl r2, .inl x2, .inl 0]) (r := [.inr (.inr 37)]) (M' := mX6_cellOf) (pc' := 91) dX7_value_88 rfl rfl ⟨rfl, rfl⟩ rfl k rfl (fun v τ9 hq => ?_)
              obtain ⟨r10, hv, k⟩ := hq
              rw [hv]
              change ev mX7_value 91 [some (.inr (.inr 0)), some (.inl x1), some (.inl x2), some (.inl x3), some (.inl r2), some (.inl r4), some (.inl x2), some (.inl 0)] [.inl r10, .inr (.inr 37)] τ9 _
              refine ev_call (y := 60) (as := [.inr (.inr 37), .inl r10]) (r := []) (M' := mX6_valueOf) (pc' := 94) dX7_value_91 rfl rfl ⟨rfl, rfl⟩ rfl k rfl (fun v τ11 hq => ?_)
              obtain ⟨r12, hv, k⟩ := hq
              rw [hv]
              change ev mX7_value 94 [some (.inr (.inr 0)), some (.inl x1), some (.inl x2), some (.inl x3), some (.inl r2), some (.inl r4), some (.inl x2), some (.inl 0)] [.inl r12] τ11 _
              exact ev_ret dX7_value_94 rfl k
            · have k := k.1 h11
              refine ev_cst (v := (-1)) (pc' := 77) dX7_value_76 (by decide) rfl ?_
              exact ev_ret dX7_value_77 rfl k
        · have k := k.2 h9
          refine ev_p (pc' := 52) (ls' := [some (.inr (.inr 0)), some (.inl x1), some (.inl x2), some (.inl x3), some (.inl r2), some (.inl r4), some (.inl x2), none]) (st' := [.inl x3]) dX7_value_51 rfl ?_
          refine ev_go (tgt := 56) dX7_value_52 (by decide) ?_
          refine ev_p (pc' := 58) (ls' := [some (.inr (.inr 0)), some (.inl x1), some (.inl x2), some (.inl x3), some (.inl r2), some (.inl r4), some (.inl x2), some (.inl x3)]) (st' := []) dX7_value_56 rfl ?_
          refine ev_p (pc' := 59) (ls' := [some (.inr (.inr 0)), some (.inl x1), some (.inl x2), some (.inl x3), some (.inl r2), some (.inl r4), some (.inl x2), some (.inl x3)]) (st' := [.inr (.inr 0)]) dX7_value_58 rfl ?_
          refine ev_p (pc' := 61) (ls' := [some (.inr (.inr 0)), some (.inl x1), some (.inl x2), some (.inl x3), some (.inl r2), some (.inl r4), some (.inl x2), some (.inl x3)]) (st' := [.inl x2, .inr (.inr 0)]) dX7_value_59 rfl ?_
          refine ev_call (y := 76) (as := [.inr (.inr 0), .inl x2]) (r := []) (M' := mX7_isArgument) (pc' := 64) dX7_value_61 rfl rfl ⟨rfl, rfl⟩ rfl k rfl (fun v τ5 hq => ?_)
          obtain ⟨r6, hv, k⟩ := hq
          rw [hv]
          change ev mX7_value 64 [some (.inr (.inr 0)), some (.inl x1), some (.inl x2), some (.inl x3), some (.inl r2), some (.inl r4), some (.inl x2), some (.inl x3)] [.inl r6] τ5 _
          refine ev_if_eq (tgt := 76) (pc' := 67) dX7_value_64 (by decide) rfl (fun h12 => ?_) (fun h12 => ?_)
          · have k := k.1 h12
            refine ev_cst (v := (-1)) (pc' := 77) dX7_value_76 (by decide) rfl ?_
            exact ev_ret dX7_value_77 rfl k
          · have k := k.2 h12
            refine ev_p (pc' := 68) (ls' := [some (.inr (.inr 0)), some (.inl x1), some (.inl x2), some (.inl x3), some (.inl r2), some (.inl r4), some (.inl x2), some (.inl x3)]) (st' := [.inr (.inr 0)]) dX7_value_67 rfl ?_
            refine ev_p (pc' := 70) (ls' := [some (.inr (.inr 0)), some (.inl x1), some (.inl x2), some (.inl x3), some (.inl r2), some (.inl r4), some (.inl x2), some (.inl x3)]) (st' := [.inl x3, .inr (.inr 0)]) dX7_value_68 rfl ?_
            refine ev_call (y := 76) (as := [.inr (.inr 0), .inl x3]) (r := []) (M' := mX7_isArgument) (pc' := 73) dX7_value_70 rfl rfl ⟨rfl, rfl⟩ rfl k rfl (fun v τ7 hq => ?_)
            obtain ⟨r8, hv, k⟩ := hq
            rw [hv]
            change ev mX7_value 73 [some (.inr (.inr 0)), some (.inl x1), some (.inl x2), some (.inl x3), some (.inl r2), some (.inl r4), some (.inl x2), some (.inl x3)] [.inl r8] τ7 _
            refine ev_if_ne (tgt := 78) (pc' := 76) dX7_value_73 (by decide) rfl (fun h13 => ?_) (fun h13 => ?_)
            · have k := k.2 h13
              refine ev_p (pc' := 79) (ls' := [some (.inr (.inr 0)), some (.inl x1), some (.inl x2), some (.inl x3), some (.inl r2), some (.inl r4), some (.inl x2), some (.inl x3)]) (st' := [.inr (.inr 0)]) dX7_value_78 rfl ?_
              refine ev_getA (pc' := 82) (z := 37) dX7_value_79 rfl rfl rfl rfl ?_
              refine ev_p (pc' := 84) (ls' := [some (.inr (.inr 0)), some (.inl x1), some (.inl x2), some (.inl x3), some (.inl r2), some (.inl r4), some (.inl x2), some (.inl x3)]) (st' := [.inl r2, .inr (.inr 37)]) dX7_value_82 rfl ?_
              refine ev_p (pc' := 86) (ls' := [some (.inr (.inr 0)), some (.inl x1), some (.inl x2), some (.inl x3), some (.inl r2), some (.inl r4), some (.inl x2), some (.inl x3)]) (st' := [.inl x2, .inl r2, .inr (.inr 37)]) dX7_value_84 rfl ?_
              refine ev_p (pc' := 88) (ls' := [some (.inr (.inr 0)), some (.inl x1), some (.inl x2), some (.inl x3), some (.inl r2), some (.inl r4), some (.inl x2), some (.inl x3)]) (st' := [.inl x3, .inl x2, .inl r2, .inr (.inr 37)]) dX7_value_86 rfl ?_
              refine ev_call (y := 45) (as := [.inl r2, .inl x2, .inl x3]) (r := [.inr (.inr 37)]) (M' := mX6_cellOf) (pc' := 91) dX7_value_88 rfl rfl ⟨rfl, rfl⟩ rfl k rfl (fun v τ9 hq => ?_)
              obtain ⟨r10, hv, k⟩ := hq
              rw [hv]
              change ev mX7_value 91 [some (.inr (.inr 0)), some (.inl x1), some (.inl x2), some (.inl x3), some (.inl r2), some (.inl r4), some (.inl x2), some (.inl x3)] [.inl r10, .inr (.inr 37)] τ9 _
              refine ev_call (y := 60) (as := [.inr (.inr 37), .inl r10]) (r := []) (M' := mX6_valueOf) (pc' := 94) dX7_value_91 rfl rfl ⟨rfl, rfl⟩ rfl k rfl (fun v τ11 hq => ?_)
              obtain ⟨r12, hv, k⟩ := hq
              rw [hv]
              change ev mX7_value 94 [some (.inr (.inr 0)), some (.inl x1), some (.inl x2), some (.inl x3), some (.inl r2), some (.inl r4), some (.inl x2), some (.inl x3)] [.inl r12] τ11 _
              exact ev_ret dX7_value_94 rfl k
            · have k := k.1 h13
              refine ev_cst (v := (-1)) (pc' := 77) dX7_value_76 (by decide) rfl ?_
              exact ev_ret dX7_value_77 rfl k
    · have k := k.1 h2
      refine ev_cst (v := (-1)) (pc' := 31) dX7_value_30 (by decide) rfl ?_
      exact ev_ret dX7_value_31 rfl k
set_option maxRecDepth 20000 in
theorem s_X7_isArgument_0 {σ : ab_M} {Q : Option ab_V → ab_M → Prop} {x1 : Int32}
    (k : ((x1 < 0 → Q (some (.inl 0)) σ) ∧ (¬ x1 < 0 → (((σ 0 8) ≤ x1 → Q (some (.inl 0)) σ) ∧ (¬ (σ 0 8) ≤ x1 → Q (some (.inl 1)) σ))))) :
    ev mX7_isArgument 0 [some (.inr (.inr 0)), some (.inl x1)] [] σ Q := by
  refine ev_p (pc' := 1) (ls' := [some (.inr (.inr 0)), some (.inl x1)]) (st' := [.inl x1]) dX7_isArgument_0 rfl ?_
  refine ev_if_lt (tgt := 16) (pc' := 4) dX7_isArgument_1 (by decide) rfl (fun h1 => ?_) (fun h1 => ?_)
  · have k := k.1 h1
    refine ev_cst (v := 0) (pc' := 17) dX7_isArgument_16 (by decide) rfl ?_
    exact ev_retZ dX7_isArgument_17 rfl rfl k
  · have k := k.2 h1
    refine ev_p (pc' := 5) (ls' := [some (.inr (.inr 0)), some (.inl x1)]) (st' := [.inl x1]) dX7_isArgument_4 rfl ?_
    refine ev_p (pc' := 6) (ls' := [some (.inr (.inr 0)), some (.inl x1)]) (st' := [.inr (.inr 0), .inl x1]) dX7_isArgument_5 rfl ?_
    refine ev_getI (pc' := 9) dX7_isArgument_6 rfl rfl rfl rfl ?_
    refine ev_ic_ge (tgt := 16) (pc' := 12) dX7_isArgument_9 (by decide) rfl (fun h2 => ?_) (fun h2 => ?_)
    · have k := k.1 h2
      refine ev_cst (v := 0) (pc' := 17) dX7_isArgument_16 (by decide) rfl ?_
      exact ev_retZ dX7_isArgument_17 rfl rfl k
    · have k := k.2 h2
      refine ev_cst (v := 1) (pc' := 13) dX7_isArgument_12 (by decide) rfl ?_
      refine ev_go (tgt := 17) dX7_isArgument_13 (by decide) ?_
      exact ev_retZ dX7_isArgument_17 rfl rfl k
set_option maxRecDepth 20000 in
theorem s_X7_tries_0 {σ : ab_M} {Q : Option ab_V → ab_M → Prop} 
    (k : evm mX4_made [.inr (.inr 45)] σ (fun v τ1 => ∃ r2 : Int32, v = some (.inl r2) ∧ Q (some (.inl r2)) τ1)) :
    ev mX7_tries 0 [some (.inr (.inr 0))] [] σ Q := by
  refine ev_p (pc' := 1) (ls' := [some (.inr (.inr 0))]) (st' := [.inr (.inr 0)]) dX7_tries_0 rfl ?_
  refine ev_getA (pc' := 4) (z := 45) dX7_tries_1 rfl rfl rfl rfl ?_
  refine ev_call (y := 78) (as := [.inr (.inr 45)]) (r := []) (M' := mX4_made) (pc' := 7) dX7_tries_4 rfl rfl ⟨rfl, rfl⟩ rfl k rfl (fun v τ1 hq => ?_)
  obtain ⟨r2, hv, k⟩ := hq
  rw [hv]
  change ev mX7_tries 7 [some (.inr (.inr 0))] [.inl r2] τ1 _
  exact ev_ret dX7_tries_7 rfl k
set_option maxRecDepth 20000 in
theorem s_X7_check_0 {σ : ab_M} {Q : Option ab_V → ab_M → Prop} 
    (k : evm mX1_read [.inr (.inr 34), .inr (.inr 3), .inr (.inr 1)] σ (fun v τ1 => ∃ r2 : Int32, v = some (.inl r2) ∧ evm mX0_empty [.inr (.inr 3)] τ1 (fun v τ3 => v = none ∧ ((r2 = (-1) → (((τ3 0 8) = 0 → Q (some (.inl (-2))) τ3) ∧ (¬ (τ3 0 8) = 0 → evm mX7_holdsInStructure [.inr (.inr 0)] τ3 (fun v τ4 => ∃ r5 : Int32, v = some (.inl r5) ∧ ((r5 = 0 → Q (some (.inl 0)) τ4) ∧ (¬ r5 = 0 → Q (some (.inl 1)) τ4)))))) ∧ (¬ r2 = (-1) → Q (some (.inl ((-100) - r2))) τ3))))) :
    ev mX7_check 0 [some (.inr (.inr 0)), none] [] σ Q := by
  refine ev_p (pc' := 1) (ls' := [some (.inr (.inr 0)), none]) (st' := [.inr (.inr 0)]) dX7_check_0 rfl ?_
  refine ev_getA (pc' := 4) (z := 34) dX7_check_1 rfl rfl rfl rfl ?_
  refine ev_p (pc' := 5) (ls' := [some (.inr (.inr 0)), none]) (st' := [.inr (.inr 0), .inr (.inr 34)]) dX7_check_4 rfl ?_
  refine ev_getA (pc' := 8) (z := 3) dX7_check_5 rfl rfl rfl rfl ?_
  refine ev_p (pc' := 9) (ls' := [some (.inr (.inr 0)), none]) (st' := [.inr (.inr 0), .inr (.inr 3), .inr (.inr 34)]) dX7_check_8 rfl ?_
  refine ev_getA (pc' := 12) (z := 1) dX7_check_9 rfl rfl rfl rfl ?_
  refine ev_call (y := 23) (as := [.inr (.inr 34), .inr (.inr 3), .inr (.inr 1)]) (r := []) (M' := mX1_read) (pc' := 15) dX7_check_12 rfl rfl ⟨rfl, rfl⟩ rfl k rfl (fun v τ1 hq => ?_)
  obtain ⟨r2, hv, k⟩ := hq
  rw [hv]
  change ev mX7_check 15 [some (.inr (.inr 0)), none] [.inl r2] τ1 _
  refine ev_p (pc' := 16) (ls' := [some (.inr (.inr 0)), some (.inl r2)]) (st' := []) dX7_check_15 rfl ?_
  refine ev_p (pc' := 17) (ls' := [some (.inr (.inr 0)), some (.inl r2)]) (st' := [.inr (.inr 0)]) dX7_check_16 rfl ?_
  refine ev_getA (pc' := 20) (z := 3) dX7_check_17 rfl rfl rfl rfl ?_
  refine ev_call (y := 34) (as := [.inr (.inr 3)]) (r := []) (M' := mX0_empty) (pc' := 23) dX7_check_20 rfl rfl ⟨rfl, rfl⟩ rfl k rfl (fun v τ3 hq => ?_)
  obtain ⟨hv, k⟩ := hq
  rw [hv]
  change ev mX7_check 23 [some (.inr (.inr 0)), some (.inl r2)] [] τ3 _
  refine ev_p (pc' := 24) (ls' := [some (.inr (.inr 0)), some (.inl r2)]) (st' := [.inl r2]) dX7_check_23 rfl ?_
  refine ev_cst (v := (-1)) (pc' := 25) dX7_check_24 (by decide) rfl ?_
  refine ev_ic_eq (tgt := 33) (pc' := 28) dX7_check_25 (by decide) rfl (fun h1 => ?_) (fun h1 => ?_)
  · have k := k.1 h1
    refine ev_p (pc' := 34) (ls' := [some (.inr (.inr 0)), some (.inl r2)]) (st' := [.inr (.inr 0)]) dX7_check_33 rfl ?_
    refine ev_getI (pc' := 37) dX7_check_34 rfl rfl rfl rfl ?_
    refine ev_if_ne (tgt := 43) (pc' := 40) dX7_check_37 (by decide) rfl (fun h2 => ?_) (fun h2 => ?_)
    · have k := k.2 h2
      refine ev_p (pc' := 44) (ls' := [some (.inr (.inr 0)), some (.inl r2)]) (st' := [.inr (.inr 0)]) dX7_check_43 rfl ?_
      refine ev_call (y := 80) (as := [.inr (.inr 0)]) (r := []) (M' := mX7_holdsInStructure) (pc' := 47) dX7_check_44 rfl rfl ⟨rfl, rfl⟩ rfl k rfl (fun v τ4 hq => ?_)
      obtain ⟨r5, hv, k⟩ := hq
      rw [hv]
      change ev mX7_check 47 [some (.inr (.inr 0)), some (.inl r2)] [.inl r5] τ4 _
      refine ev_if_eq (tgt := 54) (pc' := 50) dX7_check_47 (by decide) rfl (fun h3 => ?_) (fun h3 => ?_)
      · have k := k.1 h3
        refine ev_cst (v := 0) (pc' := 55) dX7_check_54 (by decide) rfl ?_
        exact ev_ret dX7_check_55 rfl k
      · have k := k.2 h3
        refine ev_cst (v := 1) (pc' := 51) dX7_check_50 (by decide) rfl ?_
        refine ev_go (tgt := 55) dX7_check_51 (by decide) ?_
        exact ev_ret dX7_check_55 rfl k
    · have k := k.1 h2
      refine ev_cst (v := (-2)) (pc' := 42) dX7_check_40 (by decide) rfl ?_
      exact ev_ret dX7_check_42 rfl k
  · have k := k.2 h1
    refine ev_cst (v := (-100)) (pc' := 30) dX7_check_28 (by decide) rfl ?_
    refine ev_p (pc' := 31) (ls' := [some (.inr (.inr 0)), some (.inl r2)]) (st' := [.inl r2, .inl (-100)]) dX7_check_30 rfl ?_
    refine ev_p (pc' := 32) (ls' := [some (.inr (.inr 0)), some (.inl r2)]) (st' := [.inl ((-100) - r2)]) dX7_check_31 rfl ?_
    exact ev_ret dX7_check_32 rfl k
set_option maxRecDepth 20000 in
theorem s_X7_holdsInStructure_0 {σ : ab_M} {Q : Option ab_V → ab_M → Prop} 
    (k : ev mX7_holdsInStructure 2 [some (.inr (.inr 0)), some (.inl 0), none, none] [] σ Q) :
    ev mX7_holdsInStructure 0 [some (.inr (.inr 0)), none, none, none] [] σ Q := by
  refine ev_cst (v := 0) (pc' := 1) dX7_holdsInStructure_0 (by decide) rfl ?_
  refine ev_p (pc' := 2) (ls' := [some (.inr (.inr 0)), some (.inl 0), none, none]) (st' := []) dX7_holdsInStructure_1 rfl ?_
  exact k
set_option maxRecDepth 20000 in
theorem s_X7_holdsInStructure_2 {σ : ab_M} {Q : Option ab_V → ab_M → Prop} {x1 : Int32} {o2 : Option ab_V} {o3 : Option ab_V}
    (k : evm mX1_choices [.inr (.inr 34), .inl 0, .inl (σ 0 8)] σ (fun v τ1 => ∃ r2 : Int32, v = some (.inl r2) ∧ ((r2 ≤ x1 → Q (some (.inl 1)) τ1) ∧ (¬ r2 ≤ x1 → ev mX7_holdsInStructure 20 [some (.inr (.inr 0)), some (.inl x1), some (.inl 0), o3] [] τ1 Q)))) :
    ev mX7_holdsInStructure 2 [some (.inr (.inr 0)), some (.inl x1), o2, o3] [] σ Q := by
  refine ev_p (pc' := 3) (ls' := [some (.inr (.inr 0)), some (.inl x1), o2, o3]) (st' := [.inl x1]) dX7_holdsInStructure_2 rfl ?_
  refine ev_p (pc' := 4) (ls' := [some (.inr (.inr 0)), some (.inl x1), o2, o3]) (st' := [.inr (.inr 0), .inl x1]) dX7_holdsInStructure_3 rfl ?_
  refine ev_getA (pc' := 7) (z := 34) dX7_holdsInStructure_4 rfl rfl rfl rfl ?_
  refine ev_cst (v := 0) (pc' := 8) dX7_holdsInStructure_7 (by decide) rfl ?_
  refine ev_p (pc' := 9) (ls' := [some (.inr (.inr 0)), some (.inl x1), o2, o3]) (st' := [.inr (.inr 0), .inl 0, .inr (.inr 34), .inl x1]) dX7_holdsInStructure_8 rfl ?_
  refine ev_getI (pc' := 12) dX7_holdsInStructure_9 rfl rfl rfl rfl ?_
  refine ev_call (y := 50) (as := [.inr (.inr 34), .inl 0, .inl (σ 0 8)]) (r := [.inl x1]) (M' := mX1_choices) (pc' := 15) dX7_holdsInStructure_12 rfl rfl ⟨rfl, rfl⟩ rfl k rfl (fun v τ1 hq => ?_)
  obtain ⟨r2, hv, k⟩ := hq
  rw [hv]
  change ev mX7_holdsInStructure 15 [some (.inr (.inr 0)), some (.inl x1), o2, o3] [.inl r2, .inl x1] τ1 _
  refine ev_ic_ge (tgt := 112) (pc' := 18) dX7_holdsInStructure_15 (by decide) rfl (fun h1 => ?_) (fun h1 => ?_)
  · have k := k.1 h1
    refine ev_cst (v := 1) (pc' := 113) dX7_holdsInStructure_112 (by decide) rfl ?_
    exact ev_retZ dX7_holdsInStructure_113 rfl rfl k
  · have k := k.2 h1
    refine ev_cst (v := 0) (pc' := 19) dX7_holdsInStructure_18 (by decide) rfl ?_
    refine ev_p (pc' := 20) (ls' := [some (.inr (.inr 0)), some (.inl x1), some (.inl 0), o3]) (st' := []) dX7_holdsInStructure_19 rfl ?_
    exact k
set_option maxRecDepth 20000 in
theorem s_X7_holdsInStructure_20 {σ : ab_M} {Q : Option ab_V → ab_M → Prop} {x1 : Int32} {x2 : Int32} {o3 : Option ab_V}
    (k : evm mX1_choices [.inr (.inr 34), .inl 1, .inl (σ 0 8)] σ (fun v τ1 => ∃ r2 : Int32, v = some (.inl r2) ∧ ((r2 ≤ x2 → ev mX7_holdsInStructure 2 [some (.inr (.inr 0)), some (.inl (x1 + 1)), some (.inl x2), o3] [] τ1 Q) ∧ (¬ r2 ≤ x2 → ev mX7_holdsInStructure 38 [some (.inr (.inr 0)), some (.inl x1), some (.inl x2), some (.inl 0)] [] τ1 Q)))) :
    ev mX7_holdsInStructure 20 [some (.inr (.inr 0)), some (.inl x1), some (.inl x2), o3] [] σ Q := by
  refine ev_p (pc' := 21) (ls' := [some (.inr (.inr 0)), some (.inl x1), some (.inl x2), o3]) (st' := [.inl x2]) dX7_holdsInStructure_20 rfl ?_
  refine ev_p (pc' := 22) (ls' := [some (.inr (.inr 0)), some (.inl x1), some (.inl x2), o3]) (st' := [.inr (.inr 0), .inl x2]) dX7_holdsInStructure_21 rfl ?_
  refine ev_getA (pc' := 25) (z := 34) dX7_holdsInStructure_22 rfl rfl rfl rfl ?_
  refine ev_cst (v := 1) (pc' := 26) dX7_holdsInStructure_25 (by decide) rfl ?_
  refine ev_p (pc' := 27) (ls' := [some (.inr (.inr 0)), some (.inl x1), some (.inl x2), o3]) (st' := [.inr (.inr 0), .inl 1, .inr (.inr 34), .inl x2]) dX7_holdsInStructure_26 rfl ?_
  refine ev_getI (pc' := 30) dX7_holdsInStructure_27 rfl rfl rfl rfl ?_
  refine ev_call (y := 50) (as := [.inr (.inr 34), .inl 1, .inl (σ 0 8)]) (r := [.inl x2]) (M' := mX1_choices) (pc' := 33) dX7_holdsInStructure_30 rfl rfl ⟨rfl, rfl⟩ rfl k rfl (fun v τ1 hq => ?_)
  obtain ⟨r2, hv, k⟩ := hq
  rw [hv]
  change ev mX7_holdsInStructure 33 [some (.inr (.inr 0)), some (.inl x1), some (.inl x2), o3] [.inl r2, .inl x2] τ1 _
  refine ev_ic_ge (tgt := 106) (pc' := 36) dX7_holdsInStructure_33 (by decide) rfl (fun h1 => ?_) (fun h1 => ?_)
  · have k := k.1 h1
    refine ev_p (pc' := 109) (ls' := [some (.inr (.inr 0)), some (.inl (x1 + 1)), some (.inl x2), o3]) (st' := []) dX7_holdsInStructure_106 rfl ?_
    refine ev_go (tgt := 2) dX7_holdsInStructure_109 (by decide) ?_
    exact k
  · have k := k.2 h1
    refine ev_cst (v := 0) (pc' := 37) dX7_holdsInStructure_36 (by decide) rfl ?_
    refine ev_p (pc' := 38) (ls' := [some (.inr (.inr 0)), some (.inl x1), some (.inl x2), some (.inl 0)]) (st' := []) dX7_holdsInStructure_37 rfl ?_
    exact k
set_option maxRecDepth 20000 in
theorem s_X7_holdsInStructure_38 {σ : ab_M} {Q : Option ab_V → ab_M → Prop} {x1 : Int32} {x2 : Int32} {x3 : Int32}
    (k : evm mX1_choices [.inr (.inr 34), .inl 2, .inl (σ 0 8)] σ (fun v τ1 => ∃ r2 : Int32, v = some (.inl r2) ∧ ((r2 ≤ x3 → ev mX7_holdsInStructure 20 [some (.inr (.inr 0)), some (.inl x1), some (.inl (x2 + 1)), some (.inl x3)] [] τ1 Q) ∧ (¬ r2 ≤ x3 → evm mX3_isBroken [.inr (.inr 42), .inr (.inr 34), .inl x1, .inl x2, .inl x3] τ1 (fun v τ3 => ∃ r4 : Int32, v = some (.inl r4) ∧ ((r4 = 0 → ev mX7_holdsInStructure 38 [some (.inr (.inr 0)), some (.inl x1), some (.inl x2), some (.inl (x3 + 1))] [] τ3 Q) ∧ (¬ r4 = 0 → ab_in 0 3 = true ∧ ab_in 1 3 = true ∧ ab_in 2 3 = true ∧ Q (some (.inl 0)) (ab_upd (ab_upd (ab_upd τ3 49 (0 : Int32).toNatClampNeg x1) 49 (1 : Int32).toNatClampNeg x2) 49 (2 : Int32).toNatClampNeg x3)))))))) :
    ev mX7_holdsInStructure 38 [some (.inr (.inr 0)), some (.inl x1), some (.inl x2), some (.inl x3)] [] σ Q := by
  refine ev_p (pc' := 39) (ls' := [some (.inr (.inr 0)), some (.inl x1), some (.inl x2), some (.inl x3)]) (st' := [.inl x3]) dX7_holdsInStructure_38 rfl ?_
  refine ev_p (pc' := 40) (ls' := [some (.inr (.inr 0)), some (.inl x1), some (.inl x2), some (.inl x3)]) (st' := [.inr (.inr 0), .inl x3]) dX7_holdsInStructure_39 rfl ?_
  refine ev_getA (pc' := 43) (z := 34) dX7_holdsInStructure_40 rfl rfl rfl rfl ?_
  refine ev_cst (v := 2) (pc' := 44) dX7_holdsInStructure_43 (by decide) rfl ?_
  refine ev_p (pc' := 45) (ls' := [some (.inr (.inr 0)), some (.inl x1), some (.inl x2), some (.inl x3)]) (st' := [.inr (.inr 0), .inl 2, .inr (.inr 34), .inl x3]) dX7_holdsInStructure_44 rfl ?_
  refine ev_getI (pc' := 48) dX7_holdsInStructure_45 rfl rfl rfl rfl ?_
  refine ev_call (y := 50) (as := [.inr (.inr 34), .inl 2, .inl (σ 0 8)]) (r := [.inl x3]) (M' := mX1_choices) (pc' := 51) dX7_holdsInStructure_48 rfl rfl ⟨rfl, rfl⟩ rfl k rfl (fun v τ1 hq => ?_)
  obtain ⟨r2, hv, k⟩ := hq
  rw [hv]
  change ev mX7_holdsInStructure 51 [some (.inr (.inr 0)), some (.inl x1), some (.inl x2), some (.inl x3)] [.inl r2, .inl x3] τ1 _
  refine ev_ic_ge (tgt := 100) (pc' := 54) dX7_holdsInStructure_51 (by decide) rfl (fun h1 => ?_) (fun h1 => ?_)
  · have k := k.1 h1
    refine ev_p (pc' := 103) (ls' := [some (.inr (.inr 0)), some (.inl x1), some (.inl (x2 + 1)), some (.inl x3)]) (st' := []) dX7_holdsInStructure_100 rfl ?_
    refine ev_go (tgt := 20) dX7_holdsInStructure_103 (by decide) ?_
    exact k
  · have k := k.2 h1
    refine ev_p (pc' := 55) (ls' := [some (.inr (.inr 0)), some (.inl x1), some (.inl x2), some (.inl x3)]) (st' := [.inr (.inr 0)]) dX7_holdsInStructure_54 rfl ?_
    refine ev_getA (pc' := 58) (z := 42) dX7_holdsInStructure_55 rfl rfl rfl rfl ?_
    refine ev_p (pc' := 59) (ls' := [some (.inr (.inr 0)), some (.inl x1), some (.inl x2), some (.inl x3)]) (st' := [.inr (.inr 0), .inr (.inr 42)]) dX7_holdsInStructure_58 rfl ?_
    refine ev_getA (pc' := 62) (z := 34) dX7_holdsInStructure_59 rfl rfl rfl rfl ?_
    refine ev_p (pc' := 63) (ls' := [some (.inr (.inr 0)), some (.inl x1), some (.inl x2), some (.inl x3)]) (st' := [.inl x1, .inr (.inr 34), .inr (.inr 42)]) dX7_holdsInStructure_62 rfl ?_
    refine ev_p (pc' := 64) (ls' := [some (.inr (.inr 0)), some (.inl x1), some (.inl x2), some (.inl x3)]) (st' := [.inl x2, .inl x1, .inr (.inr 34), .inr (.inr 42)]) dX7_holdsInStructure_63 rfl ?_
    refine ev_p (pc' := 65) (ls' := [some (.inr (.inr 0)), some (.inl x1), some (.inl x2), some (.inl x3)]) (st' := [.inl x3, .inl x2, .inl x1, .inr (.inr 34), .inr (.inr 42)]) dX7_holdsInStructure_64 rfl ?_
    refine ev_call (y := 53) (as := [.inr (.inr 42), .inr (.inr 34), .inl x1, .inl x2, .inl x3]) (r := []) (M' := mX3_isBroken) (pc' := 68) dX7_holdsInStructure_65 rfl rfl ⟨rfl, rfl⟩ rfl k rfl (fun v τ3 hq => ?_)
    obtain ⟨r4, hv, k⟩ := hq
    rw [hv]
    change ev mX7_holdsInStructure 68 [some (.inr (.inr 0)), some (.inl x1), some (.inl x2), some (.inl x3)] [.inl r4] τ3 _
    refine ev_if_eq (tgt := 94) (pc' := 71) dX7_holdsInStructure_68 (by decide) rfl (fun h2 => ?_) (fun h2 => ?_)
    · have k := k.1 h2
      refine ev_p (pc' := 97) (ls' := [some (.inr (.inr 0)), some (.inl x1), some (.inl x2), some (.inl (x3 + 1))]) (st' := []) dX7_holdsInStructure_94 rfl ?_
      refine ev_go (tgt := 38) dX7_holdsInStructure_97 (by decide) ?_
      exact k
    · have k := k.2 h2
      refine ev_p (pc' := 72) (ls' := [some (.inr (.inr 0)), some (.inl x1), some (.inl x2), some (.inl x3)]) (st' := [.inr (.inr 0)]) dX7_holdsInStructure_71 rfl ?_
      refine ev_getA (pc' := 75) (z := 49) dX7_holdsInStructure_72 rfl rfl rfl rfl ?_
      refine ev_cst (v := 0) (pc' := 76) dX7_holdsInStructure_75 (by decide) rfl ?_
      refine ev_p (pc' := 77) (ls' := [some (.inr (.inr 0)), some (.inl x1), some (.inl x2), some (.inl x3)]) (st' := [.inl x1, .inl 0, .inr (.inr 49)]) dX7_holdsInStructure_76 rfl ?_
      refine ev_stor (pc' := 78) (z := x1) rfl dX7_holdsInStructure_77 rfl rfl k.1 rfl rfl ?_
      have k := k.2
      refine ev_p (pc' := 79) (ls' := [some (.inr (.inr 0)), some (.inl x1), some (.inl x2), some (.inl x3)]) (st' := [.inr (.inr 0)]) dX7_holdsInStructure_78 rfl ?_
      refine ev_getA (pc' := 82) (z := 49) dX7_holdsInStructure_79 rfl rfl rfl rfl ?_
      refine ev_cst (v := 1) (pc' := 83) dX7_holdsInStructure_82 (by decide) rfl ?_
      refine ev_p (pc' := 84) (ls' := [some (.inr (.inr 0)), some (.inl x1), some (.inl x2), some (.inl x3)]) (st' := [.inl x2, .inl 1, .inr (.inr 49)]) dX7_holdsInStructure_83 rfl ?_
      refine ev_stor (pc' := 85) (z := x2) rfl dX7_holdsInStructure_84 rfl rfl k.1 rfl rfl ?_
      have k := k.2
      refine ev_p (pc' := 86) (ls' := [some (.inr (.inr 0)), some (.inl x1), some (.inl x2), some (.inl x3)]) (st' := [.inr (.inr 0)]) dX7_holdsInStructure_85 rfl ?_
      refine ev_getA (pc' := 89) (z := 49) dX7_holdsInStructure_86 rfl rfl rfl rfl ?_
      refine ev_cst (v := 2) (pc' := 90) dX7_holdsInStructure_89 (by decide) rfl ?_
      refine ev_p (pc' := 91) (ls' := [some (.inr (.inr 0)), some (.inl x1), some (.inl x2), some (.inl x3)]) (st' := [.inl x3, .inl 2, .inr (.inr 49)]) dX7_holdsInStructure_90 rfl ?_
      refine ev_stor (pc' := 92) (z := x3) rfl dX7_holdsInStructure_91 rfl rfl k.1 rfl rfl ?_
      have k := k.2
      refine ev_cst (v := 0) (pc' := 93) dX7_holdsInStructure_92 (by decide) rfl ?_
      exact ev_retZ dX7_holdsInStructure_93 rfl rfl k
set_option maxRecDepth 20000 in
theorem s_X7_caseOf_0 {σ : ab_M} {Q : Option ab_V → ab_M → Prop} {x1 : Int32}
    (k : ((x1 < 0 → Q (some (.inl (-1))) σ) ∧ (¬ x1 < 0 → ((x1 < 3 → ab_in x1 3 = true ∧ Q (some (.inl (σ 49 x1.toNatClampNeg))) σ) ∧ (¬ x1 < 3 → Q (some (.inl (-1))) σ))))) :
    ev mX7_caseOf 0 [some (.inr (.inr 0)), some (.inl x1)] [] σ Q := by
  refine ev_p (pc' := 1) (ls' := [some (.inr (.inr 0)), some (.inl x1)]) (st' := [.inl x1]) dX7_caseOf_0 rfl ?_
  refine ev_if_lt (tgt := 9) (pc' := 4) dX7_caseOf_1 (by decide) rfl (fun h1 => ?_) (fun h1 => ?_)
  · have k := k.1 h1
    refine ev_cst (v := (-1)) (pc' := 10) dX7_caseOf_9 (by decide) rfl ?_
    refine ev_go (tgt := 19) dX7_caseOf_10 (by decide) ?_
    exact ev_ret dX7_caseOf_19 rfl k
  · have k := k.2 h1
    refine ev_p (pc' := 5) (ls' := [some (.inr (.inr 0)), some (.inl x1)]) (st' := [.inl x1]) dX7_caseOf_4 rfl ?_
    refine ev_cst (v := 3) (pc' := 6) dX7_caseOf_5 (by decide) rfl ?_
    refine ev_ic_lt (tgt := 13) (pc' := 9) dX7_caseOf_6 (by decide) rfl (fun h2 => ?_) (fun h2 => ?_)
    · have k := k.1 h2
      refine ev_p (pc' := 14) (ls' := [some (.inr (.inr 0)), some (.inl x1)]) (st' := [.inr (.inr 0)]) dX7_caseOf_13 rfl ?_
      refine ev_getA (pc' := 17) (z := 49) dX7_caseOf_14 rfl rfl rfl rfl ?_
      refine ev_p (pc' := 18) (ls' := [some (.inr (.inr 0)), some (.inl x1)]) (st' := [.inl x1, .inr (.inr 49)]) dX7_caseOf_17 rfl ?_
      refine ev_load (pc' := 19) rfl dX7_caseOf_18 rfl rfl k.1 rfl ?_
      have k := k.2
      exact ev_ret dX7_caseOf_19 rfl k
    · have k := k.2 h2
      refine ev_cst (v := (-1)) (pc' := 10) dX7_caseOf_9 (by decide) rfl ?_
      refine ev_go (tgt := 19) dX7_caseOf_10 (by decide) ?_
      exact ev_ret dX7_caseOf_19 rfl k
set_option maxRecDepth 20000 in
theorem s_X7_clauses_0 {σ : ab_M} {Q : Option ab_V → ab_M → Prop} 
    (k : evm mX2_count [.inr (.inr 5)] σ (fun v τ1 => ∃ r2 : Int32, v = some (.inl r2) ∧ Q (some (.inl r2)) τ1)) :
    ev mX7_clauses 0 [some (.inr (.inr 0))] [] σ Q := by
  refine ev_p (pc' := 1) (ls' := [some (.inr (.inr 0))]) (st' := [.inr (.inr 0)]) dX7_clauses_0 rfl ?_
  refine ev_getA (pc' := 4) (z := 5) dX7_clauses_1 rfl rfl rfl rfl ?_
  refine ev_call (y := 38) (as := [.inr (.inr 5)]) (r := []) (M' := mX2_count) (pc' := 7) dX7_clauses_4 rfl rfl ⟨rfl, rfl⟩ rfl k rfl (fun v τ1 hq => ?_)
  obtain ⟨r2, hv, k⟩ := hq
  rw [hv]
  change ev mX7_clauses 7 [some (.inr (.inr 0))] [.inl r2] τ1 _
  exact ev_ret dX7_clauses_7 rfl k
