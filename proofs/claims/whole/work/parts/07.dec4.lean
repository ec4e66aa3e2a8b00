theorem kb_Mo_findRing_0 : decode prog_10_method_21_code 0 = .ok (.iconst (-1), 1) := by decide +kernel
theorem kb_Mo_findRing_1 : decode prog_10_method_21_code 1 = .ok (.istore_n 1, 1) := by decide +kernel
theorem kb_Mo_findRing_2 : decode prog_10_method_21_code 2 = .ok (.aload_n 0, 1) := by decide +kernel
theorem kb_Mo_findRing_3 : decode prog_10_method_21_code 3 = .ok (.getfield 139, 3) := by decide +kernel
theorem kb_Mo_findRing_6 : decode prog_10_method_21_code 6 = .ok (.iconst 1, 1) := by decide +kernel
theorem kb_Mo_findRing_7 : decode prog_10_method_21_code 7 = .ok (.isub, 1) := by decide +kernel
theorem kb_Mo_findRing_8 : decode prog_10_method_21_code 8 = .ok (.istore_n 2, 1) := by decide +kernel
theorem kb_Mo_findRing_9 : decode prog_10_method_21_code 9 = .ok (.iload_n 2, 1) := by decide +kernel
theorem kb_Mo_findRing_10 : decode prog_10_method_21_code 10 = .ok (.ifCond .lt 23, 3) := by decide +kernel
theorem kb_Mo_findRing_13 : decode prog_10_method_21_code 13 = .ok (.aload_n 0, 1) := by decide +kernel
theorem kb_Mo_findRing_14 : decode prog_10_method_21_code 14 = .ok (.iload_n 2, 1) := by decide +kernel
theorem kb_Mo_findRing_15 : decode prog_10_method_21_code 15 = .ok (.invokevirtual 181, 3) := by decide +kernel
theorem kb_Mo_findRing_18 : decode prog_10_method_21_code 18 = .ok (.ifCond .eq 7, 3) := by decide +kernel
theorem kb_Mo_findRing_21 : decode prog_10_method_21_code 21 = .ok (.iload_n 2, 1) := by decide +kernel
theorem kb_Mo_findRing_22 : decode prog_10_method_21_code 22 = .ok (.goto 4, 3) := by decide +kernel
theorem kb_Mo_findRing_25 : decode prog_10_method_21_code 25 = .ok (.iload_n 1, 1) := by decide +kernel
theorem kb_Mo_findRing_26 : decode prog_10_method_21_code 26 = .ok (.istore_n 1, 1) := by decide +kernel
theorem kb_Mo_findRing_27 : decode prog_10_method_21_code 27 = .ok (.iinc 2 (-1), 3) := by decide +kernel
theorem kb_Mo_findRing_30 : decode prog_10_method_21_code 30 = .ok (.goto (-21), 3) := by decide +kernel
theorem kb_Mo_findRing_33 : decode prog_10_method_21_code 33 = .ok (.iconst 0, 1) := by decide +kernel
theorem kb_Mo_findRing_34 : decode prog_10_method_21_code 34 = .ok (.istore_n 2, 1) := by decide +kernel
theorem kb_Mo_findRing_35 : decode prog_10_method_21_code 35 = .ok (.iload_n 2, 1) := by decide +kernel
theorem kb_Mo_findRing_36 : decode prog_10_method_21_code 36 = .ok (.bipush 8, 2) := by decide +kernel
theorem kb_Mo_findRing_38 : decode prog_10_method_21_code 38 = .ok (.if_icmp .ge 58, 3) := by decide +kernel
theorem kb_Mo_findRing_41 : decode prog_10_method_21_code 41 = .ok (.aload_n 0, 1) := by decide +kernel
theorem kb_Mo_findRing_42 : decode prog_10_method_21_code 42 = .ok (.getfield 64, 3) := by decide +kernel
theorem kb_Mo_findRing_45 : decode prog_10_method_21_code 45 = .ok (.iload_n 2, 1) := by decide +kernel
theorem kb_Mo_findRing_46 : decode prog_10_method_21_code 46 = .ok (.iload_n 1, 1) := by decide +kernel
theorem kb_Mo_findRing_47 : decode prog_10_method_21_code 47 = .ok (.iconst (-1), 1) := by decide +kernel
theorem kb_Mo_findRing_48 : decode prog_10_method_21_code 48 = .ok (.if_icmp .eq 40, 3) := by decide +kernel
theorem kb_Mo_findRing_51 : decode prog_10_method_21_code 51 = .ok (.iload_n 2, 1) := by decide +kernel
theorem kb_Mo_findRing_52 : decode prog_10_method_21_code 52 = .ok (.iload_n 1, 1) := by decide +kernel
theorem kb_Mo_findRing_53 : decode prog_10_method_21_code 53 = .ok (.if_icmp .eq 31, 3) := by decide +kernel
theorem kb_Mo_findRing_56 : decode prog_10_method_21_code 56 = .ok (.aload_n 0, 1) := by decide +kernel
theorem kb_Mo_findRing_57 : decode prog_10_method_21_code 57 = .ok (.getfield 61, 3) := by decide +kernel
theorem kb_Mo_findRing_60 : decode prog_10_method_21_code 60 = .ok (.bipush 8, 2) := by decide +kernel
theorem kb_Mo_findRing_62 : decode prog_10_method_21_code 62 = .ok (.iload_n 1, 1) := by decide +kernel
theorem kb_Mo_findRing_63 : decode prog_10_method_21_code 63 = .ok (.imul, 1) := by decide +kernel
theorem kb_Mo_findRing_64 : decode prog_10_method_21_code 64 = .ok (.iload_n 2, 1) := by decide +kernel
theorem kb_Mo_findRing_65 : decode prog_10_method_21_code 65 = .ok (.iadd, 1) := by decide +kernel
theorem kb_Mo_findRing_66 : decode prog_10_method_21_code 66 = .ok (.baload, 1) := by decide +kernel
theorem kb_Mo_findRing_67 : decode prog_10_method_21_code 67 = .ok (.ifCond .eq 21, 3) := by decide +kernel
theorem kb_Mo_findRing_70 : decode prog_10_method_21_code 70 = .ok (.aload_n 0, 1) := by decide +kernel
theorem kb_Mo_findRing_71 : decode prog_10_method_21_code 71 = .ok (.getfield 61, 3) := by decide +kernel
theorem kb_Mo_findRing_74 : decode prog_10_method_21_code 74 = .ok (.bipush 8, 2) := by decide +kernel
theorem kb_Mo_findRing_76 : decode prog_10_method_21_code 76 = .ok (.iload_n 2, 1) := by decide +kernel
theorem kb_Mo_findRing_77 : decode prog_10_method_21_code 77 = .ok (.imul, 1) := by decide +kernel
theorem kb_Mo_findRing_78 : decode prog_10_method_21_code 78 = .ok (.iload_n 1, 1) := by decide +kernel
theorem kb_Mo_findRing_79 : decode prog_10_method_21_code 79 = .ok (.iadd, 1) := by decide +kernel
theorem kb_Mo_findRing_80 : decode prog_10_method_21_code 80 = .ok (.baload, 1) := by decide +kernel
theorem kb_Mo_findRing_81 : decode prog_10_method_21_code 81 = .ok (.ifCond .eq 7, 3) := by decide +kernel
theorem kb_Mo_findRing_84 : decode prog_10_method_21_code 84 = .ok (.iconst 1, 1) := by decide +kernel
theorem kb_Mo_findRing_85 : decode prog_10_method_21_code 85 = .ok (.goto 4, 3) := by decide +kernel
theorem kb_Mo_findRing_88 : decode prog_10_method_21_code 88 = .ok (.iconst 0, 1) := by decide +kernel
theorem kb_Mo_findRing_89 : decode prog_10_method_21_code 89 = .ok (.bastore, 1) := by decide +kernel
theorem kb_Mo_findRing_90 : decode prog_10_method_21_code 90 = .ok (.iinc 2 1, 3) := by decide +kernel
theorem kb_Mo_findRing_93 : decode prog_10_method_21_code 93 = .ok (.goto (-58), 3) := by decide +kernel
theorem kb_Mo_findRing_96 : decode prog_10_method_21_code 96 = .ok (.return_, 1) := by decide +kernel
theorem kb_Mo_base_0 : decode prog_10_method_22_code 0 = .ok (.bipush 120, 2) := by decide +kernel
theorem kb_Mo_base_2 : decode prog_10_method_22_code 2 = .ok (.iload_n 1, 1) := by decide +kernel
theorem kb_Mo_base_3 : decode prog_10_method_22_code 3 = .ok (.imul, 1) := by decide +kernel
theorem kb_Mo_base_4 : decode prog_10_method_22_code 4 = .ok (.iconst 3, 1) := by decide +kernel
theorem kb_Mo_base_5 : decode prog_10_method_22_code 5 = .ok (.iload_n 2, 1) := by decide +kernel
theorem kb_Mo_base_6 : decode prog_10_method_22_code 6 = .ok (.imul, 1) := by decide +kernel
theorem kb_Mo_base_7 : decode prog_10_method_22_code 7 = .ok (.iadd, 1) := by decide +kernel
theorem kb_Mo_base_8 : decode prog_10_method_22_code 8 = .ok (.ireturn, 1) := by decide +kernel
theorem kb_Mo_compare_0 : decode prog_10_method_23_code 0 = .ok (.aload_n 0, 1) := by decide +kernel
theorem kb_Mo_compare_1 : decode prog_10_method_23_code 1 = .ok (.iload_n 1, 1) := by decide +kernel
theorem kb_Mo_compare_2 : decode prog_10_method_23_code 2 = .ok (.iload_n 2, 1) := by decide +kernel
theorem kb_Mo_compare_3 : decode prog_10_method_23_code 3 = .ok (.invokevirtual 184, 3) := by decide +kernel
theorem kb_Mo_compare_6 : decode prog_10_method_23_code 6 = .ok (.istore 6, 2) := by decide +kernel
theorem kb_Mo_compare_8 : decode prog_10_method_23_code 8 = .ok (.iload_n 3, 1) := by decide +kernel
theorem kb_Mo_compare_9 : decode prog_10_method_23_code 9 = .ok (.aload_n 0, 1) := by decide +kernel
theorem kb_Mo_compare_10 : decode prog_10_method_23_code 10 = .ok (.getfield 67, 3) := by decide +kernel
theorem kb_Mo_compare_13 : decode prog_10_method_23_code 13 = .ok (.iload 6, 2) := by decide +kernel
theorem kb_Mo_compare_15 : decode prog_10_method_23_code 15 = .ok (.iaload, 1) := by decide +kernel
theorem kb_Mo_compare_16 : decode prog_10_method_23_code 16 = .ok (.if_icmp .eq 15, 3) := by decide +kernel
theorem kb_Mo_compare_19 : decode prog_10_method_23_code 19 = .ok (.iload_n 3, 1) := by decide +kernel
theorem kb_Mo_compare_20 : decode prog_10_method_23_code 20 = .ok (.aload_n 0, 1) := by decide +kernel
theorem kb_Mo_compare_21 : decode prog_10_method_23_code 21 = .ok (.getfield 67, 3) := by decide +kernel
theorem kb_Mo_compare_24 : decode prog_10_method_23_code 24 = .ok (.iload 6, 2) := by decide +kernel
theorem kb_Mo_compare_26 : decode prog_10_method_23_code 26 = .ok (.iaload, 1) := by decide +kernel
theorem kb_Mo_compare_27 : decode prog_10_method_23_code 27 = .ok (.isub, 1) := by decide +kernel
theorem kb_Mo_compare_28 : decode prog_10_method_23_code 28 = .ok (.goto 44, 3) := by decide +kernel
theorem kb_Mo_compare_31 : decode prog_10_method_23_code 31 = .ok (.iload 4, 2) := by decide +kernel
theorem kb_Mo_compare_33 : decode prog_10_method_23_code 33 = .ok (.aload_n 0, 1) := by decide +kernel
theorem kb_Mo_compare_34 : decode prog_10_method_23_code 34 = .ok (.getfield 67, 3) := by decide +kernel
theorem kb_Mo_compare_37 : decode prog_10_method_23_code 37 = .ok (.iload 6, 2) := by decide +kernel
theorem kb_Mo_compare_39 : decode prog_10_method_23_code 39 = .ok (.iconst 1, 1) := by decide +kernel
theorem kb_Mo_compare_40 : decode prog_10_method_23_code 40 = .ok (.iadd, 1) := by decide +kernel
theorem kb_Mo_compare_41 : decode prog_10_method_23_code 41 = .ok (.iaload, 1) := by decide +kernel
theorem kb_Mo_compare_42 : decode prog_10_method_23_code 42 = .ok (.if_icmp .eq 18, 3) := by decide +kernel
theorem kb_Mo_compare_45 : decode prog_10_method_23_code 45 = .ok (.iload 4, 2) := by decide +kernel
theorem kb_Mo_compare_47 : decode prog_10_method_23_code 47 = .ok (.aload_n 0, 1) := by decide +kernel
theorem kb_Mo_compare_48 : decode prog_10_method_23_code 48 = .ok (.getfield 67, 3) := by decide +kernel
theorem kb_Mo_compare_51 : decode prog_10_method_23_code 51 = .ok (.iload 6, 2) := by decide +kernel
theorem kb_Mo_compare_53 : decode prog_10_method_23_code 53 = .ok (.iconst 1, 1) := by decide +kernel
theorem kb_Mo_compare_54 : decode prog_10_method_23_code 54 = .ok (.iadd, 1) := by decide +kernel
theorem kb_Mo_compare_55 : decode prog_10_method_23_code 55 = .ok (.iaload, 1) := by decide +kernel
theorem kb_Mo_compare_56 : decode prog_10_method_23_code 56 = .ok (.isub, 1) := by decide +kernel
theorem kb_Mo_compare_57 : decode prog_10_method_23_code 57 = .ok (.goto 15, 3) := by decide +kernel
theorem kb_Mo_compare_60 : decode prog_10_method_23_code 60 = .ok (.iload 5, 2) := by decide +kernel
theorem kb_Mo_compare_62 : decode prog_10_method_23_code 62 = .ok (.aload_n 0, 1) := by decide +kernel
theorem kb_Mo_compare_63 : decode prog_10_method_23_code 63 = .ok (.getfield 67, 3) := by decide +kernel
theorem kb_Mo_compare_66 : decode prog_10_method_23_code 66 = .ok (.iload 6, 2) := by decide +kernel
theorem kb_Mo_compare_68 : decode prog_10_method_23_code 68 = .ok (.iconst 2, 1) := by decide +kernel
theorem kb_Mo_compare_69 : decode prog_10_method_23_code 69 = .ok (.iadd, 1) := by decide +kernel
theorem kb_Mo_compare_70 : decode prog_10_method_23_code 70 = .ok (.iaload, 1) := by decide +kernel
theorem kb_Mo_compare_71 : decode prog_10_method_23_code 71 = .ok (.isub, 1) := by decide +kernel
theorem kb_Mo_compare_72 : decode prog_10_method_23_code 72 = .ok (.istore 7, 2) := by decide +kernel
theorem kb_Mo_compare_74 : decode prog_10_method_23_code 74 = .ok (.iload 7, 2) := by decide +kernel
theorem kb_Mo_compare_76 : decode prog_10_method_23_code 76 = .ok (.ifCond .ge 7, 3) := by decide +kernel
theorem kb_Mo_compare_79 : decode prog_10_method_23_code 79 = .ok (.iconst (-1), 1) := by decide +kernel
theorem kb_Mo_compare_80 : decode prog_10_method_23_code 80 = .ok (.goto 13, 3) := by decide +kernel
theorem kb_Mo_compare_83 : decode prog_10_method_23_code 83 = .ok (.iload 7, 2) := by decide +kernel
theorem kb_Mo_compare_85 : decode prog_10_method_23_code 85 = .ok (.ifCond .le 7, 3) := by decide +kernel
theorem kb_Mo_compare_88 : decode prog_10_method_23_code 88 = .ok (.iconst 1, 1) := by decide +kernel
theorem kb_Mo_compare_89 : decode prog_10_method_23_code 89 = .ok (.goto 4, 3) := by decide +kernel
theorem kb_Mo_compare_92 : decode prog_10_method_23_code 92 = .ok (.iconst 0, 1) := by decide +kernel
theorem kb_Mo_compare_93 : decode prog_10_method_23_code 93 = .ok (.ireturn, 1) := by decide +kernel
theorem kb_Mo_find_0 : decode prog_10_method_24_code 0 = .ok (.iconst 0, 1) := by decide +kernel
theorem kb_Mo_find_1 : decode prog_10_method_24_code 1 = .ok (.istore 5, 2) := by decide +kernel
theorem kb_Mo_find_3 : decode prog_10_method_24_code 3 = .ok (.iload 5, 2) := by decide +kernel
theorem kb_Mo_find_5 : decode prog_10_method_24_code 5 = .ok (.aload_n 0, 1) := by decide +kernel
theorem kb_Mo_find_6 : decode prog_10_method_24_code 6 = .ok (.getfield 73, 3) := by decide +kernel
theorem kb_Mo_find_9 : decode prog_10_method_24_code 9 = .ok (.iload_n 1, 1) := by decide +kernel
theorem kb_Mo_find_10 : decode prog_10_method_24_code 10 = .ok (.iaload, 1) := by decide +kernel
theorem kb_Mo_find_11 : decode prog_10_method_24_code 11 = .ok (.if_icmp .ge 26, 3) := by decide +kernel
theorem kb_Mo_find_14 : decode prog_10_method_24_code 14 = .ok (.aload_n 0, 1) := by decide +kernel
theorem kb_Mo_find_15 : decode prog_10_method_24_code 15 = .ok (.iload_n 1, 1) := by decide +kernel
theorem kb_Mo_find_16 : decode prog_10_method_24_code 16 = .ok (.iload 5, 2) := by decide +kernel
theorem kb_Mo_find_18 : decode prog_10_method_24_code 18 = .ok (.iload_n 2, 1) := by decide +kernel
theorem kb_Mo_find_19 : decode prog_10_method_24_code 19 = .ok (.iload_n 3, 1) := by decide +kernel
theorem kb_Mo_find_20 : decode prog_10_method_24_code 20 = .ok (.iload 4, 2) := by decide +kernel
theorem kb_Mo_find_22 : decode prog_10_method_24_code 22 = .ok (.invokevirtual 188, 3) := by decide +kernel
theorem kb_Mo_find_25 : decode prog_10_method_24_code 25 = .ok (.ifCond .ne 6, 3) := by decide +kernel
theorem kb_Mo_find_28 : decode prog_10_method_24_code 28 = .ok (.iload 5, 2) := by decide +kernel
theorem kb_Mo_find_30 : decode prog_10_method_24_code 30 = .ok (.ireturn, 1) := by decide +kernel
theorem kb_Mo_find_31 : decode prog_10_method_24_code 31 = .ok (.iinc 5 1, 3) := by decide +kernel
theorem kb_Mo_find_34 : decode prog_10_method_24_code 34 = .ok (.goto (-31), 3) := by decide +kernel
theorem kb_Mo_find_37 : decode prog_10_method_24_code 37 = .ok (.iconst (-1), 1) := by decide +kernel
theorem kb_Mo_find_38 : decode prog_10_method_24_code 38 = .ok (.ireturn, 1) := by decide +kernel
theorem kb_Mo_insert_0 : decode prog_10_method_25_code 0 = .ok (.aload_n 0, 1) := by decide +kernel
theorem kb_Mo_insert_1 : decode prog_10_method_25_code 1 = .ok (.getfield 73, 3) := by decide +kernel
theorem kb_Mo_insert_4 : decode prog_10_method_25_code 4 = .ok (.iload_n 1, 1) := by decide +kernel
theorem kb_Mo_insert_5 : decode prog_10_method_25_code 5 = .ok (.iaload, 1) := by decide +kernel
theorem kb_Mo_insert_6 : decode prog_10_method_25_code 6 = .ok (.bipush 40, 2) := by decide +kernel
theorem kb_Mo_insert_8 : decode prog_10_method_25_code 8 = .ok (.if_icmp .ne 5, 3) := by decide +kernel
theorem kb_Mo_insert_11 : decode prog_10_method_25_code 11 = .ok (.iconst 0, 1) := by decide +kernel
theorem kb_Mo_insert_12 : decode prog_10_method_25_code 12 = .ok (.ireturn, 1) := by decide +kernel
theorem kb_Mo_insert_13 : decode prog_10_method_25_code 13 = .ok (.aload_n 0, 1) := by decide +kernel
theorem kb_Mo_insert_14 : decode prog_10_method_25_code 14 = .ok (.getfield 73, 3) := by decide +kernel
theorem kb_Mo_insert_17 : decode prog_10_method_25_code 17 = .ok (.iload_n 1, 1) := by decide +kernel
theorem kb_Mo_insert_18 : decode prog_10_method_25_code 18 = .ok (.iaload, 1) := by decide +kernel
theorem kb_Mo_insert_19 : decode prog_10_method_25_code 19 = .ok (.istore 6, 2) := by decide +kernel
theorem kb_Mo_insert_21 : decode prog_10_method_25_code 21 = .ok (.iload 6, 2) := by decide +kernel
theorem kb_Mo_insert_23 : decode prog_10_method_25_code 23 = .ok (.ifCond .le 36, 3) := by decide +kernel
theorem kb_Mo_insert_26 : decode prog_10_method_25_code 26 = .ok (.aload_n 0, 1) := by decide +kernel
theorem kb_Mo_insert_27 : decode prog_10_method_25_code 27 = .ok (.iload_n 1, 1) := by decide +kernel
theorem kb_Mo_insert_28 : decode prog_10_method_25_code 28 = .ok (.iload 6, 2) := by decide +kernel
theorem kb_Mo_insert_30 : decode prog_10_method_25_code 30 = .ok (.iconst 1, 1) := by decide +kernel
theorem kb_Mo_insert_31 : decode prog_10_method_25_code 31 = .ok (.isub, 1) := by decide +kernel
theorem kb_Mo_insert_32 : decode prog_10_method_25_code 32 = .ok (.iload_n 2, 1) := by decide +kernel
theorem kb_Mo_insert_33 : decode prog_10_method_25_code 33 = .ok (.iload_n 3, 1) := by decide +kernel
theorem kb_Mo_insert_34 : decode prog_10_method_25_code 34 = .ok (.iload 4, 2) := by decide +kernel
theorem kb_Mo_insert_36 : decode prog_10_method_25_code 36 = .ok (.invokevirtual 188, 3) := by decide +kernel
theorem kb_Mo_insert_39 : decode prog_10_method_25_code 39 = .ok (.ifCond .ge 20, 3) := by decide +kernel
theorem kb_Mo_insert_42 : decode prog_10_method_25_code 42 = .ok (.aload_n 0, 1) := by decide +kernel
theorem kb_Mo_insert_43 : decode prog_10_method_25_code 43 = .ok (.iload_n 1, 1) := by decide +kernel
theorem kb_Mo_insert_44 : decode prog_10_method_25_code 44 = .ok (.iload 6, 2) := by decide +kernel
theorem kb_Mo_insert_46 : decode prog_10_method_25_code 46 = .ok (.iconst 1, 1) := by decide +kernel
theorem kb_Mo_insert_47 : decode prog_10_method_25_code 47 = .ok (.isub, 1) := by decide +kernel
theorem kb_Mo_insert_48 : decode prog_10_method_25_code 48 = .ok (.iload 6, 2) := by decide +kernel
theorem kb_Mo_insert_50 : decode prog_10_method_25_code 50 = .ok (.invokevirtual 192, 3) := by decide +kernel
theorem kb_Mo_insert_53 : decode prog_10_method_25_code 53 = .ok (.iinc 6 (-1), 3) := by decide +kernel
theorem kb_Mo_insert_56 : decode prog_10_method_25_code 56 = .ok (.goto (-35), 3) := by decide +kernel
theorem kb_Mo_insert_59 : decode prog_10_method_25_code 59 = .ok (.aload_n 0, 1) := by decide +kernel
theorem kb_Mo_insert_60 : decode prog_10_method_25_code 60 = .ok (.iload_n 1, 1) := by decide +kernel
theorem kb_Mo_insert_61 : decode prog_10_method_25_code 61 = .ok (.iload 6, 2) := by decide +kernel
theorem kb_Mo_insert_63 : decode prog_10_method_25_code 63 = .ok (.invokevirtual 184, 3) := by decide +kernel
theorem kb_Mo_insert_66 : decode prog_10_method_25_code 66 = .ok (.istore 7, 2) := by decide +kernel
theorem kb_Mo_insert_68 : decode prog_10_method_25_code 68 = .ok (.aload_n 0, 1) := by decide +kernel
theorem kb_Mo_insert_69 : decode prog_10_method_25_code 69 = .ok (.getfield 67, 3) := by decide +kernel
theorem kb_Mo_insert_72 : decode prog_10_method_25_code 72 = .ok (.iload 7, 2) := by decide +kernel
theorem kb_Mo_insert_74 : decode prog_10_method_25_code 74 = .ok (.iload_n 2, 1) := by decide +kernel
theorem kb_Mo_insert_75 : decode prog_10_method_25_code 75 = .ok (.iastore, 1) := by decide +kernel
theorem kb_Mo_insert_76 : decode prog_10_method_25_code 76 = .ok (.aload_n 0, 1) := by decide +kernel
theorem kb_Mo_insert_77 : decode prog_10_method_25_code 77 = .ok (.getfield 67, 3) := by decide +kernel
theorem kb_Mo_insert_80 : decode prog_10_method_25_code 80 = .ok (.iload 7, 2) := by decide +kernel
theorem kb_Mo_insert_82 : decode prog_10_method_25_code 82 = .ok (.iconst 1, 1) := by decide +kernel
theorem kb_Mo_insert_83 : decode prog_10_method_25_code 83 = .ok (.iadd, 1) := by decide +kernel
theorem kb_Mo_insert_84 : decode prog_10_method_25_code 84 = .ok (.iload_n 3, 1) := by decide +kernel
theorem kb_Mo_insert_85 : decode prog_10_method_25_code 85 = .ok (.iastore, 1) := by decide +kernel
theorem kb_Mo_insert_86 : decode prog_10_method_25_code 86 = .ok (.aload_n 0, 1) := by decide +kernel
theorem kb_Mo_insert_87 : decode prog_10_method_25_code 87 = .ok (.getfield 67, 3) := by decide +kernel
theorem kb_Mo_insert_90 : decode prog_10_method_25_code 90 = .ok (.iload 7, 2) := by decide +kernel
theorem kb_Mo_insert_92 : decode prog_10_method_25_code 92 = .ok (.iconst 2, 1) := by decide +kernel
theorem kb_Mo_insert_93 : decode prog_10_method_25_code 93 = .ok (.iadd, 1) := by decide +kernel
theorem kb_Mo_insert_94 : decode prog_10_method_25_code 94 = .ok (.iload 4, 2) := by decide +kernel
theorem kb_Mo_insert_96 : decode prog_10_method_25_code 96 = .ok (.iastore, 1) := by decide +kernel
theorem kb_Mo_insert_97 : decode prog_10_method_25_code 97 = .ok (.aload_n 0, 1) := by decide +kernel
theorem kb_Mo_insert_98 : decode prog_10_method_25_code 98 = .ok (.getfield 70, 3) := by decide +kernel
theorem kb_Mo_insert_101 : decode prog_10_method_25_code 101 = .ok (.bipush 40, 2) := by decide +kernel
theorem kb_Mo_insert_103 : decode prog_10_method_25_code 103 = .ok (.iload_n 1, 1) := by decide +kernel
theorem kb_Mo_insert_104 : decode prog_10_method_25_code 104 = .ok (.imul, 1) := by decide +kernel
theorem kb_Mo_insert_105 : decode prog_10_method_25_code 105 = .ok (.iload 6, 2) := by decide +kernel
theorem kb_Mo_insert_107 : decode prog_10_method_25_code 107 = .ok (.iadd, 1) := by decide +kernel
theorem kb_Mo_insert_108 : decode prog_10_method_25_code 108 = .ok (.iload 5, 2) := by decide +kernel
theorem kb_Mo_insert_110 : decode prog_10_method_25_code 110 = .ok (.iastore, 1) := by decide +kernel
theorem kb_Mo_insert_111 : decode prog_10_method_25_code 111 = .ok (.aload_n 0, 1) := by decide +kernel
theorem kb_Mo_insert_112 : decode prog_10_method_25_code 112 = .ok (.getfield 73, 3) := by decide +kernel
theorem kb_Mo_insert_115 : decode prog_10_method_25_code 115 = .ok (.iload_n 1, 1) := by decide +kernel
theorem kb_Mo_insert_116 : decode prog_10_method_25_code 116 = .ok (.dup2, 1) := by decide +kernel
theorem kb_Mo_insert_117 : decode prog_10_method_25_code 117 = .ok (.iaload, 1) := by decide +kernel
theorem kb_Mo_insert_118 : decode prog_10_method_25_code 118 = .ok (.iconst 1, 1) := by decide +kernel
theorem kb_Mo_insert_119 : decode prog_10_method_25_code 119 = .ok (.iadd, 1) := by decide +kernel
theorem kb_Mo_insert_120 : decode prog_10_method_25_code 120 = .ok (.iastore, 1) := by decide +kernel
theorem kb_Mo_insert_121 : decode prog_10_method_25_code 121 = .ok (.iconst 1, 1) := by decide +kernel
theorem kb_Mo_insert_122 : decode prog_10_method_25_code 122 = .ok (.ireturn, 1) := by decide +kernel
theorem kb_Mo_move_0 : decode prog_10_method_26_code 0 = .ok (.iconst 0, 1) := by decide +kernel
theorem kb_Mo_move_1 : decode prog_10_method_26_code 1 = .ok (.istore 4, 2) := by decide +kernel
theorem kb_Mo_move_3 : decode prog_10_method_26_code 3 = .ok (.iload 4, 2) := by decide +kernel
theorem kb_Mo_move_5 : decode prog_10_method_26_code 5 = .ok (.iconst 3, 1) := by decide +kernel
theorem kb_Mo_move_6 : decode prog_10_method_26_code 6 = .ok (.if_icmp .ge 37, 3) := by decide +kernel
theorem kb_Mo_move_9 : decode prog_10_method_26_code 9 = .ok (.aload_n 0, 1) := by decide +kernel
theorem kb_Mo_move_10 : decode prog_10_method_26_code 10 = .ok (.getfield 67, 3) := by decide +kernel
theorem kb_Mo_move_13 : decode prog_10_method_26_code 13 = .ok (.aload_n 0, 1) := by decide +kernel
theorem kb_Mo_move_14 : decode prog_10_method_26_code 14 = .ok (.iload_n 1, 1) := by decide +kernel
theorem kb_Mo_move_15 : decode prog_10_method_26_code 15 = .ok (.iload_n 3, 1) := by decide +kernel
theorem kb_Mo_move_16 : decode prog_10_method_26_code 16 = .ok (.invokevirtual 184, 3) := by decide +kernel
theorem kb_Mo_move_19 : decode prog_10_method_26_code 19 = .ok (.iload 4, 2) := by decide +kernel
theorem kb_Mo_move_21 : decode prog_10_method_26_code 21 = .ok (.iadd, 1) := by decide +kernel
theorem kb_Mo_move_22 : decode prog_10_method_26_code 22 = .ok (.aload_n 0, 1) := by decide +kernel
theorem kb_Mo_move_23 : decode prog_10_method_26_code 23 = .ok (.getfield 67, 3) := by decide +kernel
theorem kb_Mo_move_26 : decode prog_10_method_26_code 26 = .ok (.aload_n 0, 1) := by decide +kernel
theorem kb_Mo_move_27 : decode prog_10_method_26_code 27 = .ok (.iload_n 1, 1) := by decide +kernel
theorem kb_Mo_move_28 : decode prog_10_method_26_code 28 = .ok (.iload_n 2, 1) := by decide +kernel
theorem kb_Mo_move_29 : decode prog_10_method_26_code 29 = .ok (.invokevirtual 184, 3) := by decide +kernel
theorem kb_Mo_move_32 : decode prog_10_method_26_code 32 = .ok (.iload 4, 2) := by decide +kernel
theorem kb_Mo_move_34 : decode prog_10_method_26_code 34 = .ok (.iadd, 1) := by decide +kernel
theorem kb_Mo_move_35 : decode prog_10_method_26_code 35 = .ok (.iaload, 1) := by decide +kernel
theorem kb_Mo_move_36 : decode prog_10_method_26_code 36 = .ok (.iastore, 1) := by decide +kernel
theorem kb_Mo_move_37 : decode prog_10_method_26_code 37 = .ok (.iinc 4 1, 3) := by decide +kernel
theorem kb_Mo_move_40 : decode prog_10_method_26_code 40 = .ok (.goto (-37), 3) := by decide +kernel
theorem kb_Mo_move_43 : decode prog_10_method_26_code 43 = .ok (.aload_n 0, 1) := by decide +kernel
theorem kb_Mo_move_44 : decode prog_10_method_26_code 44 = .ok (.getfield 70, 3) := by decide +kernel
theorem kb_Mo_move_47 : decode prog_10_method_26_code 47 = .ok (.bipush 40, 2) := by decide +kernel
theorem kb_Mo_move_49 : decode prog_10_method_26_code 49 = .ok (.iload_n 1, 1) := by decide +kernel
theorem kb_Mo_move_50 : decode prog_10_method_26_code 50 = .ok (.imul, 1) := by decide +kernel
theorem kb_Mo_move_51 : decode prog_10_method_26_code 51 = .ok (.iload_n 3, 1) := by decide +kernel
theorem kb_Mo_move_52 : decode prog_10_method_26_code 52 = .ok (.iadd, 1) := by decide +kernel
theorem kb_Mo_move_53 : decode prog_10_method_26_code 53 = .ok (.aload_n 0, 1) := by decide +kernel
theorem kb_Mo_move_54 : decode prog_10_method_26_code 54 = .ok (.getfield 70, 3) := by decide +kernel
theorem kb_Mo_move_57 : decode prog_10_method_26_code 57 = .ok (.bipush 40, 2) := by decide +kernel
theorem kb_Mo_move_59 : decode prog_10_method_26_code 59 = .ok (.iload_n 1, 1) := by decide +kernel
theorem kb_Mo_move_60 : decode prog_10_method_26_code 60 = .ok (.imul, 1) := by decide +kernel
theorem kb_Mo_move_61 : decode prog_10_method_26_code 61 = .ok (.iload_n 2, 1) := by decide +kernel
theorem kb_Mo_move_62 : decode prog_10_method_26_code 62 = .ok (.iadd, 1) := by decide +kernel
theorem kb_Mo_move_63 : decode prog_10_method_26_code 63 = .ok (.iaload, 1) := by decide +kernel
theorem kb_Mo_move_64 : decode prog_10_method_26_code 64 = .ok (.iastore, 1) := by decide +kernel
theorem kb_Mo_move_65 : decode prog_10_method_26_code 65 = .ok (.return_, 1) := by decide +kernel
theorem kb_Mo_remove_0 : decode prog_10_method_27_code 0 = .ok (.iload_n 2, 1) := by decide +kernel
theorem kb_Mo_remove_1 : decode prog_10_method_27_code 1 = .ok (.iconst 1, 1) := by decide +kernel
theorem kb_Mo_remove_2 : decode prog_10_method_27_code 2 = .ok (.iadd, 1) := by decide +kernel
theorem kb_Mo_remove_3 : decode prog_10_method_27_code 3 = .ok (.istore_n 3, 1) := by decide +kernel
theorem kb_Mo_remove_4 : decode prog_10_method_27_code 4 = .ok (.iload_n 3, 1) := by decide +kernel
theorem kb_Mo_remove_5 : decode prog_10_method_27_code 5 = .ok (.aload_n 0, 1) := by decide +kernel
theorem kb_Mo_remove_6 : decode prog_10_method_27_code 6 = .ok (.getfield 73, 3) := by decide +kernel
theorem kb_Mo_remove_9 : decode prog_10_method_27_code 9 = .ok (.iload_n 1, 1) := by decide +kernel
theorem kb_Mo_remove_10 : decode prog_10_method_27_code 10 = .ok (.iaload, 1) := by decide +kernel
theorem kb_Mo_remove_11 : decode prog_10_method_27_code 11 = .ok (.if_icmp .ge 18, 3) := by decide +kernel
theorem kb_Mo_remove_14 : decode prog_10_method_27_code 14 = .ok (.aload_n 0, 1) := by decide +kernel
theorem kb_Mo_remove_15 : decode prog_10_method_27_code 15 = .ok (.iload_n 1, 1) := by decide +kernel
theorem kb_Mo_remove_16 : decode prog_10_method_27_code 16 = .ok (.iload_n 3, 1) := by decide +kernel
theorem kb_Mo_remove_17 : decode prog_10_method_27_code 17 = .ok (.iload_n 3, 1) := by decide +kernel
theorem kb_Mo_remove_18 : decode prog_10_method_27_code 18 = .ok (.iconst 1, 1) := by decide +kernel
theorem kb_Mo_remove_19 : decode prog_10_method_27_code 19 = .ok (.isub, 1) := by decide +kernel
theorem kb_Mo_remove_20 : decode prog_10_method_27_code 20 = .ok (.invokevirtual 192, 3) := by decide +kernel
theorem kb_Mo_remove_23 : decode prog_10_method_27_code 23 = .ok (.iinc 3 1, 3) := by decide +kernel
theorem kb_Mo_remove_26 : decode prog_10_method_27_code 26 = .ok (.goto (-22), 3) := by decide +kernel
theorem kb_Mo_remove_29 : decode prog_10_method_27_code 29 = .ok (.aload_n 0, 1) := by decide +kernel
theorem kb_Mo_remove_30 : decode prog_10_method_27_code 30 = .ok (.getfield 73, 3) := by decide +kernel
theorem kb_Mo_remove_33 : decode prog_10_method_27_code 33 = .ok (.iload_n 1, 1) := by decide +kernel
theorem kb_Mo_remove_34 : decode prog_10_method_27_code 34 = .ok (.dup2, 1) := by decide +kernel
theorem kb_Mo_remove_35 : decode prog_10_method_27_code 35 = .ok (.iaload, 1) := by decide +kernel
theorem kb_Mo_remove_36 : decode prog_10_method_27_code 36 = .ok (.iconst 1, 1) := by decide +kernel
theorem kb_Mo_remove_37 : decode prog_10_method_27_code 37 = .ok (.isub, 1) := by decide +kernel
theorem kb_Mo_remove_38 : decode prog_10_method_27_code 38 = .ok (.iastore, 1) := by decide +kernel
theorem kb_Mo_remove_39 : decode prog_10_method_27_code 39 = .ok (.return_, 1) := by decide +kernel
theorem kb_Mo_begin_0 : decode prog_10_method_28_code 0 = .ok (.aload_n 0, 1) := by decide +kernel
theorem kb_Mo_begin_1 : decode prog_10_method_28_code 1 = .ok (.iload_n 1, 1) := by decide +kernel
theorem kb_Mo_begin_2 : decode prog_10_method_28_code 2 = .ok (.putfield 196, 3) := by decide +kernel
theorem kb_Mo_begin_5 : decode prog_10_method_28_code 5 = .ok (.aload_n 0, 1) := by decide +kernel
theorem kb_Mo_begin_6 : decode prog_10_method_28_code 6 = .ok (.iconst 0, 1) := by decide +kernel
theorem kb_Mo_begin_7 : decode prog_10_method_28_code 7 = .ok (.putfield 199, 3) := by decide +kernel
theorem kb_Mo_begin_10 : decode prog_10_method_28_code 10 = .ok (.iconst 0, 1) := by decide +kernel
theorem kb_Mo_begin_11 : decode prog_10_method_28_code 11 = .ok (.istore_n 2, 1) := by decide +kernel
theorem kb_Mo_begin_12 : decode prog_10_method_28_code 12 = .ok (.iload_n 2, 1) := by decide +kernel
theorem kb_Mo_begin_13 : decode prog_10_method_28_code 13 = .ok (.aload_n 0, 1) := by decide +kernel
theorem kb_Mo_begin_14 : decode prog_10_method_28_code 14 = .ok (.getfield 30, 3) := by decide +kernel
theorem kb_Mo_begin_17 : decode prog_10_method_28_code 17 = .ok (.iload_n 1, 1) := by decide +kernel
theorem kb_Mo_begin_18 : decode prog_10_method_28_code 18 = .ok (.iaload, 1) := by decide +kernel
theorem kb_Mo_begin_19 : decode prog_10_method_28_code 19 = .ok (.if_icmp .ge 46, 3) := by decide +kernel
theorem kb_Mo_begin_22 : decode prog_10_method_28_code 22 = .ok (.aload_n 0, 1) := by decide +kernel
theorem kb_Mo_begin_23 : decode prog_10_method_28_code 23 = .ok (.getfield 33, 3) := by decide +kernel
theorem kb_Mo_begin_26 : decode prog_10_method_28_code 26 = .ok (.iconst 5, 1) := by decide +kernel
theorem kb_Mo_begin_27 : decode prog_10_method_28_code 27 = .ok (.iload_n 1, 1) := by decide +kernel
theorem kb_Mo_begin_28 : decode prog_10_method_28_code 28 = .ok (.imul, 1) := by decide +kernel
theorem kb_Mo_begin_29 : decode prog_10_method_28_code 29 = .ok (.iload_n 2, 1) := by decide +kernel
theorem kb_Mo_begin_30 : decode prog_10_method_28_code 30 = .ok (.iadd, 1) := by decide +kernel
theorem kb_Mo_begin_31 : decode prog_10_method_28_code 31 = .ok (.iaload, 1) := by decide +kernel
theorem kb_Mo_begin_32 : decode prog_10_method_28_code 32 = .ok (.ifCond .ne 27, 3) := by decide +kernel
theorem kb_Mo_begin_35 : decode prog_10_method_28_code 35 = .ok (.aload_n 0, 1) := by decide +kernel
theorem kb_Mo_begin_36 : decode prog_10_method_28_code 36 = .ok (.getfield 103, 3) := by decide +kernel
theorem kb_Mo_begin_39 : decode prog_10_method_28_code 39 = .ok (.aload_n 0, 1) := by decide +kernel
theorem kb_Mo_begin_40 : decode prog_10_method_28_code 40 = .ok (.getfield 199, 3) := by decide +kernel
theorem kb_Mo_begin_43 : decode prog_10_method_28_code 43 = .ok (.iconst 5, 1) := by decide +kernel
theorem kb_Mo_begin_44 : decode prog_10_method_28_code 44 = .ok (.iload_n 1, 1) := by decide +kernel
theorem kb_Mo_begin_45 : decode prog_10_method_28_code 45 = .ok (.imul, 1) := by decide +kernel
theorem kb_Mo_begin_46 : decode prog_10_method_28_code 46 = .ok (.iload_n 2, 1) := by decide +kernel
theorem kb_Mo_begin_47 : decode prog_10_method_28_code 47 = .ok (.iadd, 1) := by decide +kernel
theorem kb_Mo_begin_48 : decode prog_10_method_28_code 48 = .ok (.iastore, 1) := by decide +kernel
theorem kb_Mo_begin_49 : decode prog_10_method_28_code 49 = .ok (.aload_n 0, 1) := by decide +kernel
theorem kb_Mo_begin_50 : decode prog_10_method_28_code 50 = .ok (.dup, 1) := by decide +kernel
theorem kb_Mo_begin_51 : decode prog_10_method_28_code 51 = .ok (.getfield 199, 3) := by decide +kernel
theorem kb_Mo_begin_54 : decode prog_10_method_28_code 54 = .ok (.iconst 1, 1) := by decide +kernel
theorem kb_Mo_begin_55 : decode prog_10_method_28_code 55 = .ok (.iadd, 1) := by decide +kernel
theorem kb_Mo_begin_56 : decode prog_10_method_28_code 56 = .ok (.putfield 199, 3) := by decide +kernel
theorem kb_Mo_begin_59 : decode prog_10_method_28_code 59 = .ok (.iinc 2 1, 3) := by decide +kernel
theorem kb_Mo_begin_62 : decode prog_10_method_28_code 62 = .ok (.goto (-50), 3) := by decide +kernel
theorem kb_Mo_begin_65 : decode prog_10_method_28_code 65 = .ok (.iconst 0, 1) := by decide +kernel
theorem kb_Mo_begin_66 : decode prog_10_method_28_code 66 = .ok (.istore_n 2, 1) := by decide +kernel
theorem kb_Mo_begin_67 : decode prog_10_method_28_code 67 = .ok (.iload_n 2, 1) := by decide +kernel
theorem kb_Mo_begin_68 : decode prog_10_method_28_code 68 = .ok (.bipush 26, 2) := by decide +kernel
theorem kb_Mo_begin_70 : decode prog_10_method_28_code 70 = .ok (.if_icmp .ge 16, 3) := by decide +kernel
theorem kb_Mo_begin_73 : decode prog_10_method_28_code 73 = .ok (.aload_n 0, 1) := by decide +kernel
theorem kb_Mo_begin_74 : decode prog_10_method_28_code 74 = .ok (.getfield 97, 3) := by decide +kernel
theorem kb_Mo_begin_77 : decode prog_10_method_28_code 77 = .ok (.iload_n 2, 1) := by decide +kernel
theorem kb_Mo_begin_78 : decode prog_10_method_28_code 78 = .ok (.iconst (-1), 1) := by decide +kernel
theorem kb_Mo_begin_79 : decode prog_10_method_28_code 79 = .ok (.iastore, 1) := by decide +kernel
theorem kb_Mo_begin_80 : decode prog_10_method_28_code 80 = .ok (.iinc 2 1, 3) := by decide +kernel
theorem kb_Mo_begin_83 : decode prog_10_method_28_code 83 = .ok (.goto (-16), 3) := by decide +kernel
theorem kb_Mo_begin_86 : decode prog_10_method_28_code 86 = .ok (.aload_n 0, 1) := by decide +kernel
theorem kb_Mo_begin_87 : decode prog_10_method_28_code 87 = .ok (.iconst 0, 1) := by decide +kernel
theorem kb_Mo_begin_88 : decode prog_10_method_28_code 88 = .ok (.putfield 202, 3) := by decide +kernel
theorem kb_Mo_begin_91 : decode prog_10_method_28_code 91 = .ok (.aload_n 0, 1) := by decide +kernel
theorem kb_Mo_begin_92 : decode prog_10_method_28_code 92 = .ok (.getfield 100, 3) := by decide +kernel
theorem kb_Mo_begin_95 : decode prog_10_method_28_code 95 = .ok (.iconst 0, 1) := by decide +kernel
theorem kb_Mo_begin_96 : decode prog_10_method_28_code 96 = .ok (.iconst 0, 1) := by decide +kernel
theorem kb_Mo_begin_97 : decode prog_10_method_28_code 97 = .ok (.iastore, 1) := by decide +kernel
theorem kb_Mo_begin_98 : decode prog_10_method_28_code 98 = .ok (.return_, 1) := by decide +kernel
theorem kb_Mo_valueOf_0 : decode prog_10_method_29_code 0 = .ok (.iload_n 1, 1) := by decide +kernel
theorem kb_Mo_valueOf_1 : decode prog_10_method_29_code 1 = .ok (.bipush 100, 2) := by decide +kernel
theorem kb_Mo_valueOf_3 : decode prog_10_method_29_code 3 = .ok (.if_icmp .lt 10, 3) := by decide +kernel
theorem kb_Mo_valueOf_6 : decode prog_10_method_29_code 6 = .ok (.iload_n 1, 1) := by decide +kernel
theorem kb_Mo_valueOf_7 : decode prog_10_method_29_code 7 = .ok (.bipush 100, 2) := by decide +kernel
theorem kb_Mo_valueOf_9 : decode prog_10_method_29_code 9 = .ok (.isub, 1) := by decide +kernel
theorem kb_Mo_valueOf_10 : decode prog_10_method_29_code 10 = .ok (.goto 14, 3) := by decide +kernel
theorem kb_Mo_valueOf_13 : decode prog_10_method_29_code 13 = .ok (.aload_n 0, 1) := by decide +kernel
theorem kb_Mo_valueOf_14 : decode prog_10_method_29_code 14 = .ok (.getfield 97, 3) := by decide +kernel
theorem kb_Mo_valueOf_17 : decode prog_10_method_29_code 17 = .ok (.bipush 26, 2) := by decide +kernel
theorem kb_Mo_valueOf_19 : decode prog_10_method_29_code 19 = .ok (.iload_n 2, 1) := by decide +kernel
theorem kb_Mo_valueOf_20 : decode prog_10_method_29_code 20 = .ok (.imul, 1) := by decide +kernel
theorem kb_Mo_valueOf_21 : decode prog_10_method_29_code 21 = .ok (.iload_n 1, 1) := by decide +kernel
theorem kb_Mo_valueOf_22 : decode prog_10_method_29_code 22 = .ok (.iadd, 1) := by decide +kernel
theorem kb_Mo_valueOf_23 : decode prog_10_method_29_code 23 = .ok (.iaload, 1) := by decide +kernel
theorem kb_Mo_valueOf_24 : decode prog_10_method_29_code 24 = .ok (.ireturn, 1) := by decide +kernel
theorem kb_Mo_fits_0 : decode prog_10_method_30_code 0 = .ok (.aload_n 0, 1) := by decide +kernel
theorem kb_Mo_fits_1 : decode prog_10_method_30_code 1 = .ok (.aload_n 0, 1) := by decide +kernel
theorem kb_Mo_fits_2 : decode prog_10_method_30_code 2 = .ok (.getfield 36, 3) := by decide +kernel
theorem kb_Mo_fits_5 : decode prog_10_method_30_code 5 = .ok (.iload_n 1, 1) := by decide +kernel
theorem kb_Mo_fits_6 : decode prog_10_method_30_code 6 = .ok (.iaload, 1) := by decide +kernel
theorem kb_Mo_fits_7 : decode prog_10_method_30_code 7 = .ok (.iload_n 2, 1) := by decide +kernel
theorem kb_Mo_fits_8 : decode prog_10_method_30_code 8 = .ok (.invokevirtual 184, 3) := by decide +kernel
theorem kb_Mo_fits_11 : decode prog_10_method_30_code 11 = .ok (.istore 4, 2) := by decide +kernel
theorem kb_Mo_fits_13 : decode prog_10_method_30_code 13 = .ok (.iconst 0, 1) := by decide +kernel
theorem kb_Mo_fits_14 : decode prog_10_method_30_code 14 = .ok (.istore 5, 2) := by decide +kernel
theorem kb_Mo_fits_16 : decode prog_10_method_30_code 16 = .ok (.iload 5, 2) := by decide +kernel
theorem kb_Mo_fits_18 : decode prog_10_method_30_code 18 = .ok (.bipush 26, 2) := by decide +kernel
theorem kb_Mo_fits_20 : decode prog_10_method_30_code 20 = .ok (.if_icmp .ge 35, 3) := by decide +kernel
theorem kb_Mo_fits_23 : decode prog_10_method_30_code 23 = .ok (.aload_n 0, 1) := by decide +kernel
theorem kb_Mo_fits_24 : decode prog_10_method_30_code 24 = .ok (.getfield 97, 3) := by decide +kernel
theorem kb_Mo_fits_27 : decode prog_10_method_30_code 27 = .ok (.bipush 26, 2) := by decide +kernel
theorem kb_Mo_fits_29 : decode prog_10_method_30_code 29 = .ok (.iload_n 3, 1) := by decide +kernel
theorem kb_Mo_fits_30 : decode prog_10_method_30_code 30 = .ok (.iconst 1, 1) := by decide +kernel
theorem kb_Mo_fits_31 : decode prog_10_method_30_code 31 = .ok (.iadd, 1) := by decide +kernel
theorem kb_Mo_fits_32 : decode prog_10_method_30_code 32 = .ok (.imul, 1) := by decide +kernel
theorem kb_Mo_fits_33 : decode prog_10_method_30_code 33 = .ok (.iload 5, 2) := by decide +kernel
theorem kb_Mo_fits_35 : decode prog_10_method_30_code 35 = .ok (.iadd, 1) := by decide +kernel
theorem kb_Mo_fits_36 : decode prog_10_method_30_code 36 = .ok (.aload_n 0, 1) := by decide +kernel
theorem kb_Mo_fits_37 : decode prog_10_method_30_code 37 = .ok (.getfield 97, 3) := by decide +kernel
theorem kb_Mo_fits_40 : decode prog_10_method_30_code 40 = .ok (.bipush 26, 2) := by decide +kernel
theorem kb_Mo_fits_42 : decode prog_10_method_30_code 42 = .ok (.iload_n 3, 1) := by decide +kernel
theorem kb_Mo_fits_43 : decode prog_10_method_30_code 43 = .ok (.imul, 1) := by decide +kernel
theorem kb_Mo_fits_44 : decode prog_10_method_30_code 44 = .ok (.iload 5, 2) := by decide +kernel
theorem kb_Mo_fits_46 : decode prog_10_method_30_code 46 = .ok (.iadd, 1) := by decide +kernel
theorem kb_Mo_fits_47 : decode prog_10_method_30_code 47 = .ok (.iaload, 1) := by decide +kernel
theorem kb_Mo_fits_48 : decode prog_10_method_30_code 48 = .ok (.iastore, 1) := by decide +kernel
theorem kb_Mo_fits_49 : decode prog_10_method_30_code 49 = .ok (.iinc 5 1, 3) := by decide +kernel
theorem kb_Mo_fits_52 : decode prog_10_method_30_code 52 = .ok (.goto (-36), 3) := by decide +kernel
theorem kb_Mo_fits_55 : decode prog_10_method_30_code 55 = .ok (.iconst 1, 1) := by decide +kernel
theorem kb_Mo_fits_56 : decode prog_10_method_30_code 56 = .ok (.istore 5, 2) := by decide +kernel
theorem kb_Mo_fits_58 : decode prog_10_method_30_code 58 = .ok (.iconst 0, 1) := by decide +kernel
theorem kb_Mo_fits_59 : decode prog_10_method_30_code 59 = .ok (.istore 6, 2) := by decide +kernel
theorem kb_Mo_fits_61 : decode prog_10_method_30_code 61 = .ok (.iload 6, 2) := by decide +kernel
theorem kb_Mo_fits_63 : decode prog_10_method_30_code 63 = .ok (.iconst 3, 1) := by decide +kernel
theorem kb_Mo_fits_64 : decode prog_10_method_30_code 64 = .ok (.if_icmp .ge 141, 3) := by decide +kernel
theorem kb_Mo_fits_67 : decode prog_10_method_30_code 67 = .ok (.iload 5, 2) := by decide +kernel
theorem kb_Mo_fits_69 : decode prog_10_method_30_code 69 = .ok (.ifCond .eq 136, 3) := by decide +kernel
theorem kb_Mo_fits_72 : decode prog_10_method_30_code 72 = .ok (.aload_n 0, 1) := by decide +kernel
theorem kb_Mo_fits_73 : decode prog_10_method_30_code 73 = .ok (.getfield 39, 3) := by decide +kernel
theorem kb_Mo_fits_76 : decode prog_10_method_30_code 76 = .ok (.iconst 3, 1) := by decide +kernel
theorem kb_Mo_fits_77 : decode prog_10_method_30_code 77 = .ok (.iload_n 1, 1) := by decide +kernel
theorem kb_Mo_fits_78 : decode prog_10_method_30_code 78 = .ok (.imul, 1) := by decide +kernel
theorem kb_Mo_fits_79 : decode prog_10_method_30_code 79 = .ok (.iload 6, 2) := by decide +kernel
theorem kb_Mo_fits_81 : decode prog_10_method_30_code 81 = .ok (.iadd, 1) := by decide +kernel
theorem kb_Mo_fits_82 : decode prog_10_method_30_code 82 = .ok (.iaload, 1) := by decide +kernel
theorem kb_Mo_fits_83 : decode prog_10_method_30_code 83 = .ok (.istore 7, 2) := by decide +kernel
theorem kb_Mo_fits_85 : decode prog_10_method_30_code 85 = .ok (.iload 7, 2) := by decide +kernel
theorem kb_Mo_fits_87 : decode prog_10_method_30_code 87 = .ok (.bipush 100, 2) := by decide +kernel
theorem kb_Mo_fits_89 : decode prog_10_method_30_code 89 = .ok (.if_icmp .lt 31, 3) := by decide +kernel
theorem kb_Mo_fits_92 : decode prog_10_method_30_code 92 = .ok (.iload 7, 2) := by decide +kernel
theorem kb_Mo_fits_94 : decode prog_10_method_30_code 94 = .ok (.bipush 100, 2) := by decide +kernel
theorem kb_Mo_fits_96 : decode prog_10_method_30_code 96 = .ok (.isub, 1) := by decide +kernel
theorem kb_Mo_fits_97 : decode prog_10_method_30_code 97 = .ok (.aload_n 0, 1) := by decide +kernel
theorem kb_Mo_fits_98 : decode prog_10_method_30_code 98 = .ok (.getfield 67, 3) := by decide +kernel
theorem kb_Mo_fits_101 : decode prog_10_method_30_code 101 = .ok (.iload 4, 2) := by decide +kernel
theorem kb_Mo_fits_103 : decode prog_10_method_30_code 103 = .ok (.iload 6, 2) := by decide +kernel
theorem kb_Mo_fits_105 : decode prog_10_method_30_code 105 = .ok (.iadd, 1) := by decide +kernel
theorem kb_Mo_fits_106 : decode prog_10_method_30_code 106 = .ok (.iaload, 1) := by decide +kernel
theorem kb_Mo_fits_107 : decode prog_10_method_30_code 107 = .ok (.if_icmp .ne 7, 3) := by decide +kernel
theorem kb_Mo_fits_110 : decode prog_10_method_30_code 110 = .ok (.iconst 1, 1) := by decide +kernel
theorem kb_Mo_fits_111 : decode prog_10_method_30_code 111 = .ok (.goto 4, 3) := by decide +kernel
theorem kb_Mo_fits_114 : decode prog_10_method_30_code 114 = .ok (.iconst 0, 1) := by decide +kernel
theorem kb_Mo_fits_115 : decode prog_10_method_30_code 115 = .ok (.istore 5, 2) := by decide +kernel
theorem kb_Mo_fits_117 : decode prog_10_method_30_code 117 = .ok (.goto 82, 3) := by decide +kernel
theorem kb_Mo_fits_120 : decode prog_10_method_30_code 120 = .ok (.aload_n 0, 1) := by decide +kernel
theorem kb_Mo_fits_121 : decode prog_10_method_30_code 121 = .ok (.getfield 97, 3) := by decide +kernel
theorem kb_Mo_fits_124 : decode prog_10_method_30_code 124 = .ok (.bipush 26, 2) := by decide +kernel
theorem kb_Mo_fits_126 : decode prog_10_method_30_code 126 = .ok (.iload_n 3, 1) := by decide +kernel
theorem kb_Mo_fits_127 : decode prog_10_method_30_code 127 = .ok (.iconst 1, 1) := by decide +kernel
theorem kb_Mo_fits_128 : decode prog_10_method_30_code 128 = .ok (.iadd, 1) := by decide +kernel
theorem kb_Mo_fits_129 : decode prog_10_method_30_code 129 = .ok (.imul, 1) := by decide +kernel
theorem kb_Mo_fits_130 : decode prog_10_method_30_code 130 = .ok (.iload 7, 2) := by decide +kernel
theorem kb_Mo_fits_132 : decode prog_10_method_30_code 132 = .ok (.iadd, 1) := by decide +kernel
theorem kb_Mo_fits_133 : decode prog_10_method_30_code 133 = .ok (.iaload, 1) := by decide +kernel
theorem kb_Mo_fits_134 : decode prog_10_method_30_code 134 = .ok (.iconst (-1), 1) := by decide +kernel
theorem kb_Mo_fits_135 : decode prog_10_method_30_code 135 = .ok (.if_icmp .ne 30, 3) := by decide +kernel
theorem kb_Mo_fits_138 : decode prog_10_method_30_code 138 = .ok (.aload_n 0, 1) := by decide +kernel
theorem kb_Mo_fits_139 : decode prog_10_method_30_code 139 = .ok (.getfield 97, 3) := by decide +kernel
theorem kb_Mo_fits_142 : decode prog_10_method_30_code 142 = .ok (.bipush 26, 2) := by decide +kernel
theorem kb_Mo_fits_144 : decode prog_10_method_30_code 144 = .ok (.iload_n 3, 1) := by decide +kernel
theorem kb_Mo_fits_145 : decode prog_10_method_30_code 145 = .ok (.iconst 1, 1) := by decide +kernel
theorem kb_Mo_fits_146 : decode prog_10_method_30_code 146 = .ok (.iadd, 1) := by decide +kernel
theorem kb_Mo_fits_147 : decode prog_10_method_30_code 147 = .ok (.imul, 1) := by decide +kernel
theorem kb_Mo_fits_148 : decode prog_10_method_30_code 148 = .ok (.iload 7, 2) := by decide +kernel
theorem kb_Mo_fits_150 : decode prog_10_method_30_code 150 = .ok (.iadd, 1) := by decide +kernel
theorem kb_Mo_fits_151 : decode prog_10_method_30_code 151 = .ok (.aload_n 0, 1) := by decide +kernel
theorem kb_Mo_fits_152 : decode prog_10_method_30_code 152 = .ok (.getfield 67, 3) := by decide +kernel
theorem kb_Mo_fits_155 : decode prog_10_method_30_code 155 = .ok (.iload 4, 2) := by decide +kernel
theorem kb_Mo_fits_157 : decode prog_10_method_30_code 157 = .ok (.iload 6, 2) := by decide +kernel
theorem kb_Mo_fits_159 : decode prog_10_method_30_code 159 = .ok (.iadd, 1) := by decide +kernel
theorem kb_Mo_fits_160 : decode prog_10_method_30_code 160 = .ok (.iaload, 1) := by decide +kernel
theorem kb_Mo_fits_161 : decode prog_10_method_30_code 161 = .ok (.iastore, 1) := by decide +kernel
theorem kb_Mo_fits_162 : decode prog_10_method_30_code 162 = .ok (.goto 37, 3) := by decide +kernel
theorem kb_Mo_fits_165 : decode prog_10_method_30_code 165 = .ok (.aload_n 0, 1) := by decide +kernel
theorem kb_Mo_fits_166 : decode prog_10_method_30_code 166 = .ok (.getfield 97, 3) := by decide +kernel
theorem kb_Mo_fits_169 : decode prog_10_method_30_code 169 = .ok (.bipush 26, 2) := by decide +kernel
theorem kb_Mo_fits_171 : decode prog_10_method_30_code 171 = .ok (.iload_n 3, 1) := by decide +kernel
theorem kb_Mo_fits_172 : decode prog_10_method_30_code 172 = .ok (.iconst 1, 1) := by decide +kernel
theorem kb_Mo_fits_173 : decode prog_10_method_30_code 173 = .ok (.iadd, 1) := by decide +kernel
theorem kb_Mo_fits_174 : decode prog_10_method_30_code 174 = .ok (.imul, 1) := by decide +kernel
theorem kb_Mo_fits_175 : decode prog_10_method_30_code 175 = .ok (.iload 7, 2) := by decide +kernel
theorem kb_Mo_fits_177 : decode prog_10_method_30_code 177 = .ok (.iadd, 1) := by decide +kernel
theorem kb_Mo_fits_178 : decode prog_10_method_30_code 178 = .ok (.iaload, 1) := by decide +kernel
theorem kb_Mo_fits_179 : decode prog_10_method_30_code 179 = .ok (.aload_n 0, 1) := by decide +kernel
theorem kb_Mo_fits_180 : decode prog_10_method_30_code 180 = .ok (.getfield 67, 3) := by decide +kernel
theorem kb_Mo_fits_183 : decode prog_10_method_30_code 183 = .ok (.iload 4, 2) := by decide +kernel
theorem kb_Mo_fits_185 : decode prog_10_method_30_code 185 = .ok (.iload 6, 2) := by decide +kernel
theorem kb_Mo_fits_187 : decode prog_10_method_30_code 187 = .ok (.iadd, 1) := by decide +kernel
theorem kb_Mo_fits_188 : decode prog_10_method_30_code 188 = .ok (.iaload, 1) := by decide +kernel
theorem kb_Mo_fits_189 : decode prog_10_method_30_code 189 = .ok (.if_icmp .ne 7, 3) := by decide +kernel
theorem kb_Mo_fits_192 : decode prog_10_method_30_code 192 = .ok (.iconst 1, 1) := by decide +kernel
theorem kb_Mo_fits_193 : decode prog_10_method_30_code 193 = .ok (.goto 4, 3) := by decide +kernel
theorem kb_Mo_fits_196 : decode prog_10_method_30_code 196 = .ok (.iconst 0, 1) := by decide +kernel
theorem kb_Mo_fits_197 : decode prog_10_method_30_code 197 = .ok (.istore 5, 2) := by decide +kernel
theorem kb_Mo_fits_199 : decode prog_10_method_30_code 199 = .ok (.iinc 6 1, 3) := by decide +kernel
theorem kb_Mo_fits_202 : decode prog_10_method_30_code 202 = .ok (.goto (-141), 3) := by decide +kernel
theorem kb_Mo_fits_205 : decode prog_10_method_30_code 205 = .ok (.iload 5, 2) := by decide +kernel
theorem kb_Mo_fits_207 : decode prog_10_method_30_code 207 = .ok (.ireturn, 1) := by decide +kernel
theorem kb_Mo_holds_0 : decode prog_10_method_31_code 0 = .ok (.iconst 1, 1) := by decide +kernel
theorem kb_Mo_holds_1 : decode prog_10_method_31_code 1 = .ok (.istore_n 1, 1) := by decide +kernel
theorem kb_Mo_holds_2 : decode prog_10_method_31_code 2 = .ok (.iconst 5, 1) := by decide +kernel
theorem kb_Mo_holds_3 : decode prog_10_method_31_code 3 = .ok (.aload_n 0, 1) := by decide +kernel
theorem kb_Mo_holds_4 : decode prog_10_method_31_code 4 = .ok (.getfield 196, 3) := by decide +kernel
theorem kb_Mo_holds_7 : decode prog_10_method_31_code 7 = .ok (.imul, 1) := by decide +kernel
theorem kb_Mo_holds_8 : decode prog_10_method_31_code 8 = .ok (.istore_n 2, 1) := by decide +kernel
theorem kb_Mo_holds_9 : decode prog_10_method_31_code 9 = .ok (.iload_n 2, 1) := by decide +kernel
theorem kb_Mo_holds_10 : decode prog_10_method_31_code 10 = .ok (.iconst 5, 1) := by decide +kernel
theorem kb_Mo_holds_11 : decode prog_10_method_31_code 11 = .ok (.aload_n 0, 1) := by decide +kernel
theorem kb_Mo_holds_12 : decode prog_10_method_31_code 12 = .ok (.getfield 196, 3) := by decide +kernel
theorem kb_Mo_holds_15 : decode prog_10_method_31_code 15 = .ok (.imul, 1) := by decide +kernel
theorem kb_Mo_holds_16 : decode prog_10_method_31_code 16 = .ok (.aload_n 0, 1) := by decide +kernel
theorem kb_Mo_holds_17 : decode prog_10_method_31_code 17 = .ok (.getfield 30, 3) := by decide +kernel
theorem kb_Mo_holds_20 : decode prog_10_method_31_code 20 = .ok (.aload_n 0, 1) := by decide +kernel
theorem kb_Mo_holds_21 : decode prog_10_method_31_code 21 = .ok (.getfield 196, 3) := by decide +kernel
theorem kb_Mo_holds_24 : decode prog_10_method_31_code 24 = .ok (.iaload, 1) := by decide +kernel
theorem kb_Mo_holds_25 : decode prog_10_method_31_code 25 = .ok (.iadd, 1) := by decide +kernel
theorem kb_Mo_holds_26 : decode prog_10_method_31_code 26 = .ok (.if_icmp .ge 202, 3) := by decide +kernel
theorem kb_Mo_holds_29 : decode prog_10_method_31_code 29 = .ok (.iload_n 1, 1) := by decide +kernel
theorem kb_Mo_holds_30 : decode prog_10_method_31_code 30 = .ok (.ifCond .eq 198, 3) := by decide +kernel
theorem kb_Mo_holds_33 : decode prog_10_method_31_code 33 = .ok (.aload_n 0, 1) := by decide +kernel
theorem kb_Mo_holds_34 : decode prog_10_method_31_code 34 = .ok (.getfield 33, 3) := by decide +kernel
theorem kb_Mo_holds_37 : decode prog_10_method_31_code 37 = .ok (.iload_n 2, 1) := by decide +kernel
theorem kb_Mo_holds_38 : decode prog_10_method_31_code 38 = .ok (.iaload, 1) := by decide +kernel
theorem kb_Mo_holds_39 : decode prog_10_method_31_code 39 = .ok (.ifCond .ne 7, 3) := by decide +kernel
theorem kb_Mo_holds_42 : decode prog_10_method_31_code 42 = .ok (.iconst 0, 1) := by decide +kernel
theorem kb_Mo_holds_43 : decode prog_10_method_31_code 43 = .ok (.goto 19, 3) := by decide +kernel
theorem kb_Mo_holds_46 : decode prog_10_method_31_code 46 = .ok (.aload_n 0, 1) := by decide +kernel
theorem kb_Mo_holds_47 : decode prog_10_method_31_code 47 = .ok (.aload_n 0, 1) := by decide +kernel
theorem kb_Mo_holds_48 : decode prog_10_method_31_code 48 = .ok (.getfield 39, 3) := by decide +kernel
theorem kb_Mo_holds_51 : decode prog_10_method_31_code 51 = .ok (.iconst 3, 1) := by decide +kernel
theorem kb_Mo_holds_52 : decode prog_10_method_31_code 52 = .ok (.iload_n 2, 1) := by decide +kernel
theorem kb_Mo_holds_53 : decode prog_10_method_31_code 53 = .ok (.imul, 1) := by decide +kernel
theorem kb_Mo_holds_54 : decode prog_10_method_31_code 54 = .ok (.iaload, 1) := by decide +kernel
theorem kb_Mo_holds_55 : decode prog_10_method_31_code 55 = .ok (.aload_n 0, 1) := by decide +kernel
theorem kb_Mo_holds_56 : decode prog_10_method_31_code 56 = .ok (.getfield 199, 3) := by decide +kernel
theorem kb_Mo_holds_59 : decode prog_10_method_31_code 59 = .ok (.invokevirtual 205, 3) := by decide +kernel
theorem kb_Mo_holds_62 : decode prog_10_method_31_code 62 = .ok (.istore_n 3, 1) := by decide +kernel
theorem kb_Mo_holds_63 : decode prog_10_method_31_code 63 = .ok (.aload_n 0, 1) := by decide +kernel
theorem kb_Mo_holds_64 : decode prog_10_method_31_code 64 = .ok (.getfield 33, 3) := by decide +kernel
theorem kb_Mo_holds_67 : decode prog_10_method_31_code 67 = .ok (.iload_n 2, 1) := by decide +kernel
theorem kb_Mo_holds_68 : decode prog_10_method_31_code 68 = .ok (.iaload, 1) := by decide +kernel
theorem kb_Mo_holds_69 : decode prog_10_method_31_code 69 = .ok (.ifCond .ne 7, 3) := by decide +kernel
theorem kb_Mo_holds_72 : decode prog_10_method_31_code 72 = .ok (.iconst 0, 1) := by decide +kernel
theorem kb_Mo_holds_73 : decode prog_10_method_31_code 73 = .ok (.goto 21, 3) := by decide +kernel
theorem kb_Mo_holds_76 : decode prog_10_method_31_code 76 = .ok (.aload_n 0, 1) := by decide +kernel
theorem kb_Mo_holds_77 : decode prog_10_method_31_code 77 = .ok (.aload_n 0, 1) := by decide +kernel
theorem kb_Mo_holds_78 : decode prog_10_method_31_code 78 = .ok (.getfield 39, 3) := by decide +kernel
theorem kb_Mo_holds_81 : decode prog_10_method_31_code 81 = .ok (.iconst 3, 1) := by decide +kernel
theorem kb_Mo_holds_82 : decode prog_10_method_31_code 82 = .ok (.iload_n 2, 1) := by decide +kernel
theorem kb_Mo_holds_83 : decode prog_10_method_31_code 83 = .ok (.imul, 1) := by decide +kernel
theorem kb_Mo_holds_84 : decode prog_10_method_31_code 84 = .ok (.iconst 1, 1) := by decide +kernel
theorem kb_Mo_holds_85 : decode prog_10_method_31_code 85 = .ok (.iadd, 1) := by decide +kernel
theorem kb_Mo_holds_86 : decode prog_10_method_31_code 86 = .ok (.iaload, 1) := by decide +kernel
theorem kb_Mo_holds_87 : decode prog_10_method_31_code 87 = .ok (.aload_n 0, 1) := by decide +kernel
theorem kb_Mo_holds_88 : decode prog_10_method_31_code 88 = .ok (.getfield 199, 3) := by decide +kernel
theorem kb_Mo_holds_91 : decode prog_10_method_31_code 91 = .ok (.invokevirtual 205, 3) := by decide +kernel
theorem kb_Mo_holds_94 : decode prog_10_method_31_code 94 = .ok (.istore 4, 2) := by decide +kernel
theorem kb_Mo_holds_96 : decode prog_10_method_31_code 96 = .ok (.aload_n 0, 1) := by decide +kernel
theorem kb_Mo_holds_97 : decode prog_10_method_31_code 97 = .ok (.getfield 33, 3) := by decide +kernel
theorem kb_Mo_holds_100 : decode prog_10_method_31_code 100 = .ok (.iload_n 2, 1) := by decide +kernel
theorem kb_Mo_holds_101 : decode prog_10_method_31_code 101 = .ok (.iaload, 1) := by decide +kernel
theorem kb_Mo_holds_102 : decode prog_10_method_31_code 102 = .ok (.iconst 1, 1) := by decide +kernel
theorem kb_Mo_holds_103 : decode prog_10_method_31_code 103 = .ok (.if_icmp .ne 47, 3) := by decide +kernel
theorem kb_Mo_holds_106 : decode prog_10_method_31_code 106 = .ok (.aload_n 0, 1) := by decide +kernel
theorem kb_Mo_holds_107 : decode prog_10_method_31_code 107 = .ok (.aload_n 0, 1) := by decide +kernel
theorem kb_Mo_holds_108 : decode prog_10_method_31_code 108 = .ok (.getfield 36, 3) := by decide +kernel
theorem kb_Mo_holds_111 : decode prog_10_method_31_code 111 = .ok (.iload_n 2, 1) := by decide +kernel
theorem kb_Mo_holds_112 : decode prog_10_method_31_code 112 = .ok (.iaload, 1) := by decide +kernel
theorem kb_Mo_holds_113 : decode prog_10_method_31_code 113 = .ok (.iload_n 3, 1) := by decide +kernel
theorem kb_Mo_holds_114 : decode prog_10_method_31_code 114 = .ok (.iload 4, 2) := by decide +kernel
theorem kb_Mo_holds_116 : decode prog_10_method_31_code 116 = .ok (.aload_n 0, 1) := by decide +kernel
theorem kb_Mo_holds_117 : decode prog_10_method_31_code 117 = .ok (.aload_n 0, 1) := by decide +kernel
theorem kb_Mo_holds_118 : decode prog_10_method_31_code 118 = .ok (.getfield 39, 3) := by decide +kernel
theorem kb_Mo_holds_121 : decode prog_10_method_31_code 121 = .ok (.iconst 3, 1) := by decide +kernel
theorem kb_Mo_holds_122 : decode prog_10_method_31_code 122 = .ok (.iload_n 2, 1) := by decide +kernel
theorem kb_Mo_holds_123 : decode prog_10_method_31_code 123 = .ok (.imul, 1) := by decide +kernel
theorem kb_Mo_holds_124 : decode prog_10_method_31_code 124 = .ok (.iconst 2, 1) := by decide +kernel
theorem kb_Mo_holds_125 : decode prog_10_method_31_code 125 = .ok (.iadd, 1) := by decide +kernel
theorem kb_Mo_holds_126 : decode prog_10_method_31_code 126 = .ok (.iaload, 1) := by decide +kernel
theorem kb_Mo_holds_127 : decode prog_10_method_31_code 127 = .ok (.aload_n 0, 1) := by decide +kernel
theorem kb_Mo_holds_128 : decode prog_10_method_31_code 128 = .ok (.getfield 199, 3) := by decide +kernel
theorem kb_Mo_holds_131 : decode prog_10_method_31_code 131 = .ok (.invokevirtual 205, 3) := by decide +kernel
theorem kb_Mo_holds_134 : decode prog_10_method_31_code 134 = .ok (.invokevirtual 208, 3) := by decide +kernel
theorem kb_Mo_holds_137 : decode prog_10_method_31_code 137 = .ok (.iconst (-1), 1) := by decide +kernel
theorem kb_Mo_holds_138 : decode prog_10_method_31_code 138 = .ok (.if_icmp .ne 7, 3) := by decide +kernel
theorem kb_Mo_holds_141 : decode prog_10_method_31_code 141 = .ok (.iconst 1, 1) := by decide +kernel
theorem kb_Mo_holds_142 : decode prog_10_method_31_code 142 = .ok (.goto 4, 3) := by decide +kernel
theorem kb_Mo_holds_145 : decode prog_10_method_31_code 145 = .ok (.iconst 0, 1) := by decide +kernel
theorem kb_Mo_holds_146 : decode prog_10_method_31_code 146 = .ok (.istore_n 1, 1) := by decide +kernel
theorem kb_Mo_holds_147 : decode prog_10_method_31_code 147 = .ok (.goto 75, 3) := by decide +kernel
theorem kb_Mo_holds_150 : decode prog_10_method_31_code 150 = .ok (.aload_n 0, 1) := by decide +kernel
theorem kb_Mo_holds_151 : decode prog_10_method_31_code 151 = .ok (.getfield 33, 3) := by decide +kernel
theorem kb_Mo_holds_154 : decode prog_10_method_31_code 154 = .ok (.iload_n 2, 1) := by decide +kernel
theorem kb_Mo_holds_155 : decode prog_10_method_31_code 155 = .ok (.iaload, 1) := by decide +kernel
theorem kb_Mo_holds_156 : decode prog_10_method_31_code 156 = .ok (.iconst 2, 1) := by decide +kernel
theorem kb_Mo_holds_157 : decode prog_10_method_31_code 157 = .ok (.if_icmp .ne 65, 3) := by decide +kernel
theorem kb_Mo_holds_160 : decode prog_10_method_31_code 160 = .ok (.aload_n 0, 1) := by decide +kernel
theorem kb_Mo_holds_161 : decode prog_10_method_31_code 161 = .ok (.getfield 36, 3) := by decide +kernel
theorem kb_Mo_holds_164 : decode prog_10_method_31_code 164 = .ok (.iload_n 2, 1) := by decide +kernel
theorem kb_Mo_holds_165 : decode prog_10_method_31_code 165 = .ok (.iaload, 1) := by decide +kernel
theorem kb_Mo_holds_166 : decode prog_10_method_31_code 166 = .ok (.bipush 60, 2) := by decide +kernel
theorem kb_Mo_holds_168 : decode prog_10_method_31_code 168 = .ok (.if_icmp .ne 17, 3) := by decide +kernel
theorem kb_Mo_holds_171 : decode prog_10_method_31_code 171 = .ok (.iload_n 3, 1) := by decide +kernel
theorem kb_Mo_holds_172 : decode prog_10_method_31_code 172 = .ok (.iload 4, 2) := by decide +kernel
theorem kb_Mo_holds_174 : decode prog_10_method_31_code 174 = .ok (.if_icmp .ge 7, 3) := by decide +kernel
theorem kb_Mo_holds_177 : decode prog_10_method_31_code 177 = .ok (.iconst 1, 1) := by decide +kernel
theorem kb_Mo_holds_178 : decode prog_10_method_31_code 178 = .ok (.goto 43, 3) := by decide +kernel
theorem kb_Mo_holds_181 : decode prog_10_method_31_code 181 = .ok (.iconst 0, 1) := by decide +kernel
theorem kb_Mo_holds_182 : decode prog_10_method_31_code 182 = .ok (.goto 39, 3) := by decide +kernel
theorem kb_Mo_holds_185 : decode prog_10_method_31_code 185 = .ok (.aload_n 0, 1) := by decide +kernel
theorem kb_Mo_holds_186 : decode prog_10_method_31_code 186 = .ok (.getfield 36, 3) := by decide +kernel
theorem kb_Mo_holds_189 : decode prog_10_method_31_code 189 = .ok (.iload_n 2, 1) := by decide +kernel
theorem kb_Mo_holds_190 : decode prog_10_method_31_code 190 = .ok (.iaload, 1) := by decide +kernel
theorem kb_Mo_holds_191 : decode prog_10_method_31_code 191 = .ok (.bipush 61, 2) := by decide +kernel
theorem kb_Mo_holds_193 : decode prog_10_method_31_code 193 = .ok (.if_icmp .ne 17, 3) := by decide +kernel
theorem kb_Mo_holds_196 : decode prog_10_method_31_code 196 = .ok (.iload_n 3, 1) := by decide +kernel
theorem kb_Mo_holds_197 : decode prog_10_method_31_code 197 = .ok (.iload 4, 2) := by decide +kernel
theorem kb_Mo_holds_199 : decode prog_10_method_31_code 199 = .ok (.if_icmp .ne 7, 3) := by decide +kernel
theorem kb_Mo_holds_202 : decode prog_10_method_31_code 202 = .ok (.iconst 1, 1) := by decide +kernel
theorem kb_Mo_holds_203 : decode prog_10_method_31_code 203 = .ok (.goto 18, 3) := by decide +kernel
theorem kb_Mo_holds_206 : decode prog_10_method_31_code 206 = .ok (.iconst 0, 1) := by decide +kernel
theorem kb_Mo_holds_207 : decode prog_10_method_31_code 207 = .ok (.goto 14, 3) := by decide +kernel
theorem kb_Mo_holds_210 : decode prog_10_method_31_code 210 = .ok (.iload_n 3, 1) := by decide +kernel
theorem kb_Mo_holds_211 : decode prog_10_method_31_code 211 = .ok (.iload 4, 2) := by decide +kernel
theorem kb_Mo_holds_213 : decode prog_10_method_31_code 213 = .ok (.if_icmp .eq 7, 3) := by decide +kernel
theorem kb_Mo_holds_216 : decode prog_10_method_31_code 216 = .ok (.iconst 1, 1) := by decide +kernel
theorem kb_Mo_holds_217 : decode prog_10_method_31_code 217 = .ok (.goto 4, 3) := by decide +kernel
theorem kb_Mo_holds_220 : decode prog_10_method_31_code 220 = .ok (.iconst 0, 1) := by decide +kernel
theorem kb_Mo_holds_221 : decode prog_10_method_31_code 221 = .ok (.istore_n 1, 1) := by decide +kernel
theorem kb_Mo_holds_222 : decode prog_10_method_31_code 222 = .ok (.iinc 2 1, 3) := by decide +kernel
theorem kb_Mo_holds_225 : decode prog_10_method_31_code 225 = .ok (.goto (-216), 3) := by decide +kernel
theorem kb_Mo_holds_228 : decode prog_10_method_31_code 228 = .ok (.iload_n 1, 1) := by decide +kernel
theorem kb_Mo_holds_229 : decode prog_10_method_31_code 229 = .ok (.ireturn, 1) := by decide +kernel
theorem kb_Mo_next_0 : decode prog_10_method_32_code 0 = .ok (.aload_n 0, 1) := by decide +kernel
theorem kb_Mo_next_1 : decode prog_10_method_32_code 1 = .ok (.getfield 202, 3) := by decide +kernel
theorem kb_Mo_next_4 : decode prog_10_method_32_code 4 = .ok (.ifCond .lt 138, 3) := by decide +kernel
theorem kb_Mo_next_7 : decode prog_10_method_32_code 7 = .ok (.aload_n 0, 1) := by decide +kernel
theorem kb_Mo_next_8 : decode prog_10_method_32_code 8 = .ok (.getfield 202, 3) := by decide +kernel
theorem kb_Mo_next_11 : decode prog_10_method_32_code 11 = .ok (.aload_n 0, 1) := by decide +kernel
theorem kb_Mo_next_12 : decode prog_10_method_32_code 12 = .ok (.getfield 199, 3) := by decide +kernel
theorem kb_Mo_next_15 : decode prog_10_method_32_code 15 = .ok (.if_icmp .ne 22, 3) := by decide +kernel
theorem kb_Mo_next_18 : decode prog_10_method_32_code 18 = .ok (.aload_n 0, 1) := by decide +kernel
theorem kb_Mo_next_19 : decode prog_10_method_32_code 19 = .ok (.dup, 1) := by decide +kernel
theorem kb_Mo_next_20 : decode prog_10_method_32_code 20 = .ok (.getfield 202, 3) := by decide +kernel
theorem kb_Mo_next_23 : decode prog_10_method_32_code 23 = .ok (.iconst 1, 1) := by decide +kernel
theorem kb_Mo_next_24 : decode prog_10_method_32_code 24 = .ok (.isub, 1) := by decide +kernel
theorem kb_Mo_next_25 : decode prog_10_method_32_code 25 = .ok (.putfield 202, 3) := by decide +kernel
theorem kb_Mo_next_28 : decode prog_10_method_32_code 28 = .ok (.aload_n 0, 1) := by decide +kernel
theorem kb_Mo_next_29 : decode prog_10_method_32_code 29 = .ok (.invokevirtual 212, 3) := by decide +kernel
theorem kb_Mo_next_32 : decode prog_10_method_32_code 32 = .ok (.ifCond .eq (-32), 3) := by decide +kernel
theorem kb_Mo_next_35 : decode prog_10_method_32_code 35 = .ok (.iconst 1, 1) := by decide +kernel
theorem kb_Mo_next_36 : decode prog_10_method_32_code 36 = .ok (.ireturn, 1) := by decide +kernel
theorem kb_Mo_next_37 : decode prog_10_method_32_code 37 = .ok (.aload_n 0, 1) := by decide +kernel
theorem kb_Mo_next_38 : decode prog_10_method_32_code 38 = .ok (.getfield 103, 3) := by decide +kernel
theorem kb_Mo_next_41 : decode prog_10_method_32_code 41 = .ok (.aload_n 0, 1) := by decide +kernel
theorem kb_Mo_next_42 : decode prog_10_method_32_code 42 = .ok (.getfield 202, 3) := by decide +kernel
theorem kb_Mo_next_45 : decode prog_10_method_32_code 45 = .ok (.iaload, 1) := by decide +kernel
theorem kb_Mo_next_46 : decode prog_10_method_32_code 46 = .ok (.istore_n 1, 1) := by decide +kernel
theorem kb_Mo_next_47 : decode prog_10_method_32_code 47 = .ok (.aload_n 0, 1) := by decide +kernel
theorem kb_Mo_next_48 : decode prog_10_method_32_code 48 = .ok (.getfield 100, 3) := by decide +kernel
theorem kb_Mo_next_51 : decode prog_10_method_32_code 51 = .ok (.aload_n 0, 1) := by decide +kernel
theorem kb_Mo_next_52 : decode prog_10_method_32_code 52 = .ok (.getfield 202, 3) := by decide +kernel
theorem kb_Mo_next_55 : decode prog_10_method_32_code 55 = .ok (.iaload, 1) := by decide +kernel
theorem kb_Mo_next_56 : decode prog_10_method_32_code 56 = .ok (.aload_n 0, 1) := by decide +kernel
theorem kb_Mo_next_57 : decode prog_10_method_32_code 57 = .ok (.getfield 73, 3) := by decide +kernel
theorem kb_Mo_next_60 : decode prog_10_method_32_code 60 = .ok (.aload_n 0, 1) := by decide +kernel
theorem kb_Mo_next_61 : decode prog_10_method_32_code 61 = .ok (.getfield 36, 3) := by decide +kernel
theorem kb_Mo_next_64 : decode prog_10_method_32_code 64 = .ok (.iload_n 1, 1) := by decide +kernel
theorem kb_Mo_next_65 : decode prog_10_method_32_code 65 = .ok (.iaload, 1) := by decide +kernel
theorem kb_Mo_next_66 : decode prog_10_method_32_code 66 = .ok (.iaload, 1) := by decide +kernel
theorem kb_Mo_next_67 : decode prog_10_method_32_code 67 = .ok (.if_icmp .ne 16, 3) := by decide +kernel
theorem kb_Mo_next_70 : decode prog_10_method_32_code 70 = .ok (.aload_n 0, 1) := by decide +kernel
theorem kb_Mo_next_71 : decode prog_10_method_32_code 71 = .ok (.dup, 1) := by decide +kernel
theorem kb_Mo_next_72 : decode prog_10_method_32_code 72 = .ok (.getfield 202, 3) := by decide +kernel
theorem kb_Mo_next_75 : decode prog_10_method_32_code 75 = .ok (.iconst 1, 1) := by decide +kernel
theorem kb_Mo_next_76 : decode prog_10_method_32_code 76 = .ok (.isub, 1) := by decide +kernel
theorem kb_Mo_next_77 : decode prog_10_method_32_code 77 = .ok (.putfield 202, 3) := by decide +kernel
theorem kb_Mo_next_80 : decode prog_10_method_32_code 80 = .ok (.goto 59, 3) := by decide +kernel
theorem kb_Mo_next_83 : decode prog_10_method_32_code 83 = .ok (.aload_n 0, 1) := by decide +kernel
theorem kb_Mo_next_84 : decode prog_10_method_32_code 84 = .ok (.getfield 100, 3) := by decide +kernel
theorem kb_Mo_next_87 : decode prog_10_method_32_code 87 = .ok (.aload_n 0, 1) := by decide +kernel
theorem kb_Mo_next_88 : decode prog_10_method_32_code 88 = .ok (.getfield 202, 3) := by decide +kernel
theorem kb_Mo_next_91 : decode prog_10_method_32_code 91 = .ok (.iaload, 1) := by decide +kernel
theorem kb_Mo_next_92 : decode prog_10_method_32_code 92 = .ok (.istore_n 2, 1) := by decide +kernel
theorem kb_Mo_next_93 : decode prog_10_method_32_code 93 = .ok (.aload_n 0, 1) := by decide +kernel
theorem kb_Mo_next_94 : decode prog_10_method_32_code 94 = .ok (.getfield 100, 3) := by decide +kernel
theorem kb_Mo_next_97 : decode prog_10_method_32_code 97 = .ok (.aload_n 0, 1) := by decide +kernel
theorem kb_Mo_next_98 : decode prog_10_method_32_code 98 = .ok (.getfield 202, 3) := by decide +kernel
theorem kb_Mo_next_101 : decode prog_10_method_32_code 101 = .ok (.dup2, 1) := by decide +kernel
theorem kb_Mo_next_102 : decode prog_10_method_32_code 102 = .ok (.iaload, 1) := by decide +kernel
theorem kb_Mo_next_103 : decode prog_10_method_32_code 103 = .ok (.iconst 1, 1) := by decide +kernel
theorem kb_Mo_next_104 : decode prog_10_method_32_code 104 = .ok (.iadd, 1) := by decide +kernel
theorem kb_Mo_next_105 : decode prog_10_method_32_code 105 = .ok (.iastore, 1) := by decide +kernel
theorem kb_Mo_next_106 : decode prog_10_method_32_code 106 = .ok (.aload_n 0, 1) := by decide +kernel
theorem kb_Mo_next_107 : decode prog_10_method_32_code 107 = .ok (.iload_n 1, 1) := by decide +kernel
theorem kb_Mo_next_108 : decode prog_10_method_32_code 108 = .ok (.iload_n 2, 1) := by decide +kernel
theorem kb_Mo_next_109 : decode prog_10_method_32_code 109 = .ok (.aload_n 0, 1) := by decide +kernel
theorem kb_Mo_next_110 : decode prog_10_method_32_code 110 = .ok (.getfield 202, 3) := by decide +kernel
theorem kb_Mo_next_113 : decode prog_10_method_32_code 113 = .ok (.invokevirtual 216, 3) := by decide +kernel
theorem kb_Mo_next_116 : decode prog_10_method_32_code 116 = .ok (.ifCond .eq 23, 3) := by decide +kernel
theorem kb_Mo_next_119 : decode prog_10_method_32_code 119 = .ok (.aload_n 0, 1) := by decide +kernel
theorem kb_Mo_next_120 : decode prog_10_method_32_code 120 = .ok (.dup, 1) := by decide +kernel
theorem kb_Mo_next_121 : decode prog_10_method_32_code 121 = .ok (.getfield 202, 3) := by decide +kernel
theorem kb_Mo_next_124 : decode prog_10_method_32_code 124 = .ok (.iconst 1, 1) := by decide +kernel
theorem kb_Mo_next_125 : decode prog_10_method_32_code 125 = .ok (.iadd, 1) := by decide +kernel
theorem kb_Mo_next_126 : decode prog_10_method_32_code 126 = .ok (.putfield 202, 3) := by decide +kernel
theorem kb_Mo_next_129 : decode prog_10_method_32_code 129 = .ok (.aload_n 0, 1) := by decide +kernel
theorem kb_Mo_next_130 : decode prog_10_method_32_code 130 = .ok (.getfield 100, 3) := by decide +kernel
theorem kb_Mo_next_133 : decode prog_10_method_32_code 133 = .ok (.aload_n 0, 1) := by decide +kernel
theorem kb_Mo_next_134 : decode prog_10_method_32_code 134 = .ok (.getfield 202, 3) := by decide +kernel
theorem kb_Mo_next_137 : decode prog_10_method_32_code 137 = .ok (.iconst 0, 1) := by decide +kernel
theorem kb_Mo_next_138 : decode prog_10_method_32_code 138 = .ok (.iastore, 1) := by decide +kernel
theorem kb_Mo_next_139 : decode prog_10_method_32_code 139 = .ok (.goto (-139), 3) := by decide +kernel
theorem kb_Mo_next_142 : decode prog_10_method_32_code 142 = .ok (.iconst 0, 1) := by decide +kernel
theorem kb_Mo_next_143 : decode prog_10_method_32_code 143 = .ok (.ireturn, 1) := by decide +kernel
theorem kb_Mo_headValue_0 : decode prog_10_method_33_code 0 = .ok (.aload_n 0, 1) := by decide +kernel
theorem kb_Mo_headValue_1 : decode prog_10_method_33_code 1 = .ok (.getfield 27, 3) := by decide +kernel
theorem kb_Mo_headValue_4 : decode prog_10_method_33_code 4 = .ok (.iconst 3, 1) := by decide +kernel
theorem kb_Mo_headValue_5 : decode prog_10_method_33_code 5 = .ok (.aload_n 0, 1) := by decide +kernel
theorem kb_Mo_headValue_6 : decode prog_10_method_33_code 6 = .ok (.getfield 196, 3) := by decide +kernel
theorem kb_Mo_headValue_9 : decode prog_10_method_33_code 9 = .ok (.imul, 1) := by decide +kernel
theorem kb_Mo_headValue_10 : decode prog_10_method_33_code 10 = .ok (.iload_n 1, 1) := by decide +kernel
theorem kb_Mo_headValue_11 : decode prog_10_method_33_code 11 = .ok (.iadd, 1) := by decide +kernel
theorem kb_Mo_headValue_12 : decode prog_10_method_33_code 12 = .ok (.iaload, 1) := by decide +kernel
theorem kb_Mo_headValue_13 : decode prog_10_method_33_code 13 = .ok (.istore_n 2, 1) := by decide +kernel
theorem kb_Mo_headValue_14 : decode prog_10_method_33_code 14 = .ok (.iload_n 2, 1) := by decide +kernel
theorem kb_Mo_headValue_15 : decode prog_10_method_33_code 15 = .ok (.bipush 99, 2) := by decide +kernel
theorem kb_Mo_headValue_17 : decode prog_10_method_33_code 17 = .ok (.if_icmp .ne 7, 3) := by decide +kernel
theorem kb_Mo_headValue_20 : decode prog_10_method_33_code 20 = .ok (.iconst 0, 1) := by decide +kernel
theorem kb_Mo_headValue_21 : decode prog_10_method_33_code 21 = .ok (.goto 12, 3) := by decide +kernel
theorem kb_Mo_headValue_24 : decode prog_10_method_33_code 24 = .ok (.aload_n 0, 1) := by decide +kernel
theorem kb_Mo_headValue_25 : decode prog_10_method_33_code 25 = .ok (.iload_n 2, 1) := by decide +kernel
theorem kb_Mo_headValue_26 : decode prog_10_method_33_code 26 = .ok (.aload_n 0, 1) := by decide +kernel
theorem kb_Mo_headValue_27 : decode prog_10_method_33_code 27 = .ok (.getfield 199, 3) := by decide +kernel
theorem kb_Mo_headValue_30 : decode prog_10_method_33_code 30 = .ok (.invokevirtual 205, 3) := by decide +kernel
theorem kb_Mo_headValue_33 : decode prog_10_method_33_code 33 = .ok (.ireturn, 1) := by decide +kernel
theorem kb_Mo_markOf_0 : decode prog_10_method_34_code 0 = .ok (.iconst (-1), 1) := by decide +kernel
theorem kb_Mo_markOf_1 : decode prog_10_method_34_code 1 = .ok (.istore_n 2, 1) := by decide +kernel
theorem kb_Mo_markOf_2 : decode prog_10_method_34_code 2 = .ok (.iconst 0, 1) := by decide +kernel
theorem kb_Mo_markOf_3 : decode prog_10_method_34_code 3 = .ok (.istore_n 3, 1) := by decide +kernel
theorem kb_Mo_markOf_4 : decode prog_10_method_34_code 4 = .ok (.iload_n 3, 1) := by decide +kernel
theorem kb_Mo_markOf_5 : decode prog_10_method_34_code 5 = .ok (.iconst 3, 1) := by decide +kernel
theorem kb_Mo_markOf_6 : decode prog_10_method_34_code 6 = .ok (.if_icmp .ge 30, 3) := by decide +kernel
theorem kb_Mo_markOf_9 : decode prog_10_method_34_code 9 = .ok (.aload_n 0, 1) := by decide +kernel
theorem kb_Mo_markOf_10 : decode prog_10_method_34_code 10 = .ok (.getfield 27, 3) := by decide +kernel
theorem kb_Mo_markOf_13 : decode prog_10_method_34_code 13 = .ok (.iconst 3, 1) := by decide +kernel
theorem kb_Mo_markOf_14 : decode prog_10_method_34_code 14 = .ok (.iload_n 1, 1) := by decide +kernel
theorem kb_Mo_markOf_15 : decode prog_10_method_34_code 15 = .ok (.imul, 1) := by decide +kernel
theorem kb_Mo_markOf_16 : decode prog_10_method_34_code 16 = .ok (.iload_n 3, 1) := by decide +kernel
theorem kb_Mo_markOf_17 : decode prog_10_method_34_code 17 = .ok (.iadd, 1) := by decide +kernel
theorem kb_Mo_markOf_18 : decode prog_10_method_34_code 18 = .ok (.iaload, 1) := by decide +kernel
theorem kb_Mo_markOf_19 : decode prog_10_method_34_code 19 = .ok (.bipush 99, 2) := by decide +kernel
theorem kb_Mo_markOf_21 : decode prog_10_method_34_code 21 = .ok (.if_icmp .ne 7, 3) := by decide +kernel
theorem kb_Mo_markOf_24 : decode prog_10_method_34_code 24 = .ok (.iload_n 3, 1) := by decide +kernel
theorem kb_Mo_markOf_25 : decode prog_10_method_34_code 25 = .ok (.goto 4, 3) := by decide +kernel
theorem kb_Mo_markOf_28 : decode prog_10_method_34_code 28 = .ok (.iload_n 2, 1) := by decide +kernel
theorem kb_Mo_markOf_29 : decode prog_10_method_34_code 29 = .ok (.istore_n 2, 1) := by decide +kernel
theorem kb_Mo_markOf_30 : decode prog_10_method_34_code 30 = .ok (.iinc 3 1, 3) := by decide +kernel
theorem kb_Mo_markOf_33 : decode prog_10_method_34_code 33 = .ok (.goto (-29), 3) := by decide +kernel
theorem kb_Mo_markOf_36 : decode prog_10_method_34_code 36 = .ok (.iload_n 2, 1) := by decide +kernel
theorem kb_Mo_markOf_37 : decode prog_10_method_34_code 37 = .ok (.ireturn, 1) := by decide +kernel
theorem kb_Mo_countRule_0 : decode prog_10_method_35_code 0 = .ok (.aload_n 0, 1) := by decide +kernel
theorem kb_Mo_countRule_1 : decode prog_10_method_35_code 1 = .ok (.iload_n 1, 1) := by decide +kernel
theorem kb_Mo_countRule_2 : decode prog_10_method_35_code 2 = .ok (.invokevirtual 220, 3) := by decide +kernel
theorem kb_Mo_countRule_5 : decode prog_10_method_35_code 5 = .ok (.istore_n 2, 1) := by decide +kernel
theorem kb_Mo_countRule_6 : decode prog_10_method_35_code 6 = .ok (.aload_n 0, 1) := by decide +kernel
theorem kb_Mo_countRule_7 : decode prog_10_method_35_code 7 = .ok (.iconst 0, 1) := by decide +kernel
theorem kb_Mo_countRule_8 : decode prog_10_method_35_code 8 = .ok (.putfield 223, 3) := by decide +kernel
theorem kb_Mo_countRule_11 : decode prog_10_method_35_code 11 = .ok (.aload_n 0, 1) := by decide +kernel
theorem kb_Mo_countRule_12 : decode prog_10_method_35_code 12 = .ok (.iload_n 1, 1) := by decide +kernel
theorem kb_Mo_countRule_13 : decode prog_10_method_35_code 13 = .ok (.invokevirtual 226, 3) := by decide +kernel
theorem kb_Mo_countRule_16 : decode prog_10_method_35_code 16 = .ok (.aload_n 0, 1) := by decide +kernel
theorem kb_Mo_countRule_17 : decode prog_10_method_35_code 17 = .ok (.invokevirtual 229, 3) := by decide +kernel
theorem kb_Mo_countRule_20 : decode prog_10_method_35_code 20 = .ok (.ifCond .eq 153, 3) := by decide +kernel
theorem kb_Mo_countRule_23 : decode prog_10_method_35_code 23 = .ok (.aload_n 0, 1) := by decide +kernel
theorem kb_Mo_countRule_24 : decode prog_10_method_35_code 24 = .ok (.iconst 0, 1) := by decide +kernel
theorem kb_Mo_countRule_25 : decode prog_10_method_35_code 25 = .ok (.invokevirtual 232, 3) := by decide +kernel
theorem kb_Mo_countRule_28 : decode prog_10_method_35_code 28 = .ok (.istore_n 3, 1) := by decide +kernel
theorem kb_Mo_countRule_29 : decode prog_10_method_35_code 29 = .ok (.aload_n 0, 1) := by decide +kernel
theorem kb_Mo_countRule_30 : decode prog_10_method_35_code 30 = .ok (.iconst 1, 1) := by decide +kernel
theorem kb_Mo_countRule_31 : decode prog_10_method_35_code 31 = .ok (.invokevirtual 232, 3) := by decide +kernel
theorem kb_Mo_countRule_34 : decode prog_10_method_35_code 34 = .ok (.istore 4, 2) := by decide +kernel
theorem kb_Mo_countRule_36 : decode prog_10_method_35_code 36 = .ok (.iconst (-1), 1) := by decide +kernel
theorem kb_Mo_countRule_37 : decode prog_10_method_35_code 37 = .ok (.istore 5, 2) := by decide +kernel
theorem kb_Mo_countRule_39 : decode prog_10_method_35_code 39 = .ok (.iconst 0, 1) := by decide +kernel
theorem kb_Mo_countRule_40 : decode prog_10_method_35_code 40 = .ok (.istore 6, 2) := by decide +kernel
theorem kb_Mo_countRule_42 : decode prog_10_method_35_code 42 = .ok (.iload 6, 2) := by decide +kernel
theorem kb_Mo_countRule_44 : decode prog_10_method_35_code 44 = .ok (.aload_n 0, 1) := by decide +kernel
theorem kb_Mo_countRule_45 : decode prog_10_method_35_code 45 = .ok (.getfield 223, 3) := by decide +kernel
theorem kb_Mo_countRule_48 : decode prog_10_method_35_code 48 = .ok (.if_icmp .ge 47, 3) := by decide +kernel
theorem kb_Mo_countRule_51 : decode prog_10_method_35_code 51 = .ok (.aload_n 0, 1) := by decide +kernel
theorem kb_Mo_countRule_52 : decode prog_10_method_35_code 52 = .ok (.getfield 106, 3) := by decide +kernel
theorem kb_Mo_countRule_55 : decode prog_10_method_35_code 55 = .ok (.iconst 3, 1) := by decide +kernel
theorem kb_Mo_countRule_56 : decode prog_10_method_35_code 56 = .ok (.iload 6, 2) := by decide +kernel
theorem kb_Mo_countRule_58 : decode prog_10_method_35_code 58 = .ok (.imul, 1) := by decide +kernel
theorem kb_Mo_countRule_59 : decode prog_10_method_35_code 59 = .ok (.iaload, 1) := by decide +kernel
theorem kb_Mo_countRule_60 : decode prog_10_method_35_code 60 = .ok (.iload_n 3, 1) := by decide +kernel
theorem kb_Mo_countRule_61 : decode prog_10_method_35_code 61 = .ok (.if_icmp .ne 24, 3) := by decide +kernel
theorem kb_Mo_countRule_64 : decode prog_10_method_35_code 64 = .ok (.aload_n 0, 1) := by decide +kernel
theorem kb_Mo_countRule_65 : decode prog_10_method_35_code 65 = .ok (.getfield 106, 3) := by decide +kernel
theorem kb_Mo_countRule_68 : decode prog_10_method_35_code 68 = .ok (.iconst 3, 1) := by decide +kernel
theorem kb_Mo_countRule_69 : decode prog_10_method_35_code 69 = .ok (.iload 6, 2) := by decide +kernel
theorem kb_Mo_countRule_71 : decode prog_10_method_35_code 71 = .ok (.imul, 1) := by decide +kernel
theorem kb_Mo_countRule_72 : decode prog_10_method_35_code 72 = .ok (.iconst 1, 1) := by decide +kernel
theorem kb_Mo_countRule_73 : decode prog_10_method_35_code 73 = .ok (.iadd, 1) := by decide +kernel
theorem kb_Mo_countRule_74 : decode prog_10_method_35_code 74 = .ok (.iaload, 1) := by decide +kernel
theorem kb_Mo_countRule_75 : decode prog_10_method_35_code 75 = .ok (.iload 4, 2) := by decide +kernel
theorem kb_Mo_countRule_77 : decode prog_10_method_35_code 77 = .ok (.if_icmp .ne 8, 3) := by decide +kernel
theorem kb_Mo_countRule_80 : decode prog_10_method_35_code 80 = .ok (.iload 6, 2) := by decide +kernel
theorem kb_Mo_countRule_82 : decode prog_10_method_35_code 82 = .ok (.goto 5, 3) := by decide +kernel
theorem kb_Mo_countRule_85 : decode prog_10_method_35_code 85 = .ok (.iload 5, 2) := by decide +kernel
theorem kb_Mo_countRule_87 : decode prog_10_method_35_code 87 = .ok (.istore 5, 2) := by decide +kernel
theorem kb_Mo_countRule_89 : decode prog_10_method_35_code 89 = .ok (.iinc 6 1, 3) := by decide +kernel
theorem kb_Mo_countRule_92 : decode prog_10_method_35_code 92 = .ok (.goto (-50), 3) := by decide +kernel
theorem kb_Mo_countRule_95 : decode prog_10_method_35_code 95 = .ok (.iload 5, 2) := by decide +kernel
theorem kb_Mo_countRule_97 : decode prog_10_method_35_code 97 = .ok (.iconst (-1), 1) := by decide +kernel
theorem kb_Mo_countRule_98 : decode prog_10_method_35_code 98 = .ok (.if_icmp .ne 61, 3) := by decide +kernel
theorem kb_Mo_countRule_101 : decode prog_10_method_35_code 101 = .ok (.aload_n 0, 1) := by decide +kernel
theorem kb_Mo_countRule_102 : decode prog_10_method_35_code 102 = .ok (.getfield 223, 3) := by decide +kernel
theorem kb_Mo_countRule_105 : decode prog_10_method_35_code 105 = .ok (.bipush 40, 2) := by decide +kernel
theorem kb_Mo_countRule_107 : decode prog_10_method_35_code 107 = .ok (.if_icmp .ne 5, 3) := by decide +kernel
theorem kb_Mo_countRule_110 : decode prog_10_method_35_code 110 = .ok (.iconst 0, 1) := by decide +kernel
theorem kb_Mo_countRule_111 : decode prog_10_method_35_code 111 = .ok (.ireturn, 1) := by decide +kernel
theorem kb_Mo_countRule_112 : decode prog_10_method_35_code 112 = .ok (.aload_n 0, 1) := by decide +kernel
theorem kb_Mo_countRule_113 : decode prog_10_method_35_code 113 = .ok (.getfield 223, 3) := by decide +kernel
theorem kb_Mo_countRule_116 : decode prog_10_method_35_code 116 = .ok (.istore 5, 2) := by decide +kernel
theorem kb_Mo_countRule_118 : decode prog_10_method_35_code 118 = .ok (.aload_n 0, 1) := by decide +kernel
theorem kb_Mo_countRule_119 : decode prog_10_method_35_code 119 = .ok (.getfield 106, 3) := by decide +kernel
theorem kb_Mo_countRule_122 : decode prog_10_method_35_code 122 = .ok (.iconst 3, 1) := by decide +kernel
theorem kb_Mo_countRule_123 : decode prog_10_method_35_code 123 = .ok (.iload 5, 2) := by decide +kernel
theorem kb_Mo_countRule_125 : decode prog_10_method_35_code 125 = .ok (.imul, 1) := by decide +kernel
theorem kb_Mo_countRule_126 : decode prog_10_method_35_code 126 = .ok (.iload_n 3, 1) := by decide +kernel
theorem kb_Mo_countRule_127 : decode prog_10_method_35_code 127 = .ok (.iastore, 1) := by decide +kernel
theorem kb_Mo_countRule_128 : decode prog_10_method_35_code 128 = .ok (.aload_n 0, 1) := by decide +kernel
theorem kb_Mo_countRule_129 : decode prog_10_method_35_code 129 = .ok (.getfield 106, 3) := by decide +kernel
theorem kb_Mo_countRule_132 : decode prog_10_method_35_code 132 = .ok (.iconst 3, 1) := by decide +kernel
theorem kb_Mo_countRule_133 : decode prog_10_method_35_code 133 = .ok (.iload 5, 2) := by decide +kernel
theorem kb_Mo_countRule_135 : decode prog_10_method_35_code 135 = .ok (.imul, 1) := by decide +kernel
theorem kb_Mo_countRule_136 : decode prog_10_method_35_code 136 = .ok (.iconst 1, 1) := by decide +kernel
theorem kb_Mo_countRule_137 : decode prog_10_method_35_code 137 = .ok (.iadd, 1) := by decide +kernel
theorem kb_Mo_countRule_138 : decode prog_10_method_35_code 138 = .ok (.iload 4, 2) := by decide +kernel
theorem kb_Mo_countRule_140 : decode prog_10_method_35_code 140 = .ok (.iastore, 1) := by decide +kernel
theorem kb_Mo_countRule_141 : decode prog_10_method_35_code 141 = .ok (.aload_n 0, 1) := by decide +kernel
theorem kb_Mo_countRule_142 : decode prog_10_method_35_code 142 = .ok (.getfield 109, 3) := by decide +kernel
theorem kb_Mo_countRule_145 : decode prog_10_method_35_code 145 = .ok (.iload 5, 2) := by decide +kernel
theorem kb_Mo_countRule_147 : decode prog_10_method_35_code 147 = .ok (.iconst 0, 1) := by decide +kernel
theorem kb_Mo_countRule_148 : decode prog_10_method_35_code 148 = .ok (.iastore, 1) := by decide +kernel
theorem kb_Mo_countRule_149 : decode prog_10_method_35_code 149 = .ok (.aload_n 0, 1) := by decide +kernel
theorem kb_Mo_countRule_150 : decode prog_10_method_35_code 150 = .ok (.dup, 1) := by decide +kernel
theorem kb_Mo_countRule_151 : decode prog_10_method_35_code 151 = .ok (.getfield 223, 3) := by decide +kernel
theorem kb_Mo_countRule_154 : decode prog_10_method_35_code 154 = .ok (.iconst 1, 1) := by decide +kernel
theorem kb_Mo_countRule_155 : decode prog_10_method_35_code 155 = .ok (.iadd, 1) := by decide +kernel
theorem kb_Mo_countRule_156 : decode prog_10_method_35_code 156 = .ok (.putfield 223, 3) := by decide +kernel
theorem kb_Mo_countRule_159 : decode prog_10_method_35_code 159 = .ok (.aload_n 0, 1) := by decide +kernel
theorem kb_Mo_countRule_160 : decode prog_10_method_35_code 160 = .ok (.getfield 109, 3) := by decide +kernel
theorem kb_Mo_countRule_163 : decode prog_10_method_35_code 163 = .ok (.iload 5, 2) := by decide +kernel
theorem kb_Mo_countRule_165 : decode prog_10_method_35_code 165 = .ok (.dup2, 1) := by decide +kernel
theorem kb_Mo_countRule_166 : decode prog_10_method_35_code 166 = .ok (.iaload, 1) := by decide +kernel
theorem kb_Mo_countRule_167 : decode prog_10_method_35_code 167 = .ok (.iconst 1, 1) := by decide +kernel
theorem kb_Mo_countRule_168 : decode prog_10_method_35_code 168 = .ok (.iadd, 1) := by decide +kernel
theorem kb_Mo_countRule_169 : decode prog_10_method_35_code 169 = .ok (.iastore, 1) := by decide +kernel
theorem kb_Mo_countRule_170 : decode prog_10_method_35_code 170 = .ok (.goto (-154), 3) := by decide +kernel
theorem kb_Mo_countRule_173 : decode prog_10_method_35_code 173 = .ok (.iconst 1, 1) := by decide +kernel
theorem kb_Mo_countRule_174 : decode prog_10_method_35_code 174 = .ok (.istore_n 3, 1) := by decide +kernel
theorem kb_Mo_countRule_175 : decode prog_10_method_35_code 175 = .ok (.iconst 0, 1) := by decide +kernel
theorem kb_Mo_countRule_176 : decode prog_10_method_35_code 176 = .ok (.istore 4, 2) := by decide +kernel
theorem kb_Mo_countRule_178 : decode prog_10_method_35_code 178 = .ok (.iload 4, 2) := by decide +kernel
theorem kb_Mo_countRule_180 : decode prog_10_method_35_code 180 = .ok (.aload_n 0, 1) := by decide +kernel
theorem kb_Mo_countRule_181 : decode prog_10_method_35_code 181 = .ok (.getfield 223, 3) := by decide +kernel
theorem kb_Mo_countRule_184 : decode prog_10_method_35_code 184 = .ok (.if_icmp .ge 100, 3) := by decide +kernel
theorem kb_Mo_countRule_187 : decode prog_10_method_35_code 187 = .ok (.iload_n 3, 1) := by decide +kernel
theorem kb_Mo_countRule_188 : decode prog_10_method_35_code 188 = .ok (.ifCond .eq 96, 3) := by decide +kernel
theorem kb_Mo_countRule_191 : decode prog_10_method_35_code 191 = .ok (.aload_n 0, 1) := by decide +kernel
theorem kb_Mo_countRule_192 : decode prog_10_method_35_code 192 = .ok (.getfield 109, 3) := by decide +kernel
theorem kb_Mo_countRule_195 : decode prog_10_method_35_code 195 = .ok (.iload 4, 2) := by decide +kernel
theorem kb_Mo_countRule_197 : decode prog_10_method_35_code 197 = .ok (.iaload, 1) := by decide +kernel
theorem kb_Mo_countRule_198 : decode prog_10_method_35_code 198 = .ok (.istore 5, 2) := by decide +kernel
theorem kb_Mo_countRule_200 : decode prog_10_method_35_code 200 = .ok (.iload 5, 2) := by decide +kernel
theorem kb_Mo_countRule_202 : decode prog_10_method_35_code 202 = .ok (.sipush 999, 3) := by decide +kernel
theorem kb_Mo_countRule_205 : decode prog_10_method_35_code 205 = .ok (.if_icmp .gt 71, 3) := by decide +kernel
theorem kb_Mo_countRule_208 : decode prog_10_method_35_code 208 = .ok (.aload_n 0, 1) := by decide +kernel
theorem kb_Mo_countRule_209 : decode prog_10_method_35_code 209 = .ok (.aload_n 0, 1) := by decide +kernel
theorem kb_Mo_countRule_210 : decode prog_10_method_35_code 210 = .ok (.getfield 24, 3) := by decide +kernel
theorem kb_Mo_countRule_213 : decode prog_10_method_35_code 213 = .ok (.iload_n 1, 1) := by decide +kernel
theorem kb_Mo_countRule_214 : decode prog_10_method_35_code 214 = .ok (.iaload, 1) := by decide +kernel
theorem kb_Mo_countRule_215 : decode prog_10_method_35_code 215 = .ok (.iload_n 2, 1) := by decide +kernel
theorem kb_Mo_countRule_216 : decode prog_10_method_35_code 216 = .ok (.ifCond .ne 8, 3) := by decide +kernel
theorem kb_Mo_countRule_219 : decode prog_10_method_35_code 219 = .ok (.iload 5, 2) := by decide +kernel
theorem kb_Mo_countRule_221 : decode prog_10_method_35_code 221 = .ok (.goto 12, 3) := by decide +kernel
theorem kb_Mo_countRule_224 : decode prog_10_method_35_code 224 = .ok (.aload_n 0, 1) := by decide +kernel
theorem kb_Mo_countRule_225 : decode prog_10_method_35_code 225 = .ok (.getfield 106, 3) := by decide +kernel
theorem kb_Mo_countRule_228 : decode prog_10_method_35_code 228 = .ok (.iconst 3, 1) := by decide +kernel
theorem kb_Mo_countRule_229 : decode prog_10_method_35_code 229 = .ok (.iload 4, 2) := by decide +kernel
theorem kb_Mo_countRule_231 : decode prog_10_method_35_code 231 = .ok (.imul, 1) := by decide +kernel
theorem kb_Mo_countRule_232 : decode prog_10_method_35_code 232 = .ok (.iaload, 1) := by decide +kernel
theorem kb_Mo_countRule_233 : decode prog_10_method_35_code 233 = .ok (.iload_n 2, 1) := by decide +kernel
theorem kb_Mo_countRule_234 : decode prog_10_method_35_code 234 = .ok (.iconst 1, 1) := by decide +kernel
theorem kb_Mo_countRule_235 : decode prog_10_method_35_code 235 = .ok (.if_icmp .ne 8, 3) := by decide +kernel
theorem kb_Mo_countRule_238 : decode prog_10_method_35_code 238 = .ok (.iload 5, 2) := by decide +kernel
theorem kb_Mo_countRule_240 : decode prog_10_method_35_code 240 = .ok (.goto 14, 3) := by decide +kernel
theorem kb_Mo_countRule_243 : decode prog_10_method_35_code 243 = .ok (.aload_n 0, 1) := by decide +kernel
theorem kb_Mo_countRule_244 : decode prog_10_method_35_code 244 = .ok (.getfield 106, 3) := by decide +kernel
theorem kb_Mo_countRule_247 : decode prog_10_method_35_code 247 = .ok (.iconst 3, 1) := by decide +kernel
theorem kb_Mo_countRule_248 : decode prog_10_method_35_code 248 = .ok (.iload 4, 2) := by decide +kernel
theorem kb_Mo_countRule_250 : decode prog_10_method_35_code 250 = .ok (.imul, 1) := by decide +kernel
theorem kb_Mo_countRule_251 : decode prog_10_method_35_code 251 = .ok (.iconst 1, 1) := by decide +kernel
theorem kb_Mo_countRule_252 : decode prog_10_method_35_code 252 = .ok (.iadd, 1) := by decide +kernel
theorem kb_Mo_countRule_253 : decode prog_10_method_35_code 253 = .ok (.iaload, 1) := by decide +kernel
theorem kb_Mo_countRule_254 : decode prog_10_method_35_code 254 = .ok (.iload_n 2, 1) := by decide +kernel
theorem kb_Mo_countRule_255 : decode prog_10_method_35_code 255 = .ok (.iconst 2, 1) := by decide +kernel
theorem kb_Mo_countRule_256 : decode prog_10_method_35_code 256 = .ok (.if_icmp .ne 8, 3) := by decide +kernel
theorem kb_Mo_countRule_259 : decode prog_10_method_35_code 259 = .ok (.iload 5, 2) := by decide +kernel
theorem kb_Mo_countRule_261 : decode prog_10_method_35_code 261 = .ok (.goto 4, 3) := by decide +kernel
theorem kb_Mo_countRule_264 : decode prog_10_method_35_code 264 = .ok (.iconst 0, 1) := by decide +kernel
theorem kb_Mo_countRule_265 : decode prog_10_method_35_code 265 = .ok (.iconst 1, 1) := by decide +kernel
theorem kb_Mo_countRule_266 : decode prog_10_method_35_code 266 = .ok (.invokevirtual 235, 3) := by decide +kernel
theorem kb_Mo_countRule_269 : decode prog_10_method_35_code 269 = .ok (.ifCond .eq 7, 3) := by decide +kernel
theorem kb_Mo_countRule_272 : decode prog_10_method_35_code 272 = .ok (.iconst 1, 1) := by decide +kernel
theorem kb_Mo_countRule_273 : decode prog_10_method_35_code 273 = .ok (.goto 4, 3) := by decide +kernel
theorem kb_Mo_countRule_276 : decode prog_10_method_35_code 276 = .ok (.iconst 0, 1) := by decide +kernel
theorem kb_Mo_countRule_277 : decode prog_10_method_35_code 277 = .ok (.istore_n 3, 1) := by decide +kernel
theorem kb_Mo_countRule_278 : decode prog_10_method_35_code 278 = .ok (.iinc 4 1, 3) := by decide +kernel
theorem kb_Mo_countRule_281 : decode prog_10_method_35_code 281 = .ok (.goto (-103), 3) := by decide +kernel
theorem kb_Mo_countRule_284 : decode prog_10_method_35_code 284 = .ok (.iload_n 3, 1) := by decide +kernel
theorem kb_Mo_countRule_285 : decode prog_10_method_35_code 285 = .ok (.ireturn, 1) := by decide +kernel
theorem kb_Mo_plainRule_0 : decode prog_10_method_36_code 0 = .ok (.aload_n 0, 1) := by decide +kernel
theorem kb_Mo_plainRule_1 : decode prog_10_method_36_code 1 = .ok (.iconst 0, 1) := by decide +kernel
theorem kb_Mo_plainRule_2 : decode prog_10_method_36_code 2 = .ok (.putfield 223, 3) := by decide +kernel
theorem kb_Mo_plainRule_5 : decode prog_10_method_36_code 5 = .ok (.aload_n 0, 1) := by decide +kernel
theorem kb_Mo_plainRule_6 : decode prog_10_method_36_code 6 = .ok (.iload_n 1, 1) := by decide +kernel
theorem kb_Mo_plainRule_7 : decode prog_10_method_36_code 7 = .ok (.invokevirtual 226, 3) := by decide +kernel
theorem kb_Mo_plainRule_10 : decode prog_10_method_36_code 10 = .ok (.aload_n 0, 1) := by decide +kernel
theorem kb_Mo_plainRule_11 : decode prog_10_method_36_code 11 = .ok (.invokevirtual 229, 3) := by decide +kernel
theorem kb_Mo_plainRule_14 : decode prog_10_method_36_code 14 = .ok (.ifCond .eq 192, 3) := by decide +kernel
theorem kb_Mo_plainRule_17 : decode prog_10_method_36_code 17 = .ok (.aload_n 0, 1) := by decide +kernel
theorem kb_Mo_plainRule_18 : decode prog_10_method_36_code 18 = .ok (.iconst 0, 1) := by decide +kernel
theorem kb_Mo_plainRule_19 : decode prog_10_method_36_code 19 = .ok (.invokevirtual 232, 3) := by decide +kernel
theorem kb_Mo_plainRule_22 : decode prog_10_method_36_code 22 = .ok (.istore_n 2, 1) := by decide +kernel
theorem kb_Mo_plainRule_23 : decode prog_10_method_36_code 23 = .ok (.aload_n 0, 1) := by decide +kernel
theorem kb_Mo_plainRule_24 : decode prog_10_method_36_code 24 = .ok (.iconst 1, 1) := by decide +kernel
theorem kb_Mo_plainRule_25 : decode prog_10_method_36_code 25 = .ok (.invokevirtual 232, 3) := by decide +kernel
theorem kb_Mo_plainRule_28 : decode prog_10_method_36_code 28 = .ok (.istore_n 3, 1) := by decide +kernel
theorem kb_Mo_plainRule_29 : decode prog_10_method_36_code 29 = .ok (.aload_n 0, 1) := by decide +kernel
theorem kb_Mo_plainRule_30 : decode prog_10_method_36_code 30 = .ok (.iconst 2, 1) := by decide +kernel
theorem kb_Mo_plainRule_31 : decode prog_10_method_36_code 31 = .ok (.invokevirtual 232, 3) := by decide +kernel
theorem kb_Mo_plainRule_34 : decode prog_10_method_36_code 34 = .ok (.istore 4, 2) := by decide +kernel
theorem kb_Mo_plainRule_36 : decode prog_10_method_36_code 36 = .ok (.aload_n 0, 1) := by decide +kernel
theorem kb_Mo_plainRule_37 : decode prog_10_method_36_code 37 = .ok (.aload_n 0, 1) := by decide +kernel
theorem kb_Mo_plainRule_38 : decode prog_10_method_36_code 38 = .ok (.getfield 24, 3) := by decide +kernel
theorem kb_Mo_plainRule_41 : decode prog_10_method_36_code 41 = .ok (.iload_n 1, 1) := by decide +kernel
theorem kb_Mo_plainRule_42 : decode prog_10_method_36_code 42 = .ok (.iaload, 1) := by decide +kernel
theorem kb_Mo_plainRule_43 : decode prog_10_method_36_code 43 = .ok (.iload_n 2, 1) := by decide +kernel
theorem kb_Mo_plainRule_44 : decode prog_10_method_36_code 44 = .ok (.iload_n 3, 1) := by decide +kernel
theorem kb_Mo_plainRule_45 : decode prog_10_method_36_code 45 = .ok (.iload 4, 2) := by decide +kernel
theorem kb_Mo_plainRule_47 : decode prog_10_method_36_code 47 = .ok (.invokevirtual 208, 3) := by decide +kernel
theorem kb_Mo_plainRule_50 : decode prog_10_method_36_code 50 = .ok (.iconst (-1), 1) := by decide +kernel
theorem kb_Mo_plainRule_51 : decode prog_10_method_36_code 51 = .ok (.if_icmp .eq 7, 3) := by decide +kernel
theorem kb_Mo_plainRule_54 : decode prog_10_method_36_code 54 = .ok (.iconst 1, 1) := by decide +kernel
theorem kb_Mo_plainRule_55 : decode prog_10_method_36_code 55 = .ok (.goto 4, 3) := by decide +kernel
theorem kb_Mo_plainRule_58 : decode prog_10_method_36_code 58 = .ok (.iconst 0, 1) := by decide +kernel
theorem kb_Mo_plainRule_59 : decode prog_10_method_36_code 59 = .ok (.istore 5, 2) := by decide +kernel
theorem kb_Mo_plainRule_61 : decode prog_10_method_36_code 61 = .ok (.iconst 0, 1) := by decide +kernel
theorem kb_Mo_plainRule_62 : decode prog_10_method_36_code 62 = .ok (.istore 6, 2) := by decide +kernel
theorem kb_Mo_plainRule_64 : decode prog_10_method_36_code 64 = .ok (.iload 6, 2) := by decide +kernel
theorem kb_Mo_plainRule_66 : decode prog_10_method_36_code 66 = .ok (.aload_n 0, 1) := by decide +kernel
theorem kb_Mo_plainRule_67 : decode prog_10_method_36_code 67 = .ok (.getfield 223, 3) := by decide +kernel
theorem kb_Mo_plainRule_70 : decode prog_10_method_36_code 70 = .ok (.if_icmp .ge 65, 3) := by decide +kernel
theorem kb_Mo_plainRule_73 : decode prog_10_method_36_code 73 = .ok (.iload 5, 2) := by decide +kernel
theorem kb_Mo_plainRule_75 : decode prog_10_method_36_code 75 = .ok (.ifCond .ne 47, 3) := by decide +kernel
theorem kb_Mo_plainRule_78 : decode prog_10_method_36_code 78 = .ok (.aload_n 0, 1) := by decide +kernel
theorem kb_Mo_plainRule_79 : decode prog_10_method_36_code 79 = .ok (.getfield 106, 3) := by decide +kernel
theorem kb_Mo_plainRule_82 : decode prog_10_method_36_code 82 = .ok (.iconst 3, 1) := by decide +kernel
theorem kb_Mo_plainRule_83 : decode prog_10_method_36_code 83 = .ok (.iload 6, 2) := by decide +kernel
theorem kb_Mo_plainRule_85 : decode prog_10_method_36_code 85 = .ok (.imul, 1) := by decide +kernel
theorem kb_Mo_plainRule_86 : decode prog_10_method_36_code 86 = .ok (.iaload, 1) := by decide +kernel
theorem kb_Mo_plainRule_87 : decode prog_10_method_36_code 87 = .ok (.iload_n 2, 1) := by decide +kernel
theorem kb_Mo_plainRule_88 : decode prog_10_method_36_code 88 = .ok (.if_icmp .ne 38, 3) := by decide +kernel
theorem kb_Mo_plainRule_91 : decode prog_10_method_36_code 91 = .ok (.aload_n 0, 1) := by decide +kernel
theorem kb_Mo_plainRule_92 : decode prog_10_method_36_code 92 = .ok (.getfield 106, 3) := by decide +kernel
theorem kb_Mo_plainRule_95 : decode prog_10_method_36_code 95 = .ok (.iconst 3, 1) := by decide +kernel
theorem kb_Mo_plainRule_96 : decode prog_10_method_36_code 96 = .ok (.iload 6, 2) := by decide +kernel
theorem kb_Mo_plainRule_98 : decode prog_10_method_36_code 98 = .ok (.imul, 1) := by decide +kernel
theorem kb_Mo_plainRule_99 : decode prog_10_method_36_code 99 = .ok (.iconst 1, 1) := by decide +kernel
theorem kb_Mo_plainRule_100 : decode prog_10_method_36_code 100 = .ok (.iadd, 1) := by decide +kernel
theorem kb_Mo_plainRule_101 : decode prog_10_method_36_code 101 = .ok (.iaload, 1) := by decide +kernel
theorem kb_Mo_plainRule_102 : decode prog_10_method_36_code 102 = .ok (.iload_n 3, 1) := by decide +kernel
theorem kb_Mo_plainRule_103 : decode prog_10_method_36_code 103 = .ok (.if_icmp .ne 23, 3) := by decide +kernel
theorem kb_Mo_plainRule_106 : decode prog_10_method_36_code 106 = .ok (.aload_n 0, 1) := by decide +kernel
theorem kb_Mo_plainRule_107 : decode prog_10_method_36_code 107 = .ok (.getfield 106, 3) := by decide +kernel
theorem kb_Mo_plainRule_110 : decode prog_10_method_36_code 110 = .ok (.iconst 3, 1) := by decide +kernel
theorem kb_Mo_plainRule_111 : decode prog_10_method_36_code 111 = .ok (.iload 6, 2) := by decide +kernel
theorem kb_Mo_plainRule_113 : decode prog_10_method_36_code 113 = .ok (.imul, 1) := by decide +kernel
theorem kb_Mo_plainRule_114 : decode prog_10_method_36_code 114 = .ok (.iconst 2, 1) := by decide +kernel
theorem kb_Mo_plainRule_115 : decode prog_10_method_36_code 115 = .ok (.iadd, 1) := by decide +kernel
theorem kb_Mo_plainRule_116 : decode prog_10_method_36_code 116 = .ok (.iaload, 1) := by decide +kernel
theorem kb_Mo_plainRule_117 : decode prog_10_method_36_code 117 = .ok (.iload 4, 2) := by decide +kernel
theorem kb_Mo_plainRule_119 : decode prog_10_method_36_code 119 = .ok (.if_icmp .ne 7, 3) := by decide +kernel
theorem kb_Mo_plainRule_122 : decode prog_10_method_36_code 122 = .ok (.iconst 1, 1) := by decide +kernel
theorem kb_Mo_plainRule_123 : decode prog_10_method_36_code 123 = .ok (.goto 4, 3) := by decide +kernel
theorem kb_Mo_plainRule_126 : decode prog_10_method_36_code 126 = .ok (.iconst 0, 1) := by decide +kernel
theorem kb_Mo_plainRule_127 : decode prog_10_method_36_code 127 = .ok (.istore 5, 2) := by decide +kernel
theorem kb_Mo_plainRule_129 : decode prog_10_method_36_code 129 = .ok (.iinc 6 1, 3) := by decide +kernel
theorem kb_Mo_plainRule_132 : decode prog_10_method_36_code 132 = .ok (.goto (-68), 3) := by decide +kernel
theorem kb_Mo_plainRule_135 : decode prog_10_method_36_code 135 = .ok (.iload 5, 2) := by decide +kernel
theorem kb_Mo_plainRule_137 : decode prog_10_method_36_code 137 = .ok (.ifCond .ne 66, 3) := by decide +kernel
theorem kb_Mo_plainRule_140 : decode prog_10_method_36_code 140 = .ok (.aload_n 0, 1) := by decide +kernel
theorem kb_Mo_plainRule_141 : decode prog_10_method_36_code 141 = .ok (.getfield 223, 3) := by decide +kernel
theorem kb_Mo_plainRule_144 : decode prog_10_method_36_code 144 = .ok (.bipush 40, 2) := by decide +kernel
theorem kb_Mo_plainRule_146 : decode prog_10_method_36_code 146 = .ok (.if_icmp .ne 6, 3) := by decide +kernel
theorem kb_Mo_plainRule_149 : decode prog_10_method_36_code 149 = .ok (.bipush (-3), 2) := by decide +kernel
theorem kb_Mo_plainRule_151 : decode prog_10_method_36_code 151 = .ok (.ireturn, 1) := by decide +kernel
theorem kb_Mo_plainRule_152 : decode prog_10_method_36_code 152 = .ok (.aload_n 0, 1) := by decide +kernel
theorem kb_Mo_plainRule_153 : decode prog_10_method_36_code 153 = .ok (.getfield 106, 3) := by decide +kernel
theorem kb_Mo_plainRule_156 : decode prog_10_method_36_code 156 = .ok (.iconst 3, 1) := by decide +kernel
theorem kb_Mo_plainRule_157 : decode prog_10_method_36_code 157 = .ok (.aload_n 0, 1) := by decide +kernel
theorem kb_Mo_plainRule_158 : decode prog_10_method_36_code 158 = .ok (.getfield 223, 3) := by decide +kernel
theorem kb_Mo_plainRule_161 : decode prog_10_method_36_code 161 = .ok (.imul, 1) := by decide +kernel
theorem kb_Mo_plainRule_162 : decode prog_10_method_36_code 162 = .ok (.iload_n 2, 1) := by decide +kernel
theorem kb_Mo_plainRule_163 : decode prog_10_method_36_code 163 = .ok (.iastore, 1) := by decide +kernel
theorem kb_Mo_plainRule_164 : decode prog_10_method_36_code 164 = .ok (.aload_n 0, 1) := by decide +kernel
theorem kb_Mo_plainRule_165 : decode prog_10_method_36_code 165 = .ok (.getfield 106, 3) := by decide +kernel
theorem kb_Mo_plainRule_168 : decode prog_10_method_36_code 168 = .ok (.iconst 3, 1) := by decide +kernel
theorem kb_Mo_plainRule_169 : decode prog_10_method_36_code 169 = .ok (.aload_n 0, 1) := by decide +kernel
theorem kb_Mo_plainRule_170 : decode prog_10_method_36_code 170 = .ok (.getfield 223, 3) := by decide +kernel
theorem kb_Mo_plainRule_173 : decode prog_10_method_36_code 173 = .ok (.imul, 1) := by decide +kernel
theorem kb_Mo_plainRule_174 : decode prog_10_method_36_code 174 = .ok (.iconst 1, 1) := by decide +kernel
theorem kb_Mo_plainRule_175 : decode prog_10_method_36_code 175 = .ok (.iadd, 1) := by decide +kernel
theorem kb_Mo_plainRule_176 : decode prog_10_method_36_code 176 = .ok (.iload_n 3, 1) := by decide +kernel
theorem kb_Mo_plainRule_177 : decode prog_10_method_36_code 177 = .ok (.iastore, 1) := by decide +kernel
theorem kb_Mo_plainRule_178 : decode prog_10_method_36_code 178 = .ok (.aload_n 0, 1) := by decide +kernel
theorem kb_Mo_plainRule_179 : decode prog_10_method_36_code 179 = .ok (.getfield 106, 3) := by decide +kernel
theorem kb_Mo_plainRule_182 : decode prog_10_method_36_code 182 = .ok (.iconst 3, 1) := by decide +kernel
theorem kb_Mo_plainRule_183 : decode prog_10_method_36_code 183 = .ok (.aload_n 0, 1) := by decide +kernel
theorem kb_Mo_plainRule_184 : decode prog_10_method_36_code 184 = .ok (.getfield 223, 3) := by decide +kernel
theorem kb_Mo_plainRule_187 : decode prog_10_method_36_code 187 = .ok (.imul, 1) := by decide +kernel
theorem kb_Mo_plainRule_188 : decode prog_10_method_36_code 188 = .ok (.iconst 2, 1) := by decide +kernel
theorem kb_Mo_plainRule_189 : decode prog_10_method_36_code 189 = .ok (.iadd, 1) := by decide +kernel
theorem kb_Mo_plainRule_190 : decode prog_10_method_36_code 190 = .ok (.iload 4, 2) := by decide +kernel
theorem kb_Mo_plainRule_192 : decode prog_10_method_36_code 192 = .ok (.iastore, 1) := by decide +kernel
theorem kb_Mo_plainRule_193 : decode prog_10_method_36_code 193 = .ok (.aload_n 0, 1) := by decide +kernel
theorem kb_Mo_plainRule_194 : decode prog_10_method_36_code 194 = .ok (.dup, 1) := by decide +kernel
theorem kb_Mo_plainRule_195 : decode prog_10_method_36_code 195 = .ok (.getfield 223, 3) := by decide +kernel
theorem kb_Mo_plainRule_198 : decode prog_10_method_36_code 198 = .ok (.iconst 1, 1) := by decide +kernel
theorem kb_Mo_plainRule_199 : decode prog_10_method_36_code 199 = .ok (.iadd, 1) := by decide +kernel
theorem kb_Mo_plainRule_200 : decode prog_10_method_36_code 200 = .ok (.putfield 223, 3) := by decide +kernel
theorem kb_Mo_plainRule_203 : decode prog_10_method_36_code 203 = .ok (.goto (-193), 3) := by decide +kernel
theorem kb_Mo_plainRule_206 : decode prog_10_method_36_code 206 = .ok (.iconst 0, 1) := by decide +kernel
theorem kb_Mo_plainRule_207 : decode prog_10_method_36_code 207 = .ok (.istore_n 2, 1) := by decide +kernel
theorem kb_Mo_plainRule_208 : decode prog_10_method_36_code 208 = .ok (.iload_n 2, 1) := by decide +kernel
theorem kb_Mo_plainRule_209 : decode prog_10_method_36_code 209 = .ok (.aload_n 0, 1) := by decide +kernel
theorem kb_Mo_plainRule_210 : decode prog_10_method_36_code 210 = .ok (.getfield 223, 3) := by decide +kernel
theorem kb_Mo_plainRule_213 : decode prog_10_method_36_code 213 = .ok (.if_icmp .ge 54, 3) := by decide +kernel
theorem kb_Mo_plainRule_216 : decode prog_10_method_36_code 216 = .ok (.aload_n 0, 1) := by decide +kernel
theorem kb_Mo_plainRule_217 : decode prog_10_method_36_code 217 = .ok (.aload_n 0, 1) := by decide +kernel
theorem kb_Mo_plainRule_218 : decode prog_10_method_36_code 218 = .ok (.getfield 24, 3) := by decide +kernel
theorem kb_Mo_plainRule_221 : decode prog_10_method_36_code 221 = .ok (.iload_n 1, 1) := by decide +kernel
theorem kb_Mo_plainRule_222 : decode prog_10_method_36_code 222 = .ok (.iaload, 1) := by decide +kernel
theorem kb_Mo_plainRule_223 : decode prog_10_method_36_code 223 = .ok (.aload_n 0, 1) := by decide +kernel
theorem kb_Mo_plainRule_224 : decode prog_10_method_36_code 224 = .ok (.getfield 106, 3) := by decide +kernel
theorem kb_Mo_plainRule_227 : decode prog_10_method_36_code 227 = .ok (.iconst 3, 1) := by decide +kernel
theorem kb_Mo_plainRule_228 : decode prog_10_method_36_code 228 = .ok (.iload_n 2, 1) := by decide +kernel
theorem kb_Mo_plainRule_229 : decode prog_10_method_36_code 229 = .ok (.imul, 1) := by decide +kernel
theorem kb_Mo_plainRule_230 : decode prog_10_method_36_code 230 = .ok (.iaload, 1) := by decide +kernel
theorem kb_Mo_plainRule_231 : decode prog_10_method_36_code 231 = .ok (.aload_n 0, 1) := by decide +kernel
theorem kb_Mo_plainRule_232 : decode prog_10_method_36_code 232 = .ok (.getfield 106, 3) := by decide +kernel
theorem kb_Mo_plainRule_235 : decode prog_10_method_36_code 235 = .ok (.iconst 3, 1) := by decide +kernel
theorem kb_Mo_plainRule_236 : decode prog_10_method_36_code 236 = .ok (.iload_n 2, 1) := by decide +kernel
theorem kb_Mo_plainRule_237 : decode prog_10_method_36_code 237 = .ok (.imul, 1) := by decide +kernel
theorem kb_Mo_plainRule_238 : decode prog_10_method_36_code 238 = .ok (.iconst 1, 1) := by decide +kernel
theorem kb_Mo_plainRule_239 : decode prog_10_method_36_code 239 = .ok (.iadd, 1) := by decide +kernel
theorem kb_Mo_plainRule_240 : decode prog_10_method_36_code 240 = .ok (.iaload, 1) := by decide +kernel
theorem kb_Mo_plainRule_241 : decode prog_10_method_36_code 241 = .ok (.aload_n 0, 1) := by decide +kernel
theorem kb_Mo_plainRule_242 : decode prog_10_method_36_code 242 = .ok (.getfield 106, 3) := by decide +kernel
theorem kb_Mo_plainRule_245 : decode prog_10_method_36_code 245 = .ok (.iconst 3, 1) := by decide +kernel
theorem kb_Mo_plainRule_246 : decode prog_10_method_36_code 246 = .ok (.iload_n 2, 1) := by decide +kernel
theorem kb_Mo_plainRule_247 : decode prog_10_method_36_code 247 = .ok (.imul, 1) := by decide +kernel
theorem kb_Mo_plainRule_248 : decode prog_10_method_36_code 248 = .ok (.iconst 2, 1) := by decide +kernel
theorem kb_Mo_plainRule_249 : decode prog_10_method_36_code 249 = .ok (.iadd, 1) := by decide +kernel
theorem kb_Mo_plainRule_250 : decode prog_10_method_36_code 250 = .ok (.iaload, 1) := by decide +kernel
theorem kb_Mo_plainRule_251 : decode prog_10_method_36_code 251 = .ok (.iconst 1, 1) := by decide +kernel
theorem kb_Mo_plainRule_252 : decode prog_10_method_36_code 252 = .ok (.invokevirtual 235, 3) := by decide +kernel
theorem kb_Mo_plainRule_255 : decode prog_10_method_36_code 255 = .ok (.ifCond .ne 6, 3) := by decide +kernel
theorem kb_Mo_plainRule_258 : decode prog_10_method_36_code 258 = .ok (.bipush (-3), 2) := by decide +kernel
theorem kb_Mo_plainRule_260 : decode prog_10_method_36_code 260 = .ok (.ireturn, 1) := by decide +kernel
theorem kb_Mo_plainRule_261 : decode prog_10_method_36_code 261 = .ok (.iinc 2 1, 3) := by decide +kernel
theorem kb_Mo_plainRule_264 : decode prog_10_method_36_code 264 = .ok (.goto (-56), 3) := by decide +kernel
theorem kb_Mo_plainRule_267 : decode prog_10_method_36_code 267 = .ok (.aload_n 0, 1) := by decide +kernel
theorem kb_Mo_plainRule_268 : decode prog_10_method_36_code 268 = .ok (.getfield 223, 3) := by decide +kernel
theorem kb_Mo_plainRule_271 : decode prog_10_method_36_code 271 = .ok (.ifCond .le 7, 3) := by decide +kernel
theorem kb_Mo_plainRule_274 : decode prog_10_method_36_code 274 = .ok (.iconst 1, 1) := by decide +kernel
theorem kb_Mo_plainRule_275 : decode prog_10_method_36_code 275 = .ok (.goto 4, 3) := by decide +kernel
theorem kb_Mo_plainRule_278 : decode prog_10_method_36_code 278 = .ok (.iconst 0, 1) := by decide +kernel
theorem kb_Mo_plainRule_279 : decode prog_10_method_36_code 279 = .ok (.ireturn, 1) := by decide +kernel
theorem kb_Mo_work_0 : decode prog_10_method_37_code 0 = .ok (.iconst 0, 1) := by decide +kernel
theorem kb_Mo_work_1 : decode prog_10_method_37_code 1 = .ok (.istore_n 1, 1) := by decide +kernel
theorem kb_Mo_work_2 : decode prog_10_method_37_code 2 = .ok (.iload_n 1, 1) := by decide +kernel
theorem kb_Mo_work_3 : decode prog_10_method_37_code 3 = .ok (.aload_n 0, 1) := by decide +kernel
theorem kb_Mo_work_4 : decode prog_10_method_37_code 4 = .ok (.getfield 139, 3) := by decide +kernel
theorem kb_Mo_work_7 : decode prog_10_method_37_code 7 = .ok (.if_icmp .ge 34, 3) := by decide +kernel
theorem kb_Mo_work_10 : decode prog_10_method_37_code 10 = .ok (.aload_n 0, 1) := by decide +kernel
theorem kb_Mo_work_11 : decode prog_10_method_37_code 11 = .ok (.getfield 73, 3) := by decide +kernel
theorem kb_Mo_work_14 : decode prog_10_method_37_code 14 = .ok (.iload_n 1, 1) := by decide +kernel
theorem kb_Mo_work_15 : decode prog_10_method_37_code 15 = .ok (.aload_n 0, 1) := by decide +kernel
theorem kb_Mo_work_16 : decode prog_10_method_37_code 16 = .ok (.getfield 55, 3) := by decide +kernel
theorem kb_Mo_work_19 : decode prog_10_method_37_code 19 = .ok (.iload_n 1, 1) := by decide +kernel
theorem kb_Mo_work_20 : decode prog_10_method_37_code 20 = .ok (.baload, 1) := by decide +kernel
theorem kb_Mo_work_21 : decode prog_10_method_37_code 21 = .ok (.ifCond .eq 7, 3) := by decide +kernel
theorem kb_Mo_work_24 : decode prog_10_method_37_code 24 = .ok (.iconst 0, 1) := by decide +kernel
theorem kb_Mo_work_25 : decode prog_10_method_37_code 25 = .ok (.goto 9, 3) := by decide +kernel
theorem kb_Mo_work_28 : decode prog_10_method_37_code 28 = .ok (.aload_n 0, 1) := by decide +kernel
theorem kb_Mo_work_29 : decode prog_10_method_37_code 29 = .ok (.getfield 73, 3) := by decide +kernel
theorem kb_Mo_work_32 : decode prog_10_method_37_code 32 = .ok (.iload_n 1, 1) := by decide +kernel
theorem kb_Mo_work_33 : decode prog_10_method_37_code 33 = .ok (.iaload, 1) := by decide +kernel
theorem kb_Mo_work_34 : decode prog_10_method_37_code 34 = .ok (.iastore, 1) := by decide +kernel
theorem kb_Mo_work_35 : decode prog_10_method_37_code 35 = .ok (.iinc 1 1, 3) := by decide +kernel
theorem kb_Mo_work_38 : decode prog_10_method_37_code 38 = .ok (.goto (-36), 3) := by decide +kernel
theorem kb_Mo_work_41 : decode prog_10_method_37_code 41 = .ok (.iconst 1, 1) := by decide +kernel
theorem kb_Mo_work_42 : decode prog_10_method_37_code 42 = .ok (.istore_n 1, 1) := by decide +kernel
theorem kb_Mo_work_43 : decode prog_10_method_37_code 43 = .ok (.iload_n 1, 1) := by decide +kernel
theorem kb_Mo_work_44 : decode prog_10_method_37_code 44 = .ok (.bipush 8, 2) := by decide +kernel
theorem kb_Mo_work_46 : decode prog_10_method_37_code 46 = .ok (.if_icmp .gt 141, 3) := by decide +kernel
theorem kb_Mo_work_49 : decode prog_10_method_37_code 49 = .ok (.iconst 0, 1) := by decide +kernel
theorem kb_Mo_work_50 : decode prog_10_method_37_code 50 = .ok (.istore_n 2, 1) := by decide +kernel
theorem kb_Mo_work_51 : decode prog_10_method_37_code 51 = .ok (.iload_n 2, 1) := by decide +kernel
theorem kb_Mo_work_52 : decode prog_10_method_37_code 52 = .ok (.aload_n 0, 1) := by decide +kernel
theorem kb_Mo_work_53 : decode prog_10_method_37_code 53 = .ok (.getfield 164, 3) := by decide +kernel
theorem kb_Mo_work_56 : decode prog_10_method_37_code 56 = .ok (.if_icmp .ge 43, 3) := by decide +kernel
theorem kb_Mo_work_59 : decode prog_10_method_37_code 59 = .ok (.aload_n 0, 1) := by decide +kernel
theorem kb_Mo_work_60 : decode prog_10_method_37_code 60 = .ok (.getfield 58, 3) := by decide +kernel
theorem kb_Mo_work_63 : decode prog_10_method_37_code 63 = .ok (.aload_n 0, 1) := by decide +kernel
theorem kb_Mo_work_64 : decode prog_10_method_37_code 64 = .ok (.getfield 24, 3) := by decide +kernel
theorem kb_Mo_work_67 : decode prog_10_method_37_code 67 = .ok (.iload_n 2, 1) := by decide +kernel
theorem kb_Mo_work_68 : decode prog_10_method_37_code 68 = .ok (.iaload, 1) := by decide +kernel
theorem kb_Mo_work_69 : decode prog_10_method_37_code 69 = .ok (.iaload, 1) := by decide +kernel
theorem kb_Mo_work_70 : decode prog_10_method_37_code 70 = .ok (.iload_n 1, 1) := by decide +kernel
theorem kb_Mo_work_71 : decode prog_10_method_37_code 71 = .ok (.if_icmp .ne 22, 3) := by decide +kernel
theorem kb_Mo_work_74 : decode prog_10_method_37_code 74 = .ok (.aload_n 0, 1) := by decide +kernel
theorem kb_Mo_work_75 : decode prog_10_method_37_code 75 = .ok (.getfield 42, 3) := by decide +kernel
theorem kb_Mo_work_78 : decode prog_10_method_37_code 78 = .ok (.iload_n 2, 1) := by decide +kernel
theorem kb_Mo_work_79 : decode prog_10_method_37_code 79 = .ok (.baload, 1) := by decide +kernel
theorem kb_Mo_work_80 : decode prog_10_method_37_code 80 = .ok (.ifCond .eq 13, 3) := by decide +kernel
theorem kb_Mo_work_83 : decode prog_10_method_37_code 83 = .ok (.aload_n 0, 1) := by decide +kernel
theorem kb_Mo_work_84 : decode prog_10_method_37_code 84 = .ok (.iload_n 2, 1) := by decide +kernel
theorem kb_Mo_work_85 : decode prog_10_method_37_code 85 = .ok (.invokevirtual 239, 3) := by decide +kernel
theorem kb_Mo_work_88 : decode prog_10_method_37_code 88 = .ok (.ifCond .ne 5, 3) := by decide +kernel
theorem kb_Mo_work_91 : decode prog_10_method_37_code 91 = .ok (.iconst 0, 1) := by decide +kernel
theorem kb_Mo_work_92 : decode prog_10_method_37_code 92 = .ok (.ireturn, 1) := by decide +kernel
theorem kb_Mo_work_93 : decode prog_10_method_37_code 93 = .ok (.iinc 2 1, 3) := by decide +kernel
theorem kb_Mo_work_96 : decode prog_10_method_37_code 96 = .ok (.goto (-45), 3) := by decide +kernel
theorem kb_Mo_work_99 : decode prog_10_method_37_code 99 = .ok (.iconst 1, 1) := by decide +kernel
theorem kb_Mo_work_100 : decode prog_10_method_37_code 100 = .ok (.istore_n 2, 1) := by decide +kernel
theorem kb_Mo_work_101 : decode prog_10_method_37_code 101 = .ok (.iload_n 2, 1) := by decide +kernel
theorem kb_Mo_work_102 : decode prog_10_method_37_code 102 = .ok (.ifCond .eq 79, 3) := by decide +kernel
theorem kb_Mo_work_105 : decode prog_10_method_37_code 105 = .ok (.iconst 0, 1) := by decide +kernel
theorem kb_Mo_work_106 : decode prog_10_method_37_code 106 = .ok (.istore_n 2, 1) := by decide +kernel
theorem kb_Mo_work_107 : decode prog_10_method_37_code 107 = .ok (.iconst 0, 1) := by decide +kernel
theorem kb_Mo_work_108 : decode prog_10_method_37_code 108 = .ok (.istore_n 3, 1) := by decide +kernel
theorem kb_Mo_work_109 : decode prog_10_method_37_code 109 = .ok (.iload_n 3, 1) := by decide +kernel
theorem kb_Mo_work_110 : decode prog_10_method_37_code 110 = .ok (.aload_n 0, 1) := by decide +kernel
theorem kb_Mo_work_111 : decode prog_10_method_37_code 111 = .ok (.getfield 164, 3) := by decide +kernel
theorem kb_Mo_work_114 : decode prog_10_method_37_code 114 = .ok (.if_icmp .ge 64, 3) := by decide +kernel
theorem kb_Mo_work_117 : decode prog_10_method_37_code 117 = .ok (.aload_n 0, 1) := by decide +kernel
theorem kb_Mo_work_118 : decode prog_10_method_37_code 118 = .ok (.getfield 58, 3) := by decide +kernel
theorem kb_Mo_work_121 : decode prog_10_method_37_code 121 = .ok (.aload_n 0, 1) := by decide +kernel
theorem kb_Mo_work_122 : decode prog_10_method_37_code 122 = .ok (.getfield 24, 3) := by decide +kernel
theorem kb_Mo_work_125 : decode prog_10_method_37_code 125 = .ok (.iload_n 3, 1) := by decide +kernel
theorem kb_Mo_work_126 : decode prog_10_method_37_code 126 = .ok (.iaload, 1) := by decide +kernel
theorem kb_Mo_work_127 : decode prog_10_method_37_code 127 = .ok (.iaload, 1) := by decide +kernel
theorem kb_Mo_work_128 : decode prog_10_method_37_code 128 = .ok (.iload_n 1, 1) := by decide +kernel
theorem kb_Mo_work_129 : decode prog_10_method_37_code 129 = .ok (.if_icmp .ne 43, 3) := by decide +kernel
theorem kb_Mo_work_132 : decode prog_10_method_37_code 132 = .ok (.aload_n 0, 1) := by decide +kernel
theorem kb_Mo_work_133 : decode prog_10_method_37_code 133 = .ok (.getfield 42, 3) := by decide +kernel
theorem kb_Mo_work_136 : decode prog_10_method_37_code 136 = .ok (.iload_n 3, 1) := by decide +kernel
theorem kb_Mo_work_137 : decode prog_10_method_37_code 137 = .ok (.baload, 1) := by decide +kernel
theorem kb_Mo_work_138 : decode prog_10_method_37_code 138 = .ok (.ifCond .ne 34, 3) := by decide +kernel
theorem kb_Mo_work_141 : decode prog_10_method_37_code 141 = .ok (.aload_n 0, 1) := by decide +kernel
theorem kb_Mo_work_142 : decode prog_10_method_37_code 142 = .ok (.iload_n 3, 1) := by decide +kernel
theorem kb_Mo_work_143 : decode prog_10_method_37_code 143 = .ok (.invokevirtual 242, 3) := by decide +kernel
theorem kb_Mo_work_146 : decode prog_10_method_37_code 146 = .ok (.istore 4, 2) := by decide +kernel
theorem kb_Mo_work_148 : decode prog_10_method_37_code 148 = .ok (.iload 4, 2) := by decide +kernel
theorem kb_Mo_work_150 : decode prog_10_method_37_code 150 = .ok (.bipush (-3), 2) := by decide +kernel
theorem kb_Mo_work_152 : decode prog_10_method_37_code 152 = .ok (.if_icmp .ne 5, 3) := by decide +kernel
theorem kb_Mo_work_155 : decode prog_10_method_37_code 155 = .ok (.iconst 0, 1) := by decide +kernel
theorem kb_Mo_work_156 : decode prog_10_method_37_code 156 = .ok (.ireturn, 1) := by decide +kernel
theorem kb_Mo_work_157 : decode prog_10_method_37_code 157 = .ok (.iload_n 2, 1) := by decide +kernel
theorem kb_Mo_work_158 : decode prog_10_method_37_code 158 = .ok (.ifCond .ne 8, 3) := by decide +kernel
theorem kb_Mo_work_161 : decode prog_10_method_37_code 161 = .ok (.iload 4, 2) := by decide +kernel
theorem kb_Mo_work_163 : decode prog_10_method_37_code 163 = .ok (.ifCond .le 7, 3) := by decide +kernel
theorem kb_Mo_work_166 : decode prog_10_method_37_code 166 = .ok (.iconst 1, 1) := by decide +kernel
theorem kb_Mo_work_167 : decode prog_10_method_37_code 167 = .ok (.goto 4, 3) := by decide +kernel
theorem kb_Mo_work_170 : decode prog_10_method_37_code 170 = .ok (.iconst 0, 1) := by decide +kernel
theorem kb_Mo_work_171 : decode prog_10_method_37_code 171 = .ok (.istore_n 2, 1) := by decide +kernel
theorem kb_Mo_work_172 : decode prog_10_method_37_code 172 = .ok (.iinc 3 1, 3) := by decide +kernel
theorem kb_Mo_work_175 : decode prog_10_method_37_code 175 = .ok (.goto (-66), 3) := by decide +kernel
theorem kb_Mo_work_178 : decode prog_10_method_37_code 178 = .ok (.goto (-77), 3) := by decide +kernel
theorem kb_Mo_work_181 : decode prog_10_method_37_code 181 = .ok (.iinc 1 1, 3) := by decide +kernel
theorem kb_Mo_work_184 : decode prog_10_method_37_code 184 = .ok (.goto (-141), 3) := by decide +kernel
theorem kb_Mo_work_187 : decode prog_10_method_37_code 187 = .ok (.iconst 1, 1) := by decide +kernel
theorem kb_Mo_work_188 : decode prog_10_method_37_code 188 = .ok (.ireturn, 1) := by decide +kernel
theorem kb_Mo_keep_0 : decode prog_10_method_38_code 0 = .ok (.iconst 0, 1) := by decide +kernel
theorem kb_Mo_keep_1 : decode prog_10_method_38_code 1 = .ok (.istore_n 1, 1) := by decide +kernel
theorem kb_Mo_keep_2 : decode prog_10_method_38_code 2 = .ok (.iload_n 1, 1) := by decide +kernel
theorem kb_Mo_keep_3 : decode prog_10_method_38_code 3 = .ok (.sipush 960, 3) := by decide +kernel
theorem kb_Mo_keep_6 : decode prog_10_method_38_code 6 = .ok (.if_icmp .ge 21, 3) := by decide +kernel
theorem kb_Mo_keep_9 : decode prog_10_method_38_code 9 = .ok (.aload_n 0, 1) := by decide +kernel
theorem kb_Mo_keep_10 : decode prog_10_method_38_code 10 = .ok (.getfield 76, 3) := by decide +kernel
theorem kb_Mo_keep_13 : decode prog_10_method_38_code 13 = .ok (.iload_n 1, 1) := by decide +kernel
theorem kb_Mo_keep_14 : decode prog_10_method_38_code 14 = .ok (.aload_n 0, 1) := by decide +kernel
theorem kb_Mo_keep_15 : decode prog_10_method_38_code 15 = .ok (.getfield 67, 3) := by decide +kernel
theorem kb_Mo_keep_18 : decode prog_10_method_38_code 18 = .ok (.iload_n 1, 1) := by decide +kernel
theorem kb_Mo_keep_19 : decode prog_10_method_38_code 19 = .ok (.iaload, 1) := by decide +kernel
theorem kb_Mo_keep_20 : decode prog_10_method_38_code 20 = .ok (.iastore, 1) := by decide +kernel
theorem kb_Mo_keep_21 : decode prog_10_method_38_code 21 = .ok (.iinc 1 1, 3) := by decide +kernel
theorem kb_Mo_keep_24 : decode prog_10_method_38_code 24 = .ok (.goto (-22), 3) := by decide +kernel
theorem kb_Mo_keep_27 : decode prog_10_method_38_code 27 = .ok (.iconst 0, 1) := by decide +kernel
theorem kb_Mo_keep_28 : decode prog_10_method_38_code 28 = .ok (.istore_n 1, 1) := by decide +kernel
theorem kb_Mo_keep_29 : decode prog_10_method_38_code 29 = .ok (.iload_n 1, 1) := by decide +kernel
theorem kb_Mo_keep_30 : decode prog_10_method_38_code 30 = .ok (.sipush 320, 3) := by decide +kernel
theorem kb_Mo_keep_33 : decode prog_10_method_38_code 33 = .ok (.if_icmp .ge 21, 3) := by decide +kernel
theorem kb_Mo_keep_36 : decode prog_10_method_38_code 36 = .ok (.aload_n 0, 1) := by decide +kernel
theorem kb_Mo_keep_37 : decode prog_10_method_38_code 37 = .ok (.getfield 79, 3) := by decide +kernel
theorem kb_Mo_keep_40 : decode prog_10_method_38_code 40 = .ok (.iload_n 1, 1) := by decide +kernel
theorem kb_Mo_keep_41 : decode prog_10_method_38_code 41 = .ok (.aload_n 0, 1) := by decide +kernel
theorem kb_Mo_keep_42 : decode prog_10_method_38_code 42 = .ok (.getfield 70, 3) := by decide +kernel
theorem kb_Mo_keep_45 : decode prog_10_method_38_code 45 = .ok (.iload_n 1, 1) := by decide +kernel
theorem kb_Mo_keep_46 : decode prog_10_method_38_code 46 = .ok (.iaload, 1) := by decide +kernel
theorem kb_Mo_keep_47 : decode prog_10_method_38_code 47 = .ok (.iastore, 1) := by decide +kernel
theorem kb_Mo_keep_48 : decode prog_10_method_38_code 48 = .ok (.iinc 1 1, 3) := by decide +kernel
theorem kb_Mo_keep_51 : decode prog_10_method_38_code 51 = .ok (.goto (-22), 3) := by decide +kernel
theorem kb_Mo_keep_54 : decode prog_10_method_38_code 54 = .ok (.iconst 0, 1) := by decide +kernel
theorem kb_Mo_keep_55 : decode prog_10_method_38_code 55 = .ok (.istore_n 1, 1) := by decide +kernel
theorem kb_Mo_keep_56 : decode prog_10_method_38_code 56 = .ok (.iload_n 1, 1) := by decide +kernel
theorem kb_Mo_keep_57 : decode prog_10_method_38_code 57 = .ok (.bipush 8, 2) := by decide +kernel
theorem kb_Mo_keep_59 : decode prog_10_method_38_code 59 = .ok (.if_icmp .ge 21, 3) := by decide +kernel
theorem kb_Mo_keep_62 : decode prog_10_method_38_code 62 = .ok (.aload_n 0, 1) := by decide +kernel
theorem kb_Mo_keep_63 : decode prog_10_method_38_code 63 = .ok (.getfield 82, 3) := by decide +kernel
theorem kb_Mo_keep_66 : decode prog_10_method_38_code 66 = .ok (.iload_n 1, 1) := by decide +kernel
theorem kb_Mo_keep_67 : decode prog_10_method_38_code 67 = .ok (.aload_n 0, 1) := by decide +kernel
theorem kb_Mo_keep_68 : decode prog_10_method_38_code 68 = .ok (.getfield 73, 3) := by decide +kernel
theorem kb_Mo_keep_71 : decode prog_10_method_38_code 71 = .ok (.iload_n 1, 1) := by decide +kernel
theorem kb_Mo_keep_72 : decode prog_10_method_38_code 72 = .ok (.iaload, 1) := by decide +kernel
theorem kb_Mo_keep_73 : decode prog_10_method_38_code 73 = .ok (.iastore, 1) := by decide +kernel
theorem kb_Mo_keep_74 : decode prog_10_method_38_code 74 = .ok (.iinc 1 1, 3) := by decide +kernel
theorem kb_Mo_keep_77 : decode prog_10_method_38_code 77 = .ok (.goto (-21), 3) := by decide +kernel
theorem kb_Mo_keep_80 : decode prog_10_method_38_code 80 = .ok (.return_, 1) := by decide +kernel
