theorem kb_At_init_0 : decode prog_2_method_1_code 0 = .ok (.aload_n 0, 1) := by decide +kernel
theorem kb_At_init_1 : decode prog_2_method_1_code 1 = .ok (.invokespecial 3, 3) := by decide +kernel
theorem kb_At_init_4 : decode prog_2_method_1_code 4 = .ok (.aload_n 0, 1) := by decide +kernel
theorem kb_At_init_5 : decode prog_2_method_1_code 5 = .ok (.iconst 3, 1) := by decide +kernel
theorem kb_At_init_6 : decode prog_2_method_1_code 6 = .ok (.newarray .int, 2) := by decide +kernel
theorem kb_At_init_8 : decode prog_2_method_1_code 8 = .ok (.putfield 9, 3) := by decide +kernel
theorem kb_At_init_11 : decode prog_2_method_1_code 11 = .ok (.return_, 1) := by decide +kernel
theorem kb_At_append_0 : decode prog_2_method_2_code 0 = .ok (.aload_n 0, 1) := by decide +kernel
theorem kb_At_append_1 : decode prog_2_method_2_code 1 = .ok (.getfield 15, 3) := by decide +kernel
theorem kb_At_append_4 : decode prog_2_method_2_code 4 = .ok (.iconst 3, 1) := by decide +kernel
theorem kb_At_append_5 : decode prog_2_method_2_code 5 = .ok (.if_icmp .lt 4, 3) := by decide +kernel
theorem kb_At_append_8 : decode prog_2_method_2_code 8 = .ok (.return_, 1) := by decide +kernel
theorem kb_At_append_9 : decode prog_2_method_2_code 9 = .ok (.aload_n 0, 1) := by decide +kernel
theorem kb_At_append_10 : decode prog_2_method_2_code 10 = .ok (.getfield 9, 3) := by decide +kernel
theorem kb_At_append_13 : decode prog_2_method_2_code 13 = .ok (.aload_n 0, 1) := by decide +kernel
theorem kb_At_append_14 : decode prog_2_method_2_code 14 = .ok (.getfield 15, 3) := by decide +kernel
theorem kb_At_append_17 : decode prog_2_method_2_code 17 = .ok (.iload_n 1, 1) := by decide +kernel
theorem kb_At_append_18 : decode prog_2_method_2_code 18 = .ok (.iastore, 1) := by decide +kernel
theorem kb_At_append_19 : decode prog_2_method_2_code 19 = .ok (.aload_n 0, 1) := by decide +kernel
theorem kb_At_append_20 : decode prog_2_method_2_code 20 = .ok (.dup, 1) := by decide +kernel
theorem kb_At_append_21 : decode prog_2_method_2_code 21 = .ok (.getfield 15, 3) := by decide +kernel
theorem kb_At_append_24 : decode prog_2_method_2_code 24 = .ok (.iconst 1, 1) := by decide +kernel
theorem kb_At_append_25 : decode prog_2_method_2_code 25 = .ok (.iadd, 1) := by decide +kernel
theorem kb_At_append_26 : decode prog_2_method_2_code 26 = .ok (.putfield 15, 3) := by decide +kernel
theorem kb_At_append_29 : decode prog_2_method_2_code 29 = .ok (.iload_n 1, 1) := by decide +kernel
theorem kb_At_append_30 : decode prog_2_method_2_code 30 = .ok (.ifCond .ge 17, 3) := by decide +kernel
theorem kb_At_append_33 : decode prog_2_method_2_code 33 = .ok (.aload_n 0, 1) := by decide +kernel
theorem kb_At_append_34 : decode prog_2_method_2_code 34 = .ok (.dup, 1) := by decide +kernel
theorem kb_At_append_35 : decode prog_2_method_2_code 35 = .ok (.getfield 19, 3) := by decide +kernel
theorem kb_At_append_38 : decode prog_2_method_2_code 38 = .ok (.iconst 1, 1) := by decide +kernel
theorem kb_At_append_39 : decode prog_2_method_2_code 39 = .ok (.iconst (-1), 1) := by decide +kernel
theorem kb_At_append_40 : decode prog_2_method_2_code 40 = .ok (.iload_n 1, 1) := by decide +kernel
theorem kb_At_append_41 : decode prog_2_method_2_code 41 = .ok (.isub, 1) := by decide +kernel
theorem kb_At_append_42 : decode prog_2_method_2_code 42 = .ok (.ishl, 1) := by decide +kernel
theorem kb_At_append_43 : decode prog_2_method_2_code 43 = .ok (.ior, 1) := by decide +kernel
theorem kb_At_append_44 : decode prog_2_method_2_code 44 = .ok (.putfield 19, 3) := by decide +kernel
theorem kb_At_append_47 : decode prog_2_method_2_code 47 = .ok (.return_, 1) := by decide +kernel
theorem kb_En_init_0 : decode prog_3_method_1_code 0 = .ok (.aload_n 0, 1) := by decide +kernel
theorem kb_En_init_1 : decode prog_3_method_1_code 1 = .ok (.invokespecial 3, 3) := by decide +kernel
theorem kb_En_init_4 : decode prog_3_method_1_code 4 = .ok (.aload_n 0, 1) := by decide +kernel
theorem kb_En_init_5 : decode prog_3_method_1_code 5 = .ok (.bipush 6, 2) := by decide +kernel
theorem kb_En_init_7 : decode prog_3_method_1_code 7 = .ok (.newarray .int, 2) := by decide +kernel
theorem kb_En_init_9 : decode prog_3_method_1_code 9 = .ok (.putfield 9, 3) := by decide +kernel
theorem kb_En_init_12 : decode prog_3_method_1_code 12 = .ok (.aload_n 0, 1) := by decide +kernel
theorem kb_En_init_13 : decode prog_3_method_1_code 13 = .ok (.bipush 26, 2) := by decide +kernel
theorem kb_En_init_15 : decode prog_3_method_1_code 15 = .ok (.newarray .int, 2) := by decide +kernel
theorem kb_En_init_17 : decode prog_3_method_1_code 17 = .ok (.putfield 15, 3) := by decide +kernel
theorem kb_En_init_20 : decode prog_3_method_1_code 20 = .ok (.aload_n 0, 1) := by decide +kernel
theorem kb_En_init_21 : decode prog_3_method_1_code 21 = .ok (.sipush 320, 3) := by decide +kernel
theorem kb_En_init_24 : decode prog_3_method_1_code 24 = .ok (.newarray .int, 2) := by decide +kernel
theorem kb_En_init_26 : decode prog_3_method_1_code 26 = .ok (.putfield 18, 3) := by decide +kernel
theorem kb_En_init_29 : decode prog_3_method_1_code 29 = .ok (.aload_n 0, 1) := by decide +kernel
theorem kb_En_init_30 : decode prog_3_method_1_code 30 = .ok (.sipush 320, 3) := by decide +kernel
theorem kb_En_init_33 : decode prog_3_method_1_code 33 = .ok (.newarray .int, 2) := by decide +kernel
theorem kb_En_init_35 : decode prog_3_method_1_code 35 = .ok (.putfield 21, 3) := by decide +kernel
theorem kb_En_init_38 : decode prog_3_method_1_code 38 = .ok (.aload_n 0, 1) := by decide +kernel
theorem kb_En_init_39 : decode prog_3_method_1_code 39 = .ok (.new 24, 3) := by decide +kernel
theorem kb_En_init_42 : decode prog_3_method_1_code 42 = .ok (.dup, 1) := by decide +kernel
theorem kb_En_init_43 : decode prog_3_method_1_code 43 = .ok (.invokespecial 26, 3) := by decide +kernel
theorem kb_En_init_46 : decode prog_3_method_1_code 46 = .ok (.putfield 27, 3) := by decide +kernel
theorem kb_En_init_49 : decode prog_3_method_1_code 49 = .ok (.aload_n 0, 1) := by decide +kernel
theorem kb_En_init_50 : decode prog_3_method_1_code 50 = .ok (.new 31, 3) := by decide +kernel
theorem kb_En_init_53 : decode prog_3_method_1_code 53 = .ok (.dup, 1) := by decide +kernel
theorem kb_En_init_54 : decode prog_3_method_1_code 54 = .ok (.invokespecial 33, 3) := by decide +kernel
theorem kb_En_init_57 : decode prog_3_method_1_code 57 = .ok (.putfield 34, 3) := by decide +kernel
theorem kb_En_init_60 : decode prog_3_method_1_code 60 = .ok (.aload_n 0, 1) := by decide +kernel
theorem kb_En_init_61 : decode prog_3_method_1_code 61 = .ok (.iconst 0, 1) := by decide +kernel
theorem kb_En_init_62 : decode prog_3_method_1_code 62 = .ok (.anewarray 38, 3) := by decide +kernel
theorem kb_En_init_65 : decode prog_3_method_1_code 65 = .ok (.putfield 40, 3) := by decide +kernel
theorem kb_En_init_68 : decode prog_3_method_1_code 68 = .ok (.return_, 1) := by decide +kernel
theorem kb_En_workViews_0 : decode prog_3_method_2_code 0 = .ok (.aload_n 0, 1) := by decide +kernel
theorem kb_En_workViews_1 : decode prog_3_method_2_code 1 = .ok (.aload_n 1, 1) := by decide +kernel
theorem kb_En_workViews_2 : decode prog_3_method_2_code 2 = .ok (.aload_n 2, 1) := by decide +kernel
theorem kb_En_workViews_3 : decode prog_3_method_2_code 3 = .ok (.iconst 0, 1) := by decide +kernel
theorem kb_En_workViews_4 : decode prog_3_method_2_code 4 = .ok (.invokevirtual 44, 3) := by decide +kernel
theorem kb_En_workViews_7 : decode prog_3_method_2_code 7 = .ok (.iconst 0, 1) := by decide +kernel
theorem kb_En_workViews_8 : decode prog_3_method_2_code 8 = .ok (.istore_n 3, 1) := by decide +kernel
theorem kb_En_workViews_9 : decode prog_3_method_2_code 9 = .ok (.iload_n 3, 1) := by decide +kernel
theorem kb_En_workViews_10 : decode prog_3_method_2_code 10 = .ok (.aload_n 0, 1) := by decide +kernel
theorem kb_En_workViews_11 : decode prog_3_method_2_code 11 = .ok (.getfield 27, 3) := by decide +kernel
theorem kb_En_workViews_14 : decode prog_3_method_2_code 14 = .ok (.getfield 48, 3) := by decide +kernel
theorem kb_En_workViews_17 : decode prog_3_method_2_code 17 = .ok (.if_icmp .ge 30, 3) := by decide +kernel
theorem kb_En_workViews_20 : decode prog_3_method_2_code 20 = .ok (.aload_n 0, 1) := by decide +kernel
theorem kb_En_workViews_21 : decode prog_3_method_2_code 21 = .ok (.getfield 27, 3) := by decide +kernel
theorem kb_En_workViews_24 : decode prog_3_method_2_code 24 = .ok (.iload_n 3, 1) := by decide +kernel
theorem kb_En_workViews_25 : decode prog_3_method_2_code 25 = .ok (.invokevirtual 52, 3) := by decide +kernel
theorem kb_En_workViews_28 : decode prog_3_method_2_code 28 = .ok (.ifCond .eq 13, 3) := by decide +kernel
theorem kb_En_workViews_31 : decode prog_3_method_2_code 31 = .ok (.aload_n 0, 1) := by decide +kernel
theorem kb_En_workViews_32 : decode prog_3_method_2_code 32 = .ok (.getfield 40, 3) := by decide +kernel
theorem kb_En_workViews_35 : decode prog_3_method_2_code 35 = .ok (.iload_n 3, 1) := by decide +kernel
theorem kb_En_workViews_36 : decode prog_3_method_2_code 36 = .ok (.aaload, 1) := by decide +kernel
theorem kb_En_workViews_37 : decode prog_3_method_2_code 37 = .ok (.iconst 0, 1) := by decide +kernel
theorem kb_En_workViews_38 : decode prog_3_method_2_code 38 = .ok (.putfield 56, 3) := by decide +kernel
theorem kb_En_workViews_41 : decode prog_3_method_2_code 41 = .ok (.iinc 3 1, 3) := by decide +kernel
theorem kb_En_workViews_44 : decode prog_3_method_2_code 44 = .ok (.goto (-35), 3) := by decide +kernel
theorem kb_En_workViews_47 : decode prog_3_method_2_code 47 = .ok (.iconst 1, 1) := by decide +kernel
theorem kb_En_workViews_48 : decode prog_3_method_2_code 48 = .ok (.istore_n 3, 1) := by decide +kernel
theorem kb_En_workViews_49 : decode prog_3_method_2_code 49 = .ok (.iload_n 3, 1) := by decide +kernel
theorem kb_En_workViews_50 : decode prog_3_method_2_code 50 = .ok (.aload_n 0, 1) := by decide +kernel
theorem kb_En_workViews_51 : decode prog_3_method_2_code 51 = .ok (.getfield 27, 3) := by decide +kernel
theorem kb_En_workViews_54 : decode prog_3_method_2_code 54 = .ok (.getfield 59, 3) := by decide +kernel
theorem kb_En_workViews_57 : decode prog_3_method_2_code 57 = .ok (.if_icmp .gt 31, 3) := by decide +kernel
theorem kb_En_workViews_60 : decode prog_3_method_2_code 60 = .ok (.aload_n 0, 1) := by decide +kernel
theorem kb_En_workViews_61 : decode prog_3_method_2_code 61 = .ok (.getfield 62, 3) := by decide +kernel
theorem kb_En_workViews_64 : decode prog_3_method_2_code 64 = .ok (.ifCond .ne 24, 3) := by decide +kernel
theorem kb_En_workViews_67 : decode prog_3_method_2_code 67 = .ok (.aload_n 0, 1) := by decide +kernel
theorem kb_En_workViews_68 : decode prog_3_method_2_code 68 = .ok (.iconst 0, 1) := by decide +kernel
theorem kb_En_workViews_69 : decode prog_3_method_2_code 69 = .ok (.putfield 66, 3) := by decide +kernel
theorem kb_En_workViews_72 : decode prog_3_method_2_code 72 = .ok (.aload_n 0, 1) := by decide +kernel
theorem kb_En_workViews_73 : decode prog_3_method_2_code 73 = .ok (.iload_n 3, 1) := by decide +kernel
theorem kb_En_workViews_74 : decode prog_3_method_2_code 74 = .ok (.invokevirtual 69, 3) := by decide +kernel
theorem kb_En_workViews_77 : decode prog_3_method_2_code 77 = .ok (.aload_n 0, 1) := by decide +kernel
theorem kb_En_workViews_78 : decode prog_3_method_2_code 78 = .ok (.iload_n 3, 1) := by decide +kernel
theorem kb_En_workViews_79 : decode prog_3_method_2_code 79 = .ok (.invokevirtual 73, 3) := by decide +kernel
theorem kb_En_workViews_82 : decode prog_3_method_2_code 82 = .ok (.iinc 3 1, 3) := by decide +kernel
theorem kb_En_workViews_85 : decode prog_3_method_2_code 85 = .ok (.goto (-36), 3) := by decide +kernel
theorem kb_En_workViews_88 : decode prog_3_method_2_code 88 = .ok (.aload_n 0, 1) := by decide +kernel
theorem kb_En_workViews_89 : decode prog_3_method_2_code 89 = .ok (.getfield 62, 3) := by decide +kernel
theorem kb_En_workViews_92 : decode prog_3_method_2_code 92 = .ok (.ifCond .ne 7, 3) := by decide +kernel
theorem kb_En_workViews_95 : decode prog_3_method_2_code 95 = .ok (.iconst 1, 1) := by decide +kernel
theorem kb_En_workViews_96 : decode prog_3_method_2_code 96 = .ok (.goto 4, 3) := by decide +kernel
theorem kb_En_workViews_99 : decode prog_3_method_2_code 99 = .ok (.iconst 0, 1) := by decide +kernel
theorem kb_En_workViews_100 : decode prog_3_method_2_code 100 = .ok (.ireturn, 1) := by decide +kernel
theorem kb_En_countDerivations_0 : decode prog_3_method_3_code 0 = .ok (.aload_n 0, 1) := by decide +kernel
theorem kb_En_countDerivations_1 : decode prog_3_method_3_code 1 = .ok (.aload_n 1, 1) := by decide +kernel
theorem kb_En_countDerivations_2 : decode prog_3_method_3_code 2 = .ok (.aload_n 2, 1) := by decide +kernel
theorem kb_En_countDerivations_3 : decode prog_3_method_3_code 3 = .ok (.iconst 1, 1) := by decide +kernel
theorem kb_En_countDerivations_4 : decode prog_3_method_3_code 4 = .ok (.invokevirtual 44, 3) := by decide +kernel
theorem kb_En_countDerivations_7 : decode prog_3_method_3_code 7 = .ok (.iconst 0, 1) := by decide +kernel
theorem kb_En_countDerivations_8 : decode prog_3_method_3_code 8 = .ok (.istore 5, 2) := by decide +kernel
theorem kb_En_countDerivations_10 : decode prog_3_method_3_code 10 = .ok (.iload 5, 2) := by decide +kernel
theorem kb_En_countDerivations_12 : decode prog_3_method_3_code 12 = .ok (.aload_n 0, 1) := by decide +kernel
theorem kb_En_countDerivations_13 : decode prog_3_method_3_code 13 = .ok (.getfield 27, 3) := by decide +kernel
theorem kb_En_countDerivations_16 : decode prog_3_method_3_code 16 = .ok (.getfield 76, 3) := by decide +kernel
theorem kb_En_countDerivations_19 : decode prog_3_method_3_code 19 = .ok (.if_icmp .ge 18, 3) := by decide +kernel
theorem kb_En_countDerivations_22 : decode prog_3_method_3_code 22 = .ok (.aload_n 0, 1) := by decide +kernel
theorem kb_En_countDerivations_23 : decode prog_3_method_3_code 23 = .ok (.iload 5, 2) := by decide +kernel
theorem kb_En_countDerivations_25 : decode prog_3_method_3_code 25 = .ok (.iload_n 3, 1) := by decide +kernel
theorem kb_En_countDerivations_26 : decode prog_3_method_3_code 26 = .ok (.iload 4, 2) := by decide +kernel
theorem kb_En_countDerivations_28 : decode prog_3_method_3_code 28 = .ok (.invokevirtual 79, 3) := by decide +kernel
theorem kb_En_countDerivations_31 : decode prog_3_method_3_code 31 = .ok (.iinc 5 1, 3) := by decide +kernel
theorem kb_En_countDerivations_34 : decode prog_3_method_3_code 34 = .ok (.goto (-24), 3) := by decide +kernel
theorem kb_En_countDerivations_37 : decode prog_3_method_3_code 37 = .ok (.aload_n 0, 1) := by decide +kernel
theorem kb_En_countDerivations_38 : decode prog_3_method_3_code 38 = .ok (.getfield 83, 3) := by decide +kernel
theorem kb_En_countDerivations_41 : decode prog_3_method_3_code 41 = .ok (.ireturn, 1) := by decide +kernel
theorem kb_En_findLeast_0 : decode prog_3_method_4_code 0 = .ok (.aload_n 0, 1) := by decide +kernel
theorem kb_En_findLeast_1 : decode prog_3_method_4_code 1 = .ok (.aload_n 1, 1) := by decide +kernel
theorem kb_En_findLeast_2 : decode prog_3_method_4_code 2 = .ok (.aload_n 2, 1) := by decide +kernel
theorem kb_En_findLeast_3 : decode prog_3_method_4_code 3 = .ok (.iconst 2, 1) := by decide +kernel
theorem kb_En_findLeast_4 : decode prog_3_method_4_code 4 = .ok (.invokevirtual 44, 3) := by decide +kernel
theorem kb_En_findLeast_7 : decode prog_3_method_4_code 7 = .ok (.iconst 0, 1) := by decide +kernel
theorem kb_En_findLeast_8 : decode prog_3_method_4_code 8 = .ok (.istore 5, 2) := by decide +kernel
theorem kb_En_findLeast_10 : decode prog_3_method_4_code 10 = .ok (.iload 5, 2) := by decide +kernel
theorem kb_En_findLeast_12 : decode prog_3_method_4_code 12 = .ok (.aload_n 0, 1) := by decide +kernel
theorem kb_En_findLeast_13 : decode prog_3_method_4_code 13 = .ok (.getfield 27, 3) := by decide +kernel
theorem kb_En_findLeast_16 : decode prog_3_method_4_code 16 = .ok (.getfield 76, 3) := by decide +kernel
theorem kb_En_findLeast_19 : decode prog_3_method_4_code 19 = .ok (.if_icmp .ge 28, 3) := by decide +kernel
theorem kb_En_findLeast_22 : decode prog_3_method_4_code 22 = .ok (.aload_n 0, 1) := by decide +kernel
theorem kb_En_findLeast_23 : decode prog_3_method_4_code 23 = .ok (.iload 5, 2) := by decide +kernel
theorem kb_En_findLeast_25 : decode prog_3_method_4_code 25 = .ok (.iload_n 3, 1) := by decide +kernel
theorem kb_En_findLeast_26 : decode prog_3_method_4_code 26 = .ok (.iload 4, 2) := by decide +kernel
theorem kb_En_findLeast_28 : decode prog_3_method_4_code 28 = .ok (.invokevirtual 79, 3) := by decide +kernel
theorem kb_En_findLeast_31 : decode prog_3_method_4_code 31 = .ok (.aload_n 0, 1) := by decide +kernel
theorem kb_En_findLeast_32 : decode prog_3_method_4_code 32 = .ok (.getfield 83, 3) := by decide +kernel
theorem kb_En_findLeast_35 : decode prog_3_method_4_code 35 = .ok (.ifCond .le 6, 3) := by decide +kernel
theorem kb_En_findLeast_38 : decode prog_3_method_4_code 38 = .ok (.iload 5, 2) := by decide +kernel
theorem kb_En_findLeast_40 : decode prog_3_method_4_code 40 = .ok (.ireturn, 1) := by decide +kernel
theorem kb_En_findLeast_41 : decode prog_3_method_4_code 41 = .ok (.iinc 5 1, 3) := by decide +kernel
theorem kb_En_findLeast_44 : decode prog_3_method_4_code 44 = .ok (.goto (-34), 3) := by decide +kernel
theorem kb_En_findLeast_47 : decode prog_3_method_4_code 47 = .ok (.iconst (-1), 1) := by decide +kernel
theorem kb_En_findLeast_48 : decode prog_3_method_4_code 48 = .ok (.ireturn, 1) := by decide +kernel
theorem kb_En_begin_0 : decode prog_3_method_5_code 0 = .ok (.aload_n 0, 1) := by decide +kernel
theorem kb_En_begin_1 : decode prog_3_method_5_code 1 = .ok (.aload_n 1, 1) := by decide +kernel
theorem kb_En_begin_2 : decode prog_3_method_5_code 2 = .ok (.putfield 27, 3) := by decide +kernel
theorem kb_En_begin_5 : decode prog_3_method_5_code 5 = .ok (.aload_n 0, 1) := by decide +kernel
theorem kb_En_begin_6 : decode prog_3_method_5_code 6 = .ok (.aload_n 2, 1) := by decide +kernel
theorem kb_En_begin_7 : decode prog_3_method_5_code 7 = .ok (.putfield 40, 3) := by decide +kernel
theorem kb_En_begin_10 : decode prog_3_method_5_code 10 = .ok (.aload_n 0, 1) := by decide +kernel
theorem kb_En_begin_11 : decode prog_3_method_5_code 11 = .ok (.iload_n 3, 1) := by decide +kernel
theorem kb_En_begin_12 : decode prog_3_method_5_code 12 = .ok (.putfield 86, 3) := by decide +kernel
theorem kb_En_begin_15 : decode prog_3_method_5_code 15 = .ok (.aload_n 0, 1) := by decide +kernel
theorem kb_En_begin_16 : decode prog_3_method_5_code 16 = .ok (.iconst 0, 1) := by decide +kernel
theorem kb_En_begin_17 : decode prog_3_method_5_code 17 = .ok (.putfield 83, 3) := by decide +kernel
theorem kb_En_begin_20 : decode prog_3_method_5_code 20 = .ok (.aload_n 0, 1) := by decide +kernel
theorem kb_En_begin_21 : decode prog_3_method_5_code 21 = .ok (.iconst 0, 1) := by decide +kernel
theorem kb_En_begin_22 : decode prog_3_method_5_code 22 = .ok (.putfield 62, 3) := by decide +kernel
theorem kb_En_begin_25 : decode prog_3_method_5_code 25 = .ok (.return_, 1) := by decide +kernel
theorem kb_En_solveFor_0 : decode prog_3_method_6_code 0 = .ok (.aload_n 0, 1) := by decide +kernel
theorem kb_En_solveFor_1 : decode prog_3_method_6_code 1 = .ok (.aload_n 0, 1) := by decide +kernel
theorem kb_En_solveFor_2 : decode prog_3_method_6_code 2 = .ok (.getfield 27, 3) := by decide +kernel
theorem kb_En_solveFor_5 : decode prog_3_method_6_code 5 = .ok (.getfield 89, 3) := by decide +kernel
theorem kb_En_solveFor_8 : decode prog_3_method_6_code 8 = .ok (.iload_n 1, 1) := by decide +kernel
theorem kb_En_solveFor_9 : decode prog_3_method_6_code 9 = .ok (.aaload, 1) := by decide +kernel
theorem kb_En_solveFor_10 : decode prog_3_method_6_code 10 = .ok (.putfield 34, 3) := by decide +kernel
theorem kb_En_solveFor_13 : decode prog_3_method_6_code 13 = .ok (.aload_n 0, 1) := by decide +kernel
theorem kb_En_solveFor_14 : decode prog_3_method_6_code 14 = .ok (.iconst 0, 1) := by decide +kernel
theorem kb_En_solveFor_15 : decode prog_3_method_6_code 15 = .ok (.putfield 93, 3) := by decide +kernel
theorem kb_En_solveFor_18 : decode prog_3_method_6_code 18 = .ok (.aload_n 0, 1) := by decide +kernel
theorem kb_En_solveFor_19 : decode prog_3_method_6_code 19 = .ok (.getfield 34, 3) := by decide +kernel
theorem kb_En_solveFor_22 : decode prog_3_method_6_code 22 = .ok (.getfield 96, 3) := by decide +kernel
theorem kb_En_solveFor_25 : decode prog_3_method_6_code 25 = .ok (.getfield 100, 3) := by decide +kernel
theorem kb_En_solveFor_28 : decode prog_3_method_6_code 28 = .ok (.iload_n 2, 1) := by decide +kernel
theorem kb_En_solveFor_29 : decode prog_3_method_6_code 29 = .ok (.if_icmp .ne 23, 3) := by decide +kernel
theorem kb_En_solveFor_32 : decode prog_3_method_6_code 32 = .ok (.aload_n 0, 1) := by decide +kernel
theorem kb_En_solveFor_33 : decode prog_3_method_6_code 33 = .ok (.aload_n 0, 1) := by decide +kernel
theorem kb_En_solveFor_34 : decode prog_3_method_6_code 34 = .ok (.getfield 34, 3) := by decide +kernel
theorem kb_En_solveFor_37 : decode prog_3_method_6_code 37 = .ok (.getfield 96, 3) := by decide +kernel
theorem kb_En_solveFor_40 : decode prog_3_method_6_code 40 = .ok (.iload_n 3, 1) := by decide +kernel
theorem kb_En_solveFor_41 : decode prog_3_method_6_code 41 = .ok (.invokevirtual 105, 3) := by decide +kernel
theorem kb_En_solveFor_44 : decode prog_3_method_6_code 44 = .ok (.ifCond .eq 8, 3) := by decide +kernel
theorem kb_En_solveFor_47 : decode prog_3_method_6_code 47 = .ok (.aload_n 0, 1) := by decide +kernel
theorem kb_En_solveFor_48 : decode prog_3_method_6_code 48 = .ok (.iconst 0, 1) := by decide +kernel
theorem kb_En_solveFor_49 : decode prog_3_method_6_code 49 = .ok (.invokevirtual 109, 3) := by decide +kernel
theorem kb_En_solveFor_52 : decode prog_3_method_6_code 52 = .ok (.return_, 1) := by decide +kernel
theorem kb_En_seed_0 : decode prog_3_method_7_code 0 = .ok (.iconst 0, 1) := by decide +kernel
theorem kb_En_seed_1 : decode prog_3_method_7_code 1 = .ok (.istore_n 2, 1) := by decide +kernel
theorem kb_En_seed_2 : decode prog_3_method_7_code 2 = .ok (.iload_n 2, 1) := by decide +kernel
theorem kb_En_seed_3 : decode prog_3_method_7_code 3 = .ok (.aload_n 0, 1) := by decide +kernel
theorem kb_En_seed_4 : decode prog_3_method_7_code 4 = .ok (.getfield 27, 3) := by decide +kernel
theorem kb_En_seed_7 : decode prog_3_method_7_code 7 = .ok (.getfield 76, 3) := by decide +kernel
theorem kb_En_seed_10 : decode prog_3_method_7_code 10 = .ok (.if_icmp .ge 83, 3) := by decide +kernel
theorem kb_En_seed_13 : decode prog_3_method_7_code 13 = .ok (.aload_n 0, 1) := by decide +kernel
theorem kb_En_seed_14 : decode prog_3_method_7_code 14 = .ok (.getfield 62, 3) := by decide +kernel
theorem kb_En_seed_17 : decode prog_3_method_7_code 17 = .ok (.ifCond .ne 76, 3) := by decide +kernel
theorem kb_En_seed_20 : decode prog_3_method_7_code 20 = .ok (.aload_n 0, 1) := by decide +kernel
theorem kb_En_seed_21 : decode prog_3_method_7_code 21 = .ok (.aload_n 0, 1) := by decide +kernel
theorem kb_En_seed_22 : decode prog_3_method_7_code 22 = .ok (.getfield 27, 3) := by decide +kernel
theorem kb_En_seed_25 : decode prog_3_method_7_code 25 = .ok (.getfield 89, 3) := by decide +kernel
theorem kb_En_seed_28 : decode prog_3_method_7_code 28 = .ok (.iload_n 2, 1) := by decide +kernel
theorem kb_En_seed_29 : decode prog_3_method_7_code 29 = .ok (.aaload, 1) := by decide +kernel
theorem kb_En_seed_30 : decode prog_3_method_7_code 30 = .ok (.putfield 34, 3) := by decide +kernel
theorem kb_En_seed_33 : decode prog_3_method_7_code 33 = .ok (.aload_n 0, 1) := by decide +kernel
theorem kb_En_seed_34 : decode prog_3_method_7_code 34 = .ok (.getfield 27, 3) := by decide +kernel
theorem kb_En_seed_37 : decode prog_3_method_7_code 37 = .ok (.getfield 112, 3) := by decide +kernel
theorem kb_En_seed_40 : decode prog_3_method_7_code 40 = .ok (.aload_n 0, 1) := by decide +kernel
theorem kb_En_seed_41 : decode prog_3_method_7_code 41 = .ok (.getfield 34, 3) := by decide +kernel
theorem kb_En_seed_44 : decode prog_3_method_7_code 44 = .ok (.getfield 96, 3) := by decide +kernel
theorem kb_En_seed_47 : decode prog_3_method_7_code 47 = .ok (.getfield 100, 3) := by decide +kernel
theorem kb_En_seed_50 : decode prog_3_method_7_code 50 = .ok (.iaload, 1) := by decide +kernel
theorem kb_En_seed_51 : decode prog_3_method_7_code 51 = .ok (.iload_n 1, 1) := by decide +kernel
theorem kb_En_seed_52 : decode prog_3_method_7_code 52 = .ok (.if_icmp .ne 35, 3) := by decide +kernel
theorem kb_En_seed_55 : decode prog_3_method_7_code 55 = .ok (.aload_n 0, 1) := by decide +kernel
theorem kb_En_seed_56 : decode prog_3_method_7_code 56 = .ok (.iload_n 1, 1) := by decide +kernel
theorem kb_En_seed_57 : decode prog_3_method_7_code 57 = .ok (.invokevirtual 115, 3) := by decide +kernel
theorem kb_En_seed_60 : decode prog_3_method_7_code 60 = .ok (.ifCond .ne 27, 3) := by decide +kernel
theorem kb_En_seed_63 : decode prog_3_method_7_code 63 = .ok (.aload_n 0, 1) := by decide +kernel
theorem kb_En_seed_64 : decode prog_3_method_7_code 64 = .ok (.iconst 0, 1) := by decide +kernel
theorem kb_En_seed_65 : decode prog_3_method_7_code 65 = .ok (.putfield 93, 3) := by decide +kernel
theorem kb_En_seed_68 : decode prog_3_method_7_code 68 = .ok (.aload_n 0, 1) := by decide +kernel
theorem kb_En_seed_69 : decode prog_3_method_7_code 69 = .ok (.iconst 0, 1) := by decide +kernel
theorem kb_En_seed_70 : decode prog_3_method_7_code 70 = .ok (.invokevirtual 109, 3) := by decide +kernel
theorem kb_En_seed_73 : decode prog_3_method_7_code 73 = .ok (.aload_n 0, 1) := by decide +kernel
theorem kb_En_seed_74 : decode prog_3_method_7_code 74 = .ok (.getfield 34, 3) := by decide +kernel
theorem kb_En_seed_77 : decode prog_3_method_7_code 77 = .ok (.getfield 118, 3) := by decide +kernel
theorem kb_En_seed_80 : decode prog_3_method_7_code 80 = .ok (.ifCond .eq 7, 3) := by decide +kernel
theorem kb_En_seed_83 : decode prog_3_method_7_code 83 = .ok (.aload_n 0, 1) := by decide +kernel
theorem kb_En_seed_84 : decode prog_3_method_7_code 84 = .ok (.invokevirtual 121, 3) := by decide +kernel
theorem kb_En_seed_87 : decode prog_3_method_7_code 87 = .ok (.iinc 2 1, 3) := by decide +kernel
theorem kb_En_seed_90 : decode prog_3_method_7_code 90 = .ok (.goto (-88), 3) := by decide +kernel
theorem kb_En_seed_93 : decode prog_3_method_7_code 93 = .ok (.return_, 1) := by decide +kernel
theorem kb_En_usesLayer_0 : decode prog_3_method_8_code 0 = .ok (.iconst 0, 1) := by decide +kernel
theorem kb_En_usesLayer_1 : decode prog_3_method_8_code 1 = .ok (.istore_n 2, 1) := by decide +kernel
theorem kb_En_usesLayer_2 : decode prog_3_method_8_code 2 = .ok (.iload_n 2, 1) := by decide +kernel
theorem kb_En_usesLayer_3 : decode prog_3_method_8_code 3 = .ok (.aload_n 0, 1) := by decide +kernel
theorem kb_En_usesLayer_4 : decode prog_3_method_8_code 4 = .ok (.getfield 34, 3) := by decide +kernel
theorem kb_En_usesLayer_7 : decode prog_3_method_8_code 7 = .ok (.getfield 124, 3) := by decide +kernel
theorem kb_En_usesLayer_10 : decode prog_3_method_8_code 10 = .ok (.if_icmp .ge 50, 3) := by decide +kernel
theorem kb_En_usesLayer_13 : decode prog_3_method_8_code 13 = .ok (.aload_n 0, 1) := by decide +kernel
theorem kb_En_usesLayer_14 : decode prog_3_method_8_code 14 = .ok (.getfield 34, 3) := by decide +kernel
theorem kb_En_usesLayer_17 : decode prog_3_method_8_code 17 = .ok (.getfield 125, 3) := by decide +kernel
theorem kb_En_usesLayer_20 : decode prog_3_method_8_code 20 = .ok (.iload_n 2, 1) := by decide +kernel
theorem kb_En_usesLayer_21 : decode prog_3_method_8_code 21 = .ok (.aaload, 1) := by decide +kernel
theorem kb_En_usesLayer_22 : decode prog_3_method_8_code 22 = .ok (.getfield 129, 3) := by decide +kernel
theorem kb_En_usesLayer_25 : decode prog_3_method_8_code 25 = .ok (.ifCond .ne 29, 3) := by decide +kernel
theorem kb_En_usesLayer_28 : decode prog_3_method_8_code 28 = .ok (.aload_n 0, 1) := by decide +kernel
theorem kb_En_usesLayer_29 : decode prog_3_method_8_code 29 = .ok (.getfield 27, 3) := by decide +kernel
theorem kb_En_usesLayer_32 : decode prog_3_method_8_code 32 = .ok (.getfield 112, 3) := by decide +kernel
theorem kb_En_usesLayer_35 : decode prog_3_method_8_code 35 = .ok (.aload_n 0, 1) := by decide +kernel
theorem kb_En_usesLayer_36 : decode prog_3_method_8_code 36 = .ok (.getfield 34, 3) := by decide +kernel
theorem kb_En_usesLayer_39 : decode prog_3_method_8_code 39 = .ok (.getfield 125, 3) := by decide +kernel
theorem kb_En_usesLayer_42 : decode prog_3_method_8_code 42 = .ok (.iload_n 2, 1) := by decide +kernel
theorem kb_En_usesLayer_43 : decode prog_3_method_8_code 43 = .ok (.aaload, 1) := by decide +kernel
theorem kb_En_usesLayer_44 : decode prog_3_method_8_code 44 = .ok (.getfield 100, 3) := by decide +kernel
theorem kb_En_usesLayer_47 : decode prog_3_method_8_code 47 = .ok (.iaload, 1) := by decide +kernel
theorem kb_En_usesLayer_48 : decode prog_3_method_8_code 48 = .ok (.iload_n 1, 1) := by decide +kernel
theorem kb_En_usesLayer_49 : decode prog_3_method_8_code 49 = .ok (.if_icmp .ne 5, 3) := by decide +kernel
theorem kb_En_usesLayer_52 : decode prog_3_method_8_code 52 = .ok (.iconst 1, 1) := by decide +kernel
theorem kb_En_usesLayer_53 : decode prog_3_method_8_code 53 = .ok (.ireturn, 1) := by decide +kernel
theorem kb_En_usesLayer_54 : decode prog_3_method_8_code 54 = .ok (.iinc 2 1, 3) := by decide +kernel
theorem kb_En_usesLayer_57 : decode prog_3_method_8_code 57 = .ok (.goto (-55), 3) := by decide +kernel
theorem kb_En_usesLayer_60 : decode prog_3_method_8_code 60 = .ok (.iconst 0, 1) := by decide +kernel
theorem kb_En_usesLayer_61 : decode prog_3_method_8_code 61 = .ok (.ireturn, 1) := by decide +kernel
theorem kb_En_spread_0 : decode prog_3_method_9_code 0 = .ok (.iconst 0, 1) := by decide +kernel
theorem kb_En_spread_1 : decode prog_3_method_9_code 1 = .ok (.istore_n 2, 1) := by decide +kernel
theorem kb_En_spread_2 : decode prog_3_method_9_code 2 = .ok (.iload_n 2, 1) := by decide +kernel
theorem kb_En_spread_3 : decode prog_3_method_9_code 3 = .ok (.aload_n 0, 1) := by decide +kernel
theorem kb_En_spread_4 : decode prog_3_method_9_code 4 = .ok (.getfield 66, 3) := by decide +kernel
theorem kb_En_spread_7 : decode prog_3_method_9_code 7 = .ok (.if_icmp .ge 157, 3) := by decide +kernel
theorem kb_En_spread_10 : decode prog_3_method_9_code 10 = .ok (.iload_n 2, 1) := by decide +kernel
theorem kb_En_spread_11 : decode prog_3_method_9_code 11 = .ok (.sipush 320, 3) := by decide +kernel
theorem kb_En_spread_14 : decode prog_3_method_9_code 14 = .ok (.if_icmp .ge 150, 3) := by decide +kernel
theorem kb_En_spread_17 : decode prog_3_method_9_code 17 = .ok (.iconst 0, 1) := by decide +kernel
theorem kb_En_spread_18 : decode prog_3_method_9_code 18 = .ok (.istore_n 3, 1) := by decide +kernel
theorem kb_En_spread_19 : decode prog_3_method_9_code 19 = .ok (.iload_n 3, 1) := by decide +kernel
theorem kb_En_spread_20 : decode prog_3_method_9_code 20 = .ok (.aload_n 0, 1) := by decide +kernel
theorem kb_En_spread_21 : decode prog_3_method_9_code 21 = .ok (.getfield 27, 3) := by decide +kernel
theorem kb_En_spread_24 : decode prog_3_method_9_code 24 = .ok (.getfield 76, 3) := by decide +kernel
theorem kb_En_spread_27 : decode prog_3_method_9_code 27 = .ok (.if_icmp .ge 131, 3) := by decide +kernel
theorem kb_En_spread_30 : decode prog_3_method_9_code 30 = .ok (.aload_n 0, 1) := by decide +kernel
theorem kb_En_spread_31 : decode prog_3_method_9_code 31 = .ok (.aload_n 0, 1) := by decide +kernel
theorem kb_En_spread_32 : decode prog_3_method_9_code 32 = .ok (.getfield 27, 3) := by decide +kernel
theorem kb_En_spread_35 : decode prog_3_method_9_code 35 = .ok (.getfield 89, 3) := by decide +kernel
theorem kb_En_spread_38 : decode prog_3_method_9_code 38 = .ok (.iload_n 3, 1) := by decide +kernel
theorem kb_En_spread_39 : decode prog_3_method_9_code 39 = .ok (.aaload, 1) := by decide +kernel
theorem kb_En_spread_40 : decode prog_3_method_9_code 40 = .ok (.putfield 34, 3) := by decide +kernel
theorem kb_En_spread_43 : decode prog_3_method_9_code 43 = .ok (.iconst 0, 1) := by decide +kernel
theorem kb_En_spread_44 : decode prog_3_method_9_code 44 = .ok (.istore 4, 2) := by decide +kernel
theorem kb_En_spread_46 : decode prog_3_method_9_code 46 = .ok (.iload 4, 2) := by decide +kernel
theorem kb_En_spread_48 : decode prog_3_method_9_code 48 = .ok (.aload_n 0, 1) := by decide +kernel
theorem kb_En_spread_49 : decode prog_3_method_9_code 49 = .ok (.getfield 34, 3) := by decide +kernel
theorem kb_En_spread_52 : decode prog_3_method_9_code 52 = .ok (.getfield 124, 3) := by decide +kernel
theorem kb_En_spread_55 : decode prog_3_method_9_code 55 = .ok (.if_icmp .ge 97, 3) := by decide +kernel
theorem kb_En_spread_58 : decode prog_3_method_9_code 58 = .ok (.aload_n 0, 1) := by decide +kernel
theorem kb_En_spread_59 : decode prog_3_method_9_code 59 = .ok (.getfield 27, 3) := by decide +kernel
theorem kb_En_spread_62 : decode prog_3_method_9_code 62 = .ok (.getfield 112, 3) := by decide +kernel
theorem kb_En_spread_65 : decode prog_3_method_9_code 65 = .ok (.aload_n 0, 1) := by decide +kernel
theorem kb_En_spread_66 : decode prog_3_method_9_code 66 = .ok (.getfield 34, 3) := by decide +kernel
theorem kb_En_spread_69 : decode prog_3_method_9_code 69 = .ok (.getfield 96, 3) := by decide +kernel
theorem kb_En_spread_72 : decode prog_3_method_9_code 72 = .ok (.getfield 100, 3) := by decide +kernel
theorem kb_En_spread_75 : decode prog_3_method_9_code 75 = .ok (.iaload, 1) := by decide +kernel
theorem kb_En_spread_76 : decode prog_3_method_9_code 76 = .ok (.iload_n 1, 1) := by decide +kernel
theorem kb_En_spread_77 : decode prog_3_method_9_code 77 = .ok (.if_icmp .ne 75, 3) := by decide +kernel
theorem kb_En_spread_80 : decode prog_3_method_9_code 80 = .ok (.aload_n 0, 1) := by decide +kernel
theorem kb_En_spread_81 : decode prog_3_method_9_code 81 = .ok (.getfield 62, 3) := by decide +kernel
theorem kb_En_spread_84 : decode prog_3_method_9_code 84 = .ok (.ifCond .ne 68, 3) := by decide +kernel
theorem kb_En_spread_87 : decode prog_3_method_9_code 87 = .ok (.aload_n 0, 1) := by decide +kernel
theorem kb_En_spread_88 : decode prog_3_method_9_code 88 = .ok (.getfield 34, 3) := by decide +kernel
theorem kb_En_spread_91 : decode prog_3_method_9_code 91 = .ok (.getfield 125, 3) := by decide +kernel
theorem kb_En_spread_94 : decode prog_3_method_9_code 94 = .ok (.iload 4, 2) := by decide +kernel
theorem kb_En_spread_96 : decode prog_3_method_9_code 96 = .ok (.aaload, 1) := by decide +kernel
theorem kb_En_spread_97 : decode prog_3_method_9_code 97 = .ok (.astore 5, 2) := by decide +kernel
theorem kb_En_spread_99 : decode prog_3_method_9_code 99 = .ok (.aload_n 0, 1) := by decide +kernel
theorem kb_En_spread_100 : decode prog_3_method_9_code 100 = .ok (.iconst 0, 1) := by decide +kernel
theorem kb_En_spread_101 : decode prog_3_method_9_code 101 = .ok (.putfield 93, 3) := by decide +kernel
theorem kb_En_spread_104 : decode prog_3_method_9_code 104 = .ok (.aload 5, 2) := by decide +kernel
theorem kb_En_spread_106 : decode prog_3_method_9_code 106 = .ok (.getfield 129, 3) := by decide +kernel
theorem kb_En_spread_109 : decode prog_3_method_9_code 109 = .ok (.ifCond .ne 37, 3) := by decide +kernel
theorem kb_En_spread_112 : decode prog_3_method_9_code 112 = .ok (.aload 5, 2) := by decide +kernel
theorem kb_En_spread_114 : decode prog_3_method_9_code 114 = .ok (.getfield 100, 3) := by decide +kernel
theorem kb_En_spread_117 : decode prog_3_method_9_code 117 = .ok (.aload_n 0, 1) := by decide +kernel
theorem kb_En_spread_118 : decode prog_3_method_9_code 118 = .ok (.getfield 18, 3) := by decide +kernel
theorem kb_En_spread_121 : decode prog_3_method_9_code 121 = .ok (.iload_n 2, 1) := by decide +kernel
theorem kb_En_spread_122 : decode prog_3_method_9_code 122 = .ok (.iaload, 1) := by decide +kernel
theorem kb_En_spread_123 : decode prog_3_method_9_code 123 = .ok (.if_icmp .ne 23, 3) := by decide +kernel
theorem kb_En_spread_126 : decode prog_3_method_9_code 126 = .ok (.aload_n 0, 1) := by decide +kernel
theorem kb_En_spread_127 : decode prog_3_method_9_code 127 = .ok (.aload 5, 2) := by decide +kernel
theorem kb_En_spread_129 : decode prog_3_method_9_code 129 = .ok (.aload_n 0, 1) := by decide +kernel
theorem kb_En_spread_130 : decode prog_3_method_9_code 130 = .ok (.getfield 21, 3) := by decide +kernel
theorem kb_En_spread_133 : decode prog_3_method_9_code 133 = .ok (.iload_n 2, 1) := by decide +kernel
theorem kb_En_spread_134 : decode prog_3_method_9_code 134 = .ok (.iaload, 1) := by decide +kernel
theorem kb_En_spread_135 : decode prog_3_method_9_code 135 = .ok (.invokevirtual 105, 3) := by decide +kernel
theorem kb_En_spread_138 : decode prog_3_method_9_code 138 = .ok (.ifCond .eq 8, 3) := by decide +kernel
theorem kb_En_spread_141 : decode prog_3_method_9_code 141 = .ok (.aload_n 0, 1) := by decide +kernel
theorem kb_En_spread_142 : decode prog_3_method_9_code 142 = .ok (.iconst 0, 1) := by decide +kernel
theorem kb_En_spread_143 : decode prog_3_method_9_code 143 = .ok (.invokevirtual 109, 3) := by decide +kernel
theorem kb_En_spread_146 : decode prog_3_method_9_code 146 = .ok (.iinc 4 1, 3) := by decide +kernel
theorem kb_En_spread_149 : decode prog_3_method_9_code 149 = .ok (.goto (-103), 3) := by decide +kernel
theorem kb_En_spread_152 : decode prog_3_method_9_code 152 = .ok (.iinc 3 1, 3) := by decide +kernel
theorem kb_En_spread_155 : decode prog_3_method_9_code 155 = .ok (.goto (-136), 3) := by decide +kernel
theorem kb_En_spread_158 : decode prog_3_method_9_code 158 = .ok (.iinc 2 1, 3) := by decide +kernel
theorem kb_En_spread_161 : decode prog_3_method_9_code 161 = .ok (.goto (-159), 3) := by decide +kernel
theorem kb_En_spread_164 : decode prog_3_method_9_code 164 = .ok (.return_, 1) := by decide +kernel
theorem kb_En_solve_0 : decode prog_3_method_10_code 0 = .ok (.aload_n 0, 1) := by decide +kernel
theorem kb_En_solve_1 : decode prog_3_method_10_code 1 = .ok (.getfield 62, 3) := by decide +kernel
theorem kb_En_solve_4 : decode prog_3_method_10_code 4 = .ok (.ifCond .ne 10, 3) := by decide +kernel
theorem kb_En_solve_7 : decode prog_3_method_10_code 7 = .ok (.aload_n 0, 1) := by decide +kernel
theorem kb_En_solve_8 : decode prog_3_method_10_code 8 = .ok (.invokevirtual 132, 3) := by decide +kernel
theorem kb_En_solve_11 : decode prog_3_method_10_code 11 = .ok (.ifCond .eq 4, 3) := by decide +kernel
theorem kb_En_solve_14 : decode prog_3_method_10_code 14 = .ok (.return_, 1) := by decide +kernel
theorem kb_En_solve_15 : decode prog_3_method_10_code 15 = .ok (.iload_n 1, 1) := by decide +kernel
theorem kb_En_solve_16 : decode prog_3_method_10_code 16 = .ok (.aload_n 0, 1) := by decide +kernel
theorem kb_En_solve_17 : decode prog_3_method_10_code 17 = .ok (.getfield 34, 3) := by decide +kernel
theorem kb_En_solve_20 : decode prog_3_method_10_code 20 = .ok (.getfield 124, 3) := by decide +kernel
theorem kb_En_solve_23 : decode prog_3_method_10_code 23 = .ok (.if_icmp .ge 8, 3) := by decide +kernel
theorem kb_En_solve_26 : decode prog_3_method_10_code 26 = .ok (.iload_n 1, 1) := by decide +kernel
theorem kb_En_solve_27 : decode prog_3_method_10_code 27 = .ok (.iconst 5, 1) := by decide +kernel
theorem kb_En_solve_28 : decode prog_3_method_10_code 28 = .ok (.if_icmp .lt 8, 3) := by decide +kernel
theorem kb_En_solve_31 : decode prog_3_method_10_code 31 = .ok (.aload_n 0, 1) := by decide +kernel
theorem kb_En_solve_32 : decode prog_3_method_10_code 32 = .ok (.invokevirtual 136, 3) := by decide +kernel
theorem kb_En_solve_35 : decode prog_3_method_10_code 35 = .ok (.return_, 1) := by decide +kernel
theorem kb_En_solve_36 : decode prog_3_method_10_code 36 = .ok (.aload_n 0, 1) := by decide +kernel
theorem kb_En_solve_37 : decode prog_3_method_10_code 37 = .ok (.getfield 34, 3) := by decide +kernel
theorem kb_En_solve_40 : decode prog_3_method_10_code 40 = .ok (.getfield 125, 3) := by decide +kernel
theorem kb_En_solve_43 : decode prog_3_method_10_code 43 = .ok (.iload_n 1, 1) := by decide +kernel
theorem kb_En_solve_44 : decode prog_3_method_10_code 44 = .ok (.aaload, 1) := by decide +kernel
theorem kb_En_solve_45 : decode prog_3_method_10_code 45 = .ok (.astore_n 2, 1) := by decide +kernel
theorem kb_En_solve_46 : decode prog_3_method_10_code 46 = .ok (.aload_n 2, 1) := by decide +kernel
theorem kb_En_solve_47 : decode prog_3_method_10_code 47 = .ok (.getfield 129, 3) := by decide +kernel
theorem kb_En_solve_50 : decode prog_3_method_10_code 50 = .ok (.ifCond .eq 19, 3) := by decide +kernel
theorem kb_En_solve_53 : decode prog_3_method_10_code 53 = .ok (.aload_n 0, 1) := by decide +kernel
theorem kb_En_solve_54 : decode prog_3_method_10_code 54 = .ok (.aload_n 2, 1) := by decide +kernel
theorem kb_En_solve_55 : decode prog_3_method_10_code 55 = .ok (.invokevirtual 139, 3) := by decide +kernel
theorem kb_En_solve_58 : decode prog_3_method_10_code 58 = .ok (.ifCond .eq 10, 3) := by decide +kernel
theorem kb_En_solve_61 : decode prog_3_method_10_code 61 = .ok (.aload_n 0, 1) := by decide +kernel
theorem kb_En_solve_62 : decode prog_3_method_10_code 62 = .ok (.iload_n 1, 1) := by decide +kernel
theorem kb_En_solve_63 : decode prog_3_method_10_code 63 = .ok (.iconst 1, 1) := by decide +kernel
theorem kb_En_solve_64 : decode prog_3_method_10_code 64 = .ok (.iadd, 1) := by decide +kernel
theorem kb_En_solve_65 : decode prog_3_method_10_code 65 = .ok (.invokevirtual 109, 3) := by decide +kernel
theorem kb_En_solve_68 : decode prog_3_method_10_code 68 = .ok (.return_, 1) := by decide +kernel
theorem kb_En_solve_69 : decode prog_3_method_10_code 69 = .ok (.aload_n 0, 1) := by decide +kernel
theorem kb_En_solve_70 : decode prog_3_method_10_code 70 = .ok (.getfield 40, 3) := by decide +kernel
theorem kb_En_solve_73 : decode prog_3_method_10_code 73 = .ok (.aload_n 2, 1) := by decide +kernel
theorem kb_En_solve_74 : decode prog_3_method_10_code 74 = .ok (.getfield 100, 3) := by decide +kernel
theorem kb_En_solve_77 : decode prog_3_method_10_code 77 = .ok (.aaload, 1) := by decide +kernel
theorem kb_En_solve_78 : decode prog_3_method_10_code 78 = .ok (.astore_n 3, 1) := by decide +kernel
theorem kb_En_solve_79 : decode prog_3_method_10_code 79 = .ok (.aload_n 0, 1) := by decide +kernel
theorem kb_En_solve_80 : decode prog_3_method_10_code 80 = .ok (.getfield 93, 3) := by decide +kernel
theorem kb_En_solve_83 : decode prog_3_method_10_code 83 = .ok (.istore 4, 2) := by decide +kernel
theorem kb_En_solve_85 : decode prog_3_method_10_code 85 = .ok (.iconst 0, 1) := by decide +kernel
theorem kb_En_solve_86 : decode prog_3_method_10_code 86 = .ok (.istore 5, 2) := by decide +kernel
theorem kb_En_solve_88 : decode prog_3_method_10_code 88 = .ok (.ldc 143, 2) := by decide +kernel
theorem kb_En_solve_90 : decode prog_3_method_10_code 90 = .ok (.istore 6, 2) := by decide +kernel
theorem kb_En_solve_92 : decode prog_3_method_10_code 92 = .ok (.iconst 0, 1) := by decide +kernel
theorem kb_En_solve_93 : decode prog_3_method_10_code 93 = .ok (.istore 7, 2) := by decide +kernel
theorem kb_En_solve_95 : decode prog_3_method_10_code 95 = .ok (.iload 7, 2) := by decide +kernel
theorem kb_En_solve_97 : decode prog_3_method_10_code 97 = .ok (.aload_n 2, 1) := by decide +kernel
theorem kb_En_solve_98 : decode prog_3_method_10_code 98 = .ok (.getfield 144, 3) := by decide +kernel
theorem kb_En_solve_101 : decode prog_3_method_10_code 101 = .ok (.if_icmp .ge 49, 3) := by decide +kernel
theorem kb_En_solve_104 : decode prog_3_method_10_code 104 = .ok (.aload_n 0, 1) := by decide +kernel
theorem kb_En_solve_105 : decode prog_3_method_10_code 105 = .ok (.aload_n 2, 1) := by decide +kernel
theorem kb_En_solve_106 : decode prog_3_method_10_code 106 = .ok (.getfield 145, 3) := by decide +kernel
theorem kb_En_solve_109 : decode prog_3_method_10_code 109 = .ok (.iload 7, 2) := by decide +kernel
theorem kb_En_solve_111 : decode prog_3_method_10_code 111 = .ok (.iaload, 1) := by decide +kernel
theorem kb_En_solve_112 : decode prog_3_method_10_code 112 = .ok (.invokevirtual 148, 3) := by decide +kernel
theorem kb_En_solve_115 : decode prog_3_method_10_code 115 = .ok (.ifCond .eq 35, 3) := by decide +kernel
theorem kb_En_solve_118 : decode prog_3_method_10_code 118 = .ok (.iload 7, 2) := by decide +kernel
theorem kb_En_solve_120 : decode prog_3_method_10_code 120 = .ok (.invokestatic 151, 3) := by decide +kernel
theorem kb_En_solve_123 : decode prog_3_method_10_code 123 = .ok (.istore 6, 2) := by decide +kernel
theorem kb_En_solve_125 : decode prog_3_method_10_code 125 = .ok (.iload 5, 2) := by decide +kernel
theorem kb_En_solve_127 : decode prog_3_method_10_code 127 = .ok (.aload_n 0, 1) := by decide +kernel
theorem kb_En_solve_128 : decode prog_3_method_10_code 128 = .ok (.aload_n 2, 1) := by decide +kernel
theorem kb_En_solve_129 : decode prog_3_method_10_code 129 = .ok (.getfield 145, 3) := by decide +kernel
theorem kb_En_solve_132 : decode prog_3_method_10_code 132 = .ok (.iload 7, 2) := by decide +kernel
theorem kb_En_solve_134 : decode prog_3_method_10_code 134 = .ok (.iaload, 1) := by decide +kernel
theorem kb_En_solve_135 : decode prog_3_method_10_code 135 = .ok (.invokevirtual 155, 3) := by decide +kernel
theorem kb_En_solve_138 : decode prog_3_method_10_code 138 = .ok (.iload 6, 2) := by decide +kernel
theorem kb_En_solve_140 : decode prog_3_method_10_code 140 = .ok (.imul, 1) := by decide +kernel
theorem kb_En_solve_141 : decode prog_3_method_10_code 141 = .ok (.iadd, 1) := by decide +kernel
theorem kb_En_solve_142 : decode prog_3_method_10_code 142 = .ok (.istore 5, 2) := by decide +kernel
theorem kb_En_solve_144 : decode prog_3_method_10_code 144 = .ok (.iinc 7 1, 3) := by decide +kernel
theorem kb_En_solve_147 : decode prog_3_method_10_code 147 = .ok (.goto (-52), 3) := by decide +kernel
theorem kb_En_solve_150 : decode prog_3_method_10_code 150 = .ok (.aload_n 3, 1) := by decide +kernel
theorem kb_En_solve_151 : decode prog_3_method_10_code 151 = .ok (.iload 5, 2) := by decide +kernel
theorem kb_En_solve_153 : decode prog_3_method_10_code 153 = .ok (.invokevirtual 158, 3) := by decide +kernel
theorem kb_En_solve_156 : decode prog_3_method_10_code 156 = .ok (.istore 7, 2) := by decide +kernel
theorem kb_En_solve_158 : decode prog_3_method_10_code 158 = .ok (.iload 7, 2) := by decide +kernel
theorem kb_En_solve_160 : decode prog_3_method_10_code 160 = .ok (.aload_n 3, 1) := by decide +kernel
theorem kb_En_solve_161 : decode prog_3_method_10_code 161 = .ok (.getfield 56, 3) := by decide +kernel
theorem kb_En_solve_164 : decode prog_3_method_10_code 164 = .ok (.if_icmp .ge 59, 3) := by decide +kernel
theorem kb_En_solve_167 : decode prog_3_method_10_code 167 = .ok (.iload 7, 2) := by decide +kernel
theorem kb_En_solve_169 : decode prog_3_method_10_code 169 = .ok (.bipush 100, 2) := by decide +kernel
theorem kb_En_solve_171 : decode prog_3_method_10_code 171 = .ok (.if_icmp .ge 52, 3) := by decide +kernel
theorem kb_En_solve_174 : decode prog_3_method_10_code 174 = .ok (.aload_n 3, 1) := by decide +kernel
theorem kb_En_solve_175 : decode prog_3_method_10_code 175 = .ok (.getfield 161, 3) := by decide +kernel
theorem kb_En_solve_178 : decode prog_3_method_10_code 178 = .ok (.iload 7, 2) := by decide +kernel
theorem kb_En_solve_180 : decode prog_3_method_10_code 180 = .ok (.iaload, 1) := by decide +kernel
theorem kb_En_solve_181 : decode prog_3_method_10_code 181 = .ok (.iload 5, 2) := by decide +kernel
theorem kb_En_solve_183 : decode prog_3_method_10_code 183 = .ok (.isub, 1) := by decide +kernel
theorem kb_En_solve_184 : decode prog_3_method_10_code 184 = .ok (.iload 6, 2) := by decide +kernel
theorem kb_En_solve_186 : decode prog_3_method_10_code 186 = .ok (.if_icmp .ge 37, 3) := by decide +kernel
theorem kb_En_solve_189 : decode prog_3_method_10_code 189 = .ok (.aload_n 0, 1) := by decide +kernel
theorem kb_En_solve_190 : decode prog_3_method_10_code 190 = .ok (.aload_n 2, 1) := by decide +kernel
theorem kb_En_solve_191 : decode prog_3_method_10_code 191 = .ok (.aload_n 3, 1) := by decide +kernel
theorem kb_En_solve_192 : decode prog_3_method_10_code 192 = .ok (.getfield 161, 3) := by decide +kernel
theorem kb_En_solve_195 : decode prog_3_method_10_code 195 = .ok (.iload 7, 2) := by decide +kernel
theorem kb_En_solve_197 : decode prog_3_method_10_code 197 = .ok (.iaload, 1) := by decide +kernel
theorem kb_En_solve_198 : decode prog_3_method_10_code 198 = .ok (.invokevirtual 105, 3) := by decide +kernel
theorem kb_En_solve_201 : decode prog_3_method_10_code 201 = .ok (.ifCond .eq 10, 3) := by decide +kernel
theorem kb_En_solve_204 : decode prog_3_method_10_code 204 = .ok (.aload_n 0, 1) := by decide +kernel
theorem kb_En_solve_205 : decode prog_3_method_10_code 205 = .ok (.iload_n 1, 1) := by decide +kernel
theorem kb_En_solve_206 : decode prog_3_method_10_code 206 = .ok (.iconst 1, 1) := by decide +kernel
theorem kb_En_solve_207 : decode prog_3_method_10_code 207 = .ok (.iadd, 1) := by decide +kernel
theorem kb_En_solve_208 : decode prog_3_method_10_code 208 = .ok (.invokevirtual 109, 3) := by decide +kernel
theorem kb_En_solve_211 : decode prog_3_method_10_code 211 = .ok (.aload_n 0, 1) := by decide +kernel
theorem kb_En_solve_212 : decode prog_3_method_10_code 212 = .ok (.iload 4, 2) := by decide +kernel
theorem kb_En_solve_214 : decode prog_3_method_10_code 214 = .ok (.putfield 93, 3) := by decide +kernel
theorem kb_En_solve_217 : decode prog_3_method_10_code 217 = .ok (.iinc 7 1, 3) := by decide +kernel
theorem kb_En_solve_220 : decode prog_3_method_10_code 220 = .ok (.goto (-62), 3) := by decide +kernel
theorem kb_En_solve_223 : decode prog_3_method_10_code 223 = .ok (.return_, 1) := by decide +kernel
theorem kb_En_isNothingNew_0 : decode prog_3_method_11_code 0 = .ok (.aload_n 0, 1) := by decide +kernel
theorem kb_En_isNothingNew_1 : decode prog_3_method_11_code 1 = .ok (.getfield 34, 3) := by decide +kernel
theorem kb_En_isNothingNew_4 : decode prog_3_method_11_code 4 = .ok (.getfield 96, 3) := by decide +kernel
theorem kb_En_isNothingNew_7 : decode prog_3_method_11_code 7 = .ok (.astore_n 1, 1) := by decide +kernel
theorem kb_En_isNothingNew_8 : decode prog_3_method_11_code 8 = .ok (.aload_n 0, 1) := by decide +kernel
theorem kb_En_isNothingNew_9 : decode prog_3_method_11_code 9 = .ok (.getfield 86, 3) := by decide +kernel
theorem kb_En_isNothingNew_12 : decode prog_3_method_11_code 12 = .ok (.ifCond .ne 27, 3) := by decide +kernel
theorem kb_En_isNothingNew_15 : decode prog_3_method_11_code 15 = .ok (.aload_n 0, 1) := by decide +kernel
theorem kb_En_isNothingNew_16 : decode prog_3_method_11_code 16 = .ok (.getfield 34, 3) := by decide +kernel
theorem kb_En_isNothingNew_19 : decode prog_3_method_11_code 19 = .ok (.getfield 118, 3) := by decide +kernel
theorem kb_En_isNothingNew_22 : decode prog_3_method_11_code 22 = .ok (.ifCond .ne 17, 3) := by decide +kernel
theorem kb_En_isNothingNew_25 : decode prog_3_method_11_code 25 = .ok (.aload_n 1, 1) := by decide +kernel
theorem kb_En_isNothingNew_26 : decode prog_3_method_11_code 26 = .ok (.getfield 164, 3) := by decide +kernel
theorem kb_En_isNothingNew_29 : decode prog_3_method_11_code 29 = .ok (.aload_n 0, 1) := by decide +kernel
theorem kb_En_isNothingNew_30 : decode prog_3_method_11_code 30 = .ok (.getfield 93, 3) := by decide +kernel
theorem kb_En_isNothingNew_33 : decode prog_3_method_11_code 33 = .ok (.iconst (-1), 1) := by decide +kernel
theorem kb_En_isNothingNew_34 : decode prog_3_method_11_code 34 = .ok (.ixor, 1) := by decide +kernel
theorem kb_En_isNothingNew_35 : decode prog_3_method_11_code 35 = .ok (.iand, 1) := by decide +kernel
theorem kb_En_isNothingNew_36 : decode prog_3_method_11_code 36 = .ok (.ifCond .eq 5, 3) := by decide +kernel
theorem kb_En_isNothingNew_39 : decode prog_3_method_11_code 39 = .ok (.iconst 0, 1) := by decide +kernel
theorem kb_En_isNothingNew_40 : decode prog_3_method_11_code 40 = .ok (.ireturn, 1) := by decide +kernel
theorem kb_En_isNothingNew_41 : decode prog_3_method_11_code 41 = .ok (.aload_n 0, 1) := by decide +kernel
theorem kb_En_isNothingNew_42 : decode prog_3_method_11_code 42 = .ok (.getfield 40, 3) := by decide +kernel
theorem kb_En_isNothingNew_45 : decode prog_3_method_11_code 45 = .ok (.aload_n 1, 1) := by decide +kernel
theorem kb_En_isNothingNew_46 : decode prog_3_method_11_code 46 = .ok (.getfield 100, 3) := by decide +kernel
theorem kb_En_isNothingNew_49 : decode prog_3_method_11_code 49 = .ok (.aaload, 1) := by decide +kernel
theorem kb_En_isNothingNew_50 : decode prog_3_method_11_code 50 = .ok (.aload_n 0, 1) := by decide +kernel
theorem kb_En_isNothingNew_51 : decode prog_3_method_11_code 51 = .ok (.aload_n 1, 1) := by decide +kernel
theorem kb_En_isNothingNew_52 : decode prog_3_method_11_code 52 = .ok (.invokevirtual 167, 3) := by decide +kernel
theorem kb_En_isNothingNew_55 : decode prog_3_method_11_code 55 = .ok (.invokevirtual 171, 3) := by decide +kernel
theorem kb_En_isNothingNew_58 : decode prog_3_method_11_code 58 = .ok (.ifCond .le 7, 3) := by decide +kernel
theorem kb_En_isNothingNew_61 : decode prog_3_method_11_code 61 = .ok (.iconst 1, 1) := by decide +kernel
theorem kb_En_isNothingNew_62 : decode prog_3_method_11_code 62 = .ok (.goto 4, 3) := by decide +kernel
theorem kb_En_isNothingNew_65 : decode prog_3_method_11_code 65 = .ok (.iconst 0, 1) := by decide +kernel
theorem kb_En_isNothingNew_66 : decode prog_3_method_11_code 66 = .ok (.ireturn, 1) := by decide +kernel
theorem kb_En_found_0 : decode prog_3_method_12_code 0 = .ok (.aload_n 0, 1) := by decide +kernel
theorem kb_En_found_1 : decode prog_3_method_12_code 1 = .ok (.getfield 86, 3) := by decide +kernel
theorem kb_En_found_4 : decode prog_3_method_12_code 4 = .ok (.ifCond .ne 89, 3) := by decide +kernel
theorem kb_En_found_7 : decode prog_3_method_12_code 7 = .ok (.aload_n 0, 1) := by decide +kernel
theorem kb_En_found_8 : decode prog_3_method_12_code 8 = .ok (.getfield 40, 3) := by decide +kernel
theorem kb_En_found_11 : decode prog_3_method_12_code 11 = .ok (.aload_n 0, 1) := by decide +kernel
theorem kb_En_found_12 : decode prog_3_method_12_code 12 = .ok (.getfield 34, 3) := by decide +kernel
theorem kb_En_found_15 : decode prog_3_method_12_code 15 = .ok (.getfield 96, 3) := by decide +kernel
theorem kb_En_found_18 : decode prog_3_method_12_code 18 = .ok (.getfield 100, 3) := by decide +kernel
theorem kb_En_found_21 : decode prog_3_method_12_code 21 = .ok (.aaload, 1) := by decide +kernel
theorem kb_En_found_22 : decode prog_3_method_12_code 22 = .ok (.astore_n 1, 1) := by decide +kernel
theorem kb_En_found_23 : decode prog_3_method_12_code 23 = .ok (.aload_n 0, 1) := by decide +kernel
theorem kb_En_found_24 : decode prog_3_method_12_code 24 = .ok (.aload_n 0, 1) := by decide +kernel
theorem kb_En_found_25 : decode prog_3_method_12_code 25 = .ok (.getfield 34, 3) := by decide +kernel
theorem kb_En_found_28 : decode prog_3_method_12_code 28 = .ok (.getfield 96, 3) := by decide +kernel
theorem kb_En_found_31 : decode prog_3_method_12_code 31 = .ok (.invokevirtual 167, 3) := by decide +kernel
theorem kb_En_found_34 : decode prog_3_method_12_code 34 = .ok (.istore_n 2, 1) := by decide +kernel
theorem kb_En_found_35 : decode prog_3_method_12_code 35 = .ok (.aload_n 1, 1) := by decide +kernel
theorem kb_En_found_36 : decode prog_3_method_12_code 36 = .ok (.iload_n 2, 1) := by decide +kernel
theorem kb_En_found_37 : decode prog_3_method_12_code 37 = .ok (.iconst 1, 1) := by decide +kernel
theorem kb_En_found_38 : decode prog_3_method_12_code 38 = .ok (.invokevirtual 174, 3) := by decide +kernel
theorem kb_En_found_41 : decode prog_3_method_12_code 41 = .ok (.istore_n 3, 1) := by decide +kernel
theorem kb_En_found_42 : decode prog_3_method_12_code 42 = .ok (.aload_n 0, 1) := by decide +kernel
theorem kb_En_found_43 : decode prog_3_method_12_code 43 = .ok (.aload_n 1, 1) := by decide +kernel
theorem kb_En_found_44 : decode prog_3_method_12_code 44 = .ok (.getfield 56, 3) := by decide +kernel
theorem kb_En_found_47 : decode prog_3_method_12_code 47 = .ok (.bipush 40, 2) := by decide +kernel
theorem kb_En_found_49 : decode prog_3_method_12_code 49 = .ok (.if_icmp .gt 10, 3) := by decide +kernel
theorem kb_En_found_52 : decode prog_3_method_12_code 52 = .ok (.iload_n 3, 1) := by decide +kernel
theorem kb_En_found_53 : decode prog_3_method_12_code 53 = .ok (.sipush 999, 3) := by decide +kernel
theorem kb_En_found_56 : decode prog_3_method_12_code 56 = .ok (.if_icmp .le 7, 3) := by decide +kernel
theorem kb_En_found_59 : decode prog_3_method_12_code 59 = .ok (.iconst 1, 1) := by decide +kernel
theorem kb_En_found_60 : decode prog_3_method_12_code 60 = .ok (.goto 4, 3) := by decide +kernel
theorem kb_En_found_63 : decode prog_3_method_12_code 63 = .ok (.iconst 0, 1) := by decide +kernel
theorem kb_En_found_64 : decode prog_3_method_12_code 64 = .ok (.putfield 62, 3) := by decide +kernel
theorem kb_En_found_67 : decode prog_3_method_12_code 67 = .ok (.aload_n 0, 1) := by decide +kernel
theorem kb_En_found_68 : decode prog_3_method_12_code 68 = .ok (.getfield 34, 3) := by decide +kernel
theorem kb_En_found_71 : decode prog_3_method_12_code 71 = .ok (.getfield 118, 3) := by decide +kernel
theorem kb_En_found_74 : decode prog_3_method_12_code 74 = .ok (.ifCond .ne 18, 3) := by decide +kernel
theorem kb_En_found_77 : decode prog_3_method_12_code 77 = .ok (.aload_n 0, 1) := by decide +kernel
theorem kb_En_found_78 : decode prog_3_method_12_code 78 = .ok (.aload_n 0, 1) := by decide +kernel
theorem kb_En_found_79 : decode prog_3_method_12_code 79 = .ok (.getfield 34, 3) := by decide +kernel
theorem kb_En_found_82 : decode prog_3_method_12_code 82 = .ok (.getfield 96, 3) := by decide +kernel
theorem kb_En_found_85 : decode prog_3_method_12_code 85 = .ok (.getfield 100, 3) := by decide +kernel
theorem kb_En_found_88 : decode prog_3_method_12_code 88 = .ok (.iload_n 2, 1) := by decide +kernel
theorem kb_En_found_89 : decode prog_3_method_12_code 89 = .ok (.invokevirtual 178, 3) := by decide +kernel
theorem kb_En_found_92 : decode prog_3_method_12_code 92 = .ok (.return_, 1) := by decide +kernel
theorem kb_En_found_93 : decode prog_3_method_12_code 93 = .ok (.aload_n 0, 1) := by decide +kernel
theorem kb_En_found_94 : decode prog_3_method_12_code 94 = .ok (.dup, 1) := by decide +kernel
theorem kb_En_found_95 : decode prog_3_method_12_code 95 = .ok (.getfield 83, 3) := by decide +kernel
theorem kb_En_found_98 : decode prog_3_method_12_code 98 = .ok (.iconst 1, 1) := by decide +kernel
theorem kb_En_found_99 : decode prog_3_method_12_code 99 = .ok (.iadd, 1) := by decide +kernel
theorem kb_En_found_100 : decode prog_3_method_12_code 100 = .ok (.putfield 83, 3) := by decide +kernel
theorem kb_En_found_103 : decode prog_3_method_12_code 103 = .ok (.aload_n 0, 1) := by decide +kernel
theorem kb_En_found_104 : decode prog_3_method_12_code 104 = .ok (.getfield 86, 3) := by decide +kernel
theorem kb_En_found_107 : decode prog_3_method_12_code 107 = .ok (.iconst 2, 1) := by decide +kernel
theorem kb_En_found_108 : decode prog_3_method_12_code 108 = .ok (.if_icmp .ne 22, 3) := by decide +kernel
theorem kb_En_found_111 : decode prog_3_method_12_code 111 = .ok (.aload_n 0, 1) := by decide +kernel
theorem kb_En_found_112 : decode prog_3_method_12_code 112 = .ok (.getfield 83, 3) := by decide +kernel
theorem kb_En_found_115 : decode prog_3_method_12_code 115 = .ok (.iconst 1, 1) := by decide +kernel
theorem kb_En_found_116 : decode prog_3_method_12_code 116 = .ok (.if_icmp .eq 10, 3) := by decide +kernel
theorem kb_En_found_119 : decode prog_3_method_12_code 119 = .ok (.aload_n 0, 1) := by decide +kernel
theorem kb_En_found_120 : decode prog_3_method_12_code 120 = .ok (.invokevirtual 182, 3) := by decide +kernel
theorem kb_En_found_123 : decode prog_3_method_12_code 123 = .ok (.ifCond .eq 7, 3) := by decide +kernel
theorem kb_En_found_126 : decode prog_3_method_12_code 126 = .ok (.aload_n 0, 1) := by decide +kernel
theorem kb_En_found_127 : decode prog_3_method_12_code 127 = .ok (.invokevirtual 185, 3) := by decide +kernel
theorem kb_En_found_130 : decode prog_3_method_12_code 130 = .ok (.return_, 1) := by decide +kernel
theorem kb_En_enqueue_0 : decode prog_3_method_13_code 0 = .ok (.aload_n 0, 1) := by decide +kernel
theorem kb_En_enqueue_1 : decode prog_3_method_13_code 1 = .ok (.getfield 66, 3) := by decide +kernel
theorem kb_En_enqueue_4 : decode prog_3_method_13_code 4 = .ok (.sipush 320, 3) := by decide +kernel
theorem kb_En_enqueue_7 : decode prog_3_method_13_code 7 = .ok (.if_icmp .ge 33, 3) := by decide +kernel
theorem kb_En_enqueue_10 : decode prog_3_method_13_code 10 = .ok (.aload_n 0, 1) := by decide +kernel
theorem kb_En_enqueue_11 : decode prog_3_method_13_code 11 = .ok (.getfield 18, 3) := by decide +kernel
theorem kb_En_enqueue_14 : decode prog_3_method_13_code 14 = .ok (.aload_n 0, 1) := by decide +kernel
theorem kb_En_enqueue_15 : decode prog_3_method_13_code 15 = .ok (.getfield 66, 3) := by decide +kernel
theorem kb_En_enqueue_18 : decode prog_3_method_13_code 18 = .ok (.iload_n 1, 1) := by decide +kernel
theorem kb_En_enqueue_19 : decode prog_3_method_13_code 19 = .ok (.iastore, 1) := by decide +kernel
theorem kb_En_enqueue_20 : decode prog_3_method_13_code 20 = .ok (.aload_n 0, 1) := by decide +kernel
theorem kb_En_enqueue_21 : decode prog_3_method_13_code 21 = .ok (.getfield 21, 3) := by decide +kernel
theorem kb_En_enqueue_24 : decode prog_3_method_13_code 24 = .ok (.aload_n 0, 1) := by decide +kernel
theorem kb_En_enqueue_25 : decode prog_3_method_13_code 25 = .ok (.getfield 66, 3) := by decide +kernel
theorem kb_En_enqueue_28 : decode prog_3_method_13_code 28 = .ok (.iload_n 2, 1) := by decide +kernel
theorem kb_En_enqueue_29 : decode prog_3_method_13_code 29 = .ok (.iastore, 1) := by decide +kernel
theorem kb_En_enqueue_30 : decode prog_3_method_13_code 30 = .ok (.aload_n 0, 1) := by decide +kernel
theorem kb_En_enqueue_31 : decode prog_3_method_13_code 31 = .ok (.dup, 1) := by decide +kernel
theorem kb_En_enqueue_32 : decode prog_3_method_13_code 32 = .ok (.getfield 66, 3) := by decide +kernel
theorem kb_En_enqueue_35 : decode prog_3_method_13_code 35 = .ok (.iconst 1, 1) := by decide +kernel
theorem kb_En_enqueue_36 : decode prog_3_method_13_code 36 = .ok (.iadd, 1) := by decide +kernel
theorem kb_En_enqueue_37 : decode prog_3_method_13_code 37 = .ok (.putfield 66, 3) := by decide +kernel
theorem kb_En_enqueue_40 : decode prog_3_method_13_code 40 = .ok (.return_, 1) := by decide +kernel
theorem kb_En_closeCounts_0 : decode prog_3_method_14_code 0 = .ok (.aload_n 0, 1) := by decide +kernel
theorem kb_En_closeCounts_1 : decode prog_3_method_14_code 1 = .ok (.getfield 40, 3) := by decide +kernel
theorem kb_En_closeCounts_4 : decode prog_3_method_14_code 4 = .ok (.aload_n 0, 1) := by decide +kernel
theorem kb_En_closeCounts_5 : decode prog_3_method_14_code 5 = .ok (.getfield 34, 3) := by decide +kernel
theorem kb_En_closeCounts_8 : decode prog_3_method_14_code 8 = .ok (.getfield 96, 3) := by decide +kernel
theorem kb_En_closeCounts_11 : decode prog_3_method_14_code 11 = .ok (.getfield 100, 3) := by decide +kernel
theorem kb_En_closeCounts_14 : decode prog_3_method_14_code 14 = .ok (.aaload, 1) := by decide +kernel
theorem kb_En_closeCounts_15 : decode prog_3_method_14_code 15 = .ok (.astore_n 1, 1) := by decide +kernel
theorem kb_En_closeCounts_16 : decode prog_3_method_14_code 16 = .ok (.iconst 0, 1) := by decide +kernel
theorem kb_En_closeCounts_17 : decode prog_3_method_14_code 17 = .ok (.istore_n 2, 1) := by decide +kernel
theorem kb_En_closeCounts_18 : decode prog_3_method_14_code 18 = .ok (.iload_n 2, 1) := by decide +kernel
theorem kb_En_closeCounts_19 : decode prog_3_method_14_code 19 = .ok (.aload_n 1, 1) := by decide +kernel
theorem kb_En_closeCounts_20 : decode prog_3_method_14_code 20 = .ok (.getfield 56, 3) := by decide +kernel
theorem kb_En_closeCounts_23 : decode prog_3_method_14_code 23 = .ok (.if_icmp .ge 74, 3) := by decide +kernel
theorem kb_En_closeCounts_26 : decode prog_3_method_14_code 26 = .ok (.aload_n 0, 1) := by decide +kernel
theorem kb_En_closeCounts_27 : decode prog_3_method_14_code 27 = .ok (.getfield 62, 3) := by decide +kernel
theorem kb_En_closeCounts_30 : decode prog_3_method_14_code 30 = .ok (.ifCond .ne 67, 3) := by decide +kernel
theorem kb_En_closeCounts_33 : decode prog_3_method_14_code 33 = .ok (.aload_n 1, 1) := by decide +kernel
theorem kb_En_closeCounts_34 : decode prog_3_method_14_code 34 = .ok (.getfield 161, 3) := by decide +kernel
theorem kb_En_closeCounts_37 : decode prog_3_method_14_code 37 = .ok (.iload_n 2, 1) := by decide +kernel
theorem kb_En_closeCounts_38 : decode prog_3_method_14_code 38 = .ok (.dup2, 1) := by decide +kernel
theorem kb_En_closeCounts_39 : decode prog_3_method_14_code 39 = .ok (.iaload, 1) := by decide +kernel
theorem kb_En_closeCounts_40 : decode prog_3_method_14_code 40 = .ok (.aload_n 1, 1) := by decide +kernel
theorem kb_En_closeCounts_41 : decode prog_3_method_14_code 41 = .ok (.getfield 188, 3) := by decide +kernel
theorem kb_En_closeCounts_44 : decode prog_3_method_14_code 44 = .ok (.iload_n 2, 1) := by decide +kernel
theorem kb_En_closeCounts_45 : decode prog_3_method_14_code 45 = .ok (.iaload, 1) := by decide +kernel
theorem kb_En_closeCounts_46 : decode prog_3_method_14_code 46 = .ok (.aload_n 0, 1) := by decide +kernel
theorem kb_En_closeCounts_47 : decode prog_3_method_14_code 47 = .ok (.getfield 34, 3) := by decide +kernel
theorem kb_En_closeCounts_50 : decode prog_3_method_14_code 50 = .ok (.getfield 96, 3) := by decide +kernel
theorem kb_En_closeCounts_53 : decode prog_3_method_14_code 53 = .ok (.getfield 144, 3) := by decide +kernel
theorem kb_En_closeCounts_56 : decode prog_3_method_14_code 56 = .ok (.iconst 1, 1) := by decide +kernel
theorem kb_En_closeCounts_57 : decode prog_3_method_14_code 57 = .ok (.isub, 1) := by decide +kernel
theorem kb_En_closeCounts_58 : decode prog_3_method_14_code 58 = .ok (.invokestatic 151, 3) := by decide +kernel
theorem kb_En_closeCounts_61 : decode prog_3_method_14_code 61 = .ok (.imul, 1) := by decide +kernel
theorem kb_En_closeCounts_62 : decode prog_3_method_14_code 62 = .ok (.iadd, 1) := by decide +kernel
theorem kb_En_closeCounts_63 : decode prog_3_method_14_code 63 = .ok (.iastore, 1) := by decide +kernel
theorem kb_En_closeCounts_64 : decode prog_3_method_14_code 64 = .ok (.aload_n 1, 1) := by decide +kernel
theorem kb_En_closeCounts_65 : decode prog_3_method_14_code 65 = .ok (.getfield 188, 3) := by decide +kernel
theorem kb_En_closeCounts_68 : decode prog_3_method_14_code 68 = .ok (.iload_n 2, 1) := by decide +kernel
theorem kb_En_closeCounts_69 : decode prog_3_method_14_code 69 = .ok (.iconst 1, 1) := by decide +kernel
theorem kb_En_closeCounts_70 : decode prog_3_method_14_code 70 = .ok (.iastore, 1) := by decide +kernel
theorem kb_En_closeCounts_71 : decode prog_3_method_14_code 71 = .ok (.aload_n 0, 1) := by decide +kernel
theorem kb_En_closeCounts_72 : decode prog_3_method_14_code 72 = .ok (.aload_n 0, 1) := by decide +kernel
theorem kb_En_closeCounts_73 : decode prog_3_method_14_code 73 = .ok (.getfield 34, 3) := by decide +kernel
theorem kb_En_closeCounts_76 : decode prog_3_method_14_code 76 = .ok (.getfield 96, 3) := by decide +kernel
theorem kb_En_closeCounts_79 : decode prog_3_method_14_code 79 = .ok (.getfield 100, 3) := by decide +kernel
theorem kb_En_closeCounts_82 : decode prog_3_method_14_code 82 = .ok (.aload_n 1, 1) := by decide +kernel
theorem kb_En_closeCounts_83 : decode prog_3_method_14_code 83 = .ok (.getfield 161, 3) := by decide +kernel
theorem kb_En_closeCounts_86 : decode prog_3_method_14_code 86 = .ok (.iload_n 2, 1) := by decide +kernel
theorem kb_En_closeCounts_87 : decode prog_3_method_14_code 87 = .ok (.iaload, 1) := by decide +kernel
theorem kb_En_closeCounts_88 : decode prog_3_method_14_code 88 = .ok (.invokevirtual 178, 3) := by decide +kernel
theorem kb_En_closeCounts_91 : decode prog_3_method_14_code 91 = .ok (.iinc 2 1, 3) := by decide +kernel
theorem kb_En_closeCounts_94 : decode prog_3_method_14_code 94 = .ok (.goto (-76), 3) := by decide +kernel
theorem kb_En_closeCounts_97 : decode prog_3_method_14_code 97 = .ok (.return_, 1) := by decide +kernel
theorem kb_En_isLess_0 : decode prog_3_method_15_code 0 = .ok (.iconst 0, 1) := by decide +kernel
theorem kb_En_isLess_1 : decode prog_3_method_15_code 1 = .ok (.istore_n 1, 1) := by decide +kernel
theorem kb_En_isLess_2 : decode prog_3_method_15_code 2 = .ok (.iconst 0, 1) := by decide +kernel
theorem kb_En_isLess_3 : decode prog_3_method_15_code 3 = .ok (.istore_n 2, 1) := by decide +kernel
theorem kb_En_isLess_4 : decode prog_3_method_15_code 4 = .ok (.iload_n 2, 1) := by decide +kernel
theorem kb_En_isLess_5 : decode prog_3_method_15_code 5 = .ok (.bipush 26, 2) := by decide +kernel
theorem kb_En_isLess_7 : decode prog_3_method_15_code 7 = .ok (.if_icmp .ge 68, 3) := by decide +kernel
theorem kb_En_isLess_10 : decode prog_3_method_15_code 10 = .ok (.iload_n 1, 1) := by decide +kernel
theorem kb_En_isLess_11 : decode prog_3_method_15_code 11 = .ok (.bipush 6, 2) := by decide +kernel
theorem kb_En_isLess_13 : decode prog_3_method_15_code 13 = .ok (.if_icmp .ge 62, 3) := by decide +kernel
theorem kb_En_isLess_16 : decode prog_3_method_15_code 16 = .ok (.aload_n 0, 1) := by decide +kernel
theorem kb_En_isLess_17 : decode prog_3_method_15_code 17 = .ok (.getfield 34, 3) := by decide +kernel
theorem kb_En_isLess_20 : decode prog_3_method_15_code 20 = .ok (.getfield 191, 3) := by decide +kernel
theorem kb_En_isLess_23 : decode prog_3_method_15_code 23 = .ok (.iload_n 2, 1) := by decide +kernel
theorem kb_En_isLess_24 : decode prog_3_method_15_code 24 = .ok (.invokestatic 192, 3) := by decide +kernel
theorem kb_En_isLess_27 : decode prog_3_method_15_code 27 = .ok (.ifCond .eq 42, 3) := by decide +kernel
theorem kb_En_isLess_30 : decode prog_3_method_15_code 30 = .ok (.aload_n 0, 1) := by decide +kernel
theorem kb_En_isLess_31 : decode prog_3_method_15_code 31 = .ok (.getfield 15, 3) := by decide +kernel
theorem kb_En_isLess_34 : decode prog_3_method_15_code 34 = .ok (.iload_n 2, 1) := by decide +kernel
theorem kb_En_isLess_35 : decode prog_3_method_15_code 35 = .ok (.iaload, 1) := by decide +kernel
theorem kb_En_isLess_36 : decode prog_3_method_15_code 36 = .ok (.aload_n 0, 1) := by decide +kernel
theorem kb_En_isLess_37 : decode prog_3_method_15_code 37 = .ok (.getfield 9, 3) := by decide +kernel
theorem kb_En_isLess_40 : decode prog_3_method_15_code 40 = .ok (.iload_n 1, 1) := by decide +kernel
theorem kb_En_isLess_41 : decode prog_3_method_15_code 41 = .ok (.iaload, 1) := by decide +kernel
theorem kb_En_isLess_42 : decode prog_3_method_15_code 42 = .ok (.if_icmp .eq 24, 3) := by decide +kernel
theorem kb_En_isLess_45 : decode prog_3_method_15_code 45 = .ok (.aload_n 0, 1) := by decide +kernel
theorem kb_En_isLess_46 : decode prog_3_method_15_code 46 = .ok (.getfield 15, 3) := by decide +kernel
theorem kb_En_isLess_49 : decode prog_3_method_15_code 49 = .ok (.iload_n 2, 1) := by decide +kernel
theorem kb_En_isLess_50 : decode prog_3_method_15_code 50 = .ok (.iaload, 1) := by decide +kernel
theorem kb_En_isLess_51 : decode prog_3_method_15_code 51 = .ok (.aload_n 0, 1) := by decide +kernel
theorem kb_En_isLess_52 : decode prog_3_method_15_code 52 = .ok (.getfield 9, 3) := by decide +kernel
theorem kb_En_isLess_55 : decode prog_3_method_15_code 55 = .ok (.iload_n 1, 1) := by decide +kernel
theorem kb_En_isLess_56 : decode prog_3_method_15_code 56 = .ok (.iaload, 1) := by decide +kernel
theorem kb_En_isLess_57 : decode prog_3_method_15_code 57 = .ok (.if_icmp .ge 7, 3) := by decide +kernel
theorem kb_En_isLess_60 : decode prog_3_method_15_code 60 = .ok (.iconst 1, 1) := by decide +kernel
theorem kb_En_isLess_61 : decode prog_3_method_15_code 61 = .ok (.goto 4, 3) := by decide +kernel
theorem kb_En_isLess_64 : decode prog_3_method_15_code 64 = .ok (.iconst 0, 1) := by decide +kernel
theorem kb_En_isLess_65 : decode prog_3_method_15_code 65 = .ok (.ireturn, 1) := by decide +kernel
theorem kb_En_isLess_66 : decode prog_3_method_15_code 66 = .ok (.iinc 1 1, 3) := by decide +kernel
theorem kb_En_isLess_69 : decode prog_3_method_15_code 69 = .ok (.iinc 2 1, 3) := by decide +kernel
theorem kb_En_isLess_72 : decode prog_3_method_15_code 72 = .ok (.goto (-68), 3) := by decide +kernel
theorem kb_En_isLess_75 : decode prog_3_method_15_code 75 = .ok (.iconst 0, 1) := by decide +kernel
theorem kb_En_isLess_76 : decode prog_3_method_15_code 76 = .ok (.ireturn, 1) := by decide +kernel
theorem kb_En_keepValues_0 : decode prog_3_method_16_code 0 = .ok (.iconst 0, 1) := by decide +kernel
theorem kb_En_keepValues_1 : decode prog_3_method_16_code 1 = .ok (.istore_n 1, 1) := by decide +kernel
theorem kb_En_keepValues_2 : decode prog_3_method_16_code 2 = .ok (.iconst 0, 1) := by decide +kernel
theorem kb_En_keepValues_3 : decode prog_3_method_16_code 3 = .ok (.istore_n 2, 1) := by decide +kernel
theorem kb_En_keepValues_4 : decode prog_3_method_16_code 4 = .ok (.iload_n 2, 1) := by decide +kernel
theorem kb_En_keepValues_5 : decode prog_3_method_16_code 5 = .ok (.bipush 26, 2) := by decide +kernel
theorem kb_En_keepValues_7 : decode prog_3_method_16_code 7 = .ok (.if_icmp .ge 44, 3) := by decide +kernel
theorem kb_En_keepValues_10 : decode prog_3_method_16_code 10 = .ok (.iload_n 1, 1) := by decide +kernel
theorem kb_En_keepValues_11 : decode prog_3_method_16_code 11 = .ok (.bipush 6, 2) := by decide +kernel
theorem kb_En_keepValues_13 : decode prog_3_method_16_code 13 = .ok (.if_icmp .ge 38, 3) := by decide +kernel
theorem kb_En_keepValues_16 : decode prog_3_method_16_code 16 = .ok (.aload_n 0, 1) := by decide +kernel
theorem kb_En_keepValues_17 : decode prog_3_method_16_code 17 = .ok (.getfield 34, 3) := by decide +kernel
theorem kb_En_keepValues_20 : decode prog_3_method_16_code 20 = .ok (.getfield 191, 3) := by decide +kernel
theorem kb_En_keepValues_23 : decode prog_3_method_16_code 23 = .ok (.iload_n 2, 1) := by decide +kernel
theorem kb_En_keepValues_24 : decode prog_3_method_16_code 24 = .ok (.invokestatic 192, 3) := by decide +kernel
theorem kb_En_keepValues_27 : decode prog_3_method_16_code 27 = .ok (.ifCond .eq 18, 3) := by decide +kernel
theorem kb_En_keepValues_30 : decode prog_3_method_16_code 30 = .ok (.aload_n 0, 1) := by decide +kernel
theorem kb_En_keepValues_31 : decode prog_3_method_16_code 31 = .ok (.getfield 9, 3) := by decide +kernel
theorem kb_En_keepValues_34 : decode prog_3_method_16_code 34 = .ok (.iload_n 1, 1) := by decide +kernel
theorem kb_En_keepValues_35 : decode prog_3_method_16_code 35 = .ok (.aload_n 0, 1) := by decide +kernel
theorem kb_En_keepValues_36 : decode prog_3_method_16_code 36 = .ok (.getfield 15, 3) := by decide +kernel
theorem kb_En_keepValues_39 : decode prog_3_method_16_code 39 = .ok (.iload_n 2, 1) := by decide +kernel
theorem kb_En_keepValues_40 : decode prog_3_method_16_code 40 = .ok (.iaload, 1) := by decide +kernel
theorem kb_En_keepValues_41 : decode prog_3_method_16_code 41 = .ok (.iastore, 1) := by decide +kernel
theorem kb_En_keepValues_42 : decode prog_3_method_16_code 42 = .ok (.iinc 1 1, 3) := by decide +kernel
theorem kb_En_keepValues_45 : decode prog_3_method_16_code 45 = .ok (.iinc 2 1, 3) := by decide +kernel
theorem kb_En_keepValues_48 : decode prog_3_method_16_code 48 = .ok (.goto (-44), 3) := by decide +kernel
theorem kb_En_keepValues_51 : decode prog_3_method_16_code 51 = .ok (.return_, 1) := by decide +kernel
theorem kb_En_matches_0 : decode prog_3_method_17_code 0 = .ok (.iconst 0, 1) := by decide +kernel
theorem kb_En_matches_1 : decode prog_3_method_17_code 1 = .ok (.istore_n 3, 1) := by decide +kernel
theorem kb_En_matches_2 : decode prog_3_method_17_code 2 = .ok (.iload_n 3, 1) := by decide +kernel
theorem kb_En_matches_3 : decode prog_3_method_17_code 3 = .ok (.aload_n 1, 1) := by decide +kernel
theorem kb_En_matches_4 : decode prog_3_method_17_code 4 = .ok (.getfield 144, 3) := by decide +kernel
theorem kb_En_matches_7 : decode prog_3_method_17_code 7 = .ok (.if_icmp .ge 75, 3) := by decide +kernel
theorem kb_En_matches_10 : decode prog_3_method_17_code 10 = .ok (.aload_n 1, 1) := by decide +kernel
theorem kb_En_matches_11 : decode prog_3_method_17_code 11 = .ok (.getfield 145, 3) := by decide +kernel
theorem kb_En_matches_14 : decode prog_3_method_17_code 14 = .ok (.iload_n 3, 1) := by decide +kernel
theorem kb_En_matches_15 : decode prog_3_method_17_code 15 = .ok (.iaload, 1) := by decide +kernel
theorem kb_En_matches_16 : decode prog_3_method_17_code 16 = .ok (.istore 4, 2) := by decide +kernel
theorem kb_En_matches_18 : decode prog_3_method_17_code 18 = .ok (.iload_n 2, 1) := by decide +kernel
theorem kb_En_matches_19 : decode prog_3_method_17_code 19 = .ok (.iload_n 3, 1) := by decide +kernel
theorem kb_En_matches_20 : decode prog_3_method_17_code 20 = .ok (.invokestatic 196, 3) := by decide +kernel
theorem kb_En_matches_23 : decode prog_3_method_17_code 23 = .ok (.istore 5, 2) := by decide +kernel
theorem kb_En_matches_25 : decode prog_3_method_17_code 25 = .ok (.aload_n 0, 1) := by decide +kernel
theorem kb_En_matches_26 : decode prog_3_method_17_code 26 = .ok (.iload 4, 2) := by decide +kernel
theorem kb_En_matches_28 : decode prog_3_method_17_code 28 = .ok (.invokevirtual 148, 3) := by decide +kernel
theorem kb_En_matches_31 : decode prog_3_method_17_code 31 = .ok (.ifCond .ne 32, 3) := by decide +kernel
theorem kb_En_matches_34 : decode prog_3_method_17_code 34 = .ok (.aload_n 0, 1) := by decide +kernel
theorem kb_En_matches_35 : decode prog_3_method_17_code 35 = .ok (.getfield 15, 3) := by decide +kernel
theorem kb_En_matches_38 : decode prog_3_method_17_code 38 = .ok (.iconst (-1), 1) := by decide +kernel
theorem kb_En_matches_39 : decode prog_3_method_17_code 39 = .ok (.iload 4, 2) := by decide +kernel
theorem kb_En_matches_41 : decode prog_3_method_17_code 41 = .ok (.isub, 1) := by decide +kernel
theorem kb_En_matches_42 : decode prog_3_method_17_code 42 = .ok (.iload 5, 2) := by decide +kernel
theorem kb_En_matches_44 : decode prog_3_method_17_code 44 = .ok (.iastore, 1) := by decide +kernel
theorem kb_En_matches_45 : decode prog_3_method_17_code 45 = .ok (.aload_n 0, 1) := by decide +kernel
theorem kb_En_matches_46 : decode prog_3_method_17_code 46 = .ok (.dup, 1) := by decide +kernel
theorem kb_En_matches_47 : decode prog_3_method_17_code 47 = .ok (.getfield 93, 3) := by decide +kernel
theorem kb_En_matches_50 : decode prog_3_method_17_code 50 = .ok (.iconst 1, 1) := by decide +kernel
theorem kb_En_matches_51 : decode prog_3_method_17_code 51 = .ok (.iconst (-1), 1) := by decide +kernel
theorem kb_En_matches_52 : decode prog_3_method_17_code 52 = .ok (.iload 4, 2) := by decide +kernel
theorem kb_En_matches_54 : decode prog_3_method_17_code 54 = .ok (.isub, 1) := by decide +kernel
theorem kb_En_matches_55 : decode prog_3_method_17_code 55 = .ok (.ishl, 1) := by decide +kernel
theorem kb_En_matches_56 : decode prog_3_method_17_code 56 = .ok (.ior, 1) := by decide +kernel
theorem kb_En_matches_57 : decode prog_3_method_17_code 57 = .ok (.putfield 93, 3) := by decide +kernel
theorem kb_En_matches_60 : decode prog_3_method_17_code 60 = .ok (.goto 16, 3) := by decide +kernel
theorem kb_En_matches_63 : decode prog_3_method_17_code 63 = .ok (.aload_n 0, 1) := by decide +kernel
theorem kb_En_matches_64 : decode prog_3_method_17_code 64 = .ok (.iload 4, 2) := by decide +kernel
theorem kb_En_matches_66 : decode prog_3_method_17_code 66 = .ok (.invokevirtual 155, 3) := by decide +kernel
theorem kb_En_matches_69 : decode prog_3_method_17_code 69 = .ok (.iload 5, 2) := by decide +kernel
theorem kb_En_matches_71 : decode prog_3_method_17_code 71 = .ok (.if_icmp .eq 5, 3) := by decide +kernel
theorem kb_En_matches_74 : decode prog_3_method_17_code 74 = .ok (.iconst 0, 1) := by decide +kernel
theorem kb_En_matches_75 : decode prog_3_method_17_code 75 = .ok (.ireturn, 1) := by decide +kernel
theorem kb_En_matches_76 : decode prog_3_method_17_code 76 = .ok (.iinc 3 1, 3) := by decide +kernel
theorem kb_En_matches_79 : decode prog_3_method_17_code 79 = .ok (.goto (-77), 3) := by decide +kernel
theorem kb_En_matches_82 : decode prog_3_method_17_code 82 = .ok (.iconst 1, 1) := by decide +kernel
theorem kb_En_matches_83 : decode prog_3_method_17_code 83 = .ok (.ireturn, 1) := by decide +kernel
theorem kb_En_holds_0 : decode prog_3_method_18_code 0 = .ok (.aload_n 1, 1) := by decide +kernel
theorem kb_En_holds_1 : decode prog_3_method_18_code 1 = .ok (.getfield 129, 3) := by decide +kernel
theorem kb_En_holds_4 : decode prog_3_method_18_code 4 = .ok (.iconst 1, 1) := by decide +kernel
theorem kb_En_holds_5 : decode prog_3_method_18_code 5 = .ok (.if_icmp .ne 29, 3) := by decide +kernel
theorem kb_En_holds_8 : decode prog_3_method_18_code 8 = .ok (.aload_n 0, 1) := by decide +kernel
theorem kb_En_holds_9 : decode prog_3_method_18_code 9 = .ok (.getfield 40, 3) := by decide +kernel
theorem kb_En_holds_12 : decode prog_3_method_18_code 12 = .ok (.aload_n 1, 1) := by decide +kernel
theorem kb_En_holds_13 : decode prog_3_method_18_code 13 = .ok (.getfield 100, 3) := by decide +kernel
theorem kb_En_holds_16 : decode prog_3_method_18_code 16 = .ok (.aaload, 1) := by decide +kernel
theorem kb_En_holds_17 : decode prog_3_method_18_code 17 = .ok (.aload_n 0, 1) := by decide +kernel
theorem kb_En_holds_18 : decode prog_3_method_18_code 18 = .ok (.aload_n 1, 1) := by decide +kernel
theorem kb_En_holds_19 : decode prog_3_method_18_code 19 = .ok (.invokevirtual 167, 3) := by decide +kernel
theorem kb_En_holds_22 : decode prog_3_method_18_code 22 = .ok (.invokevirtual 171, 3) := by decide +kernel
theorem kb_En_holds_25 : decode prog_3_method_18_code 25 = .ok (.ifCond .ne 7, 3) := by decide +kernel
theorem kb_En_holds_28 : decode prog_3_method_18_code 28 = .ok (.iconst 1, 1) := by decide +kernel
theorem kb_En_holds_29 : decode prog_3_method_18_code 29 = .ok (.goto 4, 3) := by decide +kernel
theorem kb_En_holds_32 : decode prog_3_method_18_code 32 = .ok (.iconst 0, 1) := by decide +kernel
theorem kb_En_holds_33 : decode prog_3_method_18_code 33 = .ok (.ireturn, 1) := by decide +kernel
theorem kb_En_holds_34 : decode prog_3_method_18_code 34 = .ok (.aload_n 0, 1) := by decide +kernel
theorem kb_En_holds_35 : decode prog_3_method_18_code 35 = .ok (.aload_n 1, 1) := by decide +kernel
theorem kb_En_holds_36 : decode prog_3_method_18_code 36 = .ok (.getfield 145, 3) := by decide +kernel
theorem kb_En_holds_39 : decode prog_3_method_18_code 39 = .ok (.iconst 0, 1) := by decide +kernel
theorem kb_En_holds_40 : decode prog_3_method_18_code 40 = .ok (.iaload, 1) := by decide +kernel
theorem kb_En_holds_41 : decode prog_3_method_18_code 41 = .ok (.invokevirtual 155, 3) := by decide +kernel
theorem kb_En_holds_44 : decode prog_3_method_18_code 44 = .ok (.istore_n 2, 1) := by decide +kernel
theorem kb_En_holds_45 : decode prog_3_method_18_code 45 = .ok (.aload_n 0, 1) := by decide +kernel
theorem kb_En_holds_46 : decode prog_3_method_18_code 46 = .ok (.aload_n 1, 1) := by decide +kernel
theorem kb_En_holds_47 : decode prog_3_method_18_code 47 = .ok (.getfield 145, 3) := by decide +kernel
theorem kb_En_holds_50 : decode prog_3_method_18_code 50 = .ok (.iconst 1, 1) := by decide +kernel
theorem kb_En_holds_51 : decode prog_3_method_18_code 51 = .ok (.iaload, 1) := by decide +kernel
theorem kb_En_holds_52 : decode prog_3_method_18_code 52 = .ok (.invokevirtual 155, 3) := by decide +kernel
theorem kb_En_holds_55 : decode prog_3_method_18_code 55 = .ok (.istore_n 3, 1) := by decide +kernel
theorem kb_En_holds_56 : decode prog_3_method_18_code 56 = .ok (.aload_n 1, 1) := by decide +kernel
theorem kb_En_holds_57 : decode prog_3_method_18_code 57 = .ok (.getfield 199, 3) := by decide +kernel
theorem kb_En_holds_60 : decode prog_3_method_18_code 60 = .ok (.bipush 60, 2) := by decide +kernel
theorem kb_En_holds_62 : decode prog_3_method_18_code 62 = .ok (.if_icmp .ne 14, 3) := by decide +kernel
theorem kb_En_holds_65 : decode prog_3_method_18_code 65 = .ok (.iload_n 2, 1) := by decide +kernel
theorem kb_En_holds_66 : decode prog_3_method_18_code 66 = .ok (.iload_n 3, 1) := by decide +kernel
theorem kb_En_holds_67 : decode prog_3_method_18_code 67 = .ok (.if_icmp .ge 7, 3) := by decide +kernel
theorem kb_En_holds_70 : decode prog_3_method_18_code 70 = .ok (.iconst 1, 1) := by decide +kernel
theorem kb_En_holds_71 : decode prog_3_method_18_code 71 = .ok (.goto 4, 3) := by decide +kernel
theorem kb_En_holds_74 : decode prog_3_method_18_code 74 = .ok (.iconst 0, 1) := by decide +kernel
theorem kb_En_holds_75 : decode prog_3_method_18_code 75 = .ok (.ireturn, 1) := by decide +kernel
theorem kb_En_holds_76 : decode prog_3_method_18_code 76 = .ok (.iload_n 2, 1) := by decide +kernel
theorem kb_En_holds_77 : decode prog_3_method_18_code 77 = .ok (.iload_n 3, 1) := by decide +kernel
theorem kb_En_holds_78 : decode prog_3_method_18_code 78 = .ok (.if_icmp .ne 7, 3) := by decide +kernel
theorem kb_En_holds_81 : decode prog_3_method_18_code 81 = .ok (.iconst 1, 1) := by decide +kernel
theorem kb_En_holds_82 : decode prog_3_method_18_code 82 = .ok (.goto 4, 3) := by decide +kernel
theorem kb_En_holds_85 : decode prog_3_method_18_code 85 = .ok (.iconst 0, 1) := by decide +kernel
theorem kb_En_holds_86 : decode prog_3_method_18_code 86 = .ok (.aload_n 1, 1) := by decide +kernel
theorem kb_En_holds_87 : decode prog_3_method_18_code 87 = .ok (.getfield 199, 3) := by decide +kernel
theorem kb_En_holds_90 : decode prog_3_method_18_code 90 = .ok (.bipush 61, 2) := by decide +kernel
theorem kb_En_holds_92 : decode prog_3_method_18_code 92 = .ok (.if_icmp .ne 7, 3) := by decide +kernel
theorem kb_En_holds_95 : decode prog_3_method_18_code 95 = .ok (.iconst 1, 1) := by decide +kernel
theorem kb_En_holds_96 : decode prog_3_method_18_code 96 = .ok (.goto 4, 3) := by decide +kernel
theorem kb_En_holds_99 : decode prog_3_method_18_code 99 = .ok (.iconst 0, 1) := by decide +kernel
theorem kb_En_holds_100 : decode prog_3_method_18_code 100 = .ok (.if_icmp .ne 7, 3) := by decide +kernel
theorem kb_En_holds_103 : decode prog_3_method_18_code 103 = .ok (.iconst 1, 1) := by decide +kernel
theorem kb_En_holds_104 : decode prog_3_method_18_code 104 = .ok (.goto 4, 3) := by decide +kernel
theorem kb_En_holds_107 : decode prog_3_method_18_code 107 = .ok (.iconst 0, 1) := by decide +kernel
theorem kb_En_holds_108 : decode prog_3_method_18_code 108 = .ok (.ireturn, 1) := by decide +kernel
theorem kb_En_keyOf_0 : decode prog_3_method_19_code 0 = .ok (.iconst 0, 1) := by decide +kernel
theorem kb_En_keyOf_1 : decode prog_3_method_19_code 1 = .ok (.istore_n 2, 1) := by decide +kernel
theorem kb_En_keyOf_2 : decode prog_3_method_19_code 2 = .ok (.iconst 0, 1) := by decide +kernel
theorem kb_En_keyOf_3 : decode prog_3_method_19_code 3 = .ok (.istore_n 3, 1) := by decide +kernel
theorem kb_En_keyOf_4 : decode prog_3_method_19_code 4 = .ok (.iload_n 3, 1) := by decide +kernel
theorem kb_En_keyOf_5 : decode prog_3_method_19_code 5 = .ok (.aload_n 1, 1) := by decide +kernel
theorem kb_En_keyOf_6 : decode prog_3_method_19_code 6 = .ok (.getfield 144, 3) := by decide +kernel
theorem kb_En_keyOf_9 : decode prog_3_method_19_code 9 = .ok (.if_icmp .ge 27, 3) := by decide +kernel
theorem kb_En_keyOf_12 : decode prog_3_method_19_code 12 = .ok (.iload_n 2, 1) := by decide +kernel
theorem kb_En_keyOf_13 : decode prog_3_method_19_code 13 = .ok (.aload_n 0, 1) := by decide +kernel
theorem kb_En_keyOf_14 : decode prog_3_method_19_code 14 = .ok (.aload_n 1, 1) := by decide +kernel
theorem kb_En_keyOf_15 : decode prog_3_method_19_code 15 = .ok (.getfield 145, 3) := by decide +kernel
theorem kb_En_keyOf_18 : decode prog_3_method_19_code 18 = .ok (.iload_n 3, 1) := by decide +kernel
theorem kb_En_keyOf_19 : decode prog_3_method_19_code 19 = .ok (.iaload, 1) := by decide +kernel
theorem kb_En_keyOf_20 : decode prog_3_method_19_code 20 = .ok (.invokevirtual 155, 3) := by decide +kernel
theorem kb_En_keyOf_23 : decode prog_3_method_19_code 23 = .ok (.iload_n 3, 1) := by decide +kernel
theorem kb_En_keyOf_24 : decode prog_3_method_19_code 24 = .ok (.invokestatic 151, 3) := by decide +kernel
theorem kb_En_keyOf_27 : decode prog_3_method_19_code 27 = .ok (.imul, 1) := by decide +kernel
theorem kb_En_keyOf_28 : decode prog_3_method_19_code 28 = .ok (.iadd, 1) := by decide +kernel
theorem kb_En_keyOf_29 : decode prog_3_method_19_code 29 = .ok (.istore_n 2, 1) := by decide +kernel
theorem kb_En_keyOf_30 : decode prog_3_method_19_code 30 = .ok (.iinc 3 1, 3) := by decide +kernel
theorem kb_En_keyOf_33 : decode prog_3_method_19_code 33 = .ok (.goto (-29), 3) := by decide +kernel
theorem kb_En_keyOf_36 : decode prog_3_method_19_code 36 = .ok (.iload_n 2, 1) := by decide +kernel
theorem kb_En_keyOf_37 : decode prog_3_method_19_code 37 = .ok (.ireturn, 1) := by decide +kernel
theorem kb_En_isKnown_0 : decode prog_3_method_20_code 0 = .ok (.iload_n 1, 1) := by decide +kernel
theorem kb_En_isKnown_1 : decode prog_3_method_20_code 1 = .ok (.ifCond .ge 16, 3) := by decide +kernel
theorem kb_En_isKnown_4 : decode prog_3_method_20_code 4 = .ok (.aload_n 0, 1) := by decide +kernel
theorem kb_En_isKnown_5 : decode prog_3_method_20_code 5 = .ok (.getfield 93, 3) := by decide +kernel
theorem kb_En_isKnown_8 : decode prog_3_method_20_code 8 = .ok (.iconst (-1), 1) := by decide +kernel
theorem kb_En_isKnown_9 : decode prog_3_method_20_code 9 = .ok (.iload_n 1, 1) := by decide +kernel
theorem kb_En_isKnown_10 : decode prog_3_method_20_code 10 = .ok (.isub, 1) := by decide +kernel
theorem kb_En_isKnown_11 : decode prog_3_method_20_code 11 = .ok (.invokestatic 192, 3) := by decide +kernel
theorem kb_En_isKnown_14 : decode prog_3_method_20_code 14 = .ok (.ifCond .eq 7, 3) := by decide +kernel
theorem kb_En_isKnown_17 : decode prog_3_method_20_code 17 = .ok (.iconst 1, 1) := by decide +kernel
theorem kb_En_isKnown_18 : decode prog_3_method_20_code 18 = .ok (.goto 4, 3) := by decide +kernel
theorem kb_En_isKnown_21 : decode prog_3_method_20_code 21 = .ok (.iconst 0, 1) := by decide +kernel
theorem kb_En_isKnown_22 : decode prog_3_method_20_code 22 = .ok (.ireturn, 1) := by decide +kernel
theorem kb_En_valueOf_0 : decode prog_3_method_21_code 0 = .ok (.iload_n 1, 1) := by decide +kernel
theorem kb_En_valueOf_1 : decode prog_3_method_21_code 1 = .ok (.ifCond .lt 7, 3) := by decide +kernel
theorem kb_En_valueOf_4 : decode prog_3_method_21_code 4 = .ok (.iload_n 1, 1) := by decide +kernel
theorem kb_En_valueOf_5 : decode prog_3_method_21_code 5 = .ok (.goto 11, 3) := by decide +kernel
theorem kb_En_valueOf_8 : decode prog_3_method_21_code 8 = .ok (.aload_n 0, 1) := by decide +kernel
theorem kb_En_valueOf_9 : decode prog_3_method_21_code 9 = .ok (.getfield 15, 3) := by decide +kernel
theorem kb_En_valueOf_12 : decode prog_3_method_21_code 12 = .ok (.iconst (-1), 1) := by decide +kernel
theorem kb_En_valueOf_13 : decode prog_3_method_21_code 13 = .ok (.iload_n 1, 1) := by decide +kernel
theorem kb_En_valueOf_14 : decode prog_3_method_21_code 14 = .ok (.isub, 1) := by decide +kernel
theorem kb_En_valueOf_15 : decode prog_3_method_21_code 15 = .ok (.iaload, 1) := by decide +kernel
theorem kb_En_valueOf_16 : decode prog_3_method_21_code 16 = .ok (.ireturn, 1) := by decide +kernel
theorem kb_Pr_init_0 : decode prog_4_method_1_code 0 = .ok (.aload_n 0, 1) := by decide +kernel
theorem kb_Pr_init_1 : decode prog_4_method_1_code 1 = .ok (.invokespecial 3, 3) := by decide +kernel
theorem kb_Pr_init_4 : decode prog_4_method_1_code 4 = .ok (.aload_n 0, 1) := by decide +kernel
theorem kb_Pr_init_5 : decode prog_4_method_1_code 5 = .ok (.bipush 16, 2) := by decide +kernel
theorem kb_Pr_init_7 : decode prog_4_method_1_code 7 = .ok (.anewarray 9, 3) := by decide +kernel
theorem kb_Pr_init_10 : decode prog_4_method_1_code 10 = .ok (.putfield 11, 3) := by decide +kernel
theorem kb_Pr_init_13 : decode prog_4_method_1_code 13 = .ok (.aload_n 0, 1) := by decide +kernel
theorem kb_Pr_init_14 : decode prog_4_method_1_code 14 = .ok (.bipush 8, 2) := by decide +kernel
theorem kb_Pr_init_16 : decode prog_4_method_1_code 16 = .ok (.newarray .int, 2) := by decide +kernel
theorem kb_Pr_init_18 : decode prog_4_method_1_code 18 = .ok (.putfield 17, 3) := by decide +kernel
theorem kb_Pr_init_21 : decode prog_4_method_1_code 21 = .ok (.aload_n 0, 1) := by decide +kernel
theorem kb_Pr_init_22 : decode prog_4_method_1_code 22 = .ok (.bipush 8, 2) := by decide +kernel
theorem kb_Pr_init_24 : decode prog_4_method_1_code 24 = .ok (.newarray .int, 2) := by decide +kernel
theorem kb_Pr_init_26 : decode prog_4_method_1_code 26 = .ok (.putfield 21, 3) := by decide +kernel
theorem kb_Pr_init_29 : decode prog_4_method_1_code 29 = .ok (.aload_n 0, 1) := by decide +kernel
theorem kb_Pr_init_30 : decode prog_4_method_1_code 30 = .ok (.bipush 8, 2) := by decide +kernel
theorem kb_Pr_init_32 : decode prog_4_method_1_code 32 = .ok (.newarray .int, 2) := by decide +kernel
theorem kb_Pr_init_34 : decode prog_4_method_1_code 34 = .ok (.putfield 24, 3) := by decide +kernel
theorem kb_Pr_init_37 : decode prog_4_method_1_code 37 = .ok (.aload_n 0, 1) := by decide +kernel
theorem kb_Pr_init_38 : decode prog_4_method_1_code 38 = .ok (.bipush 8, 2) := by decide +kernel
theorem kb_Pr_init_40 : decode prog_4_method_1_code 40 = .ok (.newarray .int, 2) := by decide +kernel
theorem kb_Pr_init_42 : decode prog_4_method_1_code 42 = .ok (.putfield 27, 3) := by decide +kernel
theorem kb_Pr_init_45 : decode prog_4_method_1_code 45 = .ok (.return_, 1) := by decide +kernel
theorem kb_Pr_isRelation_0 : decode prog_4_method_2_code 0 = .ok (.iload_n 1, 1) := by decide +kernel
theorem kb_Pr_isRelation_1 : decode prog_4_method_2_code 1 = .ok (.ifCond .lt 15, 3) := by decide +kernel
theorem kb_Pr_isRelation_4 : decode prog_4_method_2_code 4 = .ok (.iload_n 1, 1) := by decide +kernel
theorem kb_Pr_isRelation_5 : decode prog_4_method_2_code 5 = .ok (.aload_n 0, 1) := by decide +kernel
theorem kb_Pr_isRelation_6 : decode prog_4_method_2_code 6 = .ok (.getfield 30, 3) := by decide +kernel
theorem kb_Pr_isRelation_9 : decode prog_4_method_2_code 9 = .ok (.if_icmp .ge 7, 3) := by decide +kernel
theorem kb_Pr_isRelation_12 : decode prog_4_method_2_code 12 = .ok (.iconst 1, 1) := by decide +kernel
theorem kb_Pr_isRelation_13 : decode prog_4_method_2_code 13 = .ok (.goto 4, 3) := by decide +kernel
theorem kb_Pr_isRelation_16 : decode prog_4_method_2_code 16 = .ok (.iconst 0, 1) := by decide +kernel
theorem kb_Pr_isRelation_17 : decode prog_4_method_2_code 17 = .ok (.ireturn, 1) := by decide +kernel
theorem kb_Pr_isView_0 : decode prog_4_method_3_code 0 = .ok (.aload_n 0, 1) := by decide +kernel
theorem kb_Pr_isView_1 : decode prog_4_method_3_code 1 = .ok (.iload_n 1, 1) := by decide +kernel
theorem kb_Pr_isView_2 : decode prog_4_method_3_code 2 = .ok (.invokevirtual 34, 3) := by decide +kernel
theorem kb_Pr_isView_5 : decode prog_4_method_3_code 5 = .ok (.ifCond .eq 18, 3) := by decide +kernel
theorem kb_Pr_isView_8 : decode prog_4_method_3_code 8 = .ok (.aload_n 0, 1) := by decide +kernel
theorem kb_Pr_isView_9 : decode prog_4_method_3_code 9 = .ok (.getfield 38, 3) := by decide +kernel
theorem kb_Pr_isView_12 : decode prog_4_method_3_code 12 = .ok (.iload_n 1, 1) := by decide +kernel
theorem kb_Pr_isView_13 : decode prog_4_method_3_code 13 = .ok (.invokestatic 41, 3) := by decide +kernel
theorem kb_Pr_isView_16 : decode prog_4_method_3_code 16 = .ok (.ifCond .eq 7, 3) := by decide +kernel
theorem kb_Pr_isView_19 : decode prog_4_method_3_code 19 = .ok (.iconst 1, 1) := by decide +kernel
theorem kb_Pr_isView_20 : decode prog_4_method_3_code 20 = .ok (.goto 4, 3) := by decide +kernel
theorem kb_Pr_isView_23 : decode prog_4_method_3_code 23 = .ok (.iconst 0, 1) := by decide +kernel
theorem kb_Pr_isView_24 : decode prog_4_method_3_code 24 = .ok (.ireturn, 1) := by decide +kernel
theorem kb_Pr_isCounted_0 : decode prog_4_method_4_code 0 = .ok (.aload_n 0, 1) := by decide +kernel
theorem kb_Pr_isCounted_1 : decode prog_4_method_4_code 1 = .ok (.iload_n 1, 1) := by decide +kernel
theorem kb_Pr_isCounted_2 : decode prog_4_method_4_code 2 = .ok (.invokevirtual 34, 3) := by decide +kernel
theorem kb_Pr_isCounted_5 : decode prog_4_method_4_code 5 = .ok (.ifCond .eq 18, 3) := by decide +kernel
theorem kb_Pr_isCounted_8 : decode prog_4_method_4_code 8 = .ok (.aload_n 0, 1) := by decide +kernel
theorem kb_Pr_isCounted_9 : decode prog_4_method_4_code 9 = .ok (.getfield 45, 3) := by decide +kernel
theorem kb_Pr_isCounted_12 : decode prog_4_method_4_code 12 = .ok (.iload_n 1, 1) := by decide +kernel
theorem kb_Pr_isCounted_13 : decode prog_4_method_4_code 13 = .ok (.invokestatic 41, 3) := by decide +kernel
theorem kb_Pr_isCounted_16 : decode prog_4_method_4_code 16 = .ok (.ifCond .eq 7, 3) := by decide +kernel
theorem kb_Pr_isCounted_19 : decode prog_4_method_4_code 19 = .ok (.iconst 1, 1) := by decide +kernel
theorem kb_Pr_isCounted_20 : decode prog_4_method_4_code 20 = .ok (.goto 4, 3) := by decide +kernel
theorem kb_Pr_isCounted_23 : decode prog_4_method_4_code 23 = .ok (.iconst 0, 1) := by decide +kernel
theorem kb_Pr_isCounted_24 : decode prog_4_method_4_code 24 = .ok (.ireturn, 1) := by decide +kernel
theorem kb_Pr_relationNamed_0 : decode prog_4_method_5_code 0 = .ok (.iconst 0, 1) := by decide +kernel
theorem kb_Pr_relationNamed_1 : decode prog_4_method_5_code 1 = .ok (.istore_n 2, 1) := by decide +kernel
theorem kb_Pr_relationNamed_2 : decode prog_4_method_5_code 2 = .ok (.iload_n 2, 1) := by decide +kernel
theorem kb_Pr_relationNamed_3 : decode prog_4_method_5_code 3 = .ok (.aload_n 0, 1) := by decide +kernel
theorem kb_Pr_relationNamed_4 : decode prog_4_method_5_code 4 = .ok (.getfield 30, 3) := by decide +kernel
theorem kb_Pr_relationNamed_7 : decode prog_4_method_5_code 7 = .ok (.if_icmp .ge 21, 3) := by decide +kernel
theorem kb_Pr_relationNamed_10 : decode prog_4_method_5_code 10 = .ok (.aload_n 0, 1) := by decide +kernel
theorem kb_Pr_relationNamed_11 : decode prog_4_method_5_code 11 = .ok (.getfield 17, 3) := by decide +kernel
theorem kb_Pr_relationNamed_14 : decode prog_4_method_5_code 14 = .ok (.iload_n 2, 1) := by decide +kernel
theorem kb_Pr_relationNamed_15 : decode prog_4_method_5_code 15 = .ok (.iaload, 1) := by decide +kernel
theorem kb_Pr_relationNamed_16 : decode prog_4_method_5_code 16 = .ok (.iload_n 1, 1) := by decide +kernel
theorem kb_Pr_relationNamed_17 : decode prog_4_method_5_code 17 = .ok (.if_icmp .ne 5, 3) := by decide +kernel
theorem kb_Pr_relationNamed_20 : decode prog_4_method_5_code 20 = .ok (.iload_n 2, 1) := by decide +kernel
theorem kb_Pr_relationNamed_21 : decode prog_4_method_5_code 21 = .ok (.ireturn, 1) := by decide +kernel
theorem kb_Pr_relationNamed_22 : decode prog_4_method_5_code 22 = .ok (.iinc 2 1, 3) := by decide +kernel
theorem kb_Pr_relationNamed_25 : decode prog_4_method_5_code 25 = .ok (.goto (-23), 3) := by decide +kernel
theorem kb_Pr_relationNamed_28 : decode prog_4_method_5_code 28 = .ok (.iconst (-1), 1) := by decide +kernel
theorem kb_Pr_relationNamed_29 : decode prog_4_method_5_code 29 = .ok (.ireturn, 1) := by decide +kernel
theorem kb_Pr_relationMade_0 : decode prog_4_method_6_code 0 = .ok (.aload_n 0, 1) := by decide +kernel
theorem kb_Pr_relationMade_1 : decode prog_4_method_6_code 1 = .ok (.iload_n 1, 1) := by decide +kernel
theorem kb_Pr_relationMade_2 : decode prog_4_method_6_code 2 = .ok (.invokevirtual 48, 3) := by decide +kernel
theorem kb_Pr_relationMade_5 : decode prog_4_method_6_code 5 = .ok (.istore_n 2, 1) := by decide +kernel
theorem kb_Pr_relationMade_6 : decode prog_4_method_6_code 6 = .ok (.iload_n 2, 1) := by decide +kernel
theorem kb_Pr_relationMade_7 : decode prog_4_method_6_code 7 = .ok (.iconst (-1), 1) := by decide +kernel
theorem kb_Pr_relationMade_8 : decode prog_4_method_6_code 8 = .ok (.if_icmp .ne 12, 3) := by decide +kernel
theorem kb_Pr_relationMade_11 : decode prog_4_method_6_code 11 = .ok (.aload_n 0, 1) := by decide +kernel
theorem kb_Pr_relationMade_12 : decode prog_4_method_6_code 12 = .ok (.getfield 30, 3) := by decide +kernel
theorem kb_Pr_relationMade_15 : decode prog_4_method_6_code 15 = .ok (.bipush 8, 2) := by decide +kernel
theorem kb_Pr_relationMade_17 : decode prog_4_method_6_code 17 = .ok (.if_icmp .lt 5, 3) := by decide +kernel
theorem kb_Pr_relationMade_20 : decode prog_4_method_6_code 20 = .ok (.iload_n 2, 1) := by decide +kernel
theorem kb_Pr_relationMade_21 : decode prog_4_method_6_code 21 = .ok (.ireturn, 1) := by decide +kernel
theorem kb_Pr_relationMade_22 : decode prog_4_method_6_code 22 = .ok (.aload_n 0, 1) := by decide +kernel
theorem kb_Pr_relationMade_23 : decode prog_4_method_6_code 23 = .ok (.getfield 17, 3) := by decide +kernel
theorem kb_Pr_relationMade_26 : decode prog_4_method_6_code 26 = .ok (.aload_n 0, 1) := by decide +kernel
theorem kb_Pr_relationMade_27 : decode prog_4_method_6_code 27 = .ok (.getfield 30, 3) := by decide +kernel
theorem kb_Pr_relationMade_30 : decode prog_4_method_6_code 30 = .ok (.iload_n 1, 1) := by decide +kernel
theorem kb_Pr_relationMade_31 : decode prog_4_method_6_code 31 = .ok (.iastore, 1) := by decide +kernel
theorem kb_Pr_relationMade_32 : decode prog_4_method_6_code 32 = .ok (.aload_n 0, 1) := by decide +kernel
theorem kb_Pr_relationMade_33 : decode prog_4_method_6_code 33 = .ok (.dup, 1) := by decide +kernel
theorem kb_Pr_relationMade_34 : decode prog_4_method_6_code 34 = .ok (.getfield 30, 3) := by decide +kernel
theorem kb_Pr_relationMade_37 : decode prog_4_method_6_code 37 = .ok (.iconst 1, 1) := by decide +kernel
theorem kb_Pr_relationMade_38 : decode prog_4_method_6_code 38 = .ok (.iadd, 1) := by decide +kernel
theorem kb_Pr_relationMade_39 : decode prog_4_method_6_code 39 = .ok (.putfield 30, 3) := by decide +kernel
theorem kb_Pr_relationMade_42 : decode prog_4_method_6_code 42 = .ok (.aload_n 0, 1) := by decide +kernel
theorem kb_Pr_relationMade_43 : decode prog_4_method_6_code 43 = .ok (.getfield 30, 3) := by decide +kernel
theorem kb_Pr_relationMade_46 : decode prog_4_method_6_code 46 = .ok (.iconst 1, 1) := by decide +kernel
theorem kb_Pr_relationMade_47 : decode prog_4_method_6_code 47 = .ok (.isub, 1) := by decide +kernel
theorem kb_Pr_relationMade_48 : decode prog_4_method_6_code 48 = .ok (.ireturn, 1) := by decide +kernel
theorem kb_Pr_refusesCount_0 : decode prog_4_method_7_code 0 = .ok (.aload_n 1, 1) := by decide +kernel
theorem kb_Pr_refusesCount_1 : decode prog_4_method_7_code 1 = .ok (.getfield 52, 3) := by decide +kernel
theorem kb_Pr_refusesCount_4 : decode prog_4_method_7_code 4 = .ok (.ifCond .eq 26, 3) := by decide +kernel
theorem kb_Pr_refusesCount_7 : decode prog_4_method_7_code 7 = .ok (.aload_n 1, 1) := by decide +kernel
theorem kb_Pr_refusesCount_8 : decode prog_4_method_7_code 8 = .ok (.getfield 56, 3) := by decide +kernel
theorem kb_Pr_refusesCount_11 : decode prog_4_method_7_code 11 = .ok (.ifCond .eq 17, 3) := by decide +kernel
theorem kb_Pr_refusesCount_14 : decode prog_4_method_7_code 14 = .ok (.aload_n 0, 1) := by decide +kernel
theorem kb_Pr_refusesCount_15 : decode prog_4_method_7_code 15 = .ok (.aload_n 1, 1) := by decide +kernel
theorem kb_Pr_refusesCount_16 : decode prog_4_method_7_code 16 = .ok (.getfield 59, 3) := by decide +kernel
theorem kb_Pr_refusesCount_19 : decode prog_4_method_7_code 19 = .ok (.getfield 63, 3) := by decide +kernel
theorem kb_Pr_refusesCount_22 : decode prog_4_method_7_code 22 = .ok (.invokevirtual 68, 3) := by decide +kernel
theorem kb_Pr_refusesCount_25 : decode prog_4_method_7_code 25 = .ok (.ifCond .eq 5, 3) := by decide +kernel
theorem kb_Pr_refusesCount_28 : decode prog_4_method_7_code 28 = .ok (.iconst 1, 1) := by decide +kernel
theorem kb_Pr_refusesCount_29 : decode prog_4_method_7_code 29 = .ok (.ireturn, 1) := by decide +kernel
theorem kb_Pr_refusesCount_30 : decode prog_4_method_7_code 30 = .ok (.aload_n 0, 1) := by decide +kernel
theorem kb_Pr_refusesCount_31 : decode prog_4_method_7_code 31 = .ok (.aload_n 1, 1) := by decide +kernel
theorem kb_Pr_refusesCount_32 : decode prog_4_method_7_code 32 = .ok (.getfield 59, 3) := by decide +kernel
theorem kb_Pr_refusesCount_35 : decode prog_4_method_7_code 35 = .ok (.getfield 63, 3) := by decide +kernel
theorem kb_Pr_refusesCount_38 : decode prog_4_method_7_code 38 = .ok (.invokevirtual 71, 3) := by decide +kernel
theorem kb_Pr_refusesCount_41 : decode prog_4_method_7_code 41 = .ok (.ireturn, 1) := by decide +kernel
theorem kb_Pr_append_0 : decode prog_4_method_8_code 0 = .ok (.aload_n 0, 1) := by decide +kernel
theorem kb_Pr_append_1 : decode prog_4_method_8_code 1 = .ok (.getfield 74, 3) := by decide +kernel
theorem kb_Pr_append_4 : decode prog_4_method_8_code 4 = .ok (.bipush 16, 2) := by decide +kernel
theorem kb_Pr_append_6 : decode prog_4_method_8_code 6 = .ok (.if_icmp .lt 4, 3) := by decide +kernel
theorem kb_Pr_append_9 : decode prog_4_method_8_code 9 = .ok (.return_, 1) := by decide +kernel
theorem kb_Pr_append_10 : decode prog_4_method_8_code 10 = .ok (.aload_n 0, 1) := by decide +kernel
theorem kb_Pr_append_11 : decode prog_4_method_8_code 11 = .ok (.getfield 11, 3) := by decide +kernel
theorem kb_Pr_append_14 : decode prog_4_method_8_code 14 = .ok (.aload_n 0, 1) := by decide +kernel
theorem kb_Pr_append_15 : decode prog_4_method_8_code 15 = .ok (.getfield 74, 3) := by decide +kernel
theorem kb_Pr_append_18 : decode prog_4_method_8_code 18 = .ok (.aload_n 1, 1) := by decide +kernel
theorem kb_Pr_append_19 : decode prog_4_method_8_code 19 = .ok (.aastore, 1) := by decide +kernel
theorem kb_Pr_append_20 : decode prog_4_method_8_code 20 = .ok (.aload_n 0, 1) := by decide +kernel
theorem kb_Pr_append_21 : decode prog_4_method_8_code 21 = .ok (.dup, 1) := by decide +kernel
theorem kb_Pr_append_22 : decode prog_4_method_8_code 22 = .ok (.getfield 74, 3) := by decide +kernel
theorem kb_Pr_append_25 : decode prog_4_method_8_code 25 = .ok (.iconst 1, 1) := by decide +kernel
theorem kb_Pr_append_26 : decode prog_4_method_8_code 26 = .ok (.iadd, 1) := by decide +kernel
theorem kb_Pr_append_27 : decode prog_4_method_8_code 27 = .ok (.putfield 74, 3) := by decide +kernel
theorem kb_Pr_append_30 : decode prog_4_method_8_code 30 = .ok (.aload_n 0, 1) := by decide +kernel
theorem kb_Pr_append_31 : decode prog_4_method_8_code 31 = .ok (.dup, 1) := by decide +kernel
theorem kb_Pr_append_32 : decode prog_4_method_8_code 32 = .ok (.getfield 38, 3) := by decide +kernel
theorem kb_Pr_append_35 : decode prog_4_method_8_code 35 = .ok (.iconst 1, 1) := by decide +kernel
theorem kb_Pr_append_36 : decode prog_4_method_8_code 36 = .ok (.aload_n 1, 1) := by decide +kernel
theorem kb_Pr_append_37 : decode prog_4_method_8_code 37 = .ok (.getfield 59, 3) := by decide +kernel
theorem kb_Pr_append_40 : decode prog_4_method_8_code 40 = .ok (.getfield 63, 3) := by decide +kernel
theorem kb_Pr_append_43 : decode prog_4_method_8_code 43 = .ok (.ishl, 1) := by decide +kernel
theorem kb_Pr_append_44 : decode prog_4_method_8_code 44 = .ok (.ior, 1) := by decide +kernel
theorem kb_Pr_append_45 : decode prog_4_method_8_code 45 = .ok (.putfield 38, 3) := by decide +kernel
theorem kb_Pr_append_48 : decode prog_4_method_8_code 48 = .ok (.aload_n 1, 1) := by decide +kernel
theorem kb_Pr_append_49 : decode prog_4_method_8_code 49 = .ok (.getfield 52, 3) := by decide +kernel
theorem kb_Pr_append_52 : decode prog_4_method_8_code 52 = .ok (.ifCond .eq 21, 3) := by decide +kernel
theorem kb_Pr_append_55 : decode prog_4_method_8_code 55 = .ok (.aload_n 0, 1) := by decide +kernel
theorem kb_Pr_append_56 : decode prog_4_method_8_code 56 = .ok (.dup, 1) := by decide +kernel
theorem kb_Pr_append_57 : decode prog_4_method_8_code 57 = .ok (.getfield 45, 3) := by decide +kernel
theorem kb_Pr_append_60 : decode prog_4_method_8_code 60 = .ok (.iconst 1, 1) := by decide +kernel
theorem kb_Pr_append_61 : decode prog_4_method_8_code 61 = .ok (.aload_n 1, 1) := by decide +kernel
theorem kb_Pr_append_62 : decode prog_4_method_8_code 62 = .ok (.getfield 59, 3) := by decide +kernel
theorem kb_Pr_append_65 : decode prog_4_method_8_code 65 = .ok (.getfield 63, 3) := by decide +kernel
theorem kb_Pr_append_68 : decode prog_4_method_8_code 68 = .ok (.ishl, 1) := by decide +kernel
theorem kb_Pr_append_69 : decode prog_4_method_8_code 69 = .ok (.ior, 1) := by decide +kernel
theorem kb_Pr_append_70 : decode prog_4_method_8_code 70 = .ok (.putfield 45, 3) := by decide +kernel
theorem kb_Pr_append_73 : decode prog_4_method_8_code 73 = .ok (.return_, 1) := by decide +kernel
theorem kb_Pr_findLayers_0 : decode prog_4_method_9_code 0 = .ok (.aload_n 0, 1) := by decide +kernel
theorem kb_Pr_findLayers_1 : decode prog_4_method_9_code 1 = .ok (.invokevirtual 77, 3) := by decide +kernel
theorem kb_Pr_findLayers_4 : decode prog_4_method_9_code 4 = .ok (.aload_n 0, 1) := by decide +kernel
theorem kb_Pr_findLayers_5 : decode prog_4_method_9_code 5 = .ok (.invokevirtual 80, 3) := by decide +kernel
theorem kb_Pr_findLayers_8 : decode prog_4_method_9_code 8 = .ok (.aload_n 0, 1) := by decide +kernel
theorem kb_Pr_findLayers_9 : decode prog_4_method_9_code 9 = .ok (.getfield 83, 3) := by decide +kernel
theorem kb_Pr_findLayers_12 : decode prog_4_method_9_code 12 = .ok (.ifCond .eq 5, 3) := by decide +kernel
theorem kb_Pr_findLayers_15 : decode prog_4_method_9_code 15 = .ok (.iconst 0, 1) := by decide +kernel
theorem kb_Pr_findLayers_16 : decode prog_4_method_9_code 16 = .ok (.ireturn, 1) := by decide +kernel
theorem kb_Pr_findLayers_17 : decode prog_4_method_9_code 17 = .ok (.iconst 0, 1) := by decide +kernel
theorem kb_Pr_findLayers_18 : decode prog_4_method_9_code 18 = .ok (.istore_n 1, 1) := by decide +kernel
theorem kb_Pr_findLayers_19 : decode prog_4_method_9_code 19 = .ok (.iload_n 1, 1) := by decide +kernel
theorem kb_Pr_findLayers_20 : decode prog_4_method_9_code 20 = .ok (.aload_n 0, 1) := by decide +kernel
theorem kb_Pr_findLayers_21 : decode prog_4_method_9_code 21 = .ok (.getfield 30, 3) := by decide +kernel
theorem kb_Pr_findLayers_24 : decode prog_4_method_9_code 24 = .ok (.if_icmp .ge 28, 3) := by decide +kernel
theorem kb_Pr_findLayers_27 : decode prog_4_method_9_code 27 = .ok (.aload_n 0, 1) := by decide +kernel
theorem kb_Pr_findLayers_28 : decode prog_4_method_9_code 28 = .ok (.getfield 24, 3) := by decide +kernel
theorem kb_Pr_findLayers_31 : decode prog_4_method_9_code 31 = .ok (.iload_n 1, 1) := by decide +kernel
theorem kb_Pr_findLayers_32 : decode prog_4_method_9_code 32 = .ok (.aload_n 0, 1) := by decide +kernel
theorem kb_Pr_findLayers_33 : decode prog_4_method_9_code 33 = .ok (.iload_n 1, 1) := by decide +kernel
theorem kb_Pr_findLayers_34 : decode prog_4_method_9_code 34 = .ok (.invokevirtual 68, 3) := by decide +kernel
theorem kb_Pr_findLayers_37 : decode prog_4_method_9_code 37 = .ok (.ifCond .eq 7, 3) := by decide +kernel
theorem kb_Pr_findLayers_40 : decode prog_4_method_9_code 40 = .ok (.iconst 1, 1) := by decide +kernel
theorem kb_Pr_findLayers_41 : decode prog_4_method_9_code 41 = .ok (.goto 4, 3) := by decide +kernel
theorem kb_Pr_findLayers_44 : decode prog_4_method_9_code 44 = .ok (.iconst 0, 1) := by decide +kernel
theorem kb_Pr_findLayers_45 : decode prog_4_method_9_code 45 = .ok (.iastore, 1) := by decide +kernel
theorem kb_Pr_findLayers_46 : decode prog_4_method_9_code 46 = .ok (.iinc 1 1, 3) := by decide +kernel
theorem kb_Pr_findLayers_49 : decode prog_4_method_9_code 49 = .ok (.goto (-30), 3) := by decide +kernel
theorem kb_Pr_findLayers_52 : decode prog_4_method_9_code 52 = .ok (.iconst 0, 1) := by decide +kernel
theorem kb_Pr_findLayers_53 : decode prog_4_method_9_code 53 = .ok (.istore_n 1, 1) := by decide +kernel
theorem kb_Pr_findLayers_54 : decode prog_4_method_9_code 54 = .ok (.iload_n 1, 1) := by decide +kernel
theorem kb_Pr_findLayers_55 : decode prog_4_method_9_code 55 = .ok (.bipush 8, 2) := by decide +kernel
theorem kb_Pr_findLayers_57 : decode prog_4_method_9_code 57 = .ok (.if_icmp .ge 13, 3) := by decide +kernel
theorem kb_Pr_findLayers_60 : decode prog_4_method_9_code 60 = .ok (.aload_n 0, 1) := by decide +kernel
theorem kb_Pr_findLayers_61 : decode prog_4_method_9_code 61 = .ok (.invokevirtual 86, 3) := by decide +kernel
theorem kb_Pr_findLayers_64 : decode prog_4_method_9_code 64 = .ok (.iinc 1 1, 3) := by decide +kernel
theorem kb_Pr_findLayers_67 : decode prog_4_method_9_code 67 = .ok (.goto (-13), 3) := by decide +kernel
theorem kb_Pr_findLayers_70 : decode prog_4_method_9_code 70 = .ok (.iconst 0, 1) := by decide +kernel
theorem kb_Pr_findLayers_71 : decode prog_4_method_9_code 71 = .ok (.istore_n 1, 1) := by decide +kernel
theorem kb_Pr_findLayers_72 : decode prog_4_method_9_code 72 = .ok (.iload_n 1, 1) := by decide +kernel
theorem kb_Pr_findLayers_73 : decode prog_4_method_9_code 73 = .ok (.aload_n 0, 1) := by decide +kernel
theorem kb_Pr_findLayers_74 : decode prog_4_method_9_code 74 = .ok (.getfield 30, 3) := by decide +kernel
theorem kb_Pr_findLayers_77 : decode prog_4_method_9_code 77 = .ok (.if_icmp .ge 26, 3) := by decide +kernel
theorem kb_Pr_findLayers_80 : decode prog_4_method_9_code 80 = .ok (.aload_n 0, 1) := by decide +kernel
theorem kb_Pr_findLayers_81 : decode prog_4_method_9_code 81 = .ok (.aload_n 0, 1) := by decide +kernel
theorem kb_Pr_findLayers_82 : decode prog_4_method_9_code 82 = .ok (.getfield 89, 3) := by decide +kernel
theorem kb_Pr_findLayers_85 : decode prog_4_method_9_code 85 = .ok (.aload_n 0, 1) := by decide +kernel
theorem kb_Pr_findLayers_86 : decode prog_4_method_9_code 86 = .ok (.getfield 24, 3) := by decide +kernel
theorem kb_Pr_findLayers_89 : decode prog_4_method_9_code 89 = .ok (.iload_n 1, 1) := by decide +kernel
theorem kb_Pr_findLayers_90 : decode prog_4_method_9_code 90 = .ok (.iaload, 1) := by decide +kernel
theorem kb_Pr_findLayers_91 : decode prog_4_method_9_code 91 = .ok (.invokestatic 92, 3) := by decide +kernel
theorem kb_Pr_findLayers_94 : decode prog_4_method_9_code 94 = .ok (.putfield 89, 3) := by decide +kernel
theorem kb_Pr_findLayers_97 : decode prog_4_method_9_code 97 = .ok (.iinc 1 1, 3) := by decide +kernel
theorem kb_Pr_findLayers_100 : decode prog_4_method_9_code 100 = .ok (.goto (-28), 3) := by decide +kernel
theorem kb_Pr_findLayers_103 : decode prog_4_method_9_code 103 = .ok (.iconst 1, 1) := by decide +kernel
theorem kb_Pr_findLayers_104 : decode prog_4_method_9_code 104 = .ok (.ireturn, 1) := by decide +kernel
theorem kb_Pr_findReach_0 : decode prog_4_method_10_code 0 = .ok (.iconst 0, 1) := by decide +kernel
theorem kb_Pr_findReach_1 : decode prog_4_method_10_code 1 = .ok (.istore_n 1, 1) := by decide +kernel
theorem kb_Pr_findReach_2 : decode prog_4_method_10_code 2 = .ok (.iload_n 1, 1) := by decide +kernel
theorem kb_Pr_findReach_3 : decode prog_4_method_10_code 3 = .ok (.aload_n 0, 1) := by decide +kernel
theorem kb_Pr_findReach_4 : decode prog_4_method_10_code 4 = .ok (.getfield 74, 3) := by decide +kernel
theorem kb_Pr_findReach_7 : decode prog_4_method_10_code 7 = .ok (.if_icmp .ge 71, 3) := by decide +kernel
theorem kb_Pr_findReach_10 : decode prog_4_method_10_code 10 = .ok (.aload_n 0, 1) := by decide +kernel
theorem kb_Pr_findReach_11 : decode prog_4_method_10_code 11 = .ok (.getfield 11, 3) := by decide +kernel
theorem kb_Pr_findReach_14 : decode prog_4_method_10_code 14 = .ok (.iload_n 1, 1) := by decide +kernel
theorem kb_Pr_findReach_15 : decode prog_4_method_10_code 15 = .ok (.aaload, 1) := by decide +kernel
theorem kb_Pr_findReach_16 : decode prog_4_method_10_code 16 = .ok (.astore_n 2, 1) := by decide +kernel
theorem kb_Pr_findReach_17 : decode prog_4_method_10_code 17 = .ok (.iconst 0, 1) := by decide +kernel
theorem kb_Pr_findReach_18 : decode prog_4_method_10_code 18 = .ok (.istore_n 3, 1) := by decide +kernel
theorem kb_Pr_findReach_19 : decode prog_4_method_10_code 19 = .ok (.iload_n 3, 1) := by decide +kernel
theorem kb_Pr_findReach_20 : decode prog_4_method_10_code 20 = .ok (.aload_n 2, 1) := by decide +kernel
theorem kb_Pr_findReach_21 : decode prog_4_method_10_code 21 = .ok (.getfield 56, 3) := by decide +kernel
theorem kb_Pr_findReach_24 : decode prog_4_method_10_code 24 = .ok (.if_icmp .ge 48, 3) := by decide +kernel
theorem kb_Pr_findReach_27 : decode prog_4_method_10_code 27 = .ok (.aload_n 2, 1) := by decide +kernel
theorem kb_Pr_findReach_28 : decode prog_4_method_10_code 28 = .ok (.getfield 98, 3) := by decide +kernel
theorem kb_Pr_findReach_31 : decode prog_4_method_10_code 31 = .ok (.iload_n 3, 1) := by decide +kernel
theorem kb_Pr_findReach_32 : decode prog_4_method_10_code 32 = .ok (.aaload, 1) := by decide +kernel
theorem kb_Pr_findReach_33 : decode prog_4_method_10_code 33 = .ok (.getfield 102, 3) := by decide +kernel
theorem kb_Pr_findReach_36 : decode prog_4_method_10_code 36 = .ok (.iconst 2, 1) := by decide +kernel
theorem kb_Pr_findReach_37 : decode prog_4_method_10_code 37 = .ok (.if_icmp .eq 29, 3) := by decide +kernel
theorem kb_Pr_findReach_40 : decode prog_4_method_10_code 40 = .ok (.aload_n 0, 1) := by decide +kernel
theorem kb_Pr_findReach_41 : decode prog_4_method_10_code 41 = .ok (.getfield 27, 3) := by decide +kernel
theorem kb_Pr_findReach_44 : decode prog_4_method_10_code 44 = .ok (.aload_n 2, 1) := by decide +kernel
theorem kb_Pr_findReach_45 : decode prog_4_method_10_code 45 = .ok (.getfield 59, 3) := by decide +kernel
theorem kb_Pr_findReach_48 : decode prog_4_method_10_code 48 = .ok (.getfield 63, 3) := by decide +kernel
theorem kb_Pr_findReach_51 : decode prog_4_method_10_code 51 = .ok (.dup2, 1) := by decide +kernel
theorem kb_Pr_findReach_52 : decode prog_4_method_10_code 52 = .ok (.iaload, 1) := by decide +kernel
theorem kb_Pr_findReach_53 : decode prog_4_method_10_code 53 = .ok (.iconst 1, 1) := by decide +kernel
theorem kb_Pr_findReach_54 : decode prog_4_method_10_code 54 = .ok (.aload_n 2, 1) := by decide +kernel
theorem kb_Pr_findReach_55 : decode prog_4_method_10_code 55 = .ok (.getfield 98, 3) := by decide +kernel
theorem kb_Pr_findReach_58 : decode prog_4_method_10_code 58 = .ok (.iload_n 3, 1) := by decide +kernel
theorem kb_Pr_findReach_59 : decode prog_4_method_10_code 59 = .ok (.aaload, 1) := by decide +kernel
theorem kb_Pr_findReach_60 : decode prog_4_method_10_code 60 = .ok (.getfield 63, 3) := by decide +kernel
theorem kb_Pr_findReach_63 : decode prog_4_method_10_code 63 = .ok (.ishl, 1) := by decide +kernel
theorem kb_Pr_findReach_64 : decode prog_4_method_10_code 64 = .ok (.ior, 1) := by decide +kernel
theorem kb_Pr_findReach_65 : decode prog_4_method_10_code 65 = .ok (.iastore, 1) := by decide +kernel
theorem kb_Pr_findReach_66 : decode prog_4_method_10_code 66 = .ok (.iinc 3 1, 3) := by decide +kernel
theorem kb_Pr_findReach_69 : decode prog_4_method_10_code 69 = .ok (.goto (-50), 3) := by decide +kernel
theorem kb_Pr_findReach_72 : decode prog_4_method_10_code 72 = .ok (.iinc 1 1, 3) := by decide +kernel
theorem kb_Pr_findReach_75 : decode prog_4_method_10_code 75 = .ok (.goto (-73), 3) := by decide +kernel
theorem kb_Pr_findReach_78 : decode prog_4_method_10_code 78 = .ok (.iconst 0, 1) := by decide +kernel
theorem kb_Pr_findReach_79 : decode prog_4_method_10_code 79 = .ok (.istore_n 1, 1) := by decide +kernel
theorem kb_Pr_findReach_80 : decode prog_4_method_10_code 80 = .ok (.iload_n 1, 1) := by decide +kernel
theorem kb_Pr_findReach_81 : decode prog_4_method_10_code 81 = .ok (.aload_n 0, 1) := by decide +kernel
theorem kb_Pr_findReach_82 : decode prog_4_method_10_code 82 = .ok (.getfield 30, 3) := by decide +kernel
theorem kb_Pr_findReach_85 : decode prog_4_method_10_code 85 = .ok (.if_icmp .ge 53, 3) := by decide +kernel
theorem kb_Pr_findReach_88 : decode prog_4_method_10_code 88 = .ok (.iconst 0, 1) := by decide +kernel
theorem kb_Pr_findReach_89 : decode prog_4_method_10_code 89 = .ok (.istore_n 2, 1) := by decide +kernel
theorem kb_Pr_findReach_90 : decode prog_4_method_10_code 90 = .ok (.iload_n 2, 1) := by decide +kernel
theorem kb_Pr_findReach_91 : decode prog_4_method_10_code 91 = .ok (.aload_n 0, 1) := by decide +kernel
theorem kb_Pr_findReach_92 : decode prog_4_method_10_code 92 = .ok (.getfield 30, 3) := by decide +kernel
theorem kb_Pr_findReach_95 : decode prog_4_method_10_code 95 = .ok (.if_icmp .ge 37, 3) := by decide +kernel
theorem kb_Pr_findReach_98 : decode prog_4_method_10_code 98 = .ok (.aload_n 0, 1) := by decide +kernel
theorem kb_Pr_findReach_99 : decode prog_4_method_10_code 99 = .ok (.getfield 27, 3) := by decide +kernel
theorem kb_Pr_findReach_102 : decode prog_4_method_10_code 102 = .ok (.iload_n 2, 1) := by decide +kernel
theorem kb_Pr_findReach_103 : decode prog_4_method_10_code 103 = .ok (.iaload, 1) := by decide +kernel
theorem kb_Pr_findReach_104 : decode prog_4_method_10_code 104 = .ok (.iload_n 1, 1) := by decide +kernel
theorem kb_Pr_findReach_105 : decode prog_4_method_10_code 105 = .ok (.invokestatic 41, 3) := by decide +kernel
theorem kb_Pr_findReach_108 : decode prog_4_method_10_code 108 = .ok (.ifCond .eq 18, 3) := by decide +kernel
theorem kb_Pr_findReach_111 : decode prog_4_method_10_code 111 = .ok (.aload_n 0, 1) := by decide +kernel
theorem kb_Pr_findReach_112 : decode prog_4_method_10_code 112 = .ok (.getfield 27, 3) := by decide +kernel
theorem kb_Pr_findReach_115 : decode prog_4_method_10_code 115 = .ok (.iload_n 2, 1) := by decide +kernel
theorem kb_Pr_findReach_116 : decode prog_4_method_10_code 116 = .ok (.dup2, 1) := by decide +kernel
theorem kb_Pr_findReach_117 : decode prog_4_method_10_code 117 = .ok (.iaload, 1) := by decide +kernel
theorem kb_Pr_findReach_118 : decode prog_4_method_10_code 118 = .ok (.aload_n 0, 1) := by decide +kernel
theorem kb_Pr_findReach_119 : decode prog_4_method_10_code 119 = .ok (.getfield 27, 3) := by decide +kernel
theorem kb_Pr_findReach_122 : decode prog_4_method_10_code 122 = .ok (.iload_n 1, 1) := by decide +kernel
theorem kb_Pr_findReach_123 : decode prog_4_method_10_code 123 = .ok (.iaload, 1) := by decide +kernel
theorem kb_Pr_findReach_124 : decode prog_4_method_10_code 124 = .ok (.ior, 1) := by decide +kernel
theorem kb_Pr_findReach_125 : decode prog_4_method_10_code 125 = .ok (.iastore, 1) := by decide +kernel
theorem kb_Pr_findReach_126 : decode prog_4_method_10_code 126 = .ok (.iinc 2 1, 3) := by decide +kernel
theorem kb_Pr_findReach_129 : decode prog_4_method_10_code 129 = .ok (.goto (-39), 3) := by decide +kernel
theorem kb_Pr_findReach_132 : decode prog_4_method_10_code 132 = .ok (.iinc 1 1, 3) := by decide +kernel
theorem kb_Pr_findReach_135 : decode prog_4_method_10_code 135 = .ok (.goto (-55), 3) := by decide +kernel
theorem kb_Pr_findReach_138 : decode prog_4_method_10_code 138 = .ok (.return_, 1) := by decide +kernel
theorem kb_Pr_findRing_0 : decode prog_4_method_11_code 0 = .ok (.iconst 0, 1) := by decide +kernel
theorem kb_Pr_findRing_1 : decode prog_4_method_11_code 1 = .ok (.istore_n 1, 1) := by decide +kernel
theorem kb_Pr_findRing_2 : decode prog_4_method_11_code 2 = .ok (.iload_n 1, 1) := by decide +kernel
theorem kb_Pr_findRing_3 : decode prog_4_method_11_code 3 = .ok (.aload_n 0, 1) := by decide +kernel
theorem kb_Pr_findRing_4 : decode prog_4_method_11_code 4 = .ok (.getfield 74, 3) := by decide +kernel
theorem kb_Pr_findRing_7 : decode prog_4_method_11_code 7 = .ok (.if_icmp .ge 87, 3) := by decide +kernel
theorem kb_Pr_findRing_10 : decode prog_4_method_11_code 10 = .ok (.aload_n 0, 1) := by decide +kernel
theorem kb_Pr_findRing_11 : decode prog_4_method_11_code 11 = .ok (.getfield 11, 3) := by decide +kernel
theorem kb_Pr_findRing_14 : decode prog_4_method_11_code 14 = .ok (.iload_n 1, 1) := by decide +kernel
theorem kb_Pr_findRing_15 : decode prog_4_method_11_code 15 = .ok (.aaload, 1) := by decide +kernel
theorem kb_Pr_findRing_16 : decode prog_4_method_11_code 16 = .ok (.astore_n 2, 1) := by decide +kernel
theorem kb_Pr_findRing_17 : decode prog_4_method_11_code 17 = .ok (.aload_n 2, 1) := by decide +kernel
theorem kb_Pr_findRing_18 : decode prog_4_method_11_code 18 = .ok (.getfield 59, 3) := by decide +kernel
theorem kb_Pr_findRing_21 : decode prog_4_method_11_code 21 = .ok (.getfield 63, 3) := by decide +kernel
theorem kb_Pr_findRing_24 : decode prog_4_method_11_code 24 = .ok (.istore_n 3, 1) := by decide +kernel
theorem kb_Pr_findRing_25 : decode prog_4_method_11_code 25 = .ok (.iconst 0, 1) := by decide +kernel
theorem kb_Pr_findRing_26 : decode prog_4_method_11_code 26 = .ok (.istore 4, 2) := by decide +kernel
theorem kb_Pr_findRing_28 : decode prog_4_method_11_code 28 = .ok (.iload 4, 2) := by decide +kernel
theorem kb_Pr_findRing_30 : decode prog_4_method_11_code 30 = .ok (.aload_n 2, 1) := by decide +kernel
theorem kb_Pr_findRing_31 : decode prog_4_method_11_code 31 = .ok (.getfield 56, 3) := by decide +kernel
theorem kb_Pr_findRing_34 : decode prog_4_method_11_code 34 = .ok (.if_icmp .ge 54, 3) := by decide +kernel
theorem kb_Pr_findRing_37 : decode prog_4_method_11_code 37 = .ok (.aload_n 2, 1) := by decide +kernel
theorem kb_Pr_findRing_38 : decode prog_4_method_11_code 38 = .ok (.getfield 98, 3) := by decide +kernel
theorem kb_Pr_findRing_41 : decode prog_4_method_11_code 41 = .ok (.iload 4, 2) := by decide +kernel
theorem kb_Pr_findRing_43 : decode prog_4_method_11_code 43 = .ok (.aaload, 1) := by decide +kernel
theorem kb_Pr_findRing_44 : decode prog_4_method_11_code 44 = .ok (.astore 5, 2) := by decide +kernel
theorem kb_Pr_findRing_46 : decode prog_4_method_11_code 46 = .ok (.aload_n 0, 1) := by decide +kernel
theorem kb_Pr_findRing_47 : decode prog_4_method_11_code 47 = .ok (.aload_n 2, 1) := by decide +kernel
theorem kb_Pr_findRing_48 : decode prog_4_method_11_code 48 = .ok (.aload 5, 2) := by decide +kernel
theorem kb_Pr_findRing_50 : decode prog_4_method_11_code 50 = .ok (.invokevirtual 105, 3) := by decide +kernel
theorem kb_Pr_findRing_53 : decode prog_4_method_11_code 53 = .ok (.ifCond .eq 29, 3) := by decide +kernel
theorem kb_Pr_findRing_56 : decode prog_4_method_11_code 56 = .ok (.aload_n 0, 1) := by decide +kernel
theorem kb_Pr_findRing_57 : decode prog_4_method_11_code 57 = .ok (.getfield 27, 3) := by decide +kernel
theorem kb_Pr_findRing_60 : decode prog_4_method_11_code 60 = .ok (.aload 5, 2) := by decide +kernel
theorem kb_Pr_findRing_62 : decode prog_4_method_11_code 62 = .ok (.getfield 63, 3) := by decide +kernel
theorem kb_Pr_findRing_65 : decode prog_4_method_11_code 65 = .ok (.iaload, 1) := by decide +kernel
theorem kb_Pr_findRing_66 : decode prog_4_method_11_code 66 = .ok (.iload_n 3, 1) := by decide +kernel
theorem kb_Pr_findRing_67 : decode prog_4_method_11_code 67 = .ok (.invokestatic 41, 3) := by decide +kernel
theorem kb_Pr_findRing_70 : decode prog_4_method_11_code 70 = .ok (.ifCond .eq 12, 3) := by decide +kernel
theorem kb_Pr_findRing_73 : decode prog_4_method_11_code 73 = .ok (.aload_n 0, 1) := by decide +kernel
theorem kb_Pr_findRing_74 : decode prog_4_method_11_code 74 = .ok (.aload_n 0, 1) := by decide +kernel
theorem kb_Pr_findRing_75 : decode prog_4_method_11_code 75 = .ok (.iload_n 3, 1) := by decide +kernel
theorem kb_Pr_findRing_76 : decode prog_4_method_11_code 76 = .ok (.invokevirtual 109, 3) := by decide +kernel
theorem kb_Pr_findRing_79 : decode prog_4_method_11_code 79 = .ok (.invokevirtual 112, 3) := by decide +kernel
theorem kb_Pr_findRing_82 : decode prog_4_method_11_code 82 = .ok (.iinc 4 1, 3) := by decide +kernel
theorem kb_Pr_findRing_85 : decode prog_4_method_11_code 85 = .ok (.goto (-57), 3) := by decide +kernel
theorem kb_Pr_findRing_88 : decode prog_4_method_11_code 88 = .ok (.iinc 1 1, 3) := by decide +kernel
theorem kb_Pr_findRing_91 : decode prog_4_method_11_code 91 = .ok (.goto (-89), 3) := by decide +kernel
theorem kb_Pr_findRing_94 : decode prog_4_method_11_code 94 = .ok (.return_, 1) := by decide +kernel
theorem kb_Pr_mustLieBelow_0 : decode prog_4_method_12_code 0 = .ok (.aload_n 2, 1) := by decide +kernel
theorem kb_Pr_mustLieBelow_1 : decode prog_4_method_12_code 1 = .ok (.getfield 102, 3) := by decide +kernel
theorem kb_Pr_mustLieBelow_4 : decode prog_4_method_12_code 4 = .ok (.iconst 1, 1) := by decide +kernel
theorem kb_Pr_mustLieBelow_5 : decode prog_4_method_12_code 5 = .ok (.if_icmp .eq 17, 3) := by decide +kernel
theorem kb_Pr_mustLieBelow_8 : decode prog_4_method_12_code 8 = .ok (.aload_n 2, 1) := by decide +kernel
theorem kb_Pr_mustLieBelow_9 : decode prog_4_method_12_code 9 = .ok (.getfield 102, 3) := by decide +kernel
theorem kb_Pr_mustLieBelow_12 : decode prog_4_method_12_code 12 = .ok (.ifCond .ne 14, 3) := by decide +kernel
theorem kb_Pr_mustLieBelow_15 : decode prog_4_method_12_code 15 = .ok (.aload_n 1, 1) := by decide +kernel
theorem kb_Pr_mustLieBelow_16 : decode prog_4_method_12_code 16 = .ok (.getfield 52, 3) := by decide +kernel
theorem kb_Pr_mustLieBelow_19 : decode prog_4_method_12_code 19 = .ok (.ifCond .eq 7, 3) := by decide +kernel
theorem kb_Pr_mustLieBelow_22 : decode prog_4_method_12_code 22 = .ok (.iconst 1, 1) := by decide +kernel
theorem kb_Pr_mustLieBelow_23 : decode prog_4_method_12_code 23 = .ok (.goto 4, 3) := by decide +kernel
theorem kb_Pr_mustLieBelow_26 : decode prog_4_method_12_code 26 = .ok (.iconst 0, 1) := by decide +kernel
theorem kb_Pr_mustLieBelow_27 : decode prog_4_method_12_code 27 = .ok (.ireturn, 1) := by decide +kernel
theorem kb_Pr_ringThrough_0 : decode prog_4_method_13_code 0 = .ok (.iconst 0, 1) := by decide +kernel
theorem kb_Pr_ringThrough_1 : decode prog_4_method_13_code 1 = .ok (.istore_n 2, 1) := by decide +kernel
theorem kb_Pr_ringThrough_2 : decode prog_4_method_13_code 2 = .ok (.iconst 0, 1) := by decide +kernel
theorem kb_Pr_ringThrough_3 : decode prog_4_method_13_code 3 = .ok (.istore_n 3, 1) := by decide +kernel
theorem kb_Pr_ringThrough_4 : decode prog_4_method_13_code 4 = .ok (.iload_n 3, 1) := by decide +kernel
theorem kb_Pr_ringThrough_5 : decode prog_4_method_13_code 5 = .ok (.aload_n 0, 1) := by decide +kernel
theorem kb_Pr_ringThrough_6 : decode prog_4_method_13_code 6 = .ok (.getfield 30, 3) := by decide +kernel
theorem kb_Pr_ringThrough_9 : decode prog_4_method_13_code 9 = .ok (.if_icmp .ge 41, 3) := by decide +kernel
theorem kb_Pr_ringThrough_12 : decode prog_4_method_13_code 12 = .ok (.aload_n 0, 1) := by decide +kernel
theorem kb_Pr_ringThrough_13 : decode prog_4_method_13_code 13 = .ok (.getfield 27, 3) := by decide +kernel
theorem kb_Pr_ringThrough_16 : decode prog_4_method_13_code 16 = .ok (.iload_n 1, 1) := by decide +kernel
theorem kb_Pr_ringThrough_17 : decode prog_4_method_13_code 17 = .ok (.iaload, 1) := by decide +kernel
theorem kb_Pr_ringThrough_18 : decode prog_4_method_13_code 18 = .ok (.iload_n 3, 1) := by decide +kernel
theorem kb_Pr_ringThrough_19 : decode prog_4_method_13_code 19 = .ok (.invokestatic 41, 3) := by decide +kernel
theorem kb_Pr_ringThrough_22 : decode prog_4_method_13_code 22 = .ok (.ifCond .eq 22, 3) := by decide +kernel
theorem kb_Pr_ringThrough_25 : decode prog_4_method_13_code 25 = .ok (.aload_n 0, 1) := by decide +kernel
theorem kb_Pr_ringThrough_26 : decode prog_4_method_13_code 26 = .ok (.getfield 27, 3) := by decide +kernel
theorem kb_Pr_ringThrough_29 : decode prog_4_method_13_code 29 = .ok (.iload_n 3, 1) := by decide +kernel
theorem kb_Pr_ringThrough_30 : decode prog_4_method_13_code 30 = .ok (.iaload, 1) := by decide +kernel
theorem kb_Pr_ringThrough_31 : decode prog_4_method_13_code 31 = .ok (.iload_n 1, 1) := by decide +kernel
theorem kb_Pr_ringThrough_32 : decode prog_4_method_13_code 32 = .ok (.invokestatic 41, 3) := by decide +kernel
theorem kb_Pr_ringThrough_35 : decode prog_4_method_13_code 35 = .ok (.ifCond .eq 9, 3) := by decide +kernel
theorem kb_Pr_ringThrough_38 : decode prog_4_method_13_code 38 = .ok (.iload_n 2, 1) := by decide +kernel
theorem kb_Pr_ringThrough_39 : decode prog_4_method_13_code 39 = .ok (.iconst 1, 1) := by decide +kernel
theorem kb_Pr_ringThrough_40 : decode prog_4_method_13_code 40 = .ok (.iload_n 3, 1) := by decide +kernel
theorem kb_Pr_ringThrough_41 : decode prog_4_method_13_code 41 = .ok (.ishl, 1) := by decide +kernel
theorem kb_Pr_ringThrough_42 : decode prog_4_method_13_code 42 = .ok (.ior, 1) := by decide +kernel
theorem kb_Pr_ringThrough_43 : decode prog_4_method_13_code 43 = .ok (.istore_n 2, 1) := by decide +kernel
theorem kb_Pr_ringThrough_44 : decode prog_4_method_13_code 44 = .ok (.iinc 3 1, 3) := by decide +kernel
theorem kb_Pr_ringThrough_47 : decode prog_4_method_13_code 47 = .ok (.goto (-43), 3) := by decide +kernel
theorem kb_Pr_ringThrough_50 : decode prog_4_method_13_code 50 = .ok (.iload_n 2, 1) := by decide +kernel
theorem kb_Pr_ringThrough_51 : decode prog_4_method_13_code 51 = .ok (.ireturn, 1) := by decide +kernel
theorem kb_Pr_chooseRing_0 : decode prog_4_method_14_code 0 = .ok (.aload_n 0, 1) := by decide +kernel
theorem kb_Pr_chooseRing_1 : decode prog_4_method_14_code 1 = .ok (.getfield 83, 3) := by decide +kernel
theorem kb_Pr_chooseRing_4 : decode prog_4_method_14_code 4 = .ok (.ifCond .eq 20, 3) := by decide +kernel
theorem kb_Pr_chooseRing_7 : decode prog_4_method_14_code 7 = .ok (.iload_n 1, 1) := by decide +kernel
theorem kb_Pr_chooseRing_8 : decode prog_4_method_14_code 8 = .ok (.iload_n 1, 1) := by decide +kernel
theorem kb_Pr_chooseRing_9 : decode prog_4_method_14_code 9 = .ok (.ineg, 1) := by decide +kernel
theorem kb_Pr_chooseRing_10 : decode prog_4_method_14_code 10 = .ok (.iand, 1) := by decide +kernel
theorem kb_Pr_chooseRing_11 : decode prog_4_method_14_code 11 = .ok (.aload_n 0, 1) := by decide +kernel
theorem kb_Pr_chooseRing_12 : decode prog_4_method_14_code 12 = .ok (.getfield 83, 3) := by decide +kernel
theorem kb_Pr_chooseRing_15 : decode prog_4_method_14_code 15 = .ok (.aload_n 0, 1) := by decide +kernel
theorem kb_Pr_chooseRing_16 : decode prog_4_method_14_code 16 = .ok (.getfield 83, 3) := by decide +kernel
theorem kb_Pr_chooseRing_19 : decode prog_4_method_14_code 19 = .ok (.ineg, 1) := by decide +kernel
theorem kb_Pr_chooseRing_20 : decode prog_4_method_14_code 20 = .ok (.iand, 1) := by decide +kernel
theorem kb_Pr_chooseRing_21 : decode prog_4_method_14_code 21 = .ok (.if_icmp .ge 8, 3) := by decide +kernel
theorem kb_Pr_chooseRing_24 : decode prog_4_method_14_code 24 = .ok (.aload_n 0, 1) := by decide +kernel
theorem kb_Pr_chooseRing_25 : decode prog_4_method_14_code 25 = .ok (.iload_n 1, 1) := by decide +kernel
theorem kb_Pr_chooseRing_26 : decode prog_4_method_14_code 26 = .ok (.putfield 83, 3) := by decide +kernel
theorem kb_Pr_chooseRing_29 : decode prog_4_method_14_code 29 = .ok (.return_, 1) := by decide +kernel
theorem kb_Pr_raiseLayers_0 : decode prog_4_method_15_code 0 = .ok (.iconst 0, 1) := by decide +kernel
theorem kb_Pr_raiseLayers_1 : decode prog_4_method_15_code 1 = .ok (.istore_n 1, 1) := by decide +kernel
theorem kb_Pr_raiseLayers_2 : decode prog_4_method_15_code 2 = .ok (.iload_n 1, 1) := by decide +kernel
theorem kb_Pr_raiseLayers_3 : decode prog_4_method_15_code 3 = .ok (.aload_n 0, 1) := by decide +kernel
theorem kb_Pr_raiseLayers_4 : decode prog_4_method_15_code 4 = .ok (.getfield 74, 3) := by decide +kernel
theorem kb_Pr_raiseLayers_7 : decode prog_4_method_15_code 7 = .ok (.if_icmp .ge 105, 3) := by decide +kernel
theorem kb_Pr_raiseLayers_10 : decode prog_4_method_15_code 10 = .ok (.aload_n 0, 1) := by decide +kernel
theorem kb_Pr_raiseLayers_11 : decode prog_4_method_15_code 11 = .ok (.getfield 11, 3) := by decide +kernel
theorem kb_Pr_raiseLayers_14 : decode prog_4_method_15_code 14 = .ok (.iload_n 1, 1) := by decide +kernel
theorem kb_Pr_raiseLayers_15 : decode prog_4_method_15_code 15 = .ok (.aaload, 1) := by decide +kernel
theorem kb_Pr_raiseLayers_16 : decode prog_4_method_15_code 16 = .ok (.astore_n 2, 1) := by decide +kernel
theorem kb_Pr_raiseLayers_17 : decode prog_4_method_15_code 17 = .ok (.aload_n 2, 1) := by decide +kernel
theorem kb_Pr_raiseLayers_18 : decode prog_4_method_15_code 18 = .ok (.getfield 59, 3) := by decide +kernel
theorem kb_Pr_raiseLayers_21 : decode prog_4_method_15_code 21 = .ok (.getfield 63, 3) := by decide +kernel
theorem kb_Pr_raiseLayers_24 : decode prog_4_method_15_code 24 = .ok (.istore_n 3, 1) := by decide +kernel
theorem kb_Pr_raiseLayers_25 : decode prog_4_method_15_code 25 = .ok (.iconst 0, 1) := by decide +kernel
theorem kb_Pr_raiseLayers_26 : decode prog_4_method_15_code 26 = .ok (.istore 4, 2) := by decide +kernel
theorem kb_Pr_raiseLayers_28 : decode prog_4_method_15_code 28 = .ok (.iload 4, 2) := by decide +kernel
theorem kb_Pr_raiseLayers_30 : decode prog_4_method_15_code 30 = .ok (.aload_n 2, 1) := by decide +kernel
theorem kb_Pr_raiseLayers_31 : decode prog_4_method_15_code 31 = .ok (.getfield 56, 3) := by decide +kernel
theorem kb_Pr_raiseLayers_34 : decode prog_4_method_15_code 34 = .ok (.if_icmp .ge 72, 3) := by decide +kernel
theorem kb_Pr_raiseLayers_37 : decode prog_4_method_15_code 37 = .ok (.aload_n 2, 1) := by decide +kernel
theorem kb_Pr_raiseLayers_38 : decode prog_4_method_15_code 38 = .ok (.getfield 98, 3) := by decide +kernel
theorem kb_Pr_raiseLayers_41 : decode prog_4_method_15_code 41 = .ok (.iload 4, 2) := by decide +kernel
theorem kb_Pr_raiseLayers_43 : decode prog_4_method_15_code 43 = .ok (.aaload, 1) := by decide +kernel
theorem kb_Pr_raiseLayers_44 : decode prog_4_method_15_code 44 = .ok (.astore 5, 2) := by decide +kernel
theorem kb_Pr_raiseLayers_46 : decode prog_4_method_15_code 46 = .ok (.aload 5, 2) := by decide +kernel
theorem kb_Pr_raiseLayers_48 : decode prog_4_method_15_code 48 = .ok (.getfield 102, 3) := by decide +kernel
theorem kb_Pr_raiseLayers_51 : decode prog_4_method_15_code 51 = .ok (.iconst 2, 1) := by decide +kernel
theorem kb_Pr_raiseLayers_52 : decode prog_4_method_15_code 52 = .ok (.if_icmp .eq 48, 3) := by decide +kernel
theorem kb_Pr_raiseLayers_55 : decode prog_4_method_15_code 55 = .ok (.aload_n 0, 1) := by decide +kernel
theorem kb_Pr_raiseLayers_56 : decode prog_4_method_15_code 56 = .ok (.getfield 24, 3) := by decide +kernel
theorem kb_Pr_raiseLayers_59 : decode prog_4_method_15_code 59 = .ok (.aload 5, 2) := by decide +kernel
theorem kb_Pr_raiseLayers_61 : decode prog_4_method_15_code 61 = .ok (.getfield 63, 3) := by decide +kernel
theorem kb_Pr_raiseLayers_64 : decode prog_4_method_15_code 64 = .ok (.iaload, 1) := by decide +kernel
theorem kb_Pr_raiseLayers_65 : decode prog_4_method_15_code 65 = .ok (.aload_n 0, 1) := by decide +kernel
theorem kb_Pr_raiseLayers_66 : decode prog_4_method_15_code 66 = .ok (.aload_n 2, 1) := by decide +kernel
theorem kb_Pr_raiseLayers_67 : decode prog_4_method_15_code 67 = .ok (.aload 5, 2) := by decide +kernel
theorem kb_Pr_raiseLayers_69 : decode prog_4_method_15_code 69 = .ok (.invokevirtual 105, 3) := by decide +kernel
theorem kb_Pr_raiseLayers_72 : decode prog_4_method_15_code 72 = .ok (.ifCond .eq 7, 3) := by decide +kernel
theorem kb_Pr_raiseLayers_75 : decode prog_4_method_15_code 75 = .ok (.iconst 1, 1) := by decide +kernel
theorem kb_Pr_raiseLayers_76 : decode prog_4_method_15_code 76 = .ok (.goto 4, 3) := by decide +kernel
theorem kb_Pr_raiseLayers_79 : decode prog_4_method_15_code 79 = .ok (.iconst 0, 1) := by decide +kernel
theorem kb_Pr_raiseLayers_80 : decode prog_4_method_15_code 80 = .ok (.iadd, 1) := by decide +kernel
theorem kb_Pr_raiseLayers_81 : decode prog_4_method_15_code 81 = .ok (.istore 6, 2) := by decide +kernel
theorem kb_Pr_raiseLayers_83 : decode prog_4_method_15_code 83 = .ok (.aload_n 0, 1) := by decide +kernel
theorem kb_Pr_raiseLayers_84 : decode prog_4_method_15_code 84 = .ok (.getfield 24, 3) := by decide +kernel
theorem kb_Pr_raiseLayers_87 : decode prog_4_method_15_code 87 = .ok (.iload_n 3, 1) := by decide +kernel
theorem kb_Pr_raiseLayers_88 : decode prog_4_method_15_code 88 = .ok (.aload_n 0, 1) := by decide +kernel
theorem kb_Pr_raiseLayers_89 : decode prog_4_method_15_code 89 = .ok (.getfield 24, 3) := by decide +kernel
theorem kb_Pr_raiseLayers_92 : decode prog_4_method_15_code 92 = .ok (.iload_n 3, 1) := by decide +kernel
theorem kb_Pr_raiseLayers_93 : decode prog_4_method_15_code 93 = .ok (.iaload, 1) := by decide +kernel
theorem kb_Pr_raiseLayers_94 : decode prog_4_method_15_code 94 = .ok (.iload 6, 2) := by decide +kernel
theorem kb_Pr_raiseLayers_96 : decode prog_4_method_15_code 96 = .ok (.invokestatic 92, 3) := by decide +kernel
theorem kb_Pr_raiseLayers_99 : decode prog_4_method_15_code 99 = .ok (.iastore, 1) := by decide +kernel
theorem kb_Pr_raiseLayers_100 : decode prog_4_method_15_code 100 = .ok (.iinc 4 1, 3) := by decide +kernel
theorem kb_Pr_raiseLayers_103 : decode prog_4_method_15_code 103 = .ok (.goto (-75), 3) := by decide +kernel
theorem kb_Pr_raiseLayers_106 : decode prog_4_method_15_code 106 = .ok (.iinc 1 1, 3) := by decide +kernel
theorem kb_Pr_raiseLayers_109 : decode prog_4_method_15_code 109 = .ok (.goto (-107), 3) := by decide +kernel
theorem kb_Pr_raiseLayers_112 : decode prog_4_method_15_code 112 = .ok (.return_, 1) := by decide +kernel
theorem kb_Re_init_0 : decode prog_5_method_1_code 0 = .ok (.aload_n 0, 1) := by decide +kernel
theorem kb_Re_init_1 : decode prog_5_method_1_code 1 = .ok (.invokespecial 3, 3) := by decide +kernel
theorem kb_Re_init_4 : decode prog_5_method_1_code 4 = .ok (.aload_n 0, 1) := by decide +kernel
theorem kb_Re_init_5 : decode prog_5_method_1_code 5 = .ok (.new 9, 3) := by decide +kernel
theorem kb_Re_init_8 : decode prog_5_method_1_code 8 = .ok (.dup, 1) := by decide +kernel
theorem kb_Re_init_9 : decode prog_5_method_1_code 9 = .ok (.invokespecial 11, 3) := by decide +kernel
theorem kb_Re_init_12 : decode prog_5_method_1_code 12 = .ok (.putfield 12, 3) := by decide +kernel
theorem kb_Re_init_15 : decode prog_5_method_1_code 15 = .ok (.aload_n 0, 1) := by decide +kernel
theorem kb_Re_init_16 : decode prog_5_method_1_code 16 = .ok (.iconst (-1), 1) := by decide +kernel
theorem kb_Re_init_17 : decode prog_5_method_1_code 17 = .ok (.putfield 18, 3) := by decide +kernel
theorem kb_Re_init_20 : decode prog_5_method_1_code 20 = .ok (.aload_n 0, 1) := by decide +kernel
theorem kb_Re_init_21 : decode prog_5_method_1_code 21 = .ok (.new 22, 3) := by decide +kernel
theorem kb_Re_init_24 : decode prog_5_method_1_code 24 = .ok (.dup, 1) := by decide +kernel
theorem kb_Re_init_25 : decode prog_5_method_1_code 25 = .ok (.invokespecial 24, 3) := by decide +kernel
theorem kb_Re_init_28 : decode prog_5_method_1_code 28 = .ok (.putfield 25, 3) := by decide +kernel
theorem kb_Re_init_31 : decode prog_5_method_1_code 31 = .ok (.aload_n 0, 1) := by decide +kernel
theorem kb_Re_init_32 : decode prog_5_method_1_code 32 = .ok (.aload_n 1, 1) := by decide +kernel
theorem kb_Re_init_33 : decode prog_5_method_1_code 33 = .ok (.putfield 29, 3) := by decide +kernel
theorem kb_Re_init_36 : decode prog_5_method_1_code 36 = .ok (.aload_n 0, 1) := by decide +kernel
theorem kb_Re_init_37 : decode prog_5_method_1_code 37 = .ok (.iload_n 2, 1) := by decide +kernel
theorem kb_Re_init_38 : decode prog_5_method_1_code 38 = .ok (.aload_n 1, 1) := by decide +kernel
theorem kb_Re_init_39 : decode prog_5_method_1_code 39 = .ok (.arraylength, 1) := by decide +kernel
theorem kb_Re_init_40 : decode prog_5_method_1_code 40 = .ok (.invokestatic 33, 3) := by decide +kernel
theorem kb_Re_init_43 : decode prog_5_method_1_code 43 = .ok (.putfield 39, 3) := by decide +kernel
theorem kb_Re_init_46 : decode prog_5_method_1_code 46 = .ok (.return_, 1) := by decide +kernel
theorem kb_Re_readRules_0 : decode prog_5_method_2_code 0 = .ok (.iconst 1, 1) := by decide +kernel
theorem kb_Re_readRules_1 : decode prog_5_method_2_code 1 = .ok (.istore_n 1, 1) := by decide +kernel
theorem kb_Re_readRules_2 : decode prog_5_method_2_code 2 = .ok (.iconst 0, 1) := by decide +kernel
theorem kb_Re_readRules_3 : decode prog_5_method_2_code 3 = .ok (.istore_n 2, 1) := by decide +kernel
theorem kb_Re_readRules_4 : decode prog_5_method_2_code 4 = .ok (.iload_n 2, 1) := by decide +kernel
theorem kb_Re_readRules_5 : decode prog_5_method_2_code 5 = .ok (.bipush 16, 2) := by decide +kernel
theorem kb_Re_readRules_7 : decode prog_5_method_2_code 7 = .ok (.if_icmp .gt 26, 3) := by decide +kernel
theorem kb_Re_readRules_10 : decode prog_5_method_2_code 10 = .ok (.iload_n 1, 1) := by decide +kernel
theorem kb_Re_readRules_11 : decode prog_5_method_2_code 11 = .ok (.ifCond .eq 22, 3) := by decide +kernel
theorem kb_Re_readRules_14 : decode prog_5_method_2_code 14 = .ok (.aload_n 0, 1) := by decide +kernel
theorem kb_Re_readRules_15 : decode prog_5_method_2_code 15 = .ok (.invokevirtual 42, 3) := by decide +kernel
theorem kb_Re_readRules_18 : decode prog_5_method_2_code 18 = .ok (.iconst (-1), 1) := by decide +kernel
theorem kb_Re_readRules_19 : decode prog_5_method_2_code 19 = .ok (.if_icmp .eq 14, 3) := by decide +kernel
theorem kb_Re_readRules_22 : decode prog_5_method_2_code 22 = .ok (.aload_n 0, 1) := by decide +kernel
theorem kb_Re_readRules_23 : decode prog_5_method_2_code 23 = .ok (.invokevirtual 46, 3) := by decide +kernel
theorem kb_Re_readRules_26 : decode prog_5_method_2_code 26 = .ok (.istore_n 1, 1) := by decide +kernel
theorem kb_Re_readRules_27 : decode prog_5_method_2_code 27 = .ok (.iinc 2 1, 3) := by decide +kernel
theorem kb_Re_readRules_30 : decode prog_5_method_2_code 30 = .ok (.goto (-26), 3) := by decide +kernel
theorem kb_Re_readRules_33 : decode prog_5_method_2_code 33 = .ok (.iload_n 1, 1) := by decide +kernel
theorem kb_Re_readRules_34 : decode prog_5_method_2_code 34 = .ok (.ifCond .eq 20, 3) := by decide +kernel
theorem kb_Re_readRules_37 : decode prog_5_method_2_code 37 = .ok (.aload_n 0, 1) := by decide +kernel
theorem kb_Re_readRules_38 : decode prog_5_method_2_code 38 = .ok (.getfield 12, 3) := by decide +kernel
theorem kb_Re_readRules_41 : decode prog_5_method_2_code 41 = .ok (.invokevirtual 50, 3) := by decide +kernel
theorem kb_Re_readRules_44 : decode prog_5_method_2_code 44 = .ok (.ifCond .ne 10, 3) := by decide +kernel
theorem kb_Re_readRules_47 : decode prog_5_method_2_code 47 = .ok (.aload_n 0, 1) := by decide +kernel
theorem kb_Re_readRules_48 : decode prog_5_method_2_code 48 = .ok (.bipush 6, 2) := by decide +kernel
theorem kb_Re_readRules_50 : decode prog_5_method_2_code 50 = .ok (.invokevirtual 53, 3) := by decide +kernel
theorem kb_Re_readRules_53 : decode prog_5_method_2_code 53 = .ok (.pop, 1) := by decide +kernel
theorem kb_Re_readRules_54 : decode prog_5_method_2_code 54 = .ok (.return_, 1) := by decide +kernel
theorem kb_Re_readRule_0 : decode prog_5_method_3_code 0 = .ok (.aload_n 0, 1) := by decide +kernel
theorem kb_Re_readRule_1 : decode prog_5_method_3_code 1 = .ok (.new 22, 3) := by decide +kernel
theorem kb_Re_readRule_4 : decode prog_5_method_3_code 4 = .ok (.dup, 1) := by decide +kernel
theorem kb_Re_readRule_5 : decode prog_5_method_3_code 5 = .ok (.invokespecial 24, 3) := by decide +kernel
theorem kb_Re_readRule_8 : decode prog_5_method_3_code 8 = .ok (.putfield 25, 3) := by decide +kernel
theorem kb_Re_readRule_11 : decode prog_5_method_3_code 11 = .ok (.aload_n 0, 1) := by decide +kernel
theorem kb_Re_readRule_12 : decode prog_5_method_3_code 12 = .ok (.invokevirtual 42, 3) := by decide +kernel
theorem kb_Re_readRule_15 : decode prog_5_method_3_code 15 = .ok (.invokestatic 57, 3) := by decide +kernel
theorem kb_Re_readRule_18 : decode prog_5_method_3_code 18 = .ok (.ifCond .eq 21, 3) := by decide +kernel
theorem kb_Re_readRule_21 : decode prog_5_method_3_code 21 = .ok (.aload_n 0, 1) := by decide +kernel
theorem kb_Re_readRule_22 : decode prog_5_method_3_code 22 = .ok (.getfield 12, 3) := by decide +kernel
theorem kb_Re_readRule_25 : decode prog_5_method_3_code 25 = .ok (.getfield 60, 3) := by decide +kernel
theorem kb_Re_readRule_28 : decode prog_5_method_3_code 28 = .ok (.bipush 16, 2) := by decide +kernel
theorem kb_Re_readRule_30 : decode prog_5_method_3_code 30 = .ok (.if_icmp .lt 9, 3) := by decide +kernel
theorem kb_Re_readRule_33 : decode prog_5_method_3_code 33 = .ok (.aload_n 0, 1) := by decide +kernel
theorem kb_Re_readRule_34 : decode prog_5_method_3_code 34 = .ok (.iconst 3, 1) := by decide +kernel
theorem kb_Re_readRule_35 : decode prog_5_method_3_code 35 = .ok (.invokevirtual 53, 3) := by decide +kernel
theorem kb_Re_readRule_38 : decode prog_5_method_3_code 38 = .ok (.ireturn, 1) := by decide +kernel
theorem kb_Re_readRule_39 : decode prog_5_method_3_code 39 = .ok (.aload_n 0, 1) := by decide +kernel
theorem kb_Re_readRule_40 : decode prog_5_method_3_code 40 = .ok (.aload_n 0, 1) := by decide +kernel
theorem kb_Re_readRule_41 : decode prog_5_method_3_code 41 = .ok (.getfield 25, 3) := by decide +kernel
theorem kb_Re_readRule_44 : decode prog_5_method_3_code 44 = .ok (.getfield 63, 3) := by decide +kernel
theorem kb_Re_readRule_47 : decode prog_5_method_3_code 47 = .ok (.iconst 1, 1) := by decide +kernel
theorem kb_Re_readRule_48 : decode prog_5_method_3_code 48 = .ok (.invokevirtual 67, 3) := by decide +kernel
theorem kb_Re_readRule_51 : decode prog_5_method_3_code 51 = .ok (.ifCond .ne 5, 3) := by decide +kernel
theorem kb_Re_readRule_54 : decode prog_5_method_3_code 54 = .ok (.iconst 0, 1) := by decide +kernel
theorem kb_Re_readRule_55 : decode prog_5_method_3_code 55 = .ok (.ireturn, 1) := by decide +kernel
theorem kb_Re_readRule_56 : decode prog_5_method_3_code 56 = .ok (.aload_n 0, 1) := by decide +kernel
theorem kb_Re_readRule_57 : decode prog_5_method_3_code 57 = .ok (.invokevirtual 42, 3) := by decide +kernel
theorem kb_Re_readRule_60 : decode prog_5_method_3_code 60 = .ok (.bipush 46, 2) := by decide +kernel
theorem kb_Re_readRule_62 : decode prog_5_method_3_code 62 = .ok (.if_icmp .ne 8, 3) := by decide +kernel
theorem kb_Re_readRule_65 : decode prog_5_method_3_code 65 = .ok (.aload_n 0, 1) := by decide +kernel
theorem kb_Re_readRule_66 : decode prog_5_method_3_code 66 = .ok (.invokevirtual 71, 3) := by decide +kernel
theorem kb_Re_readRule_69 : decode prog_5_method_3_code 69 = .ok (.ireturn, 1) := by decide +kernel
theorem kb_Re_readRule_70 : decode prog_5_method_3_code 70 = .ok (.aload_n 0, 1) := by decide +kernel
theorem kb_Re_readRule_71 : decode prog_5_method_3_code 71 = .ok (.bipush 58, 2) := by decide +kernel
theorem kb_Re_readRule_73 : decode prog_5_method_3_code 73 = .ok (.invokevirtual 74, 3) := by decide +kernel
theorem kb_Re_readRule_76 : decode prog_5_method_3_code 76 = .ok (.ifCond .eq 12, 3) := by decide +kernel
theorem kb_Re_readRule_79 : decode prog_5_method_3_code 79 = .ok (.aload_n 0, 1) := by decide +kernel
theorem kb_Re_readRule_80 : decode prog_5_method_3_code 80 = .ok (.bipush 45, 2) := by decide +kernel
theorem kb_Re_readRule_82 : decode prog_5_method_3_code 82 = .ok (.invokevirtual 74, 3) := by decide +kernel
theorem kb_Re_readRule_85 : decode prog_5_method_3_code 85 = .ok (.ifCond .ne 5, 3) := by decide +kernel
theorem kb_Re_readRule_88 : decode prog_5_method_3_code 88 = .ok (.iconst 0, 1) := by decide +kernel
theorem kb_Re_readRule_89 : decode prog_5_method_3_code 89 = .ok (.ireturn, 1) := by decide +kernel
theorem kb_Re_readRule_90 : decode prog_5_method_3_code 90 = .ok (.iconst 0, 1) := by decide +kernel
theorem kb_Re_readRule_91 : decode prog_5_method_3_code 91 = .ok (.istore_n 1, 1) := by decide +kernel
theorem kb_Re_readRule_92 : decode prog_5_method_3_code 92 = .ok (.iload_n 1, 1) := by decide +kernel
theorem kb_Re_readRule_93 : decode prog_5_method_3_code 93 = .ok (.iconst 5, 1) := by decide +kernel
theorem kb_Re_readRule_94 : decode prog_5_method_3_code 94 = .ok (.if_icmp .gt 43, 3) := by decide +kernel
theorem kb_Re_readRule_97 : decode prog_5_method_3_code 97 = .ok (.aload_n 0, 1) := by decide +kernel
theorem kb_Re_readRule_98 : decode prog_5_method_3_code 98 = .ok (.invokevirtual 77, 3) := by decide +kernel
theorem kb_Re_readRule_101 : decode prog_5_method_3_code 101 = .ok (.ifCond .ne 5, 3) := by decide +kernel
theorem kb_Re_readRule_104 : decode prog_5_method_3_code 104 = .ok (.iconst 0, 1) := by decide +kernel
theorem kb_Re_readRule_105 : decode prog_5_method_3_code 105 = .ok (.ireturn, 1) := by decide +kernel
theorem kb_Re_readRule_106 : decode prog_5_method_3_code 106 = .ok (.aload_n 0, 1) := by decide +kernel
theorem kb_Re_readRule_107 : decode prog_5_method_3_code 107 = .ok (.invokevirtual 42, 3) := by decide +kernel
theorem kb_Re_readRule_110 : decode prog_5_method_3_code 110 = .ok (.bipush 46, 2) := by decide +kernel
theorem kb_Re_readRule_112 : decode prog_5_method_3_code 112 = .ok (.if_icmp .ne 8, 3) := by decide +kernel
theorem kb_Re_readRule_115 : decode prog_5_method_3_code 115 = .ok (.aload_n 0, 1) := by decide +kernel
theorem kb_Re_readRule_116 : decode prog_5_method_3_code 116 = .ok (.invokevirtual 71, 3) := by decide +kernel
theorem kb_Re_readRule_119 : decode prog_5_method_3_code 119 = .ok (.ireturn, 1) := by decide +kernel
theorem kb_Re_readRule_120 : decode prog_5_method_3_code 120 = .ok (.aload_n 0, 1) := by decide +kernel
theorem kb_Re_readRule_121 : decode prog_5_method_3_code 121 = .ok (.bipush 44, 2) := by decide +kernel
theorem kb_Re_readRule_123 : decode prog_5_method_3_code 123 = .ok (.invokevirtual 74, 3) := by decide +kernel
theorem kb_Re_readRule_126 : decode prog_5_method_3_code 126 = .ok (.ifCond .ne 5, 3) := by decide +kernel
theorem kb_Re_readRule_129 : decode prog_5_method_3_code 129 = .ok (.iconst 0, 1) := by decide +kernel
theorem kb_Re_readRule_130 : decode prog_5_method_3_code 130 = .ok (.ireturn, 1) := by decide +kernel
theorem kb_Re_readRule_131 : decode prog_5_method_3_code 131 = .ok (.iinc 1 1, 3) := by decide +kernel
theorem kb_Re_readRule_134 : decode prog_5_method_3_code 134 = .ok (.goto (-42), 3) := by decide +kernel
theorem kb_Re_readRule_137 : decode prog_5_method_3_code 137 = .ok (.iconst 0, 1) := by decide +kernel
theorem kb_Re_readRule_138 : decode prog_5_method_3_code 138 = .ok (.ireturn, 1) := by decide +kernel
theorem kb_Re_closeRule_0 : decode prog_5_method_4_code 0 = .ok (.aload_n 0, 1) := by decide +kernel
theorem kb_Re_closeRule_1 : decode prog_5_method_4_code 1 = .ok (.getfield 25, 3) := by decide +kernel
theorem kb_Re_closeRule_4 : decode prog_5_method_4_code 4 = .ok (.invokevirtual 80, 3) := by decide +kernel
theorem kb_Re_closeRule_7 : decode prog_5_method_4_code 7 = .ok (.ifCond .eq 9, 3) := by decide +kernel
theorem kb_Re_closeRule_10 : decode prog_5_method_4_code 10 = .ok (.aload_n 0, 1) := by decide +kernel
theorem kb_Re_closeRule_11 : decode prog_5_method_4_code 11 = .ok (.iconst 4, 1) := by decide +kernel
theorem kb_Re_closeRule_12 : decode prog_5_method_4_code 12 = .ok (.invokevirtual 53, 3) := by decide +kernel
theorem kb_Re_closeRule_15 : decode prog_5_method_4_code 15 = .ok (.ireturn, 1) := by decide +kernel
theorem kb_Re_closeRule_16 : decode prog_5_method_4_code 16 = .ok (.aload_n 0, 1) := by decide +kernel
theorem kb_Re_closeRule_17 : decode prog_5_method_4_code 17 = .ok (.getfield 12, 3) := by decide +kernel
theorem kb_Re_closeRule_20 : decode prog_5_method_4_code 20 = .ok (.aload_n 0, 1) := by decide +kernel
theorem kb_Re_closeRule_21 : decode prog_5_method_4_code 21 = .ok (.getfield 25, 3) := by decide +kernel
theorem kb_Re_closeRule_24 : decode prog_5_method_4_code 24 = .ok (.invokevirtual 83, 3) := by decide +kernel
theorem kb_Re_closeRule_27 : decode prog_5_method_4_code 27 = .ok (.ifCond .eq 9, 3) := by decide +kernel
theorem kb_Re_closeRule_30 : decode prog_5_method_4_code 30 = .ok (.aload_n 0, 1) := by decide +kernel
theorem kb_Re_closeRule_31 : decode prog_5_method_4_code 31 = .ok (.iconst 5, 1) := by decide +kernel
theorem kb_Re_closeRule_32 : decode prog_5_method_4_code 32 = .ok (.invokevirtual 53, 3) := by decide +kernel
theorem kb_Re_closeRule_35 : decode prog_5_method_4_code 35 = .ok (.ireturn, 1) := by decide +kernel
theorem kb_Re_closeRule_36 : decode prog_5_method_4_code 36 = .ok (.aload_n 0, 1) := by decide +kernel
theorem kb_Re_closeRule_37 : decode prog_5_method_4_code 37 = .ok (.dup, 1) := by decide +kernel
theorem kb_Re_closeRule_38 : decode prog_5_method_4_code 38 = .ok (.getfield 87, 3) := by decide +kernel
theorem kb_Re_closeRule_41 : decode prog_5_method_4_code 41 = .ok (.iconst 1, 1) := by decide +kernel
theorem kb_Re_closeRule_42 : decode prog_5_method_4_code 42 = .ok (.iadd, 1) := by decide +kernel
theorem kb_Re_closeRule_43 : decode prog_5_method_4_code 43 = .ok (.putfield 87, 3) := by decide +kernel
theorem kb_Re_closeRule_46 : decode prog_5_method_4_code 46 = .ok (.aload_n 0, 1) := by decide +kernel
theorem kb_Re_closeRule_47 : decode prog_5_method_4_code 47 = .ok (.getfield 25, 3) := by decide +kernel
theorem kb_Re_closeRule_50 : decode prog_5_method_4_code 50 = .ok (.invokevirtual 90, 3) := by decide +kernel
theorem kb_Re_closeRule_53 : decode prog_5_method_4_code 53 = .ok (.aload_n 0, 1) := by decide +kernel
theorem kb_Re_closeRule_54 : decode prog_5_method_4_code 54 = .ok (.getfield 12, 3) := by decide +kernel
theorem kb_Re_closeRule_57 : decode prog_5_method_4_code 57 = .ok (.aload_n 0, 1) := by decide +kernel
theorem kb_Re_closeRule_58 : decode prog_5_method_4_code 58 = .ok (.getfield 25, 3) := by decide +kernel
theorem kb_Re_closeRule_61 : decode prog_5_method_4_code 61 = .ok (.invokevirtual 93, 3) := by decide +kernel
theorem kb_Re_closeRule_64 : decode prog_5_method_4_code 64 = .ok (.iconst 1, 1) := by decide +kernel
theorem kb_Re_closeRule_65 : decode prog_5_method_4_code 65 = .ok (.ireturn, 1) := by decide +kernel
theorem kb_Re_readLiteral_0 : decode prog_5_method_5_code 0 = .ok (.aload_n 0, 1) := by decide +kernel
theorem kb_Re_readLiteral_1 : decode prog_5_method_5_code 1 = .ok (.invokevirtual 42, 3) := by decide +kernel
theorem kb_Re_readLiteral_4 : decode prog_5_method_5_code 4 = .ok (.istore_n 1, 1) := by decide +kernel
theorem kb_Re_readLiteral_5 : decode prog_5_method_5_code 5 = .ok (.iload_n 1, 1) := by decide +kernel
theorem kb_Re_readLiteral_6 : decode prog_5_method_5_code 6 = .ok (.invokestatic 97, 3) := by decide +kernel
theorem kb_Re_readLiteral_9 : decode prog_5_method_5_code 9 = .ok (.ifCond .ne 10, 3) := by decide +kernel
theorem kb_Re_readLiteral_12 : decode prog_5_method_5_code 12 = .ok (.iload_n 1, 1) := by decide +kernel
theorem kb_Re_readLiteral_13 : decode prog_5_method_5_code 13 = .ok (.invokestatic 100, 3) := by decide +kernel
theorem kb_Re_readLiteral_16 : decode prog_5_method_5_code 16 = .ok (.ifCond .eq 7, 3) := by decide +kernel
theorem kb_Re_readLiteral_19 : decode prog_5_method_5_code 19 = .ok (.iconst 1, 1) := by decide +kernel
theorem kb_Re_readLiteral_20 : decode prog_5_method_5_code 20 = .ok (.goto 4, 3) := by decide +kernel
theorem kb_Re_readLiteral_23 : decode prog_5_method_5_code 23 = .ok (.iconst 0, 1) := by decide +kernel
theorem kb_Re_readLiteral_24 : decode prog_5_method_5_code 24 = .ok (.istore_n 2, 1) := by decide +kernel
theorem kb_Re_readLiteral_25 : decode prog_5_method_5_code 25 = .ok (.iload_n 2, 1) := by decide +kernel
theorem kb_Re_readLiteral_26 : decode prog_5_method_5_code 26 = .ok (.ifCond .ne 22, 3) := by decide +kernel
theorem kb_Re_readLiteral_29 : decode prog_5_method_5_code 29 = .ok (.iload_n 1, 1) := by decide +kernel
theorem kb_Re_readLiteral_30 : decode prog_5_method_5_code 30 = .ok (.invokestatic 57, 3) := by decide +kernel
theorem kb_Re_readLiteral_33 : decode prog_5_method_5_code 33 = .ok (.ifCond .ne 15, 3) := by decide +kernel
theorem kb_Re_readLiteral_36 : decode prog_5_method_5_code 36 = .ok (.iload_n 1, 1) := by decide +kernel
theorem kb_Re_readLiteral_37 : decode prog_5_method_5_code 37 = .ok (.bipush 126, 2) := by decide +kernel
theorem kb_Re_readLiteral_39 : decode prog_5_method_5_code 39 = .ok (.if_icmp .eq 9, 3) := by decide +kernel
theorem kb_Re_readLiteral_42 : decode prog_5_method_5_code 42 = .ok (.aload_n 0, 1) := by decide +kernel
theorem kb_Re_readLiteral_43 : decode prog_5_method_5_code 43 = .ok (.iconst 1, 1) := by decide +kernel
theorem kb_Re_readLiteral_44 : decode prog_5_method_5_code 44 = .ok (.invokevirtual 53, 3) := by decide +kernel
theorem kb_Re_readLiteral_47 : decode prog_5_method_5_code 47 = .ok (.ireturn, 1) := by decide +kernel
theorem kb_Re_readLiteral_48 : decode prog_5_method_5_code 48 = .ok (.iload_n 1, 1) := by decide +kernel
theorem kb_Re_readLiteral_49 : decode prog_5_method_5_code 49 = .ok (.invokestatic 57, 3) := by decide +kernel
theorem kb_Re_readLiteral_52 : decode prog_5_method_5_code 52 = .ok (.ifCond .eq 18, 3) := by decide +kernel
theorem kb_Re_readLiteral_55 : decode prog_5_method_5_code 55 = .ok (.aload_n 0, 1) := by decide +kernel
theorem kb_Re_readLiteral_56 : decode prog_5_method_5_code 56 = .ok (.getfield 25, 3) := by decide +kernel
theorem kb_Re_readLiteral_59 : decode prog_5_method_5_code 59 = .ok (.getfield 103, 3) := by decide +kernel
theorem kb_Re_readLiteral_62 : decode prog_5_method_5_code 62 = .ok (.iconst 3, 1) := by decide +kernel
theorem kb_Re_readLiteral_63 : decode prog_5_method_5_code 63 = .ok (.if_icmp .lt 7, 3) := by decide +kernel
theorem kb_Re_readLiteral_66 : decode prog_5_method_5_code 66 = .ok (.iconst 1, 1) := by decide +kernel
theorem kb_Re_readLiteral_67 : decode prog_5_method_5_code 67 = .ok (.goto 4, 3) := by decide +kernel
theorem kb_Re_readLiteral_70 : decode prog_5_method_5_code 70 = .ok (.iconst 0, 1) := by decide +kernel
theorem kb_Re_readLiteral_71 : decode prog_5_method_5_code 71 = .ok (.istore_n 3, 1) := by decide +kernel
theorem kb_Re_readLiteral_72 : decode prog_5_method_5_code 72 = .ok (.aload_n 0, 1) := by decide +kernel
theorem kb_Re_readLiteral_73 : decode prog_5_method_5_code 73 = .ok (.getfield 25, 3) := by decide +kernel
theorem kb_Re_readLiteral_76 : decode prog_5_method_5_code 76 = .ok (.getfield 106, 3) := by decide +kernel
theorem kb_Re_readLiteral_79 : decode prog_5_method_5_code 79 = .ok (.iconst 5, 1) := by decide +kernel
theorem kb_Re_readLiteral_80 : decode prog_5_method_5_code 80 = .ok (.if_icmp .ge 7, 3) := by decide +kernel
theorem kb_Re_readLiteral_83 : decode prog_5_method_5_code 83 = .ok (.iload_n 3, 1) := by decide +kernel
theorem kb_Re_readLiteral_84 : decode prog_5_method_5_code 84 = .ok (.ifCond .eq 9, 3) := by decide +kernel
theorem kb_Re_readLiteral_87 : decode prog_5_method_5_code 87 = .ok (.aload_n 0, 1) := by decide +kernel
theorem kb_Re_readLiteral_88 : decode prog_5_method_5_code 88 = .ok (.iconst 3, 1) := by decide +kernel
theorem kb_Re_readLiteral_89 : decode prog_5_method_5_code 89 = .ok (.invokevirtual 53, 3) := by decide +kernel
theorem kb_Re_readLiteral_92 : decode prog_5_method_5_code 92 = .ok (.ireturn, 1) := by decide +kernel
theorem kb_Re_readLiteral_93 : decode prog_5_method_5_code 93 = .ok (.new 109, 3) := by decide +kernel
theorem kb_Re_readLiteral_96 : decode prog_5_method_5_code 96 = .ok (.dup, 1) := by decide +kernel
theorem kb_Re_readLiteral_97 : decode prog_5_method_5_code 97 = .ok (.invokespecial 111, 3) := by decide +kernel
theorem kb_Re_readLiteral_100 : decode prog_5_method_5_code 100 = .ok (.astore 4, 2) := by decide +kernel
theorem kb_Re_readLiteral_102 : decode prog_5_method_5_code 102 = .ok (.iload_n 2, 1) := by decide +kernel
theorem kb_Re_readLiteral_103 : decode prog_5_method_5_code 103 = .ok (.ifCond .eq 48, 3) := by decide +kernel
theorem kb_Re_readLiteral_106 : decode prog_5_method_5_code 106 = .ok (.aload 4, 2) := by decide +kernel
theorem kb_Re_readLiteral_108 : decode prog_5_method_5_code 108 = .ok (.iconst 2, 1) := by decide +kernel
theorem kb_Re_readLiteral_109 : decode prog_5_method_5_code 109 = .ok (.putfield 112, 3) := by decide +kernel
theorem kb_Re_readLiteral_112 : decode prog_5_method_5_code 112 = .ok (.aload_n 0, 1) := by decide +kernel
theorem kb_Re_readLiteral_113 : decode prog_5_method_5_code 113 = .ok (.aload 4, 2) := by decide +kernel
theorem kb_Re_readLiteral_115 : decode prog_5_method_5_code 115 = .ok (.iconst 0, 1) := by decide +kernel
theorem kb_Re_readLiteral_116 : decode prog_5_method_5_code 116 = .ok (.invokevirtual 115, 3) := by decide +kernel
theorem kb_Re_readLiteral_119 : decode prog_5_method_5_code 119 = .ok (.ifCond .eq 26, 3) := by decide +kernel
theorem kb_Re_readLiteral_122 : decode prog_5_method_5_code 122 = .ok (.aload_n 0, 1) := by decide +kernel
theorem kb_Re_readLiteral_123 : decode prog_5_method_5_code 123 = .ok (.aload 4, 2) := by decide +kernel
theorem kb_Re_readLiteral_125 : decode prog_5_method_5_code 125 = .ok (.invokevirtual 118, 3) := by decide +kernel
theorem kb_Re_readLiteral_128 : decode prog_5_method_5_code 128 = .ok (.ifCond .eq 17, 3) := by decide +kernel
theorem kb_Re_readLiteral_131 : decode prog_5_method_5_code 131 = .ok (.aload_n 0, 1) := by decide +kernel
theorem kb_Re_readLiteral_132 : decode prog_5_method_5_code 132 = .ok (.aload 4, 2) := by decide +kernel
theorem kb_Re_readLiteral_134 : decode prog_5_method_5_code 134 = .ok (.iconst 0, 1) := by decide +kernel
theorem kb_Re_readLiteral_135 : decode prog_5_method_5_code 135 = .ok (.invokevirtual 115, 3) := by decide +kernel
theorem kb_Re_readLiteral_138 : decode prog_5_method_5_code 138 = .ok (.ifCond .eq 7, 3) := by decide +kernel
theorem kb_Re_readLiteral_141 : decode prog_5_method_5_code 141 = .ok (.iconst 1, 1) := by decide +kernel
theorem kb_Re_readLiteral_142 : decode prog_5_method_5_code 142 = .ok (.goto 4, 3) := by decide +kernel
theorem kb_Re_readLiteral_145 : decode prog_5_method_5_code 145 = .ok (.iconst 0, 1) := by decide +kernel
theorem kb_Re_readLiteral_146 : decode prog_5_method_5_code 146 = .ok (.istore 5, 2) := by decide +kernel
theorem kb_Re_readLiteral_148 : decode prog_5_method_5_code 148 = .ok (.goto 51, 3) := by decide +kernel
theorem kb_Re_readLiteral_151 : decode prog_5_method_5_code 151 = .ok (.aload 4, 2) := by decide +kernel
theorem kb_Re_readLiteral_153 : decode prog_5_method_5_code 153 = .ok (.iload_n 1, 1) := by decide +kernel
theorem kb_Re_readLiteral_154 : decode prog_5_method_5_code 154 = .ok (.bipush 126, 2) := by decide +kernel
theorem kb_Re_readLiteral_156 : decode prog_5_method_5_code 156 = .ok (.if_icmp .ne 7, 3) := by decide +kernel
theorem kb_Re_readLiteral_159 : decode prog_5_method_5_code 159 = .ok (.iconst 1, 1) := by decide +kernel
theorem kb_Re_readLiteral_160 : decode prog_5_method_5_code 160 = .ok (.goto 4, 3) := by decide +kernel
theorem kb_Re_readLiteral_163 : decode prog_5_method_5_code 163 = .ok (.iconst 0, 1) := by decide +kernel
theorem kb_Re_readLiteral_164 : decode prog_5_method_5_code 164 = .ok (.putfield 112, 3) := by decide +kernel
theorem kb_Re_readLiteral_167 : decode prog_5_method_5_code 167 = .ok (.iload_n 1, 1) := by decide +kernel
theorem kb_Re_readLiteral_168 : decode prog_5_method_5_code 168 = .ok (.bipush 126, 2) := by decide +kernel
theorem kb_Re_readLiteral_170 : decode prog_5_method_5_code 170 = .ok (.if_icmp .ne 12, 3) := by decide +kernel
theorem kb_Re_readLiteral_173 : decode prog_5_method_5_code 173 = .ok (.aload_n 0, 1) := by decide +kernel
theorem kb_Re_readLiteral_174 : decode prog_5_method_5_code 174 = .ok (.bipush 126, 2) := by decide +kernel
theorem kb_Re_readLiteral_176 : decode prog_5_method_5_code 176 = .ok (.invokevirtual 74, 3) := by decide +kernel
theorem kb_Re_readLiteral_179 : decode prog_5_method_5_code 179 = .ok (.ifCond .eq 17, 3) := by decide +kernel
theorem kb_Re_readLiteral_182 : decode prog_5_method_5_code 182 = .ok (.aload_n 0, 1) := by decide +kernel
theorem kb_Re_readLiteral_183 : decode prog_5_method_5_code 183 = .ok (.aload 4, 2) := by decide +kernel
theorem kb_Re_readLiteral_185 : decode prog_5_method_5_code 185 = .ok (.iconst 0, 1) := by decide +kernel
theorem kb_Re_readLiteral_186 : decode prog_5_method_5_code 186 = .ok (.invokevirtual 67, 3) := by decide +kernel
theorem kb_Re_readLiteral_189 : decode prog_5_method_5_code 189 = .ok (.ifCond .eq 7, 3) := by decide +kernel
theorem kb_Re_readLiteral_192 : decode prog_5_method_5_code 192 = .ok (.iconst 1, 1) := by decide +kernel
theorem kb_Re_readLiteral_193 : decode prog_5_method_5_code 193 = .ok (.goto 4, 3) := by decide +kernel
theorem kb_Re_readLiteral_196 : decode prog_5_method_5_code 196 = .ok (.iconst 0, 1) := by decide +kernel
theorem kb_Re_readLiteral_197 : decode prog_5_method_5_code 197 = .ok (.istore 5, 2) := by decide +kernel
theorem kb_Re_readLiteral_199 : decode prog_5_method_5_code 199 = .ok (.aload_n 0, 1) := by decide +kernel
theorem kb_Re_readLiteral_200 : decode prog_5_method_5_code 200 = .ok (.getfield 25, 3) := by decide +kernel
theorem kb_Re_readLiteral_203 : decode prog_5_method_5_code 203 = .ok (.aload 4, 2) := by decide +kernel
theorem kb_Re_readLiteral_205 : decode prog_5_method_5_code 205 = .ok (.invokevirtual 122, 3) := by decide +kernel
theorem kb_Re_readLiteral_208 : decode prog_5_method_5_code 208 = .ok (.iload 5, 2) := by decide +kernel
theorem kb_Re_readLiteral_210 : decode prog_5_method_5_code 210 = .ok (.ireturn, 1) := by decide +kernel
theorem kb_Re_readOperator_0 : decode prog_5_method_6_code 0 = .ok (.aload_n 0, 1) := by decide +kernel
theorem kb_Re_readOperator_1 : decode prog_5_method_6_code 1 = .ok (.invokevirtual 42, 3) := by decide +kernel
theorem kb_Re_readOperator_4 : decode prog_5_method_6_code 4 = .ok (.istore_n 2, 1) := by decide +kernel
theorem kb_Re_readOperator_5 : decode prog_5_method_6_code 5 = .ok (.iload_n 2, 1) := by decide +kernel
theorem kb_Re_readOperator_6 : decode prog_5_method_6_code 6 = .ok (.bipush 60, 2) := by decide +kernel
theorem kb_Re_readOperator_8 : decode prog_5_method_6_code 8 = .ok (.if_icmp .eq 21, 3) := by decide +kernel
theorem kb_Re_readOperator_11 : decode prog_5_method_6_code 11 = .ok (.iload_n 2, 1) := by decide +kernel
theorem kb_Re_readOperator_12 : decode prog_5_method_6_code 12 = .ok (.bipush 61, 2) := by decide +kernel
theorem kb_Re_readOperator_14 : decode prog_5_method_6_code 14 = .ok (.if_icmp .eq 15, 3) := by decide +kernel
theorem kb_Re_readOperator_17 : decode prog_5_method_6_code 17 = .ok (.iload_n 2, 1) := by decide +kernel
theorem kb_Re_readOperator_18 : decode prog_5_method_6_code 18 = .ok (.bipush 33, 2) := by decide +kernel
theorem kb_Re_readOperator_20 : decode prog_5_method_6_code 20 = .ok (.if_icmp .eq 9, 3) := by decide +kernel
theorem kb_Re_readOperator_23 : decode prog_5_method_6_code 23 = .ok (.aload_n 0, 1) := by decide +kernel
theorem kb_Re_readOperator_24 : decode prog_5_method_6_code 24 = .ok (.iconst 1, 1) := by decide +kernel
theorem kb_Re_readOperator_25 : decode prog_5_method_6_code 25 = .ok (.invokevirtual 53, 3) := by decide +kernel
theorem kb_Re_readOperator_28 : decode prog_5_method_6_code 28 = .ok (.ireturn, 1) := by decide +kernel
theorem kb_Re_readOperator_29 : decode prog_5_method_6_code 29 = .ok (.aload_n 1, 1) := by decide +kernel
theorem kb_Re_readOperator_30 : decode prog_5_method_6_code 30 = .ok (.iload_n 2, 1) := by decide +kernel
theorem kb_Re_readOperator_31 : decode prog_5_method_6_code 31 = .ok (.putfield 125, 3) := by decide +kernel
theorem kb_Re_readOperator_34 : decode prog_5_method_6_code 34 = .ok (.aload_n 0, 1) := by decide +kernel
theorem kb_Re_readOperator_35 : decode prog_5_method_6_code 35 = .ok (.dup, 1) := by decide +kernel
theorem kb_Re_readOperator_36 : decode prog_5_method_6_code 36 = .ok (.getfield 87, 3) := by decide +kernel
theorem kb_Re_readOperator_39 : decode prog_5_method_6_code 39 = .ok (.iconst 1, 1) := by decide +kernel
theorem kb_Re_readOperator_40 : decode prog_5_method_6_code 40 = .ok (.iadd, 1) := by decide +kernel
theorem kb_Re_readOperator_41 : decode prog_5_method_6_code 41 = .ok (.putfield 87, 3) := by decide +kernel
theorem kb_Re_readOperator_44 : decode prog_5_method_6_code 44 = .ok (.iconst 1, 1) := by decide +kernel
theorem kb_Re_readOperator_45 : decode prog_5_method_6_code 45 = .ok (.ireturn, 1) := by decide +kernel
theorem kb_Re_readNamed_0 : decode prog_5_method_7_code 0 = .ok (.aload_n 0, 1) := by decide +kernel
theorem kb_Re_readNamed_1 : decode prog_5_method_7_code 1 = .ok (.invokevirtual 42, 3) := by decide +kernel
theorem kb_Re_readNamed_4 : decode prog_5_method_7_code 4 = .ok (.istore_n 3, 1) := by decide +kernel
theorem kb_Re_readNamed_5 : decode prog_5_method_7_code 5 = .ok (.iload_n 3, 1) := by decide +kernel
theorem kb_Re_readNamed_6 : decode prog_5_method_7_code 6 = .ok (.invokestatic 57, 3) := by decide +kernel
theorem kb_Re_readNamed_9 : decode prog_5_method_7_code 9 = .ok (.ifCond .ne 9, 3) := by decide +kernel
theorem kb_Re_readNamed_12 : decode prog_5_method_7_code 12 = .ok (.aload_n 0, 1) := by decide +kernel
theorem kb_Re_readNamed_13 : decode prog_5_method_7_code 13 = .ok (.iconst 1, 1) := by decide +kernel
theorem kb_Re_readNamed_14 : decode prog_5_method_7_code 14 = .ok (.invokevirtual 53, 3) := by decide +kernel
theorem kb_Re_readNamed_17 : decode prog_5_method_7_code 17 = .ok (.ireturn, 1) := by decide +kernel
theorem kb_Re_readNamed_18 : decode prog_5_method_7_code 18 = .ok (.aload_n 0, 1) := by decide +kernel
theorem kb_Re_readNamed_19 : decode prog_5_method_7_code 19 = .ok (.getfield 12, 3) := by decide +kernel
theorem kb_Re_readNamed_22 : decode prog_5_method_7_code 22 = .ok (.iload_n 3, 1) := by decide +kernel
theorem kb_Re_readNamed_23 : decode prog_5_method_7_code 23 = .ok (.invokevirtual 128, 3) := by decide +kernel
theorem kb_Re_readNamed_26 : decode prog_5_method_7_code 26 = .ok (.iconst (-1), 1) := by decide +kernel
theorem kb_Re_readNamed_27 : decode prog_5_method_7_code 27 = .ok (.if_icmp .ne 7, 3) := by decide +kernel
theorem kb_Re_readNamed_30 : decode prog_5_method_7_code 30 = .ok (.iconst 1, 1) := by decide +kernel
theorem kb_Re_readNamed_31 : decode prog_5_method_7_code 31 = .ok (.goto 4, 3) := by decide +kernel
theorem kb_Re_readNamed_34 : decode prog_5_method_7_code 34 = .ok (.iconst 0, 1) := by decide +kernel
theorem kb_Re_readNamed_35 : decode prog_5_method_7_code 35 = .ok (.istore 4, 2) := by decide +kernel
theorem kb_Re_readNamed_37 : decode prog_5_method_7_code 37 = .ok (.aload_n 1, 1) := by decide +kernel
theorem kb_Re_readNamed_38 : decode prog_5_method_7_code 38 = .ok (.aload_n 0, 1) := by decide +kernel
theorem kb_Re_readNamed_39 : decode prog_5_method_7_code 39 = .ok (.getfield 12, 3) := by decide +kernel
theorem kb_Re_readNamed_42 : decode prog_5_method_7_code 42 = .ok (.iload_n 3, 1) := by decide +kernel
theorem kb_Re_readNamed_43 : decode prog_5_method_7_code 43 = .ok (.invokevirtual 132, 3) := by decide +kernel
theorem kb_Re_readNamed_46 : decode prog_5_method_7_code 46 = .ok (.putfield 135, 3) := by decide +kernel
theorem kb_Re_readNamed_49 : decode prog_5_method_7_code 49 = .ok (.aload_n 1, 1) := by decide +kernel
theorem kb_Re_readNamed_50 : decode prog_5_method_7_code 50 = .ok (.getfield 135, 3) := by decide +kernel
theorem kb_Re_readNamed_53 : decode prog_5_method_7_code 53 = .ok (.ifCond .ge 9, 3) := by decide +kernel
theorem kb_Re_readNamed_56 : decode prog_5_method_7_code 56 = .ok (.aload_n 0, 1) := by decide +kernel
theorem kb_Re_readNamed_57 : decode prog_5_method_7_code 57 = .ok (.iconst 3, 1) := by decide +kernel
theorem kb_Re_readNamed_58 : decode prog_5_method_7_code 58 = .ok (.invokevirtual 53, 3) := by decide +kernel
theorem kb_Re_readNamed_61 : decode prog_5_method_7_code 61 = .ok (.ireturn, 1) := by decide +kernel
theorem kb_Re_readNamed_62 : decode prog_5_method_7_code 62 = .ok (.aload_n 0, 1) := by decide +kernel
theorem kb_Re_readNamed_63 : decode prog_5_method_7_code 63 = .ok (.dup, 1) := by decide +kernel
theorem kb_Re_readNamed_64 : decode prog_5_method_7_code 64 = .ok (.getfield 87, 3) := by decide +kernel
theorem kb_Re_readNamed_67 : decode prog_5_method_7_code 67 = .ok (.iconst 1, 1) := by decide +kernel
theorem kb_Re_readNamed_68 : decode prog_5_method_7_code 68 = .ok (.iadd, 1) := by decide +kernel
theorem kb_Re_readNamed_69 : decode prog_5_method_7_code 69 = .ok (.putfield 87, 3) := by decide +kernel
theorem kb_Re_readNamed_72 : decode prog_5_method_7_code 72 = .ok (.aload_n 0, 1) := by decide +kernel
theorem kb_Re_readNamed_73 : decode prog_5_method_7_code 73 = .ok (.bipush 40, 2) := by decide +kernel
theorem kb_Re_readNamed_75 : decode prog_5_method_7_code 75 = .ok (.invokevirtual 74, 3) := by decide +kernel
theorem kb_Re_readNamed_78 : decode prog_5_method_7_code 78 = .ok (.ifCond .ne 5, 3) := by decide +kernel
theorem kb_Re_readNamed_81 : decode prog_5_method_7_code 81 = .ok (.iconst 0, 1) := by decide +kernel
theorem kb_Re_readNamed_82 : decode prog_5_method_7_code 82 = .ok (.ireturn, 1) := by decide +kernel
theorem kb_Re_readNamed_83 : decode prog_5_method_7_code 83 = .ok (.iconst 1, 1) := by decide +kernel
theorem kb_Re_readNamed_84 : decode prog_5_method_7_code 84 = .ok (.istore 5, 2) := by decide +kernel
theorem kb_Re_readNamed_86 : decode prog_5_method_7_code 86 = .ok (.iconst 0, 1) := by decide +kernel
theorem kb_Re_readNamed_87 : decode prog_5_method_7_code 87 = .ok (.istore 6, 2) := by decide +kernel
theorem kb_Re_readNamed_89 : decode prog_5_method_7_code 89 = .ok (.iload 6, 2) := by decide +kernel
theorem kb_Re_readNamed_91 : decode prog_5_method_7_code 91 = .ok (.iconst 3, 1) := by decide +kernel
theorem kb_Re_readNamed_92 : decode prog_5_method_7_code 92 = .ok (.if_icmp .ge 92, 3) := by decide +kernel
theorem kb_Re_readNamed_95 : decode prog_5_method_7_code 95 = .ok (.iload 5, 2) := by decide +kernel
theorem kb_Re_readNamed_97 : decode prog_5_method_7_code 97 = .ok (.ifCond .eq 87, 3) := by decide +kernel
theorem kb_Re_readNamed_100 : decode prog_5_method_7_code 100 = .ok (.aload_n 0, 1) := by decide +kernel
theorem kb_Re_readNamed_101 : decode prog_5_method_7_code 101 = .ok (.aload_n 1, 1) := by decide +kernel
theorem kb_Re_readNamed_102 : decode prog_5_method_7_code 102 = .ok (.iload_n 2, 1) := by decide +kernel
theorem kb_Re_readNamed_103 : decode prog_5_method_7_code 103 = .ok (.invokevirtual 115, 3) := by decide +kernel
theorem kb_Re_readNamed_106 : decode prog_5_method_7_code 106 = .ok (.ifCond .ne 5, 3) := by decide +kernel
theorem kb_Re_readNamed_109 : decode prog_5_method_7_code 109 = .ok (.iconst 0, 1) := by decide +kernel
theorem kb_Re_readNamed_110 : decode prog_5_method_7_code 110 = .ok (.ireturn, 1) := by decide +kernel
theorem kb_Re_readNamed_111 : decode prog_5_method_7_code 111 = .ok (.iload 6, 2) := by decide +kernel
theorem kb_Re_readNamed_113 : decode prog_5_method_7_code 113 = .ok (.iconst 2, 1) := by decide +kernel
theorem kb_Re_readNamed_114 : decode prog_5_method_7_code 114 = .ok (.if_icmp .eq 17, 3) := by decide +kernel
theorem kb_Re_readNamed_117 : decode prog_5_method_7_code 117 = .ok (.iload_n 2, 1) := by decide +kernel
theorem kb_Re_readNamed_118 : decode prog_5_method_7_code 118 = .ok (.ifCond .eq 17, 3) := by decide +kernel
theorem kb_Re_readNamed_121 : decode prog_5_method_7_code 121 = .ok (.aload_n 0, 1) := by decide +kernel
theorem kb_Re_readNamed_122 : decode prog_5_method_7_code 122 = .ok (.getfield 25, 3) := by decide +kernel
theorem kb_Re_readNamed_125 : decode prog_5_method_7_code 125 = .ok (.getfield 138, 3) := by decide +kernel
theorem kb_Re_readNamed_128 : decode prog_5_method_7_code 128 = .ok (.ifCond .eq 7, 3) := by decide +kernel
theorem kb_Re_readNamed_131 : decode prog_5_method_7_code 131 = .ok (.iconst 1, 1) := by decide +kernel
theorem kb_Re_readNamed_132 : decode prog_5_method_7_code 132 = .ok (.goto 4, 3) := by decide +kernel
theorem kb_Re_readNamed_135 : decode prog_5_method_7_code 135 = .ok (.iconst 0, 1) := by decide +kernel
theorem kb_Re_readNamed_136 : decode prog_5_method_7_code 136 = .ok (.istore 7, 2) := by decide +kernel
theorem kb_Re_readNamed_138 : decode prog_5_method_7_code 138 = .ok (.iload 7, 2) := by decide +kernel
theorem kb_Re_readNamed_140 : decode prog_5_method_7_code 140 = .ok (.ifCond .ne 16, 3) := by decide +kernel
theorem kb_Re_readNamed_143 : decode prog_5_method_7_code 143 = .ok (.aload_n 0, 1) := by decide +kernel
theorem kb_Re_readNamed_144 : decode prog_5_method_7_code 144 = .ok (.invokevirtual 42, 3) := by decide +kernel
theorem kb_Re_readNamed_147 : decode prog_5_method_7_code 147 = .ok (.bipush 44, 2) := by decide +kernel
theorem kb_Re_readNamed_149 : decode prog_5_method_7_code 149 = .ok (.if_icmp .ne 7, 3) := by decide +kernel
theorem kb_Re_readNamed_152 : decode prog_5_method_7_code 152 = .ok (.iconst 1, 1) := by decide +kernel
theorem kb_Re_readNamed_153 : decode prog_5_method_7_code 153 = .ok (.goto 4, 3) := by decide +kernel
theorem kb_Re_readNamed_156 : decode prog_5_method_7_code 156 = .ok (.iconst 0, 1) := by decide +kernel
theorem kb_Re_readNamed_157 : decode prog_5_method_7_code 157 = .ok (.istore 5, 2) := by decide +kernel
theorem kb_Re_readNamed_159 : decode prog_5_method_7_code 159 = .ok (.aload_n 0, 1) := by decide +kernel
theorem kb_Re_readNamed_160 : decode prog_5_method_7_code 160 = .ok (.dup, 1) := by decide +kernel
theorem kb_Re_readNamed_161 : decode prog_5_method_7_code 161 = .ok (.getfield 87, 3) := by decide +kernel
theorem kb_Re_readNamed_164 : decode prog_5_method_7_code 164 = .ok (.iload 5, 2) := by decide +kernel
theorem kb_Re_readNamed_166 : decode prog_5_method_7_code 166 = .ok (.ifCond .eq 7, 3) := by decide +kernel
theorem kb_Re_readNamed_169 : decode prog_5_method_7_code 169 = .ok (.iconst 1, 1) := by decide +kernel
theorem kb_Re_readNamed_170 : decode prog_5_method_7_code 170 = .ok (.goto 4, 3) := by decide +kernel
theorem kb_Re_readNamed_173 : decode prog_5_method_7_code 173 = .ok (.iconst 0, 1) := by decide +kernel
theorem kb_Re_readNamed_174 : decode prog_5_method_7_code 174 = .ok (.iadd, 1) := by decide +kernel
theorem kb_Re_readNamed_175 : decode prog_5_method_7_code 175 = .ok (.putfield 87, 3) := by decide +kernel
theorem kb_Re_readNamed_178 : decode prog_5_method_7_code 178 = .ok (.iinc 6 1, 3) := by decide +kernel
theorem kb_Re_readNamed_181 : decode prog_5_method_7_code 181 = .ok (.goto (-92), 3) := by decide +kernel
theorem kb_Re_readNamed_184 : decode prog_5_method_7_code 184 = .ok (.aload_n 0, 1) := by decide +kernel
theorem kb_Re_readNamed_185 : decode prog_5_method_7_code 185 = .ok (.invokevirtual 42, 3) := by decide +kernel
theorem kb_Re_readNamed_188 : decode prog_5_method_7_code 188 = .ok (.bipush 41, 2) := by decide +kernel
theorem kb_Re_readNamed_190 : decode prog_5_method_7_code 190 = .ok (.if_icmp .eq 9, 3) := by decide +kernel
theorem kb_Re_readNamed_193 : decode prog_5_method_7_code 193 = .ok (.aload_n 0, 1) := by decide +kernel
theorem kb_Re_readNamed_194 : decode prog_5_method_7_code 194 = .ok (.iconst 1, 1) := by decide +kernel
theorem kb_Re_readNamed_195 : decode prog_5_method_7_code 195 = .ok (.invokevirtual 53, 3) := by decide +kernel
theorem kb_Re_readNamed_198 : decode prog_5_method_7_code 198 = .ok (.ireturn, 1) := by decide +kernel
theorem kb_Re_readNamed_199 : decode prog_5_method_7_code 199 = .ok (.iload 4, 2) := by decide +kernel
theorem kb_Re_readNamed_201 : decode prog_5_method_7_code 201 = .ok (.ifCond .eq 19, 3) := by decide +kernel
theorem kb_Re_readNamed_204 : decode prog_5_method_7_code 204 = .ok (.aload_n 0, 1) := by decide +kernel
theorem kb_Re_readNamed_205 : decode prog_5_method_7_code 205 = .ok (.getfield 12, 3) := by decide +kernel
theorem kb_Re_readNamed_208 : decode prog_5_method_7_code 208 = .ok (.getfield 142, 3) := by decide +kernel
theorem kb_Re_readNamed_211 : decode prog_5_method_7_code 211 = .ok (.aload_n 1, 1) := by decide +kernel
theorem kb_Re_readNamed_212 : decode prog_5_method_7_code 212 = .ok (.getfield 135, 3) := by decide +kernel
theorem kb_Re_readNamed_215 : decode prog_5_method_7_code 215 = .ok (.aload_n 1, 1) := by decide +kernel
theorem kb_Re_readNamed_216 : decode prog_5_method_7_code 216 = .ok (.getfield 146, 3) := by decide +kernel
theorem kb_Re_readNamed_219 : decode prog_5_method_7_code 219 = .ok (.iastore, 1) := by decide +kernel
theorem kb_Re_readNamed_220 : decode prog_5_method_7_code 220 = .ok (.aload_n 0, 1) := by decide +kernel
theorem kb_Re_readNamed_221 : decode prog_5_method_7_code 221 = .ok (.getfield 12, 3) := by decide +kernel
theorem kb_Re_readNamed_224 : decode prog_5_method_7_code 224 = .ok (.getfield 142, 3) := by decide +kernel
theorem kb_Re_readNamed_227 : decode prog_5_method_7_code 227 = .ok (.aload_n 1, 1) := by decide +kernel
theorem kb_Re_readNamed_228 : decode prog_5_method_7_code 228 = .ok (.getfield 135, 3) := by decide +kernel
theorem kb_Re_readNamed_231 : decode prog_5_method_7_code 231 = .ok (.iaload, 1) := by decide +kernel
theorem kb_Re_readNamed_232 : decode prog_5_method_7_code 232 = .ok (.aload_n 1, 1) := by decide +kernel
theorem kb_Re_readNamed_233 : decode prog_5_method_7_code 233 = .ok (.getfield 146, 3) := by decide +kernel
theorem kb_Re_readNamed_236 : decode prog_5_method_7_code 236 = .ok (.if_icmp .ne 12, 3) := by decide +kernel
theorem kb_Re_readNamed_239 : decode prog_5_method_7_code 239 = .ok (.aload_n 0, 1) := by decide +kernel
theorem kb_Re_readNamed_240 : decode prog_5_method_7_code 240 = .ok (.bipush 41, 2) := by decide +kernel
theorem kb_Re_readNamed_242 : decode prog_5_method_7_code 242 = .ok (.invokevirtual 74, 3) := by decide +kernel
theorem kb_Re_readNamed_245 : decode prog_5_method_7_code 245 = .ok (.goto 8, 3) := by decide +kernel
theorem kb_Re_readNamed_248 : decode prog_5_method_7_code 248 = .ok (.aload_n 0, 1) := by decide +kernel
theorem kb_Re_readNamed_249 : decode prog_5_method_7_code 249 = .ok (.iconst 2, 1) := by decide +kernel
theorem kb_Re_readNamed_250 : decode prog_5_method_7_code 250 = .ok (.invokevirtual 53, 3) := by decide +kernel
theorem kb_Re_readNamed_253 : decode prog_5_method_7_code 253 = .ok (.ireturn, 1) := by decide +kernel
theorem kb_Re_readTerm_0 : decode prog_5_method_8_code 0 = .ok (.aload_n 0, 1) := by decide +kernel
theorem kb_Re_readTerm_1 : decode prog_5_method_8_code 1 = .ok (.invokevirtual 42, 3) := by decide +kernel
theorem kb_Re_readTerm_4 : decode prog_5_method_8_code 4 = .ok (.istore_n 3, 1) := by decide +kernel
theorem kb_Re_readTerm_5 : decode prog_5_method_8_code 5 = .ok (.iload_n 3, 1) := by decide +kernel
theorem kb_Re_readTerm_6 : decode prog_5_method_8_code 6 = .ok (.invokestatic 100, 3) := by decide +kernel
theorem kb_Re_readTerm_9 : decode prog_5_method_8_code 9 = .ok (.ifCond .eq 13, 3) := by decide +kernel
theorem kb_Re_readTerm_12 : decode prog_5_method_8_code 12 = .ok (.aload_n 1, 1) := by decide +kernel
theorem kb_Re_readTerm_13 : decode prog_5_method_8_code 13 = .ok (.aload_n 0, 1) := by decide +kernel
theorem kb_Re_readTerm_14 : decode prog_5_method_8_code 14 = .ok (.invokevirtual 147, 3) := by decide +kernel
theorem kb_Re_readTerm_17 : decode prog_5_method_8_code 17 = .ok (.invokevirtual 150, 3) := by decide +kernel
theorem kb_Re_readTerm_20 : decode prog_5_method_8_code 20 = .ok (.iconst 1, 1) := by decide +kernel
theorem kb_Re_readTerm_21 : decode prog_5_method_8_code 21 = .ok (.ireturn, 1) := by decide +kernel
theorem kb_Re_readTerm_22 : decode prog_5_method_8_code 22 = .ok (.iload_n 3, 1) := by decide +kernel
theorem kb_Re_readTerm_23 : decode prog_5_method_8_code 23 = .ok (.invokestatic 97, 3) := by decide +kernel
theorem kb_Re_readTerm_26 : decode prog_5_method_8_code 26 = .ok (.ifCond .eq 36, 3) := by decide +kernel
theorem kb_Re_readTerm_29 : decode prog_5_method_8_code 29 = .ok (.aload_n 0, 1) := by decide +kernel
theorem kb_Re_readTerm_30 : decode prog_5_method_8_code 30 = .ok (.getfield 25, 3) := by decide +kernel
theorem kb_Re_readTerm_33 : decode prog_5_method_8_code 33 = .ok (.iload_n 3, 1) := by decide +kernel
theorem kb_Re_readTerm_34 : decode prog_5_method_8_code 34 = .ok (.bipush 65, 2) := by decide +kernel
theorem kb_Re_readTerm_36 : decode prog_5_method_8_code 36 = .ok (.isub, 1) := by decide +kernel
theorem kb_Re_readTerm_37 : decode prog_5_method_8_code 37 = .ok (.invokevirtual 153, 3) := by decide +kernel
theorem kb_Re_readTerm_40 : decode prog_5_method_8_code 40 = .ok (.ifCond .ne 9, 3) := by decide +kernel
theorem kb_Re_readTerm_43 : decode prog_5_method_8_code 43 = .ok (.aload_n 0, 1) := by decide +kernel
theorem kb_Re_readTerm_44 : decode prog_5_method_8_code 44 = .ok (.iconst 3, 1) := by decide +kernel
theorem kb_Re_readTerm_45 : decode prog_5_method_8_code 45 = .ok (.invokevirtual 53, 3) := by decide +kernel
theorem kb_Re_readTerm_48 : decode prog_5_method_8_code 48 = .ok (.ireturn, 1) := by decide +kernel
theorem kb_Re_readTerm_49 : decode prog_5_method_8_code 49 = .ok (.aload_n 1, 1) := by decide +kernel
theorem kb_Re_readTerm_50 : decode prog_5_method_8_code 50 = .ok (.iconst (-1), 1) := by decide +kernel
theorem kb_Re_readTerm_51 : decode prog_5_method_8_code 51 = .ok (.iload_n 3, 1) := by decide +kernel
theorem kb_Re_readTerm_52 : decode prog_5_method_8_code 52 = .ok (.bipush 65, 2) := by decide +kernel
theorem kb_Re_readTerm_54 : decode prog_5_method_8_code 54 = .ok (.isub, 1) := by decide +kernel
theorem kb_Re_readTerm_55 : decode prog_5_method_8_code 55 = .ok (.isub, 1) := by decide +kernel
theorem kb_Re_readTerm_56 : decode prog_5_method_8_code 56 = .ok (.invokevirtual 150, 3) := by decide +kernel
theorem kb_Re_readTerm_59 : decode prog_5_method_8_code 59 = .ok (.goto 35, 3) := by decide +kernel
theorem kb_Re_readTerm_62 : decode prog_5_method_8_code 62 = .ok (.iload_n 3, 1) := by decide +kernel
theorem kb_Re_readTerm_63 : decode prog_5_method_8_code 63 = .ok (.bipush 35, 2) := by decide +kernel
theorem kb_Re_readTerm_65 : decode prog_5_method_8_code 65 = .ok (.if_icmp .ne 23, 3) := by decide +kernel
theorem kb_Re_readTerm_68 : decode prog_5_method_8_code 68 = .ok (.iload_n 2, 1) := by decide +kernel
theorem kb_Re_readTerm_69 : decode prog_5_method_8_code 69 = .ok (.ifCond .eq 19, 3) := by decide +kernel
theorem kb_Re_readTerm_72 : decode prog_5_method_8_code 72 = .ok (.aload_n 0, 1) := by decide +kernel
theorem kb_Re_readTerm_73 : decode prog_5_method_8_code 73 = .ok (.getfield 25, 3) := by decide +kernel
theorem kb_Re_readTerm_76 : decode prog_5_method_8_code 76 = .ok (.iconst 1, 1) := by decide +kernel
theorem kb_Re_readTerm_77 : decode prog_5_method_8_code 77 = .ok (.putfield 138, 3) := by decide +kernel
theorem kb_Re_readTerm_80 : decode prog_5_method_8_code 80 = .ok (.aload_n 1, 1) := by decide +kernel
theorem kb_Re_readTerm_81 : decode prog_5_method_8_code 81 = .ok (.iconst 0, 1) := by decide +kernel
theorem kb_Re_readTerm_82 : decode prog_5_method_8_code 82 = .ok (.invokevirtual 150, 3) := by decide +kernel
theorem kb_Re_readTerm_85 : decode prog_5_method_8_code 85 = .ok (.goto 9, 3) := by decide +kernel
theorem kb_Re_readTerm_88 : decode prog_5_method_8_code 88 = .ok (.aload_n 0, 1) := by decide +kernel
theorem kb_Re_readTerm_89 : decode prog_5_method_8_code 89 = .ok (.iconst 1, 1) := by decide +kernel
theorem kb_Re_readTerm_90 : decode prog_5_method_8_code 90 = .ok (.invokevirtual 53, 3) := by decide +kernel
theorem kb_Re_readTerm_93 : decode prog_5_method_8_code 93 = .ok (.ireturn, 1) := by decide +kernel
theorem kb_Re_readTerm_94 : decode prog_5_method_8_code 94 = .ok (.aload_n 0, 1) := by decide +kernel
theorem kb_Re_readTerm_95 : decode prog_5_method_8_code 95 = .ok (.dup, 1) := by decide +kernel
theorem kb_Re_readTerm_96 : decode prog_5_method_8_code 96 = .ok (.getfield 87, 3) := by decide +kernel
theorem kb_Re_readTerm_99 : decode prog_5_method_8_code 99 = .ok (.iconst 1, 1) := by decide +kernel
theorem kb_Re_readTerm_100 : decode prog_5_method_8_code 100 = .ok (.iadd, 1) := by decide +kernel
theorem kb_Re_readTerm_101 : decode prog_5_method_8_code 101 = .ok (.putfield 87, 3) := by decide +kernel
theorem kb_Re_readTerm_104 : decode prog_5_method_8_code 104 = .ok (.iconst 1, 1) := by decide +kernel
theorem kb_Re_readTerm_105 : decode prog_5_method_8_code 105 = .ok (.ireturn, 1) := by decide +kernel
theorem kb_Re_readNumber_0 : decode prog_5_method_9_code 0 = .ok (.iconst 0, 1) := by decide +kernel
theorem kb_Re_readNumber_1 : decode prog_5_method_9_code 1 = .ok (.istore_n 1, 1) := by decide +kernel
theorem kb_Re_readNumber_2 : decode prog_5_method_9_code 2 = .ok (.iconst 0, 1) := by decide +kernel
theorem kb_Re_readNumber_3 : decode prog_5_method_9_code 3 = .ok (.istore_n 2, 1) := by decide +kernel
theorem kb_Re_readNumber_4 : decode prog_5_method_9_code 4 = .ok (.iload_n 2, 1) := by decide +kernel
theorem kb_Re_readNumber_5 : decode prog_5_method_9_code 5 = .ok (.iconst 3, 1) := by decide +kernel
theorem kb_Re_readNumber_6 : decode prog_5_method_9_code 6 = .ok (.if_icmp .ge 63, 3) := by decide +kernel
theorem kb_Re_readNumber_9 : decode prog_5_method_9_code 9 = .ok (.aload_n 0, 1) := by decide +kernel
theorem kb_Re_readNumber_10 : decode prog_5_method_9_code 10 = .ok (.getfield 87, 3) := by decide +kernel
theorem kb_Re_readNumber_13 : decode prog_5_method_9_code 13 = .ok (.aload_n 0, 1) := by decide +kernel
theorem kb_Re_readNumber_14 : decode prog_5_method_9_code 14 = .ok (.getfield 39, 3) := by decide +kernel
theorem kb_Re_readNumber_17 : decode prog_5_method_9_code 17 = .ok (.if_icmp .ge 52, 3) := by decide +kernel
theorem kb_Re_readNumber_20 : decode prog_5_method_9_code 20 = .ok (.aload_n 0, 1) := by decide +kernel
theorem kb_Re_readNumber_21 : decode prog_5_method_9_code 21 = .ok (.getfield 29, 3) := by decide +kernel
theorem kb_Re_readNumber_24 : decode prog_5_method_9_code 24 = .ok (.aload_n 0, 1) := by decide +kernel
theorem kb_Re_readNumber_25 : decode prog_5_method_9_code 25 = .ok (.getfield 87, 3) := by decide +kernel
theorem kb_Re_readNumber_28 : decode prog_5_method_9_code 28 = .ok (.baload, 1) := by decide +kernel
theorem kb_Re_readNumber_29 : decode prog_5_method_9_code 29 = .ok (.invokestatic 100, 3) := by decide +kernel
theorem kb_Re_readNumber_32 : decode prog_5_method_9_code 32 = .ok (.ifCond .eq 37, 3) := by decide +kernel
theorem kb_Re_readNumber_35 : decode prog_5_method_9_code 35 = .ok (.iload_n 1, 1) := by decide +kernel
theorem kb_Re_readNumber_36 : decode prog_5_method_9_code 36 = .ok (.bipush 10, 2) := by decide +kernel
theorem kb_Re_readNumber_38 : decode prog_5_method_9_code 38 = .ok (.imul, 1) := by decide +kernel
theorem kb_Re_readNumber_39 : decode prog_5_method_9_code 39 = .ok (.aload_n 0, 1) := by decide +kernel
theorem kb_Re_readNumber_40 : decode prog_5_method_9_code 40 = .ok (.getfield 29, 3) := by decide +kernel
theorem kb_Re_readNumber_43 : decode prog_5_method_9_code 43 = .ok (.aload_n 0, 1) := by decide +kernel
theorem kb_Re_readNumber_44 : decode prog_5_method_9_code 44 = .ok (.getfield 87, 3) := by decide +kernel
theorem kb_Re_readNumber_47 : decode prog_5_method_9_code 47 = .ok (.baload, 1) := by decide +kernel
theorem kb_Re_readNumber_48 : decode prog_5_method_9_code 48 = .ok (.iadd, 1) := by decide +kernel
theorem kb_Re_readNumber_49 : decode prog_5_method_9_code 49 = .ok (.bipush 48, 2) := by decide +kernel
theorem kb_Re_readNumber_51 : decode prog_5_method_9_code 51 = .ok (.isub, 1) := by decide +kernel
theorem kb_Re_readNumber_52 : decode prog_5_method_9_code 52 = .ok (.istore_n 1, 1) := by decide +kernel
theorem kb_Re_readNumber_53 : decode prog_5_method_9_code 53 = .ok (.aload_n 0, 1) := by decide +kernel
theorem kb_Re_readNumber_54 : decode prog_5_method_9_code 54 = .ok (.dup, 1) := by decide +kernel
theorem kb_Re_readNumber_55 : decode prog_5_method_9_code 55 = .ok (.getfield 87, 3) := by decide +kernel
theorem kb_Re_readNumber_58 : decode prog_5_method_9_code 58 = .ok (.iconst 1, 1) := by decide +kernel
theorem kb_Re_readNumber_59 : decode prog_5_method_9_code 59 = .ok (.iadd, 1) := by decide +kernel
theorem kb_Re_readNumber_60 : decode prog_5_method_9_code 60 = .ok (.putfield 87, 3) := by decide +kernel
theorem kb_Re_readNumber_63 : decode prog_5_method_9_code 63 = .ok (.iinc 2 1, 3) := by decide +kernel
theorem kb_Re_readNumber_66 : decode prog_5_method_9_code 66 = .ok (.goto (-62), 3) := by decide +kernel
theorem kb_Re_readNumber_69 : decode prog_5_method_9_code 69 = .ok (.iload_n 1, 1) := by decide +kernel
theorem kb_Re_readNumber_70 : decode prog_5_method_9_code 70 = .ok (.ireturn, 1) := by decide +kernel
theorem kb_Re_takes_0 : decode prog_5_method_10_code 0 = .ok (.aload_n 0, 1) := by decide +kernel
theorem kb_Re_takes_1 : decode prog_5_method_10_code 1 = .ok (.invokevirtual 42, 3) := by decide +kernel
theorem kb_Re_takes_4 : decode prog_5_method_10_code 4 = .ok (.iload_n 1, 1) := by decide +kernel
theorem kb_Re_takes_5 : decode prog_5_method_10_code 5 = .ok (.if_icmp .eq 9, 3) := by decide +kernel
theorem kb_Re_takes_8 : decode prog_5_method_10_code 8 = .ok (.aload_n 0, 1) := by decide +kernel
theorem kb_Re_takes_9 : decode prog_5_method_10_code 9 = .ok (.iconst 1, 1) := by decide +kernel
theorem kb_Re_takes_10 : decode prog_5_method_10_code 10 = .ok (.invokevirtual 53, 3) := by decide +kernel
theorem kb_Re_takes_13 : decode prog_5_method_10_code 13 = .ok (.ireturn, 1) := by decide +kernel
theorem kb_Re_takes_14 : decode prog_5_method_10_code 14 = .ok (.aload_n 0, 1) := by decide +kernel
theorem kb_Re_takes_15 : decode prog_5_method_10_code 15 = .ok (.dup, 1) := by decide +kernel
theorem kb_Re_takes_16 : decode prog_5_method_10_code 16 = .ok (.getfield 87, 3) := by decide +kernel
theorem kb_Re_takes_19 : decode prog_5_method_10_code 19 = .ok (.iconst 1, 1) := by decide +kernel
theorem kb_Re_takes_20 : decode prog_5_method_10_code 20 = .ok (.iadd, 1) := by decide +kernel
theorem kb_Re_takes_21 : decode prog_5_method_10_code 21 = .ok (.putfield 87, 3) := by decide +kernel
theorem kb_Re_takes_24 : decode prog_5_method_10_code 24 = .ok (.iconst 1, 1) := by decide +kernel
theorem kb_Re_takes_25 : decode prog_5_method_10_code 25 = .ok (.ireturn, 1) := by decide +kernel
theorem kb_Re_sign_0 : decode prog_5_method_11_code 0 = .ok (.aload_n 0, 1) := by decide +kernel
theorem kb_Re_sign_1 : decode prog_5_method_11_code 1 = .ok (.getfield 87, 3) := by decide +kernel
theorem kb_Re_sign_4 : decode prog_5_method_11_code 4 = .ok (.aload_n 0, 1) := by decide +kernel
theorem kb_Re_sign_5 : decode prog_5_method_11_code 5 = .ok (.getfield 39, 3) := by decide +kernel
theorem kb_Re_sign_8 : decode prog_5_method_11_code 8 = .ok (.if_icmp .ge 44, 3) := by decide +kernel
theorem kb_Re_sign_11 : decode prog_5_method_11_code 11 = .ok (.aload_n 0, 1) := by decide +kernel
theorem kb_Re_sign_12 : decode prog_5_method_11_code 12 = .ok (.getfield 29, 3) := by decide +kernel
theorem kb_Re_sign_15 : decode prog_5_method_11_code 15 = .ok (.aload_n 0, 1) := by decide +kernel
theorem kb_Re_sign_16 : decode prog_5_method_11_code 16 = .ok (.getfield 87, 3) := by decide +kernel
theorem kb_Re_sign_19 : decode prog_5_method_11_code 19 = .ok (.baload, 1) := by decide +kernel
theorem kb_Re_sign_20 : decode prog_5_method_11_code 20 = .ok (.bipush 32, 2) := by decide +kernel
theorem kb_Re_sign_22 : decode prog_5_method_11_code 22 = .ok (.if_icmp .eq 17, 3) := by decide +kernel
theorem kb_Re_sign_25 : decode prog_5_method_11_code 25 = .ok (.aload_n 0, 1) := by decide +kernel
theorem kb_Re_sign_26 : decode prog_5_method_11_code 26 = .ok (.getfield 29, 3) := by decide +kernel
theorem kb_Re_sign_29 : decode prog_5_method_11_code 29 = .ok (.aload_n 0, 1) := by decide +kernel
theorem kb_Re_sign_30 : decode prog_5_method_11_code 30 = .ok (.getfield 87, 3) := by decide +kernel
theorem kb_Re_sign_33 : decode prog_5_method_11_code 33 = .ok (.baload, 1) := by decide +kernel
theorem kb_Re_sign_34 : decode prog_5_method_11_code 34 = .ok (.bipush 10, 2) := by decide +kernel
theorem kb_Re_sign_36 : decode prog_5_method_11_code 36 = .ok (.if_icmp .ne 16, 3) := by decide +kernel
theorem kb_Re_sign_39 : decode prog_5_method_11_code 39 = .ok (.aload_n 0, 1) := by decide +kernel
theorem kb_Re_sign_40 : decode prog_5_method_11_code 40 = .ok (.dup, 1) := by decide +kernel
theorem kb_Re_sign_41 : decode prog_5_method_11_code 41 = .ok (.getfield 87, 3) := by decide +kernel
theorem kb_Re_sign_44 : decode prog_5_method_11_code 44 = .ok (.iconst 1, 1) := by decide +kernel
theorem kb_Re_sign_45 : decode prog_5_method_11_code 45 = .ok (.iadd, 1) := by decide +kernel
theorem kb_Re_sign_46 : decode prog_5_method_11_code 46 = .ok (.putfield 87, 3) := by decide +kernel
theorem kb_Re_sign_49 : decode prog_5_method_11_code 49 = .ok (.goto (-49), 3) := by decide +kernel
theorem kb_Re_sign_52 : decode prog_5_method_11_code 52 = .ok (.aload_n 0, 1) := by decide +kernel
theorem kb_Re_sign_53 : decode prog_5_method_11_code 53 = .ok (.getfield 87, 3) := by decide +kernel
theorem kb_Re_sign_56 : decode prog_5_method_11_code 56 = .ok (.aload_n 0, 1) := by decide +kernel
theorem kb_Re_sign_57 : decode prog_5_method_11_code 57 = .ok (.getfield 39, 3) := by decide +kernel
theorem kb_Re_sign_60 : decode prog_5_method_11_code 60 = .ok (.if_icmp .ge 19, 3) := by decide +kernel
theorem kb_Re_sign_63 : decode prog_5_method_11_code 63 = .ok (.aload_n 0, 1) := by decide +kernel
theorem kb_Re_sign_64 : decode prog_5_method_11_code 64 = .ok (.getfield 29, 3) := by decide +kernel
theorem kb_Re_sign_67 : decode prog_5_method_11_code 67 = .ok (.aload_n 0, 1) := by decide +kernel
theorem kb_Re_sign_68 : decode prog_5_method_11_code 68 = .ok (.getfield 87, 3) := by decide +kernel
theorem kb_Re_sign_71 : decode prog_5_method_11_code 71 = .ok (.baload, 1) := by decide +kernel
theorem kb_Re_sign_72 : decode prog_5_method_11_code 72 = .ok (.sipush 255, 3) := by decide +kernel
theorem kb_Re_sign_75 : decode prog_5_method_11_code 75 = .ok (.iand, 1) := by decide +kernel
theorem kb_Re_sign_76 : decode prog_5_method_11_code 76 = .ok (.goto 4, 3) := by decide +kernel
theorem kb_Re_sign_79 : decode prog_5_method_11_code 79 = .ok (.iconst (-1), 1) := by decide +kernel
theorem kb_Re_sign_80 : decode prog_5_method_11_code 80 = .ok (.ireturn, 1) := by decide +kernel
theorem kb_Re_fail_0 : decode prog_5_method_12_code 0 = .ok (.aload_n 0, 1) := by decide +kernel
theorem kb_Re_fail_1 : decode prog_5_method_12_code 1 = .ok (.iload_n 1, 1) := by decide +kernel
theorem kb_Re_fail_2 : decode prog_5_method_12_code 2 = .ok (.putfield 156, 3) := by decide +kernel
theorem kb_Re_fail_5 : decode prog_5_method_12_code 5 = .ok (.aload_n 0, 1) := by decide +kernel
theorem kb_Re_fail_6 : decode prog_5_method_12_code 6 = .ok (.aload_n 0, 1) := by decide +kernel
theorem kb_Re_fail_7 : decode prog_5_method_12_code 7 = .ok (.getfield 87, 3) := by decide +kernel
theorem kb_Re_fail_10 : decode prog_5_method_12_code 10 = .ok (.putfield 18, 3) := by decide +kernel
theorem kb_Re_fail_13 : decode prog_5_method_12_code 13 = .ok (.iconst 0, 1) := by decide +kernel
theorem kb_Re_fail_14 : decode prog_5_method_12_code 14 = .ok (.ireturn, 1) := by decide +kernel
theorem kb_Re_isName_0 : decode prog_5_method_13_code 0 = .ok (.iload_n 0, 1) := by decide +kernel
theorem kb_Re_isName_1 : decode prog_5_method_13_code 1 = .ok (.bipush 97, 2) := by decide +kernel
theorem kb_Re_isName_3 : decode prog_5_method_13_code 3 = .ok (.if_icmp .lt 13, 3) := by decide +kernel
theorem kb_Re_isName_6 : decode prog_5_method_13_code 6 = .ok (.iload_n 0, 1) := by decide +kernel
theorem kb_Re_isName_7 : decode prog_5_method_13_code 7 = .ok (.bipush 122, 2) := by decide +kernel
theorem kb_Re_isName_9 : decode prog_5_method_13_code 9 = .ok (.if_icmp .gt 7, 3) := by decide +kernel
theorem kb_Re_isName_12 : decode prog_5_method_13_code 12 = .ok (.iconst 1, 1) := by decide +kernel
theorem kb_Re_isName_13 : decode prog_5_method_13_code 13 = .ok (.goto 4, 3) := by decide +kernel
theorem kb_Re_isName_16 : decode prog_5_method_13_code 16 = .ok (.iconst 0, 1) := by decide +kernel
theorem kb_Re_isName_17 : decode prog_5_method_13_code 17 = .ok (.ireturn, 1) := by decide +kernel
theorem kb_Re_isVariable_0 : decode prog_5_method_14_code 0 = .ok (.iload_n 0, 1) := by decide +kernel
theorem kb_Re_isVariable_1 : decode prog_5_method_14_code 1 = .ok (.bipush 65, 2) := by decide +kernel
theorem kb_Re_isVariable_3 : decode prog_5_method_14_code 3 = .ok (.if_icmp .lt 13, 3) := by decide +kernel
theorem kb_Re_isVariable_6 : decode prog_5_method_14_code 6 = .ok (.iload_n 0, 1) := by decide +kernel
theorem kb_Re_isVariable_7 : decode prog_5_method_14_code 7 = .ok (.bipush 90, 2) := by decide +kernel
theorem kb_Re_isVariable_9 : decode prog_5_method_14_code 9 = .ok (.if_icmp .gt 7, 3) := by decide +kernel
theorem kb_Re_isVariable_12 : decode prog_5_method_14_code 12 = .ok (.iconst 1, 1) := by decide +kernel
theorem kb_Re_isVariable_13 : decode prog_5_method_14_code 13 = .ok (.goto 4, 3) := by decide +kernel
theorem kb_Re_isVariable_16 : decode prog_5_method_14_code 16 = .ok (.iconst 0, 1) := by decide +kernel
theorem kb_Re_isVariable_17 : decode prog_5_method_14_code 17 = .ok (.ireturn, 1) := by decide +kernel
theorem kb_Re_isDigit_0 : decode prog_5_method_15_code 0 = .ok (.iload_n 0, 1) := by decide +kernel
theorem kb_Re_isDigit_1 : decode prog_5_method_15_code 1 = .ok (.bipush 48, 2) := by decide +kernel
theorem kb_Re_isDigit_3 : decode prog_5_method_15_code 3 = .ok (.if_icmp .lt 13, 3) := by decide +kernel
theorem kb_Re_isDigit_6 : decode prog_5_method_15_code 6 = .ok (.iload_n 0, 1) := by decide +kernel
theorem kb_Re_isDigit_7 : decode prog_5_method_15_code 7 = .ok (.bipush 57, 2) := by decide +kernel
theorem kb_Re_isDigit_9 : decode prog_5_method_15_code 9 = .ok (.if_icmp .gt 7, 3) := by decide +kernel
theorem kb_Re_isDigit_12 : decode prog_5_method_15_code 12 = .ok (.iconst 1, 1) := by decide +kernel
theorem kb_Re_isDigit_13 : decode prog_5_method_15_code 13 = .ok (.goto 4, 3) := by decide +kernel
theorem kb_Re_isDigit_16 : decode prog_5_method_15_code 16 = .ok (.iconst 0, 1) := by decide +kernel
theorem kb_Re_isDigit_17 : decode prog_5_method_15_code 17 = .ok (.ireturn, 1) := by decide +kernel
theorem kb_Ro_init_0 : decode prog_6_method_1_code 0 = .ok (.aload_n 0, 1) := by decide +kernel
theorem kb_Ro_init_1 : decode prog_6_method_1_code 1 = .ok (.invokespecial 3, 3) := by decide +kernel
theorem kb_Ro_init_4 : decode prog_6_method_1_code 4 = .ok (.aload_n 0, 1) := by decide +kernel
theorem kb_Ro_init_5 : decode prog_6_method_1_code 5 = .ok (.bipush 100, 2) := by decide +kernel
theorem kb_Ro_init_7 : decode prog_6_method_1_code 7 = .ok (.newarray .int, 2) := by decide +kernel
theorem kb_Ro_init_9 : decode prog_6_method_1_code 9 = .ok (.putfield 9, 3) := by decide +kernel
theorem kb_Ro_init_12 : decode prog_6_method_1_code 12 = .ok (.aload_n 0, 1) := by decide +kernel
theorem kb_Ro_init_13 : decode prog_6_method_1_code 13 = .ok (.bipush 100, 2) := by decide +kernel
theorem kb_Ro_init_15 : decode prog_6_method_1_code 15 = .ok (.newarray .int, 2) := by decide +kernel
theorem kb_Ro_init_17 : decode prog_6_method_1_code 17 = .ok (.putfield 15, 3) := by decide +kernel
theorem kb_Ro_init_20 : decode prog_6_method_1_code 20 = .ok (.return_, 1) := by decide +kernel
theorem kb_Ro_seek_0 : decode prog_6_method_2_code 0 = .ok (.iconst 0, 1) := by decide +kernel
theorem kb_Ro_seek_1 : decode prog_6_method_2_code 1 = .ok (.istore_n 2, 1) := by decide +kernel
theorem kb_Ro_seek_2 : decode prog_6_method_2_code 2 = .ok (.bipush 64, 2) := by decide +kernel
theorem kb_Ro_seek_4 : decode prog_6_method_2_code 4 = .ok (.istore_n 3, 1) := by decide +kernel
theorem kb_Ro_seek_5 : decode prog_6_method_2_code 5 = .ok (.iload_n 3, 1) := by decide +kernel
theorem kb_Ro_seek_6 : decode prog_6_method_2_code 6 = .ok (.ifCond .le 48, 3) := by decide +kernel
theorem kb_Ro_seek_9 : decode prog_6_method_2_code 9 = .ok (.iload_n 2, 1) := by decide +kernel
theorem kb_Ro_seek_10 : decode prog_6_method_2_code 10 = .ok (.iload_n 3, 1) := by decide +kernel
theorem kb_Ro_seek_11 : decode prog_6_method_2_code 11 = .ok (.iadd, 1) := by decide +kernel
theorem kb_Ro_seek_12 : decode prog_6_method_2_code 12 = .ok (.iconst 1, 1) := by decide +kernel
theorem kb_Ro_seek_13 : decode prog_6_method_2_code 13 = .ok (.isub, 1) := by decide +kernel
theorem kb_Ro_seek_14 : decode prog_6_method_2_code 14 = .ok (.istore 4, 2) := by decide +kernel
theorem kb_Ro_seek_16 : decode prog_6_method_2_code 16 = .ok (.iload 4, 2) := by decide +kernel
theorem kb_Ro_seek_18 : decode prog_6_method_2_code 18 = .ok (.aload_n 0, 1) := by decide +kernel
theorem kb_Ro_seek_19 : decode prog_6_method_2_code 19 = .ok (.getfield 18, 3) := by decide +kernel
theorem kb_Ro_seek_22 : decode prog_6_method_2_code 22 = .ok (.if_icmp .ge 25, 3) := by decide +kernel
theorem kb_Ro_seek_25 : decode prog_6_method_2_code 25 = .ok (.iload 4, 2) := by decide +kernel
theorem kb_Ro_seek_27 : decode prog_6_method_2_code 27 = .ok (.bipush 100, 2) := by decide +kernel
theorem kb_Ro_seek_29 : decode prog_6_method_2_code 29 = .ok (.if_icmp .ge 18, 3) := by decide +kernel
theorem kb_Ro_seek_32 : decode prog_6_method_2_code 32 = .ok (.aload_n 0, 1) := by decide +kernel
theorem kb_Ro_seek_33 : decode prog_6_method_2_code 33 = .ok (.getfield 9, 3) := by decide +kernel
theorem kb_Ro_seek_36 : decode prog_6_method_2_code 36 = .ok (.iload 4, 2) := by decide +kernel
theorem kb_Ro_seek_38 : decode prog_6_method_2_code 38 = .ok (.iaload, 1) := by decide +kernel
theorem kb_Ro_seek_39 : decode prog_6_method_2_code 39 = .ok (.iload_n 1, 1) := by decide +kernel
theorem kb_Ro_seek_40 : decode prog_6_method_2_code 40 = .ok (.if_icmp .ge 7, 3) := by decide +kernel
theorem kb_Ro_seek_43 : decode prog_6_method_2_code 43 = .ok (.iload_n 2, 1) := by decide +kernel
theorem kb_Ro_seek_44 : decode prog_6_method_2_code 44 = .ok (.iload_n 3, 1) := by decide +kernel
theorem kb_Ro_seek_45 : decode prog_6_method_2_code 45 = .ok (.iadd, 1) := by decide +kernel
theorem kb_Ro_seek_46 : decode prog_6_method_2_code 46 = .ok (.istore_n 2, 1) := by decide +kernel
theorem kb_Ro_seek_47 : decode prog_6_method_2_code 47 = .ok (.iload_n 3, 1) := by decide +kernel
theorem kb_Ro_seek_48 : decode prog_6_method_2_code 48 = .ok (.iconst 1, 1) := by decide +kernel
theorem kb_Ro_seek_49 : decode prog_6_method_2_code 49 = .ok (.ishr, 1) := by decide +kernel
theorem kb_Ro_seek_50 : decode prog_6_method_2_code 50 = .ok (.istore_n 3, 1) := by decide +kernel
theorem kb_Ro_seek_51 : decode prog_6_method_2_code 51 = .ok (.goto (-46), 3) := by decide +kernel
theorem kb_Ro_seek_54 : decode prog_6_method_2_code 54 = .ok (.iload_n 2, 1) := by decide +kernel
theorem kb_Ro_seek_55 : decode prog_6_method_2_code 55 = .ok (.ireturn, 1) := by decide +kernel
theorem kb_Ro_countOf_0 : decode prog_6_method_3_code 0 = .ok (.aload_n 0, 1) := by decide +kernel
theorem kb_Ro_countOf_1 : decode prog_6_method_3_code 1 = .ok (.iload_n 1, 1) := by decide +kernel
theorem kb_Ro_countOf_2 : decode prog_6_method_3_code 2 = .ok (.invokevirtual 22, 3) := by decide +kernel
theorem kb_Ro_countOf_5 : decode prog_6_method_3_code 5 = .ok (.istore_n 2, 1) := by decide +kernel
theorem kb_Ro_countOf_6 : decode prog_6_method_3_code 6 = .ok (.iload_n 2, 1) := by decide +kernel
theorem kb_Ro_countOf_7 : decode prog_6_method_3_code 7 = .ok (.aload_n 0, 1) := by decide +kernel
theorem kb_Ro_countOf_8 : decode prog_6_method_3_code 8 = .ok (.getfield 18, 3) := by decide +kernel
theorem kb_Ro_countOf_11 : decode prog_6_method_3_code 11 = .ok (.if_icmp .ge 22, 3) := by decide +kernel
theorem kb_Ro_countOf_14 : decode prog_6_method_3_code 14 = .ok (.aload_n 0, 1) := by decide +kernel
theorem kb_Ro_countOf_15 : decode prog_6_method_3_code 15 = .ok (.getfield 9, 3) := by decide +kernel
theorem kb_Ro_countOf_18 : decode prog_6_method_3_code 18 = .ok (.iload_n 2, 1) := by decide +kernel
theorem kb_Ro_countOf_19 : decode prog_6_method_3_code 19 = .ok (.iaload, 1) := by decide +kernel
theorem kb_Ro_countOf_20 : decode prog_6_method_3_code 20 = .ok (.iload_n 1, 1) := by decide +kernel
theorem kb_Ro_countOf_21 : decode prog_6_method_3_code 21 = .ok (.if_icmp .ne 12, 3) := by decide +kernel
theorem kb_Ro_countOf_24 : decode prog_6_method_3_code 24 = .ok (.aload_n 0, 1) := by decide +kernel
theorem kb_Ro_countOf_25 : decode prog_6_method_3_code 25 = .ok (.getfield 15, 3) := by decide +kernel
theorem kb_Ro_countOf_28 : decode prog_6_method_3_code 28 = .ok (.iload_n 2, 1) := by decide +kernel
theorem kb_Ro_countOf_29 : decode prog_6_method_3_code 29 = .ok (.iaload, 1) := by decide +kernel
theorem kb_Ro_countOf_30 : decode prog_6_method_3_code 30 = .ok (.goto 4, 3) := by decide +kernel
theorem kb_Ro_countOf_33 : decode prog_6_method_3_code 33 = .ok (.iconst 0, 1) := by decide +kernel
theorem kb_Ro_countOf_34 : decode prog_6_method_3_code 34 = .ok (.ireturn, 1) := by decide +kernel
theorem kb_Ro_add_0 : decode prog_6_method_4_code 0 = .ok (.aload_n 0, 1) := by decide +kernel
theorem kb_Ro_add_1 : decode prog_6_method_4_code 1 = .ok (.iload_n 1, 1) := by decide +kernel
theorem kb_Ro_add_2 : decode prog_6_method_4_code 2 = .ok (.invokevirtual 22, 3) := by decide +kernel
theorem kb_Ro_add_5 : decode prog_6_method_4_code 5 = .ok (.istore_n 3, 1) := by decide +kernel
theorem kb_Ro_add_6 : decode prog_6_method_4_code 6 = .ok (.iload_n 3, 1) := by decide +kernel
theorem kb_Ro_add_7 : decode prog_6_method_4_code 7 = .ok (.aload_n 0, 1) := by decide +kernel
theorem kb_Ro_add_8 : decode prog_6_method_4_code 8 = .ok (.getfield 18, 3) := by decide +kernel
theorem kb_Ro_add_11 : decode prog_6_method_4_code 11 = .ok (.if_icmp .ge 30, 3) := by decide +kernel
theorem kb_Ro_add_14 : decode prog_6_method_4_code 14 = .ok (.aload_n 0, 1) := by decide +kernel
theorem kb_Ro_add_15 : decode prog_6_method_4_code 15 = .ok (.getfield 9, 3) := by decide +kernel
theorem kb_Ro_add_18 : decode prog_6_method_4_code 18 = .ok (.iload_n 3, 1) := by decide +kernel
theorem kb_Ro_add_19 : decode prog_6_method_4_code 19 = .ok (.iaload, 1) := by decide +kernel
theorem kb_Ro_add_20 : decode prog_6_method_4_code 20 = .ok (.iload_n 1, 1) := by decide +kernel
theorem kb_Ro_add_21 : decode prog_6_method_4_code 21 = .ok (.if_icmp .ne 20, 3) := by decide +kernel
theorem kb_Ro_add_24 : decode prog_6_method_4_code 24 = .ok (.aload_n 0, 1) := by decide +kernel
theorem kb_Ro_add_25 : decode prog_6_method_4_code 25 = .ok (.getfield 15, 3) := by decide +kernel
theorem kb_Ro_add_28 : decode prog_6_method_4_code 28 = .ok (.iload_n 3, 1) := by decide +kernel
theorem kb_Ro_add_29 : decode prog_6_method_4_code 29 = .ok (.dup2, 1) := by decide +kernel
theorem kb_Ro_add_30 : decode prog_6_method_4_code 30 = .ok (.iaload, 1) := by decide +kernel
theorem kb_Ro_add_31 : decode prog_6_method_4_code 31 = .ok (.iload_n 2, 1) := by decide +kernel
theorem kb_Ro_add_32 : decode prog_6_method_4_code 32 = .ok (.iadd, 1) := by decide +kernel
theorem kb_Ro_add_33 : decode prog_6_method_4_code 33 = .ok (.iastore, 1) := by decide +kernel
theorem kb_Ro_add_34 : decode prog_6_method_4_code 34 = .ok (.aload_n 0, 1) := by decide +kernel
theorem kb_Ro_add_35 : decode prog_6_method_4_code 35 = .ok (.getfield 15, 3) := by decide +kernel
theorem kb_Ro_add_38 : decode prog_6_method_4_code 38 = .ok (.iload_n 3, 1) := by decide +kernel
theorem kb_Ro_add_39 : decode prog_6_method_4_code 39 = .ok (.iaload, 1) := by decide +kernel
theorem kb_Ro_add_40 : decode prog_6_method_4_code 40 = .ok (.ireturn, 1) := by decide +kernel
theorem kb_Ro_add_41 : decode prog_6_method_4_code 41 = .ok (.aload_n 0, 1) := by decide +kernel
theorem kb_Ro_add_42 : decode prog_6_method_4_code 42 = .ok (.getfield 18, 3) := by decide +kernel
theorem kb_Ro_add_45 : decode prog_6_method_4_code 45 = .ok (.bipush 100, 2) := by decide +kernel
theorem kb_Ro_add_47 : decode prog_6_method_4_code 47 = .ok (.if_icmp .lt 5, 3) := by decide +kernel
theorem kb_Ro_add_50 : decode prog_6_method_4_code 50 = .ok (.iconst 0, 1) := by decide +kernel
theorem kb_Ro_add_51 : decode prog_6_method_4_code 51 = .ok (.ireturn, 1) := by decide +kernel
theorem kb_Ro_add_52 : decode prog_6_method_4_code 52 = .ok (.aload_n 0, 1) := by decide +kernel
theorem kb_Ro_add_53 : decode prog_6_method_4_code 53 = .ok (.getfield 18, 3) := by decide +kernel
theorem kb_Ro_add_56 : decode prog_6_method_4_code 56 = .ok (.istore 4, 2) := by decide +kernel
theorem kb_Ro_add_58 : decode prog_6_method_4_code 58 = .ok (.iload 4, 2) := by decide +kernel
theorem kb_Ro_add_60 : decode prog_6_method_4_code 60 = .ok (.iload_n 3, 1) := by decide +kernel
theorem kb_Ro_add_61 : decode prog_6_method_4_code 61 = .ok (.if_icmp .le 41, 3) := by decide +kernel
theorem kb_Ro_add_64 : decode prog_6_method_4_code 64 = .ok (.aload_n 0, 1) := by decide +kernel
theorem kb_Ro_add_65 : decode prog_6_method_4_code 65 = .ok (.getfield 9, 3) := by decide +kernel
theorem kb_Ro_add_68 : decode prog_6_method_4_code 68 = .ok (.iload 4, 2) := by decide +kernel
theorem kb_Ro_add_70 : decode prog_6_method_4_code 70 = .ok (.aload_n 0, 1) := by decide +kernel
theorem kb_Ro_add_71 : decode prog_6_method_4_code 71 = .ok (.getfield 9, 3) := by decide +kernel
theorem kb_Ro_add_74 : decode prog_6_method_4_code 74 = .ok (.iload 4, 2) := by decide +kernel
theorem kb_Ro_add_76 : decode prog_6_method_4_code 76 = .ok (.iconst 1, 1) := by decide +kernel
theorem kb_Ro_add_77 : decode prog_6_method_4_code 77 = .ok (.isub, 1) := by decide +kernel
theorem kb_Ro_add_78 : decode prog_6_method_4_code 78 = .ok (.iaload, 1) := by decide +kernel
theorem kb_Ro_add_79 : decode prog_6_method_4_code 79 = .ok (.iastore, 1) := by decide +kernel
theorem kb_Ro_add_80 : decode prog_6_method_4_code 80 = .ok (.aload_n 0, 1) := by decide +kernel
theorem kb_Ro_add_81 : decode prog_6_method_4_code 81 = .ok (.getfield 15, 3) := by decide +kernel
theorem kb_Ro_add_84 : decode prog_6_method_4_code 84 = .ok (.iload 4, 2) := by decide +kernel
theorem kb_Ro_add_86 : decode prog_6_method_4_code 86 = .ok (.aload_n 0, 1) := by decide +kernel
theorem kb_Ro_add_87 : decode prog_6_method_4_code 87 = .ok (.getfield 15, 3) := by decide +kernel
theorem kb_Ro_add_90 : decode prog_6_method_4_code 90 = .ok (.iload 4, 2) := by decide +kernel
theorem kb_Ro_add_92 : decode prog_6_method_4_code 92 = .ok (.iconst 1, 1) := by decide +kernel
theorem kb_Ro_add_93 : decode prog_6_method_4_code 93 = .ok (.isub, 1) := by decide +kernel
theorem kb_Ro_add_94 : decode prog_6_method_4_code 94 = .ok (.iaload, 1) := by decide +kernel
theorem kb_Ro_add_95 : decode prog_6_method_4_code 95 = .ok (.iastore, 1) := by decide +kernel
theorem kb_Ro_add_96 : decode prog_6_method_4_code 96 = .ok (.iinc 4 (-1), 3) := by decide +kernel
theorem kb_Ro_add_99 : decode prog_6_method_4_code 99 = .ok (.goto (-41), 3) := by decide +kernel
theorem kb_Ro_add_102 : decode prog_6_method_4_code 102 = .ok (.aload_n 0, 1) := by decide +kernel
theorem kb_Ro_add_103 : decode prog_6_method_4_code 103 = .ok (.getfield 9, 3) := by decide +kernel
theorem kb_Ro_add_106 : decode prog_6_method_4_code 106 = .ok (.iload_n 3, 1) := by decide +kernel
theorem kb_Ro_add_107 : decode prog_6_method_4_code 107 = .ok (.iload_n 1, 1) := by decide +kernel
theorem kb_Ro_add_108 : decode prog_6_method_4_code 108 = .ok (.iastore, 1) := by decide +kernel
theorem kb_Ro_add_109 : decode prog_6_method_4_code 109 = .ok (.aload_n 0, 1) := by decide +kernel
theorem kb_Ro_add_110 : decode prog_6_method_4_code 110 = .ok (.getfield 15, 3) := by decide +kernel
theorem kb_Ro_add_113 : decode prog_6_method_4_code 113 = .ok (.iload_n 3, 1) := by decide +kernel
theorem kb_Ro_add_114 : decode prog_6_method_4_code 114 = .ok (.iload_n 2, 1) := by decide +kernel
theorem kb_Ro_add_115 : decode prog_6_method_4_code 115 = .ok (.iastore, 1) := by decide +kernel
theorem kb_Ro_add_116 : decode prog_6_method_4_code 116 = .ok (.aload_n 0, 1) := by decide +kernel
theorem kb_Ro_add_117 : decode prog_6_method_4_code 117 = .ok (.dup, 1) := by decide +kernel
theorem kb_Ro_add_118 : decode prog_6_method_4_code 118 = .ok (.getfield 18, 3) := by decide +kernel
theorem kb_Ro_add_121 : decode prog_6_method_4_code 121 = .ok (.iconst 1, 1) := by decide +kernel
theorem kb_Ro_add_122 : decode prog_6_method_4_code 122 = .ok (.iadd, 1) := by decide +kernel
theorem kb_Ro_add_123 : decode prog_6_method_4_code 123 = .ok (.putfield 18, 3) := by decide +kernel
theorem kb_Ro_add_126 : decode prog_6_method_4_code 126 = .ok (.iload_n 2, 1) := by decide +kernel
theorem kb_Ro_add_127 : decode prog_6_method_4_code 127 = .ok (.ireturn, 1) := by decide +kernel
theorem kb_Ro_dropZeros_0 : decode prog_6_method_5_code 0 = .ok (.iconst 0, 1) := by decide +kernel
theorem kb_Ro_dropZeros_1 : decode prog_6_method_5_code 1 = .ok (.istore_n 1, 1) := by decide +kernel
theorem kb_Ro_dropZeros_2 : decode prog_6_method_5_code 2 = .ok (.iconst 0, 1) := by decide +kernel
theorem kb_Ro_dropZeros_3 : decode prog_6_method_5_code 3 = .ok (.istore_n 2, 1) := by decide +kernel
theorem kb_Ro_dropZeros_4 : decode prog_6_method_5_code 4 = .ok (.iload_n 2, 1) := by decide +kernel
theorem kb_Ro_dropZeros_5 : decode prog_6_method_5_code 5 = .ok (.aload_n 0, 1) := by decide +kernel
theorem kb_Ro_dropZeros_6 : decode prog_6_method_5_code 6 = .ok (.getfield 18, 3) := by decide +kernel
theorem kb_Ro_dropZeros_9 : decode prog_6_method_5_code 9 = .ok (.if_icmp .ge 67, 3) := by decide +kernel
theorem kb_Ro_dropZeros_12 : decode prog_6_method_5_code 12 = .ok (.aload_n 0, 1) := by decide +kernel
theorem kb_Ro_dropZeros_13 : decode prog_6_method_5_code 13 = .ok (.getfield 15, 3) := by decide +kernel
theorem kb_Ro_dropZeros_16 : decode prog_6_method_5_code 16 = .ok (.iload_n 2, 1) := by decide +kernel
theorem kb_Ro_dropZeros_17 : decode prog_6_method_5_code 17 = .ok (.iaload, 1) := by decide +kernel
theorem kb_Ro_dropZeros_18 : decode prog_6_method_5_code 18 = .ok (.ifCond .lt 14, 3) := by decide +kernel
theorem kb_Ro_dropZeros_21 : decode prog_6_method_5_code 21 = .ok (.aload_n 0, 1) := by decide +kernel
theorem kb_Ro_dropZeros_22 : decode prog_6_method_5_code 22 = .ok (.getfield 15, 3) := by decide +kernel
theorem kb_Ro_dropZeros_25 : decode prog_6_method_5_code 25 = .ok (.iload_n 2, 1) := by decide +kernel
theorem kb_Ro_dropZeros_26 : decode prog_6_method_5_code 26 = .ok (.iaload, 1) := by decide +kernel
theorem kb_Ro_dropZeros_27 : decode prog_6_method_5_code 27 = .ok (.bipush 9, 2) := by decide +kernel
theorem kb_Ro_dropZeros_29 : decode prog_6_method_5_code 29 = .ok (.if_icmp .le 5, 3) := by decide +kernel
theorem kb_Ro_dropZeros_32 : decode prog_6_method_5_code 32 = .ok (.iconst 0, 1) := by decide +kernel
theorem kb_Ro_dropZeros_33 : decode prog_6_method_5_code 33 = .ok (.ireturn, 1) := by decide +kernel
theorem kb_Ro_dropZeros_34 : decode prog_6_method_5_code 34 = .ok (.aload_n 0, 1) := by decide +kernel
theorem kb_Ro_dropZeros_35 : decode prog_6_method_5_code 35 = .ok (.getfield 15, 3) := by decide +kernel
theorem kb_Ro_dropZeros_38 : decode prog_6_method_5_code 38 = .ok (.iload_n 2, 1) := by decide +kernel
theorem kb_Ro_dropZeros_39 : decode prog_6_method_5_code 39 = .ok (.iaload, 1) := by decide +kernel
theorem kb_Ro_dropZeros_40 : decode prog_6_method_5_code 40 = .ok (.ifCond .le 30, 3) := by decide +kernel
theorem kb_Ro_dropZeros_43 : decode prog_6_method_5_code 43 = .ok (.aload_n 0, 1) := by decide +kernel
theorem kb_Ro_dropZeros_44 : decode prog_6_method_5_code 44 = .ok (.getfield 9, 3) := by decide +kernel
theorem kb_Ro_dropZeros_47 : decode prog_6_method_5_code 47 = .ok (.iload_n 1, 1) := by decide +kernel
theorem kb_Ro_dropZeros_48 : decode prog_6_method_5_code 48 = .ok (.aload_n 0, 1) := by decide +kernel
theorem kb_Ro_dropZeros_49 : decode prog_6_method_5_code 49 = .ok (.getfield 9, 3) := by decide +kernel
theorem kb_Ro_dropZeros_52 : decode prog_6_method_5_code 52 = .ok (.iload_n 2, 1) := by decide +kernel
theorem kb_Ro_dropZeros_53 : decode prog_6_method_5_code 53 = .ok (.iaload, 1) := by decide +kernel
theorem kb_Ro_dropZeros_54 : decode prog_6_method_5_code 54 = .ok (.iastore, 1) := by decide +kernel
theorem kb_Ro_dropZeros_55 : decode prog_6_method_5_code 55 = .ok (.aload_n 0, 1) := by decide +kernel
theorem kb_Ro_dropZeros_56 : decode prog_6_method_5_code 56 = .ok (.getfield 15, 3) := by decide +kernel
theorem kb_Ro_dropZeros_59 : decode prog_6_method_5_code 59 = .ok (.iload_n 1, 1) := by decide +kernel
theorem kb_Ro_dropZeros_60 : decode prog_6_method_5_code 60 = .ok (.aload_n 0, 1) := by decide +kernel
theorem kb_Ro_dropZeros_61 : decode prog_6_method_5_code 61 = .ok (.getfield 15, 3) := by decide +kernel
theorem kb_Ro_dropZeros_64 : decode prog_6_method_5_code 64 = .ok (.iload_n 2, 1) := by decide +kernel
theorem kb_Ro_dropZeros_65 : decode prog_6_method_5_code 65 = .ok (.iaload, 1) := by decide +kernel
theorem kb_Ro_dropZeros_66 : decode prog_6_method_5_code 66 = .ok (.iastore, 1) := by decide +kernel
theorem kb_Ro_dropZeros_67 : decode prog_6_method_5_code 67 = .ok (.iinc 1 1, 3) := by decide +kernel
theorem kb_Ro_dropZeros_70 : decode prog_6_method_5_code 70 = .ok (.iinc 2 1, 3) := by decide +kernel
theorem kb_Ro_dropZeros_73 : decode prog_6_method_5_code 73 = .ok (.goto (-69), 3) := by decide +kernel
theorem kb_Ro_dropZeros_76 : decode prog_6_method_5_code 76 = .ok (.aload_n 0, 1) := by decide +kernel
theorem kb_Ro_dropZeros_77 : decode prog_6_method_5_code 77 = .ok (.iload_n 1, 1) := by decide +kernel
theorem kb_Ro_dropZeros_78 : decode prog_6_method_5_code 78 = .ok (.putfield 18, 3) := by decide +kernel
theorem kb_Ro_dropZeros_81 : decode prog_6_method_5_code 81 = .ok (.iconst 1, 1) := by decide +kernel
theorem kb_Ro_dropZeros_82 : decode prog_6_method_5_code 82 = .ok (.ireturn, 1) := by decide +kernel
theorem kb_Ro_copy_0 : decode prog_6_method_6_code 0 = .ok (.aload_n 0, 1) := by decide +kernel
theorem kb_Ro_copy_1 : decode prog_6_method_6_code 1 = .ok (.aload_n 1, 1) := by decide +kernel
theorem kb_Ro_copy_2 : decode prog_6_method_6_code 2 = .ok (.getfield 18, 3) := by decide +kernel
theorem kb_Ro_copy_5 : decode prog_6_method_6_code 5 = .ok (.putfield 18, 3) := by decide +kernel
theorem kb_Ro_copy_8 : decode prog_6_method_6_code 8 = .ok (.iconst 0, 1) := by decide +kernel
theorem kb_Ro_copy_9 : decode prog_6_method_6_code 9 = .ok (.istore_n 2, 1) := by decide +kernel
theorem kb_Ro_copy_10 : decode prog_6_method_6_code 10 = .ok (.iload_n 2, 1) := by decide +kernel
theorem kb_Ro_copy_11 : decode prog_6_method_6_code 11 = .ok (.aload_n 0, 1) := by decide +kernel
theorem kb_Ro_copy_12 : decode prog_6_method_6_code 12 = .ok (.getfield 18, 3) := by decide +kernel
theorem kb_Ro_copy_15 : decode prog_6_method_6_code 15 = .ok (.if_icmp .ge 33, 3) := by decide +kernel
theorem kb_Ro_copy_18 : decode prog_6_method_6_code 18 = .ok (.aload_n 0, 1) := by decide +kernel
theorem kb_Ro_copy_19 : decode prog_6_method_6_code 19 = .ok (.getfield 9, 3) := by decide +kernel
theorem kb_Ro_copy_22 : decode prog_6_method_6_code 22 = .ok (.iload_n 2, 1) := by decide +kernel
theorem kb_Ro_copy_23 : decode prog_6_method_6_code 23 = .ok (.aload_n 1, 1) := by decide +kernel
theorem kb_Ro_copy_24 : decode prog_6_method_6_code 24 = .ok (.getfield 9, 3) := by decide +kernel
theorem kb_Ro_copy_27 : decode prog_6_method_6_code 27 = .ok (.iload_n 2, 1) := by decide +kernel
theorem kb_Ro_copy_28 : decode prog_6_method_6_code 28 = .ok (.iaload, 1) := by decide +kernel
theorem kb_Ro_copy_29 : decode prog_6_method_6_code 29 = .ok (.iastore, 1) := by decide +kernel
theorem kb_Ro_copy_30 : decode prog_6_method_6_code 30 = .ok (.aload_n 0, 1) := by decide +kernel
theorem kb_Ro_copy_31 : decode prog_6_method_6_code 31 = .ok (.getfield 15, 3) := by decide +kernel
theorem kb_Ro_copy_34 : decode prog_6_method_6_code 34 = .ok (.iload_n 2, 1) := by decide +kernel
theorem kb_Ro_copy_35 : decode prog_6_method_6_code 35 = .ok (.aload_n 1, 1) := by decide +kernel
theorem kb_Ro_copy_36 : decode prog_6_method_6_code 36 = .ok (.getfield 15, 3) := by decide +kernel
theorem kb_Ro_copy_39 : decode prog_6_method_6_code 39 = .ok (.iload_n 2, 1) := by decide +kernel
theorem kb_Ro_copy_40 : decode prog_6_method_6_code 40 = .ok (.iaload, 1) := by decide +kernel
theorem kb_Ro_copy_41 : decode prog_6_method_6_code 41 = .ok (.iastore, 1) := by decide +kernel
theorem kb_Ro_copy_42 : decode prog_6_method_6_code 42 = .ok (.iinc 2 1, 3) := by decide +kernel
theorem kb_Ro_copy_45 : decode prog_6_method_6_code 45 = .ok (.goto (-35), 3) := by decide +kernel
theorem kb_Ro_copy_48 : decode prog_6_method_6_code 48 = .ok (.return_, 1) := by decide +kernel
theorem kb_Ro_isSame_0 : decode prog_6_method_7_code 0 = .ok (.aload_n 0, 1) := by decide +kernel
theorem kb_Ro_isSame_1 : decode prog_6_method_7_code 1 = .ok (.getfield 18, 3) := by decide +kernel
theorem kb_Ro_isSame_4 : decode prog_6_method_7_code 4 = .ok (.aload_n 1, 1) := by decide +kernel
theorem kb_Ro_isSame_5 : decode prog_6_method_7_code 5 = .ok (.getfield 18, 3) := by decide +kernel
theorem kb_Ro_isSame_8 : decode prog_6_method_7_code 8 = .ok (.if_icmp .eq 5, 3) := by decide +kernel
theorem kb_Ro_isSame_11 : decode prog_6_method_7_code 11 = .ok (.iconst 0, 1) := by decide +kernel
theorem kb_Ro_isSame_12 : decode prog_6_method_7_code 12 = .ok (.ireturn, 1) := by decide +kernel
theorem kb_Ro_isSame_13 : decode prog_6_method_7_code 13 = .ok (.iconst 0, 1) := by decide +kernel
theorem kb_Ro_isSame_14 : decode prog_6_method_7_code 14 = .ok (.istore_n 2, 1) := by decide +kernel
theorem kb_Ro_isSame_15 : decode prog_6_method_7_code 15 = .ok (.iload_n 2, 1) := by decide +kernel
theorem kb_Ro_isSame_16 : decode prog_6_method_7_code 16 = .ok (.aload_n 0, 1) := by decide +kernel
theorem kb_Ro_isSame_17 : decode prog_6_method_7_code 17 = .ok (.getfield 18, 3) := by decide +kernel
theorem kb_Ro_isSame_20 : decode prog_6_method_7_code 20 = .ok (.if_icmp .ge 26, 3) := by decide +kernel
theorem kb_Ro_isSame_23 : decode prog_6_method_7_code 23 = .ok (.aload_n 0, 1) := by decide +kernel
theorem kb_Ro_isSame_24 : decode prog_6_method_7_code 24 = .ok (.getfield 9, 3) := by decide +kernel
theorem kb_Ro_isSame_27 : decode prog_6_method_7_code 27 = .ok (.iload_n 2, 1) := by decide +kernel
theorem kb_Ro_isSame_28 : decode prog_6_method_7_code 28 = .ok (.iaload, 1) := by decide +kernel
theorem kb_Ro_isSame_29 : decode prog_6_method_7_code 29 = .ok (.aload_n 1, 1) := by decide +kernel
theorem kb_Ro_isSame_30 : decode prog_6_method_7_code 30 = .ok (.getfield 9, 3) := by decide +kernel
theorem kb_Ro_isSame_33 : decode prog_6_method_7_code 33 = .ok (.iload_n 2, 1) := by decide +kernel
theorem kb_Ro_isSame_34 : decode prog_6_method_7_code 34 = .ok (.iaload, 1) := by decide +kernel
theorem kb_Ro_isSame_35 : decode prog_6_method_7_code 35 = .ok (.if_icmp .eq 5, 3) := by decide +kernel
theorem kb_Ro_isSame_38 : decode prog_6_method_7_code 38 = .ok (.iconst 0, 1) := by decide +kernel
theorem kb_Ro_isSame_39 : decode prog_6_method_7_code 39 = .ok (.ireturn, 1) := by decide +kernel
theorem kb_Ro_isSame_40 : decode prog_6_method_7_code 40 = .ok (.iinc 2 1, 3) := by decide +kernel
theorem kb_Ro_isSame_43 : decode prog_6_method_7_code 43 = .ok (.goto (-28), 3) := by decide +kernel
theorem kb_Ro_isSame_46 : decode prog_6_method_7_code 46 = .ok (.iconst 1, 1) := by decide +kernel
theorem kb_Ro_isSame_47 : decode prog_6_method_7_code 47 = .ok (.ireturn, 1) := by decide +kernel
theorem kb_Ru_init_0 : decode prog_7_method_1_code 0 = .ok (.aload_n 0, 1) := by decide +kernel
theorem kb_Ru_init_1 : decode prog_7_method_1_code 1 = .ok (.invokespecial 3, 3) := by decide +kernel
theorem kb_Ru_init_4 : decode prog_7_method_1_code 4 = .ok (.aload_n 0, 1) := by decide +kernel
theorem kb_Ru_init_5 : decode prog_7_method_1_code 5 = .ok (.new 9, 3) := by decide +kernel
theorem kb_Ru_init_8 : decode prog_7_method_1_code 8 = .ok (.dup, 1) := by decide +kernel
theorem kb_Ru_init_9 : decode prog_7_method_1_code 9 = .ok (.invokespecial 11, 3) := by decide +kernel
theorem kb_Ru_init_12 : decode prog_7_method_1_code 12 = .ok (.putfield 12, 3) := by decide +kernel
theorem kb_Ru_init_15 : decode prog_7_method_1_code 15 = .ok (.aload_n 0, 1) := by decide +kernel
theorem kb_Ru_init_16 : decode prog_7_method_1_code 16 = .ok (.iconst 5, 1) := by decide +kernel
theorem kb_Ru_init_17 : decode prog_7_method_1_code 17 = .ok (.anewarray 9, 3) := by decide +kernel
theorem kb_Ru_init_20 : decode prog_7_method_1_code 20 = .ok (.putfield 18, 3) := by decide +kernel
theorem kb_Ru_init_23 : decode prog_7_method_1_code 23 = .ok (.return_, 1) := by decide +kernel
theorem kb_Ru_append_0 : decode prog_7_method_2_code 0 = .ok (.aload_n 0, 1) := by decide +kernel
theorem kb_Ru_append_1 : decode prog_7_method_2_code 1 = .ok (.getfield 22, 3) := by decide +kernel
theorem kb_Ru_append_4 : decode prog_7_method_2_code 4 = .ok (.iconst 5, 1) := by decide +kernel
theorem kb_Ru_append_5 : decode prog_7_method_2_code 5 = .ok (.if_icmp .lt 4, 3) := by decide +kernel
theorem kb_Ru_append_8 : decode prog_7_method_2_code 8 = .ok (.return_, 1) := by decide +kernel
theorem kb_Ru_append_9 : decode prog_7_method_2_code 9 = .ok (.aload_n 0, 1) := by decide +kernel
theorem kb_Ru_append_10 : decode prog_7_method_2_code 10 = .ok (.getfield 18, 3) := by decide +kernel
theorem kb_Ru_append_13 : decode prog_7_method_2_code 13 = .ok (.aload_n 0, 1) := by decide +kernel
theorem kb_Ru_append_14 : decode prog_7_method_2_code 14 = .ok (.getfield 22, 3) := by decide +kernel
theorem kb_Ru_append_17 : decode prog_7_method_2_code 17 = .ok (.aload_n 1, 1) := by decide +kernel
theorem kb_Ru_append_18 : decode prog_7_method_2_code 18 = .ok (.aastore, 1) := by decide +kernel
theorem kb_Ru_append_19 : decode prog_7_method_2_code 19 = .ok (.aload_n 0, 1) := by decide +kernel
theorem kb_Ru_append_20 : decode prog_7_method_2_code 20 = .ok (.dup, 1) := by decide +kernel
theorem kb_Ru_append_21 : decode prog_7_method_2_code 21 = .ok (.getfield 22, 3) := by decide +kernel
theorem kb_Ru_append_24 : decode prog_7_method_2_code 24 = .ok (.iconst 1, 1) := by decide +kernel
theorem kb_Ru_append_25 : decode prog_7_method_2_code 25 = .ok (.iadd, 1) := by decide +kernel
theorem kb_Ru_append_26 : decode prog_7_method_2_code 26 = .ok (.putfield 22, 3) := by decide +kernel
theorem kb_Ru_append_29 : decode prog_7_method_2_code 29 = .ok (.aload_n 0, 1) := by decide +kernel
theorem kb_Ru_append_30 : decode prog_7_method_2_code 30 = .ok (.dup, 1) := by decide +kernel
theorem kb_Ru_append_31 : decode prog_7_method_2_code 31 = .ok (.getfield 26, 3) := by decide +kernel
theorem kb_Ru_append_34 : decode prog_7_method_2_code 34 = .ok (.aload_n 1, 1) := by decide +kernel
theorem kb_Ru_append_35 : decode prog_7_method_2_code 35 = .ok (.getfield 29, 3) := by decide +kernel
theorem kb_Ru_append_38 : decode prog_7_method_2_code 38 = .ok (.ifCond .ne 7, 3) := by decide +kernel
theorem kb_Ru_append_41 : decode prog_7_method_2_code 41 = .ok (.iconst 1, 1) := by decide +kernel
theorem kb_Ru_append_42 : decode prog_7_method_2_code 42 = .ok (.goto 4, 3) := by decide +kernel
theorem kb_Ru_append_45 : decode prog_7_method_2_code 45 = .ok (.iconst 0, 1) := by decide +kernel
theorem kb_Ru_append_46 : decode prog_7_method_2_code 46 = .ok (.iadd, 1) := by decide +kernel
theorem kb_Ru_append_47 : decode prog_7_method_2_code 47 = .ok (.putfield 26, 3) := by decide +kernel
theorem kb_Ru_append_50 : decode prog_7_method_2_code 50 = .ok (.return_, 1) := by decide +kernel
theorem kb_Ru_takesVariable_0 : decode prog_7_method_3_code 0 = .ok (.aload_n 0, 1) := by decide +kernel
theorem kb_Ru_takesVariable_1 : decode prog_7_method_3_code 1 = .ok (.getfield 32, 3) := by decide +kernel
theorem kb_Ru_takesVariable_4 : decode prog_7_method_3_code 4 = .ok (.iload_n 1, 1) := by decide +kernel
theorem kb_Ru_takesVariable_5 : decode prog_7_method_3_code 5 = .ok (.invokestatic 35, 3) := by decide +kernel
theorem kb_Ru_takesVariable_8 : decode prog_7_method_3_code 8 = .ok (.ifCond .eq 5, 3) := by decide +kernel
theorem kb_Ru_takesVariable_11 : decode prog_7_method_3_code 11 = .ok (.iconst 1, 1) := by decide +kernel
theorem kb_Ru_takesVariable_12 : decode prog_7_method_3_code 12 = .ok (.ireturn, 1) := by decide +kernel
theorem kb_Ru_takesVariable_13 : decode prog_7_method_3_code 13 = .ok (.aload_n 0, 1) := by decide +kernel
theorem kb_Ru_takesVariable_14 : decode prog_7_method_3_code 14 = .ok (.getfield 39, 3) := by decide +kernel
theorem kb_Ru_takesVariable_17 : decode prog_7_method_3_code 17 = .ok (.bipush 6, 2) := by decide +kernel
theorem kb_Ru_takesVariable_19 : decode prog_7_method_3_code 19 = .ok (.if_icmp .lt 5, 3) := by decide +kernel
theorem kb_Ru_takesVariable_22 : decode prog_7_method_3_code 22 = .ok (.iconst 0, 1) := by decide +kernel
theorem kb_Ru_takesVariable_23 : decode prog_7_method_3_code 23 = .ok (.ireturn, 1) := by decide +kernel
theorem kb_Ru_takesVariable_24 : decode prog_7_method_3_code 24 = .ok (.aload_n 0, 1) := by decide +kernel
theorem kb_Ru_takesVariable_25 : decode prog_7_method_3_code 25 = .ok (.dup, 1) := by decide +kernel
theorem kb_Ru_takesVariable_26 : decode prog_7_method_3_code 26 = .ok (.getfield 32, 3) := by decide +kernel
theorem kb_Ru_takesVariable_29 : decode prog_7_method_3_code 29 = .ok (.iconst 1, 1) := by decide +kernel
theorem kb_Ru_takesVariable_30 : decode prog_7_method_3_code 30 = .ok (.iload_n 1, 1) := by decide +kernel
theorem kb_Ru_takesVariable_31 : decode prog_7_method_3_code 31 = .ok (.ishl, 1) := by decide +kernel
theorem kb_Ru_takesVariable_32 : decode prog_7_method_3_code 32 = .ok (.ior, 1) := by decide +kernel
theorem kb_Ru_takesVariable_33 : decode prog_7_method_3_code 33 = .ok (.putfield 32, 3) := by decide +kernel
theorem kb_Ru_takesVariable_36 : decode prog_7_method_3_code 36 = .ok (.aload_n 0, 1) := by decide +kernel
theorem kb_Ru_takesVariable_37 : decode prog_7_method_3_code 37 = .ok (.dup, 1) := by decide +kernel
theorem kb_Ru_takesVariable_38 : decode prog_7_method_3_code 38 = .ok (.getfield 39, 3) := by decide +kernel
theorem kb_Ru_takesVariable_41 : decode prog_7_method_3_code 41 = .ok (.iconst 1, 1) := by decide +kernel
theorem kb_Ru_takesVariable_42 : decode prog_7_method_3_code 42 = .ok (.iadd, 1) := by decide +kernel
theorem kb_Ru_takesVariable_43 : decode prog_7_method_3_code 43 = .ok (.putfield 39, 3) := by decide +kernel
theorem kb_Ru_takesVariable_46 : decode prog_7_method_3_code 46 = .ok (.iconst 1, 1) := by decide +kernel
theorem kb_Ru_takesVariable_47 : decode prog_7_method_3_code 47 = .ok (.ireturn, 1) := by decide +kernel
theorem kb_Ru_hasLooseVariable_0 : decode prog_7_method_4_code 0 = .ok (.iconst 0, 1) := by decide +kernel
theorem kb_Ru_hasLooseVariable_1 : decode prog_7_method_4_code 1 = .ok (.istore_n 1, 1) := by decide +kernel
theorem kb_Ru_hasLooseVariable_2 : decode prog_7_method_4_code 2 = .ok (.aload_n 0, 1) := by decide +kernel
theorem kb_Ru_hasLooseVariable_3 : decode prog_7_method_4_code 3 = .ok (.getfield 12, 3) := by decide +kernel
theorem kb_Ru_hasLooseVariable_6 : decode prog_7_method_4_code 6 = .ok (.getfield 42, 3) := by decide +kernel
theorem kb_Ru_hasLooseVariable_9 : decode prog_7_method_4_code 9 = .ok (.istore_n 2, 1) := by decide +kernel
theorem kb_Ru_hasLooseVariable_10 : decode prog_7_method_4_code 10 = .ok (.iconst 0, 1) := by decide +kernel
theorem kb_Ru_hasLooseVariable_11 : decode prog_7_method_4_code 11 = .ok (.istore_n 3, 1) := by decide +kernel
theorem kb_Ru_hasLooseVariable_12 : decode prog_7_method_4_code 12 = .ok (.iload_n 3, 1) := by decide +kernel
theorem kb_Ru_hasLooseVariable_13 : decode prog_7_method_4_code 13 = .ok (.aload_n 0, 1) := by decide +kernel
theorem kb_Ru_hasLooseVariable_14 : decode prog_7_method_4_code 14 = .ok (.getfield 22, 3) := by decide +kernel
theorem kb_Ru_hasLooseVariable_17 : decode prog_7_method_4_code 17 = .ok (.if_icmp .ge 48, 3) := by decide +kernel
theorem kb_Ru_hasLooseVariable_20 : decode prog_7_method_4_code 20 = .ok (.aload_n 0, 1) := by decide +kernel
theorem kb_Ru_hasLooseVariable_21 : decode prog_7_method_4_code 21 = .ok (.getfield 18, 3) := by decide +kernel
theorem kb_Ru_hasLooseVariable_24 : decode prog_7_method_4_code 24 = .ok (.iload_n 3, 1) := by decide +kernel
theorem kb_Ru_hasLooseVariable_25 : decode prog_7_method_4_code 25 = .ok (.aaload, 1) := by decide +kernel
theorem kb_Ru_hasLooseVariable_26 : decode prog_7_method_4_code 26 = .ok (.getfield 29, 3) := by decide +kernel
theorem kb_Ru_hasLooseVariable_29 : decode prog_7_method_4_code 29 = .ok (.ifCond .ne 18, 3) := by decide +kernel
theorem kb_Ru_hasLooseVariable_32 : decode prog_7_method_4_code 32 = .ok (.iload_n 1, 1) := by decide +kernel
theorem kb_Ru_hasLooseVariable_33 : decode prog_7_method_4_code 33 = .ok (.aload_n 0, 1) := by decide +kernel
theorem kb_Ru_hasLooseVariable_34 : decode prog_7_method_4_code 34 = .ok (.getfield 18, 3) := by decide +kernel
theorem kb_Ru_hasLooseVariable_37 : decode prog_7_method_4_code 37 = .ok (.iload_n 3, 1) := by decide +kernel
theorem kb_Ru_hasLooseVariable_38 : decode prog_7_method_4_code 38 = .ok (.aaload, 1) := by decide +kernel
theorem kb_Ru_hasLooseVariable_39 : decode prog_7_method_4_code 39 = .ok (.getfield 42, 3) := by decide +kernel
theorem kb_Ru_hasLooseVariable_42 : decode prog_7_method_4_code 42 = .ok (.ior, 1) := by decide +kernel
theorem kb_Ru_hasLooseVariable_43 : decode prog_7_method_4_code 43 = .ok (.istore_n 1, 1) := by decide +kernel
theorem kb_Ru_hasLooseVariable_44 : decode prog_7_method_4_code 44 = .ok (.goto 15, 3) := by decide +kernel
theorem kb_Ru_hasLooseVariable_47 : decode prog_7_method_4_code 47 = .ok (.iload_n 2, 1) := by decide +kernel
theorem kb_Ru_hasLooseVariable_48 : decode prog_7_method_4_code 48 = .ok (.aload_n 0, 1) := by decide +kernel
theorem kb_Ru_hasLooseVariable_49 : decode prog_7_method_4_code 49 = .ok (.getfield 18, 3) := by decide +kernel
theorem kb_Ru_hasLooseVariable_52 : decode prog_7_method_4_code 52 = .ok (.iload_n 3, 1) := by decide +kernel
theorem kb_Ru_hasLooseVariable_53 : decode prog_7_method_4_code 53 = .ok (.aaload, 1) := by decide +kernel
theorem kb_Ru_hasLooseVariable_54 : decode prog_7_method_4_code 54 = .ok (.getfield 42, 3) := by decide +kernel
theorem kb_Ru_hasLooseVariable_57 : decode prog_7_method_4_code 57 = .ok (.ior, 1) := by decide +kernel
theorem kb_Ru_hasLooseVariable_58 : decode prog_7_method_4_code 58 = .ok (.istore_n 2, 1) := by decide +kernel
theorem kb_Ru_hasLooseVariable_59 : decode prog_7_method_4_code 59 = .ok (.iinc 3 1, 3) := by decide +kernel
theorem kb_Ru_hasLooseVariable_62 : decode prog_7_method_4_code 62 = .ok (.goto (-50), 3) := by decide +kernel
theorem kb_Ru_hasLooseVariable_65 : decode prog_7_method_4_code 65 = .ok (.iload_n 2, 1) := by decide +kernel
theorem kb_Ru_hasLooseVariable_66 : decode prog_7_method_4_code 66 = .ok (.iload_n 1, 1) := by decide +kernel
theorem kb_Ru_hasLooseVariable_67 : decode prog_7_method_4_code 67 = .ok (.iconst (-1), 1) := by decide +kernel
theorem kb_Ru_hasLooseVariable_68 : decode prog_7_method_4_code 68 = .ok (.ixor, 1) := by decide +kernel
theorem kb_Ru_hasLooseVariable_69 : decode prog_7_method_4_code 69 = .ok (.iand, 1) := by decide +kernel
theorem kb_Ru_hasLooseVariable_70 : decode prog_7_method_4_code 70 = .ok (.ifCond .eq 7, 3) := by decide +kernel
theorem kb_Ru_hasLooseVariable_73 : decode prog_7_method_4_code 73 = .ok (.iconst 1, 1) := by decide +kernel
theorem kb_Ru_hasLooseVariable_74 : decode prog_7_method_4_code 74 = .ok (.goto 4, 3) := by decide +kernel
theorem kb_Ru_hasLooseVariable_77 : decode prog_7_method_4_code 77 = .ok (.iconst 0, 1) := by decide +kernel
theorem kb_Ru_hasLooseVariable_78 : decode prog_7_method_4_code 78 = .ok (.ireturn, 1) := by decide +kernel
theorem kb_Ru_arrange_0 : decode prog_7_method_5_code 0 = .ok (.iconst 0, 1) := by decide +kernel
theorem kb_Ru_arrange_1 : decode prog_7_method_5_code 1 = .ok (.istore_n 1, 1) := by decide +kernel
theorem kb_Ru_arrange_2 : decode prog_7_method_5_code 2 = .ok (.iconst 0, 1) := by decide +kernel
theorem kb_Ru_arrange_3 : decode prog_7_method_5_code 3 = .ok (.istore_n 2, 1) := by decide +kernel
theorem kb_Ru_arrange_4 : decode prog_7_method_5_code 4 = .ok (.iload_n 2, 1) := by decide +kernel
theorem kb_Ru_arrange_5 : decode prog_7_method_5_code 5 = .ok (.aload_n 0, 1) := by decide +kernel
theorem kb_Ru_arrange_6 : decode prog_7_method_5_code 6 = .ok (.getfield 22, 3) := by decide +kernel
theorem kb_Ru_arrange_9 : decode prog_7_method_5_code 9 = .ok (.if_icmp .ge 71, 3) := by decide +kernel
theorem kb_Ru_arrange_12 : decode prog_7_method_5_code 12 = .ok (.aload_n 0, 1) := by decide +kernel
theorem kb_Ru_arrange_13 : decode prog_7_method_5_code 13 = .ok (.iload_n 2, 1) := by decide +kernel
theorem kb_Ru_arrange_14 : decode prog_7_method_5_code 14 = .ok (.iload_n 1, 1) := by decide +kernel
theorem kb_Ru_arrange_15 : decode prog_7_method_5_code 15 = .ok (.invokevirtual 43, 3) := by decide +kernel
theorem kb_Ru_arrange_18 : decode prog_7_method_5_code 18 = .ok (.istore_n 3, 1) := by decide +kernel
theorem kb_Ru_arrange_19 : decode prog_7_method_5_code 19 = .ok (.aload_n 0, 1) := by decide +kernel
theorem kb_Ru_arrange_20 : decode prog_7_method_5_code 20 = .ok (.getfield 18, 3) := by decide +kernel
theorem kb_Ru_arrange_23 : decode prog_7_method_5_code 23 = .ok (.iload_n 3, 1) := by decide +kernel
theorem kb_Ru_arrange_24 : decode prog_7_method_5_code 24 = .ok (.aaload, 1) := by decide +kernel
theorem kb_Ru_arrange_25 : decode prog_7_method_5_code 25 = .ok (.astore 4, 2) := by decide +kernel
theorem kb_Ru_arrange_27 : decode prog_7_method_5_code 27 = .ok (.iload_n 3, 1) := by decide +kernel
theorem kb_Ru_arrange_28 : decode prog_7_method_5_code 28 = .ok (.istore 5, 2) := by decide +kernel
theorem kb_Ru_arrange_30 : decode prog_7_method_5_code 30 = .ok (.iload 5, 2) := by decide +kernel
theorem kb_Ru_arrange_32 : decode prog_7_method_5_code 32 = .ok (.iload_n 2, 1) := by decide +kernel
theorem kb_Ru_arrange_33 : decode prog_7_method_5_code 33 = .ok (.if_icmp .le 25, 3) := by decide +kernel
theorem kb_Ru_arrange_36 : decode prog_7_method_5_code 36 = .ok (.aload_n 0, 1) := by decide +kernel
theorem kb_Ru_arrange_37 : decode prog_7_method_5_code 37 = .ok (.getfield 18, 3) := by decide +kernel
theorem kb_Ru_arrange_40 : decode prog_7_method_5_code 40 = .ok (.iload 5, 2) := by decide +kernel
theorem kb_Ru_arrange_42 : decode prog_7_method_5_code 42 = .ok (.aload_n 0, 1) := by decide +kernel
theorem kb_Ru_arrange_43 : decode prog_7_method_5_code 43 = .ok (.getfield 18, 3) := by decide +kernel
theorem kb_Ru_arrange_46 : decode prog_7_method_5_code 46 = .ok (.iload 5, 2) := by decide +kernel
theorem kb_Ru_arrange_48 : decode prog_7_method_5_code 48 = .ok (.iconst 1, 1) := by decide +kernel
theorem kb_Ru_arrange_49 : decode prog_7_method_5_code 49 = .ok (.isub, 1) := by decide +kernel
theorem kb_Ru_arrange_50 : decode prog_7_method_5_code 50 = .ok (.aaload, 1) := by decide +kernel
theorem kb_Ru_arrange_51 : decode prog_7_method_5_code 51 = .ok (.aastore, 1) := by decide +kernel
theorem kb_Ru_arrange_52 : decode prog_7_method_5_code 52 = .ok (.iinc 5 (-1), 3) := by decide +kernel
theorem kb_Ru_arrange_55 : decode prog_7_method_5_code 55 = .ok (.goto (-25), 3) := by decide +kernel
theorem kb_Ru_arrange_58 : decode prog_7_method_5_code 58 = .ok (.aload_n 0, 1) := by decide +kernel
theorem kb_Ru_arrange_59 : decode prog_7_method_5_code 59 = .ok (.getfield 18, 3) := by decide +kernel
theorem kb_Ru_arrange_62 : decode prog_7_method_5_code 62 = .ok (.iload_n 2, 1) := by decide +kernel
theorem kb_Ru_arrange_63 : decode prog_7_method_5_code 63 = .ok (.aload 4, 2) := by decide +kernel
theorem kb_Ru_arrange_65 : decode prog_7_method_5_code 65 = .ok (.aastore, 1) := by decide +kernel
theorem kb_Ru_arrange_66 : decode prog_7_method_5_code 66 = .ok (.iload_n 1, 1) := by decide +kernel
theorem kb_Ru_arrange_67 : decode prog_7_method_5_code 67 = .ok (.aload 4, 2) := by decide +kernel
theorem kb_Ru_arrange_69 : decode prog_7_method_5_code 69 = .ok (.getfield 42, 3) := by decide +kernel
theorem kb_Ru_arrange_72 : decode prog_7_method_5_code 72 = .ok (.ior, 1) := by decide +kernel
theorem kb_Ru_arrange_73 : decode prog_7_method_5_code 73 = .ok (.istore_n 1, 1) := by decide +kernel
theorem kb_Ru_arrange_74 : decode prog_7_method_5_code 74 = .ok (.iinc 2 1, 3) := by decide +kernel
theorem kb_Ru_arrange_77 : decode prog_7_method_5_code 77 = .ok (.goto (-73), 3) := by decide +kernel
theorem kb_Ru_arrange_80 : decode prog_7_method_5_code 80 = .ok (.return_, 1) := by decide +kernel
theorem kb_Ru_nextLiteral_0 : decode prog_7_method_6_code 0 = .ok (.iload_n 1, 1) := by decide +kernel
theorem kb_Ru_nextLiteral_1 : decode prog_7_method_6_code 1 = .ok (.istore_n 3, 1) := by decide +kernel
theorem kb_Ru_nextLiteral_2 : decode prog_7_method_6_code 2 = .ok (.iconst 0, 1) := by decide +kernel
theorem kb_Ru_nextLiteral_3 : decode prog_7_method_6_code 3 = .ok (.istore 4, 2) := by decide +kernel
theorem kb_Ru_nextLiteral_5 : decode prog_7_method_6_code 5 = .ok (.iload_n 1, 1) := by decide +kernel
theorem kb_Ru_nextLiteral_6 : decode prog_7_method_6_code 6 = .ok (.istore 5, 2) := by decide +kernel
theorem kb_Ru_nextLiteral_8 : decode prog_7_method_6_code 8 = .ok (.iload 5, 2) := by decide +kernel
theorem kb_Ru_nextLiteral_10 : decode prog_7_method_6_code 10 = .ok (.aload_n 0, 1) := by decide +kernel
theorem kb_Ru_nextLiteral_11 : decode prog_7_method_6_code 11 = .ok (.getfield 22, 3) := by decide +kernel
theorem kb_Ru_nextLiteral_14 : decode prog_7_method_6_code 14 = .ok (.if_icmp .ge 66, 3) := by decide +kernel
theorem kb_Ru_nextLiteral_17 : decode prog_7_method_6_code 17 = .ok (.aload_n 0, 1) := by decide +kernel
theorem kb_Ru_nextLiteral_18 : decode prog_7_method_6_code 18 = .ok (.getfield 18, 3) := by decide +kernel
theorem kb_Ru_nextLiteral_21 : decode prog_7_method_6_code 21 = .ok (.iload 5, 2) := by decide +kernel
theorem kb_Ru_nextLiteral_23 : decode prog_7_method_6_code 23 = .ok (.aaload, 1) := by decide +kernel
theorem kb_Ru_nextLiteral_24 : decode prog_7_method_6_code 24 = .ok (.getfield 29, 3) := by decide +kernel
theorem kb_Ru_nextLiteral_27 : decode prog_7_method_6_code 27 = .ok (.ifCond .eq 23, 3) := by decide +kernel
theorem kb_Ru_nextLiteral_30 : decode prog_7_method_6_code 30 = .ok (.aload_n 0, 1) := by decide +kernel
theorem kb_Ru_nextLiteral_31 : decode prog_7_method_6_code 31 = .ok (.getfield 18, 3) := by decide +kernel
theorem kb_Ru_nextLiteral_34 : decode prog_7_method_6_code 34 = .ok (.iload 5, 2) := by decide +kernel
theorem kb_Ru_nextLiteral_36 : decode prog_7_method_6_code 36 = .ok (.aaload, 1) := by decide +kernel
theorem kb_Ru_nextLiteral_37 : decode prog_7_method_6_code 37 = .ok (.getfield 42, 3) := by decide +kernel
theorem kb_Ru_nextLiteral_40 : decode prog_7_method_6_code 40 = .ok (.iload_n 2, 1) := by decide +kernel
theorem kb_Ru_nextLiteral_41 : decode prog_7_method_6_code 41 = .ok (.iconst (-1), 1) := by decide +kernel
theorem kb_Ru_nextLiteral_42 : decode prog_7_method_6_code 42 = .ok (.ixor, 1) := by decide +kernel
theorem kb_Ru_nextLiteral_43 : decode prog_7_method_6_code 43 = .ok (.iand, 1) := by decide +kernel
theorem kb_Ru_nextLiteral_44 : decode prog_7_method_6_code 44 = .ok (.ifCond .ne 6, 3) := by decide +kernel
theorem kb_Ru_nextLiteral_47 : decode prog_7_method_6_code 47 = .ok (.iload 5, 2) := by decide +kernel
theorem kb_Ru_nextLiteral_49 : decode prog_7_method_6_code 49 = .ok (.ireturn, 1) := by decide +kernel
theorem kb_Ru_nextLiteral_50 : decode prog_7_method_6_code 50 = .ok (.aload_n 0, 1) := by decide +kernel
theorem kb_Ru_nextLiteral_51 : decode prog_7_method_6_code 51 = .ok (.getfield 18, 3) := by decide +kernel
theorem kb_Ru_nextLiteral_54 : decode prog_7_method_6_code 54 = .ok (.iload 5, 2) := by decide +kernel
theorem kb_Ru_nextLiteral_56 : decode prog_7_method_6_code 56 = .ok (.aaload, 1) := by decide +kernel
theorem kb_Ru_nextLiteral_57 : decode prog_7_method_6_code 57 = .ok (.getfield 29, 3) := by decide +kernel
theorem kb_Ru_nextLiteral_60 : decode prog_7_method_6_code 60 = .ok (.ifCond .ne 14, 3) := by decide +kernel
theorem kb_Ru_nextLiteral_63 : decode prog_7_method_6_code 63 = .ok (.iload 4, 2) := by decide +kernel
theorem kb_Ru_nextLiteral_65 : decode prog_7_method_6_code 65 = .ok (.ifCond .ne 9, 3) := by decide +kernel
theorem kb_Ru_nextLiteral_68 : decode prog_7_method_6_code 68 = .ok (.iload 5, 2) := by decide +kernel
theorem kb_Ru_nextLiteral_70 : decode prog_7_method_6_code 70 = .ok (.istore_n 3, 1) := by decide +kernel
theorem kb_Ru_nextLiteral_71 : decode prog_7_method_6_code 71 = .ok (.iconst 1, 1) := by decide +kernel
theorem kb_Ru_nextLiteral_72 : decode prog_7_method_6_code 72 = .ok (.istore 4, 2) := by decide +kernel
theorem kb_Ru_nextLiteral_74 : decode prog_7_method_6_code 74 = .ok (.iinc 5 1, 3) := by decide +kernel
theorem kb_Ru_nextLiteral_77 : decode prog_7_method_6_code 77 = .ok (.goto (-69), 3) := by decide +kernel
theorem kb_Ru_nextLiteral_80 : decode prog_7_method_6_code 80 = .ok (.iload_n 3, 1) := by decide +kernel
theorem kb_Ru_nextLiteral_81 : decode prog_7_method_6_code 81 = .ok (.ireturn, 1) := by decide +kernel
theorem kb_Si_init_0 : decode prog_8_method_1_code 0 = .ok (.aload_n 0, 1) := by decide +kernel
theorem kb_Si_init_1 : decode prog_8_method_1_code 1 = .ok (.invokespecial 1, 3) := by decide +kernel
theorem kb_Si_init_4 : decode prog_8_method_1_code 4 = .ok (.iconst 0, 1) := by decide +kernel
theorem kb_Si_init_5 : decode prog_8_method_1_code 5 = .ok (.iload_n 1, 1) := by decide +kernel
theorem kb_Si_init_6 : decode prog_8_method_1_code 6 = .ok (.invokestatic 7, 3) := by decide +kernel
theorem kb_Si_init_9 : decode prog_8_method_1_code 9 = .ok (.istore_n 2, 1) := by decide +kernel
theorem kb_Si_init_10 : decode prog_8_method_1_code 10 = .ok (.aload_n 0, 1) := by decide +kernel
theorem kb_Si_init_11 : decode prog_8_method_1_code 11 = .ok (.iload_n 2, 1) := by decide +kernel
theorem kb_Si_init_12 : decode prog_8_method_1_code 12 = .ok (.newarray .int, 2) := by decide +kernel
theorem kb_Si_init_14 : decode prog_8_method_1_code 14 = .ok (.putfield 13, 3) := by decide +kernel
theorem kb_Si_init_17 : decode prog_8_method_1_code 17 = .ok (.aload_n 0, 1) := by decide +kernel
theorem kb_Si_init_18 : decode prog_8_method_1_code 18 = .ok (.iload_n 2, 1) := by decide +kernel
theorem kb_Si_init_19 : decode prog_8_method_1_code 19 = .ok (.newarray .int, 2) := by decide +kernel
theorem kb_Si_init_21 : decode prog_8_method_1_code 21 = .ok (.putfield 19, 3) := by decide +kernel
theorem kb_Si_init_24 : decode prog_8_method_1_code 24 = .ok (.aload_n 0, 1) := by decide +kernel
theorem kb_Si_init_25 : decode prog_8_method_1_code 25 = .ok (.iload_n 2, 1) := by decide +kernel
theorem kb_Si_init_26 : decode prog_8_method_1_code 26 = .ok (.newarray .int, 2) := by decide +kernel
theorem kb_Si_init_28 : decode prog_8_method_1_code 28 = .ok (.putfield 22, 3) := by decide +kernel
theorem kb_Si_init_31 : decode prog_8_method_1_code 31 = .ok (.return_, 1) := by decide +kernel
theorem kb_Si_append_0 : decode prog_8_method_2_code 0 = .ok (.aload_n 0, 1) := by decide +kernel
theorem kb_Si_append_1 : decode prog_8_method_2_code 1 = .ok (.getfield 25, 3) := by decide +kernel
theorem kb_Si_append_4 : decode prog_8_method_2_code 4 = .ok (.aload_n 0, 1) := by decide +kernel
theorem kb_Si_append_5 : decode prog_8_method_2_code 5 = .ok (.getfield 19, 3) := by decide +kernel
theorem kb_Si_append_8 : decode prog_8_method_2_code 8 = .ok (.arraylength, 1) := by decide +kernel
theorem kb_Si_append_9 : decode prog_8_method_2_code 9 = .ok (.if_icmp .lt 4, 3) := by decide +kernel
theorem kb_Si_append_12 : decode prog_8_method_2_code 12 = .ok (.return_, 1) := by decide +kernel
theorem kb_Si_append_13 : decode prog_8_method_2_code 13 = .ok (.aload_n 0, 1) := by decide +kernel
theorem kb_Si_append_14 : decode prog_8_method_2_code 14 = .ok (.getfield 13, 3) := by decide +kernel
theorem kb_Si_append_17 : decode prog_8_method_2_code 17 = .ok (.aload_n 0, 1) := by decide +kernel
theorem kb_Si_append_18 : decode prog_8_method_2_code 18 = .ok (.getfield 25, 3) := by decide +kernel
theorem kb_Si_append_21 : decode prog_8_method_2_code 21 = .ok (.iload_n 1, 1) := by decide +kernel
theorem kb_Si_append_22 : decode prog_8_method_2_code 22 = .ok (.iastore, 1) := by decide +kernel
theorem kb_Si_append_23 : decode prog_8_method_2_code 23 = .ok (.aload_n 0, 1) := by decide +kernel
theorem kb_Si_append_24 : decode prog_8_method_2_code 24 = .ok (.getfield 19, 3) := by decide +kernel
theorem kb_Si_append_27 : decode prog_8_method_2_code 27 = .ok (.aload_n 0, 1) := by decide +kernel
theorem kb_Si_append_28 : decode prog_8_method_2_code 28 = .ok (.getfield 25, 3) := by decide +kernel
theorem kb_Si_append_31 : decode prog_8_method_2_code 31 = .ok (.iload_n 2, 1) := by decide +kernel
theorem kb_Si_append_32 : decode prog_8_method_2_code 32 = .ok (.iastore, 1) := by decide +kernel
theorem kb_Si_append_33 : decode prog_8_method_2_code 33 = .ok (.aload_n 0, 1) := by decide +kernel
theorem kb_Si_append_34 : decode prog_8_method_2_code 34 = .ok (.getfield 22, 3) := by decide +kernel
theorem kb_Si_append_37 : decode prog_8_method_2_code 37 = .ok (.aload_n 0, 1) := by decide +kernel
theorem kb_Si_append_38 : decode prog_8_method_2_code 38 = .ok (.getfield 25, 3) := by decide +kernel
theorem kb_Si_append_41 : decode prog_8_method_2_code 41 = .ok (.iload_n 3, 1) := by decide +kernel
theorem kb_Si_append_42 : decode prog_8_method_2_code 42 = .ok (.iastore, 1) := by decide +kernel
theorem kb_Si_append_43 : decode prog_8_method_2_code 43 = .ok (.aload_n 0, 1) := by decide +kernel
theorem kb_Si_append_44 : decode prog_8_method_2_code 44 = .ok (.dup, 1) := by decide +kernel
theorem kb_Si_append_45 : decode prog_8_method_2_code 45 = .ok (.getfield 25, 3) := by decide +kernel
theorem kb_Si_append_48 : decode prog_8_method_2_code 48 = .ok (.iconst 1, 1) := by decide +kernel
theorem kb_Si_append_49 : decode prog_8_method_2_code 49 = .ok (.iadd, 1) := by decide +kernel
theorem kb_Si_append_50 : decode prog_8_method_2_code 50 = .ok (.putfield 25, 3) := by decide +kernel
theorem kb_Si_append_53 : decode prog_8_method_2_code 53 = .ok (.return_, 1) := by decide +kernel
