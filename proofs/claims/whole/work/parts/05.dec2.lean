theorem kb_Vr_init_0 : decode prog_1_method_1_code 0 = .ok (.aload_n 0, 1) := by decide +kernel
theorem kb_Vr_init_1 : decode prog_1_method_1_code 1 = .ok (.invokespecial 3, 3) := by decide +kernel
theorem kb_Vr_init_4 : decode prog_1_method_1_code 4 = .ok (.aload_n 0, 1) := by decide +kernel
theorem kb_Vr_init_5 : decode prog_1_method_1_code 5 = .ok (.sipush 600, 3) := by decide +kernel
theorem kb_Vr_init_8 : decode prog_1_method_1_code 8 = .ok (.newarray .byte, 2) := by decide +kernel
theorem kb_Vr_init_10 : decode prog_1_method_1_code 10 = .ok (.putfield 9, 3) := by decide +kernel
theorem kb_Vr_init_13 : decode prog_1_method_1_code 13 = .ok (.aload_n 0, 1) := by decide +kernel
theorem kb_Vr_init_14 : decode prog_1_method_1_code 14 = .ok (.iconst (-1), 1) := by decide +kernel
theorem kb_Vr_init_15 : decode prog_1_method_1_code 15 = .ok (.putfield 13, 3) := by decide +kernel
theorem kb_Vr_init_18 : decode prog_1_method_1_code 18 = .ok (.aload_n 0, 1) := by decide +kernel
theorem kb_Vr_init_19 : decode prog_1_method_1_code 19 = .ok (.bipush 8, 2) := by decide +kernel
theorem kb_Vr_init_21 : decode prog_1_method_1_code 21 = .ok (.newarray .int, 2) := by decide +kernel
theorem kb_Vr_init_23 : decode prog_1_method_1_code 23 = .ok (.putfield 17, 3) := by decide +kernel
theorem kb_Vr_init_26 : decode prog_1_method_1_code 26 = .ok (.aload_n 0, 1) := by decide +kernel
theorem kb_Vr_init_27 : decode prog_1_method_1_code 27 = .ok (.new 21, 3) := by decide +kernel
theorem kb_Vr_init_30 : decode prog_1_method_1_code 30 = .ok (.dup, 1) := by decide +kernel
theorem kb_Vr_init_31 : decode prog_1_method_1_code 31 = .ok (.invokespecial 23, 3) := by decide +kernel
theorem kb_Vr_init_34 : decode prog_1_method_1_code 34 = .ok (.putfield 24, 3) := by decide +kernel
theorem kb_Vr_init_37 : decode prog_1_method_1_code 37 = .ok (.aload_n 0, 1) := by decide +kernel
theorem kb_Vr_init_38 : decode prog_1_method_1_code 38 = .ok (.bipush 8, 2) := by decide +kernel
theorem kb_Vr_init_40 : decode prog_1_method_1_code 40 = .ok (.anewarray 28, 3) := by decide +kernel
theorem kb_Vr_init_43 : decode prog_1_method_1_code 43 = .ok (.putfield 30, 3) := by decide +kernel
theorem kb_Vr_init_46 : decode prog_1_method_1_code 46 = .ok (.aload_n 0, 1) := by decide +kernel
theorem kb_Vr_init_47 : decode prog_1_method_1_code 47 = .ok (.bipush 8, 2) := by decide +kernel
theorem kb_Vr_init_49 : decode prog_1_method_1_code 49 = .ok (.anewarray 28, 3) := by decide +kernel
theorem kb_Vr_init_52 : decode prog_1_method_1_code 52 = .ok (.putfield 34, 3) := by decide +kernel
theorem kb_Vr_init_55 : decode prog_1_method_1_code 55 = .ok (.aload_n 0, 1) := by decide +kernel
theorem kb_Vr_init_56 : decode prog_1_method_1_code 56 = .ok (.new 37, 3) := by decide +kernel
theorem kb_Vr_init_59 : decode prog_1_method_1_code 59 = .ok (.dup, 1) := by decide +kernel
theorem kb_Vr_init_60 : decode prog_1_method_1_code 60 = .ok (.bipush 60, 2) := by decide +kernel
theorem kb_Vr_init_62 : decode prog_1_method_1_code 62 = .ok (.invokespecial 39, 3) := by decide +kernel
theorem kb_Vr_init_65 : decode prog_1_method_1_code 65 = .ok (.putfield 42, 3) := by decide +kernel
theorem kb_Vr_init_68 : decode prog_1_method_1_code 68 = .ok (.aload_n 0, 1) := by decide +kernel
theorem kb_Vr_init_69 : decode prog_1_method_1_code 69 = .ok (.bipush 6, 2) := by decide +kernel
theorem kb_Vr_init_71 : decode prog_1_method_1_code 71 = .ok (.anewarray 37, 3) := by decide +kernel
theorem kb_Vr_init_74 : decode prog_1_method_1_code 74 = .ok (.putfield 46, 3) := by decide +kernel
theorem kb_Vr_init_77 : decode prog_1_method_1_code 77 = .ok (.aload_n 0, 1) := by decide +kernel
theorem kb_Vr_init_78 : decode prog_1_method_1_code 78 = .ok (.new 37, 3) := by decide +kernel
theorem kb_Vr_init_81 : decode prog_1_method_1_code 81 = .ok (.dup, 1) := by decide +kernel
theorem kb_Vr_init_82 : decode prog_1_method_1_code 82 = .ok (.sipush 640, 3) := by decide +kernel
theorem kb_Vr_init_85 : decode prog_1_method_1_code 85 = .ok (.invokespecial 39, 3) := by decide +kernel
theorem kb_Vr_init_88 : decode prog_1_method_1_code 88 = .ok (.putfield 50, 3) := by decide +kernel
theorem kb_Vr_init_91 : decode prog_1_method_1_code 91 = .ok (.aload_n 0, 1) := by decide +kernel
theorem kb_Vr_init_92 : decode prog_1_method_1_code 92 = .ok (.new 53, 3) := by decide +kernel
theorem kb_Vr_init_95 : decode prog_1_method_1_code 95 = .ok (.dup, 1) := by decide +kernel
theorem kb_Vr_init_96 : decode prog_1_method_1_code 96 = .ok (.invokespecial 55, 3) := by decide +kernel
theorem kb_Vr_init_99 : decode prog_1_method_1_code 99 = .ok (.putfield 56, 3) := by decide +kernel
theorem kb_Vr_init_102 : decode prog_1_method_1_code 102 = .ok (.iconst 0, 1) := by decide +kernel
theorem kb_Vr_init_103 : decode prog_1_method_1_code 103 = .ok (.istore_n 1, 1) := by decide +kernel
theorem kb_Vr_init_104 : decode prog_1_method_1_code 104 = .ok (.iload_n 1, 1) := by decide +kernel
theorem kb_Vr_init_105 : decode prog_1_method_1_code 105 = .ok (.bipush 8, 2) := by decide +kernel
theorem kb_Vr_init_107 : decode prog_1_method_1_code 107 = .ok (.if_icmp .ge 35, 3) := by decide +kernel
theorem kb_Vr_init_110 : decode prog_1_method_1_code 110 = .ok (.aload_n 0, 1) := by decide +kernel
theorem kb_Vr_init_111 : decode prog_1_method_1_code 111 = .ok (.getfield 30, 3) := by decide +kernel
theorem kb_Vr_init_114 : decode prog_1_method_1_code 114 = .ok (.iload_n 1, 1) := by decide +kernel
theorem kb_Vr_init_115 : decode prog_1_method_1_code 115 = .ok (.new 28, 3) := by decide +kernel
theorem kb_Vr_init_118 : decode prog_1_method_1_code 118 = .ok (.dup, 1) := by decide +kernel
theorem kb_Vr_init_119 : decode prog_1_method_1_code 119 = .ok (.invokespecial 60, 3) := by decide +kernel
theorem kb_Vr_init_122 : decode prog_1_method_1_code 122 = .ok (.aastore, 1) := by decide +kernel
theorem kb_Vr_init_123 : decode prog_1_method_1_code 123 = .ok (.aload_n 0, 1) := by decide +kernel
theorem kb_Vr_init_124 : decode prog_1_method_1_code 124 = .ok (.getfield 34, 3) := by decide +kernel
theorem kb_Vr_init_127 : decode prog_1_method_1_code 127 = .ok (.iload_n 1, 1) := by decide +kernel
theorem kb_Vr_init_128 : decode prog_1_method_1_code 128 = .ok (.new 28, 3) := by decide +kernel
theorem kb_Vr_init_131 : decode prog_1_method_1_code 131 = .ok (.dup, 1) := by decide +kernel
theorem kb_Vr_init_132 : decode prog_1_method_1_code 132 = .ok (.invokespecial 60, 3) := by decide +kernel
theorem kb_Vr_init_135 : decode prog_1_method_1_code 135 = .ok (.aastore, 1) := by decide +kernel
theorem kb_Vr_init_136 : decode prog_1_method_1_code 136 = .ok (.iinc 1 1, 3) := by decide +kernel
theorem kb_Vr_init_139 : decode prog_1_method_1_code 139 = .ok (.goto (-35), 3) := by decide +kernel
theorem kb_Vr_init_142 : decode prog_1_method_1_code 142 = .ok (.iconst 0, 1) := by decide +kernel
theorem kb_Vr_init_143 : decode prog_1_method_1_code 143 = .ok (.istore_n 1, 1) := by decide +kernel
theorem kb_Vr_init_144 : decode prog_1_method_1_code 144 = .ok (.iload_n 1, 1) := by decide +kernel
theorem kb_Vr_init_145 : decode prog_1_method_1_code 145 = .ok (.bipush 6, 2) := by decide +kernel
theorem kb_Vr_init_147 : decode prog_1_method_1_code 147 = .ok (.if_icmp .ge 24, 3) := by decide +kernel
theorem kb_Vr_init_150 : decode prog_1_method_1_code 150 = .ok (.aload_n 0, 1) := by decide +kernel
theorem kb_Vr_init_151 : decode prog_1_method_1_code 151 = .ok (.getfield 46, 3) := by decide +kernel
theorem kb_Vr_init_154 : decode prog_1_method_1_code 154 = .ok (.iload_n 1, 1) := by decide +kernel
theorem kb_Vr_init_155 : decode prog_1_method_1_code 155 = .ok (.new 37, 3) := by decide +kernel
theorem kb_Vr_init_158 : decode prog_1_method_1_code 158 = .ok (.dup, 1) := by decide +kernel
theorem kb_Vr_init_159 : decode prog_1_method_1_code 159 = .ok (.bipush 60, 2) := by decide +kernel
theorem kb_Vr_init_161 : decode prog_1_method_1_code 161 = .ok (.invokespecial 39, 3) := by decide +kernel
theorem kb_Vr_init_164 : decode prog_1_method_1_code 164 = .ok (.aastore, 1) := by decide +kernel
theorem kb_Vr_init_165 : decode prog_1_method_1_code 165 = .ok (.iinc 1 1, 3) := by decide +kernel
theorem kb_Vr_init_168 : decode prog_1_method_1_code 168 = .ok (.goto (-24), 3) := by decide +kernel
theorem kb_Vr_init_171 : decode prog_1_method_1_code 171 = .ok (.return_, 1) := by decide +kernel
theorem kb_Vr_feed_0 : decode prog_1_method_2_code 0 = .ok (.iload_n 3, 1) := by decide +kernel
theorem kb_Vr_feed_1 : decode prog_1_method_2_code 1 = .ok (.iconst 1, 1) := by decide +kernel
theorem kb_Vr_feed_2 : decode prog_1_method_2_code 2 = .ok (.if_icmp .lt 9, 3) := by decide +kernel
theorem kb_Vr_feed_5 : decode prog_1_method_2_code 5 = .ok (.iload_n 3, 1) := by decide +kernel
theorem kb_Vr_feed_6 : decode prog_1_method_2_code 6 = .ok (.bipush 8, 2) := by decide +kernel
theorem kb_Vr_feed_8 : decode prog_1_method_2_code 8 = .ok (.if_icmp .le 6, 3) := by decide +kernel
theorem kb_Vr_feed_11 : decode prog_1_method_2_code 11 = .ok (.bipush (-2), 2) := by decide +kernel
theorem kb_Vr_feed_13 : decode prog_1_method_2_code 13 = .ok (.ireturn, 1) := by decide +kernel
theorem kb_Vr_feed_14 : decode prog_1_method_2_code 14 = .ok (.aload_n 0, 1) := by decide +kernel
theorem kb_Vr_feed_15 : decode prog_1_method_2_code 15 = .ok (.getfield 61, 3) := by decide +kernel
theorem kb_Vr_feed_18 : decode prog_1_method_2_code 18 = .ok (.iload_n 3, 1) := by decide +kernel
theorem kb_Vr_feed_19 : decode prog_1_method_2_code 19 = .ok (.iadd, 1) := by decide +kernel
theorem kb_Vr_feed_20 : decode prog_1_method_2_code 20 = .ok (.sipush 600, 3) := by decide +kernel
theorem kb_Vr_feed_23 : decode prog_1_method_2_code 23 = .ok (.if_icmp .le 6, 3) := by decide +kernel
theorem kb_Vr_feed_26 : decode prog_1_method_2_code 26 = .ok (.bipush (-3), 2) := by decide +kernel
theorem kb_Vr_feed_28 : decode prog_1_method_2_code 28 = .ok (.ireturn, 1) := by decide +kernel
theorem kb_Vr_feed_29 : decode prog_1_method_2_code 29 = .ok (.iconst 0, 1) := by decide +kernel
theorem kb_Vr_feed_30 : decode prog_1_method_2_code 30 = .ok (.istore 4, 2) := by decide +kernel
theorem kb_Vr_feed_32 : decode prog_1_method_2_code 32 = .ok (.iload 4, 2) := by decide +kernel
theorem kb_Vr_feed_34 : decode prog_1_method_2_code 34 = .ok (.iload_n 3, 1) := by decide +kernel
theorem kb_Vr_feed_35 : decode prog_1_method_2_code 35 = .ok (.if_icmp .ge 30, 3) := by decide +kernel
theorem kb_Vr_feed_38 : decode prog_1_method_2_code 38 = .ok (.aload_n 0, 1) := by decide +kernel
theorem kb_Vr_feed_39 : decode prog_1_method_2_code 39 = .ok (.getfield 9, 3) := by decide +kernel
theorem kb_Vr_feed_42 : decode prog_1_method_2_code 42 = .ok (.aload_n 0, 1) := by decide +kernel
theorem kb_Vr_feed_43 : decode prog_1_method_2_code 43 = .ok (.getfield 61, 3) := by decide +kernel
theorem kb_Vr_feed_46 : decode prog_1_method_2_code 46 = .ok (.iload 4, 2) := by decide +kernel
theorem kb_Vr_feed_48 : decode prog_1_method_2_code 48 = .ok (.iadd, 1) := by decide +kernel
theorem kb_Vr_feed_49 : decode prog_1_method_2_code 49 = .ok (.lload_n 1, 1) := by decide +kernel
theorem kb_Vr_feed_50 : decode prog_1_method_2_code 50 = .ok (.bipush 8, 2) := by decide +kernel
theorem kb_Vr_feed_52 : decode prog_1_method_2_code 52 = .ok (.iload 4, 2) := by decide +kernel
theorem kb_Vr_feed_54 : decode prog_1_method_2_code 54 = .ok (.imul, 1) := by decide +kernel
theorem kb_Vr_feed_55 : decode prog_1_method_2_code 55 = .ok (.lushr, 1) := by decide +kernel
theorem kb_Vr_feed_56 : decode prog_1_method_2_code 56 = .ok (.l2i, 1) := by decide +kernel
theorem kb_Vr_feed_57 : decode prog_1_method_2_code 57 = .ok (.i2b, 1) := by decide +kernel
theorem kb_Vr_feed_58 : decode prog_1_method_2_code 58 = .ok (.bastore, 1) := by decide +kernel
theorem kb_Vr_feed_59 : decode prog_1_method_2_code 59 = .ok (.iinc 4 1, 3) := by decide +kernel
theorem kb_Vr_feed_62 : decode prog_1_method_2_code 62 = .ok (.goto (-30), 3) := by decide +kernel
theorem kb_Vr_feed_65 : decode prog_1_method_2_code 65 = .ok (.aload_n 0, 1) := by decide +kernel
theorem kb_Vr_feed_66 : decode prog_1_method_2_code 66 = .ok (.dup, 1) := by decide +kernel
theorem kb_Vr_feed_67 : decode prog_1_method_2_code 67 = .ok (.getfield 61, 3) := by decide +kernel
theorem kb_Vr_feed_70 : decode prog_1_method_2_code 70 = .ok (.iload_n 3, 1) := by decide +kernel
theorem kb_Vr_feed_71 : decode prog_1_method_2_code 71 = .ok (.iadd, 1) := by decide +kernel
theorem kb_Vr_feed_72 : decode prog_1_method_2_code 72 = .ok (.putfield 61, 3) := by decide +kernel
theorem kb_Vr_feed_75 : decode prog_1_method_2_code 75 = .ok (.aload_n 0, 1) := by decide +kernel
theorem kb_Vr_feed_76 : decode prog_1_method_2_code 76 = .ok (.getfield 61, 3) := by decide +kernel
theorem kb_Vr_feed_79 : decode prog_1_method_2_code 79 = .ok (.ireturn, 1) := by decide +kernel
theorem kb_Vr_parse_0 : decode prog_1_method_3_code 0 = .ok (.new 64, 3) := by decide +kernel
theorem kb_Vr_parse_3 : decode prog_1_method_3_code 3 = .ok (.dup, 1) := by decide +kernel
theorem kb_Vr_parse_4 : decode prog_1_method_3_code 4 = .ok (.aload_n 0, 1) := by decide +kernel
theorem kb_Vr_parse_5 : decode prog_1_method_3_code 5 = .ok (.getfield 9, 3) := by decide +kernel
theorem kb_Vr_parse_8 : decode prog_1_method_3_code 8 = .ok (.aload_n 0, 1) := by decide +kernel
theorem kb_Vr_parse_9 : decode prog_1_method_3_code 9 = .ok (.getfield 61, 3) := by decide +kernel
theorem kb_Vr_parse_12 : decode prog_1_method_3_code 12 = .ok (.invokespecial 66, 3) := by decide +kernel
theorem kb_Vr_parse_15 : decode prog_1_method_3_code 15 = .ok (.astore_n 1, 1) := by decide +kernel
theorem kb_Vr_parse_16 : decode prog_1_method_3_code 16 = .ok (.aload_n 1, 1) := by decide +kernel
theorem kb_Vr_parse_17 : decode prog_1_method_3_code 17 = .ok (.invokevirtual 69, 3) := by decide +kernel
theorem kb_Vr_parse_20 : decode prog_1_method_3_code 20 = .ok (.aload_n 0, 1) := by decide +kernel
theorem kb_Vr_parse_21 : decode prog_1_method_3_code 21 = .ok (.iconst 0, 1) := by decide +kernel
theorem kb_Vr_parse_22 : decode prog_1_method_3_code 22 = .ok (.putfield 61, 3) := by decide +kernel
theorem kb_Vr_parse_25 : decode prog_1_method_3_code 25 = .ok (.aload_n 0, 1) := by decide +kernel
theorem kb_Vr_parse_26 : decode prog_1_method_3_code 26 = .ok (.invokevirtual 72, 3) := by decide +kernel
theorem kb_Vr_parse_29 : decode prog_1_method_3_code 29 = .ok (.aload_n 1, 1) := by decide +kernel
theorem kb_Vr_parse_30 : decode prog_1_method_3_code 30 = .ok (.getfield 75, 3) := by decide +kernel
theorem kb_Vr_parse_33 : decode prog_1_method_3_code 33 = .ok (.ifCond .eq 16, 3) := by decide +kernel
theorem kb_Vr_parse_36 : decode prog_1_method_3_code 36 = .ok (.aload_n 0, 1) := by decide +kernel
theorem kb_Vr_parse_37 : decode prog_1_method_3_code 37 = .ok (.aload_n 1, 1) := by decide +kernel
theorem kb_Vr_parse_38 : decode prog_1_method_3_code 38 = .ok (.invokevirtual 78, 3) := by decide +kernel
theorem kb_Vr_parse_41 : decode prog_1_method_3_code 41 = .ok (.bipush (-10), 2) := by decide +kernel
theorem kb_Vr_parse_43 : decode prog_1_method_3_code 43 = .ok (.aload_n 1, 1) := by decide +kernel
theorem kb_Vr_parse_44 : decode prog_1_method_3_code 44 = .ok (.getfield 75, 3) := by decide +kernel
theorem kb_Vr_parse_47 : decode prog_1_method_3_code 47 = .ok (.isub, 1) := by decide +kernel
theorem kb_Vr_parse_48 : decode prog_1_method_3_code 48 = .ok (.ireturn, 1) := by decide +kernel
theorem kb_Vr_parse_49 : decode prog_1_method_3_code 49 = .ok (.iconst 0, 1) := by decide +kernel
theorem kb_Vr_parse_50 : decode prog_1_method_3_code 50 = .ok (.istore_n 2, 1) := by decide +kernel
theorem kb_Vr_parse_51 : decode prog_1_method_3_code 51 = .ok (.iload_n 2, 1) := by decide +kernel
theorem kb_Vr_parse_52 : decode prog_1_method_3_code 52 = .ok (.bipush 8, 2) := by decide +kernel
theorem kb_Vr_parse_54 : decode prog_1_method_3_code 54 = .ok (.if_icmp .ge 19, 3) := by decide +kernel
theorem kb_Vr_parse_57 : decode prog_1_method_3_code 57 = .ok (.aload_n 0, 1) := by decide +kernel
theorem kb_Vr_parse_58 : decode prog_1_method_3_code 58 = .ok (.getfield 34, 3) := by decide +kernel
theorem kb_Vr_parse_61 : decode prog_1_method_3_code 61 = .ok (.iload_n 2, 1) := by decide +kernel
theorem kb_Vr_parse_62 : decode prog_1_method_3_code 62 = .ok (.aaload, 1) := by decide +kernel
theorem kb_Vr_parse_63 : decode prog_1_method_3_code 63 = .ok (.iconst 0, 1) := by decide +kernel
theorem kb_Vr_parse_64 : decode prog_1_method_3_code 64 = .ok (.putfield 82, 3) := by decide +kernel
theorem kb_Vr_parse_67 : decode prog_1_method_3_code 67 = .ok (.iinc 2 1, 3) := by decide +kernel
theorem kb_Vr_parse_70 : decode prog_1_method_3_code 70 = .ok (.goto (-19), 3) := by decide +kernel
theorem kb_Vr_parse_73 : decode prog_1_method_3_code 73 = .ok (.aload_n 0, 1) := by decide +kernel
theorem kb_Vr_parse_74 : decode prog_1_method_3_code 74 = .ok (.getfield 56, 3) := by decide +kernel
theorem kb_Vr_parse_77 : decode prog_1_method_3_code 77 = .ok (.aload_n 1, 1) := by decide +kernel
theorem kb_Vr_parse_78 : decode prog_1_method_3_code 78 = .ok (.getfield 85, 3) := by decide +kernel
theorem kb_Vr_parse_81 : decode prog_1_method_3_code 81 = .ok (.aload_n 0, 1) := by decide +kernel
theorem kb_Vr_parse_82 : decode prog_1_method_3_code 82 = .ok (.getfield 34, 3) := by decide +kernel
theorem kb_Vr_parse_85 : decode prog_1_method_3_code 85 = .ok (.invokevirtual 86, 3) := by decide +kernel
theorem kb_Vr_parse_88 : decode prog_1_method_3_code 88 = .ok (.ifCond .ne 6, 3) := by decide +kernel
theorem kb_Vr_parse_91 : decode prog_1_method_3_code 91 = .ok (.bipush (-3), 2) := by decide +kernel
theorem kb_Vr_parse_93 : decode prog_1_method_3_code 93 = .ok (.ireturn, 1) := by decide +kernel
theorem kb_Vr_parse_94 : decode prog_1_method_3_code 94 = .ok (.aload_n 0, 1) := by decide +kernel
theorem kb_Vr_parse_95 : decode prog_1_method_3_code 95 = .ok (.aload_n 1, 1) := by decide +kernel
theorem kb_Vr_parse_96 : decode prog_1_method_3_code 96 = .ok (.getfield 85, 3) := by decide +kernel
theorem kb_Vr_parse_99 : decode prog_1_method_3_code 99 = .ok (.putfield 24, 3) := by decide +kernel
theorem kb_Vr_parse_102 : decode prog_1_method_3_code 102 = .ok (.aload_n 0, 1) := by decide +kernel
theorem kb_Vr_parse_103 : decode prog_1_method_3_code 103 = .ok (.invokevirtual 90, 3) := by decide +kernel
theorem kb_Vr_parse_106 : decode prog_1_method_3_code 106 = .ok (.aload_n 0, 1) := by decide +kernel
theorem kb_Vr_parse_107 : decode prog_1_method_3_code 107 = .ok (.getfield 24, 3) := by decide +kernel
theorem kb_Vr_parse_110 : decode prog_1_method_3_code 110 = .ok (.getfield 93, 3) := by decide +kernel
theorem kb_Vr_parse_113 : decode prog_1_method_3_code 113 = .ok (.ireturn, 1) := by decide +kernel
theorem kb_Vr_place_0 : decode prog_1_method_4_code 0 = .ok (.aload_n 0, 1) := by decide +kernel
theorem kb_Vr_place_1 : decode prog_1_method_4_code 1 = .ok (.getfield 13, 3) := by decide +kernel
theorem kb_Vr_place_4 : decode prog_1_method_4_code 4 = .ok (.ireturn, 1) := by decide +kernel
theorem kb_Vr_ring_0 : decode prog_1_method_5_code 0 = .ok (.iload_n 1, 1) := by decide +kernel
theorem kb_Vr_ring_1 : decode prog_1_method_5_code 1 = .ok (.ifCond .lt 11, 3) := by decide +kernel
theorem kb_Vr_ring_4 : decode prog_1_method_5_code 4 = .ok (.iload_n 1, 1) := by decide +kernel
theorem kb_Vr_ring_5 : decode prog_1_method_5_code 5 = .ok (.aload_n 0, 1) := by decide +kernel
theorem kb_Vr_ring_6 : decode prog_1_method_5_code 6 = .ok (.getfield 96, 3) := by decide +kernel
theorem kb_Vr_ring_9 : decode prog_1_method_5_code 9 = .ok (.if_icmp .lt 7, 3) := by decide +kernel
theorem kb_Vr_ring_12 : decode prog_1_method_5_code 12 = .ok (.iconst (-1), 1) := by decide +kernel
theorem kb_Vr_ring_13 : decode prog_1_method_5_code 13 = .ok (.goto 9, 3) := by decide +kernel
theorem kb_Vr_ring_16 : decode prog_1_method_5_code 16 = .ok (.aload_n 0, 1) := by decide +kernel
theorem kb_Vr_ring_17 : decode prog_1_method_5_code 17 = .ok (.getfield 17, 3) := by decide +kernel
theorem kb_Vr_ring_20 : decode prog_1_method_5_code 20 = .ok (.iload_n 1, 1) := by decide +kernel
theorem kb_Vr_ring_21 : decode prog_1_method_5_code 21 = .ok (.iaload, 1) := by decide +kernel
theorem kb_Vr_ring_22 : decode prog_1_method_5_code 22 = .ok (.ireturn, 1) := by decide +kernel
theorem kb_Vr_relation_0 : decode prog_1_method_6_code 0 = .ok (.aload_n 0, 1) := by decide +kernel
theorem kb_Vr_relation_1 : decode prog_1_method_6_code 1 = .ok (.invokevirtual 99, 3) := by decide +kernel
theorem kb_Vr_relation_4 : decode prog_1_method_6_code 4 = .ok (.ifCond .eq 6, 3) := by decide +kernel
theorem kb_Vr_relation_7 : decode prog_1_method_6_code 7 = .ok (.bipush (-4), 2) := by decide +kernel
theorem kb_Vr_relation_9 : decode prog_1_method_6_code 9 = .ok (.ireturn, 1) := by decide +kernel
theorem kb_Vr_relation_10 : decode prog_1_method_6_code 10 = .ok (.aload_n 0, 1) := by decide +kernel
theorem kb_Vr_relation_11 : decode prog_1_method_6_code 11 = .ok (.getfield 24, 3) := by decide +kernel
theorem kb_Vr_relation_14 : decode prog_1_method_6_code 14 = .ok (.iload_n 1, 1) := by decide +kernel
theorem kb_Vr_relation_15 : decode prog_1_method_6_code 15 = .ok (.invokevirtual 103, 3) := by decide +kernel
theorem kb_Vr_relation_18 : decode prog_1_method_6_code 18 = .ok (.ireturn, 1) := by decide +kernel
theorem kb_Vr_of_0 : decode prog_1_method_7_code 0 = .ok (.aload_n 0, 1) := by decide +kernel
theorem kb_Vr_of_1 : decode prog_1_method_7_code 1 = .ok (.invokevirtual 99, 3) := by decide +kernel
theorem kb_Vr_of_4 : decode prog_1_method_7_code 4 = .ok (.ifCond .eq 6, 3) := by decide +kernel
theorem kb_Vr_of_7 : decode prog_1_method_7_code 7 = .ok (.bipush (-4), 2) := by decide +kernel
theorem kb_Vr_of_9 : decode prog_1_method_7_code 9 = .ok (.ireturn, 1) := by decide +kernel
theorem kb_Vr_of_10 : decode prog_1_method_7_code 10 = .ok (.aload_n 0, 1) := by decide +kernel
theorem kb_Vr_of_11 : decode prog_1_method_7_code 11 = .ok (.getfield 24, 3) := by decide +kernel
theorem kb_Vr_of_14 : decode prog_1_method_7_code 14 = .ok (.iload_n 1, 1) := by decide +kernel
theorem kb_Vr_of_15 : decode prog_1_method_7_code 15 = .ok (.invokevirtual 107, 3) := by decide +kernel
theorem kb_Vr_of_18 : decode prog_1_method_7_code 18 = .ok (.ifCond .ne 6, 3) := by decide +kernel
theorem kb_Vr_of_21 : decode prog_1_method_7_code 21 = .ok (.bipush (-2), 2) := by decide +kernel
theorem kb_Vr_of_23 : decode prog_1_method_7_code 23 = .ok (.ireturn, 1) := by decide +kernel
theorem kb_Vr_of_24 : decode prog_1_method_7_code 24 = .ok (.iload_n 2, 1) := by decide +kernel
theorem kb_Vr_of_25 : decode prog_1_method_7_code 25 = .ok (.tableswitch 104 0 4 #[35, 52, 62, 72, 82], 35) := by decide +kernel
theorem kb_Vr_of_60 : decode prog_1_method_7_code 60 = .ok (.aload_n 0, 1) := by decide +kernel
theorem kb_Vr_of_61 : decode prog_1_method_7_code 61 = .ok (.getfield 24, 3) := by decide +kernel
theorem kb_Vr_of_64 : decode prog_1_method_7_code 64 = .ok (.iload_n 1, 1) := by decide +kernel
theorem kb_Vr_of_65 : decode prog_1_method_7_code 65 = .ok (.invokevirtual 111, 3) := by decide +kernel
theorem kb_Vr_of_68 : decode prog_1_method_7_code 68 = .ok (.ifCond .eq 7, 3) := by decide +kernel
theorem kb_Vr_of_71 : decode prog_1_method_7_code 71 = .ok (.iconst 1, 1) := by decide +kernel
theorem kb_Vr_of_72 : decode prog_1_method_7_code 72 = .ok (.goto 4, 3) := by decide +kernel
theorem kb_Vr_of_75 : decode prog_1_method_7_code 75 = .ok (.iconst 0, 1) := by decide +kernel
theorem kb_Vr_of_76 : decode prog_1_method_7_code 76 = .ok (.ireturn, 1) := by decide +kernel
theorem kb_Vr_of_77 : decode prog_1_method_7_code 77 = .ok (.aload_n 0, 1) := by decide +kernel
theorem kb_Vr_of_78 : decode prog_1_method_7_code 78 = .ok (.getfield 24, 3) := by decide +kernel
theorem kb_Vr_of_81 : decode prog_1_method_7_code 81 = .ok (.getfield 114, 3) := by decide +kernel
theorem kb_Vr_of_84 : decode prog_1_method_7_code 84 = .ok (.iload_n 1, 1) := by decide +kernel
theorem kb_Vr_of_85 : decode prog_1_method_7_code 85 = .ok (.iaload, 1) := by decide +kernel
theorem kb_Vr_of_86 : decode prog_1_method_7_code 86 = .ok (.ireturn, 1) := by decide +kernel
theorem kb_Vr_of_87 : decode prog_1_method_7_code 87 = .ok (.aload_n 0, 1) := by decide +kernel
theorem kb_Vr_of_88 : decode prog_1_method_7_code 88 = .ok (.getfield 24, 3) := by decide +kernel
theorem kb_Vr_of_91 : decode prog_1_method_7_code 91 = .ok (.getfield 117, 3) := by decide +kernel
theorem kb_Vr_of_94 : decode prog_1_method_7_code 94 = .ok (.iload_n 1, 1) := by decide +kernel
theorem kb_Vr_of_95 : decode prog_1_method_7_code 95 = .ok (.iaload, 1) := by decide +kernel
theorem kb_Vr_of_96 : decode prog_1_method_7_code 96 = .ok (.ireturn, 1) := by decide +kernel
theorem kb_Vr_of_97 : decode prog_1_method_7_code 97 = .ok (.aload_n 0, 1) := by decide +kernel
theorem kb_Vr_of_98 : decode prog_1_method_7_code 98 = .ok (.getfield 30, 3) := by decide +kernel
theorem kb_Vr_of_101 : decode prog_1_method_7_code 101 = .ok (.iload_n 1, 1) := by decide +kernel
theorem kb_Vr_of_102 : decode prog_1_method_7_code 102 = .ok (.aaload, 1) := by decide +kernel
theorem kb_Vr_of_103 : decode prog_1_method_7_code 103 = .ok (.getfield 82, 3) := by decide +kernel
theorem kb_Vr_of_106 : decode prog_1_method_7_code 106 = .ok (.ireturn, 1) := by decide +kernel
theorem kb_Vr_of_107 : decode prog_1_method_7_code 107 = .ok (.aload_n 0, 1) := by decide +kernel
theorem kb_Vr_of_108 : decode prog_1_method_7_code 108 = .ok (.getfield 24, 3) := by decide +kernel
theorem kb_Vr_of_111 : decode prog_1_method_7_code 111 = .ok (.getfield 120, 3) := by decide +kernel
theorem kb_Vr_of_114 : decode prog_1_method_7_code 114 = .ok (.iload_n 1, 1) := by decide +kernel
theorem kb_Vr_of_115 : decode prog_1_method_7_code 115 = .ok (.iaload, 1) := by decide +kernel
theorem kb_Vr_of_116 : decode prog_1_method_7_code 116 = .ok (.iload_n 1, 1) := by decide +kernel
theorem kb_Vr_of_117 : decode prog_1_method_7_code 117 = .ok (.invokestatic 123, 3) := by decide +kernel
theorem kb_Vr_of_120 : decode prog_1_method_7_code 120 = .ok (.ifCond .eq 7, 3) := by decide +kernel
theorem kb_Vr_of_123 : decode prog_1_method_7_code 123 = .ok (.iconst 1, 1) := by decide +kernel
theorem kb_Vr_of_124 : decode prog_1_method_7_code 124 = .ok (.goto 4, 3) := by decide +kernel
theorem kb_Vr_of_127 : decode prog_1_method_7_code 127 = .ok (.iconst 0, 1) := by decide +kernel
theorem kb_Vr_of_128 : decode prog_1_method_7_code 128 = .ok (.ireturn, 1) := by decide +kernel
theorem kb_Vr_of_129 : decode prog_1_method_7_code 129 = .ok (.bipush (-2), 2) := by decide +kernel
theorem kb_Vr_of_131 : decode prog_1_method_7_code 131 = .ok (.ireturn, 1) := by decide +kernel
theorem kb_Vr_change_0 : decode prog_1_method_8_code 0 = .ok (.aload_n 0, 1) := by decide +kernel
theorem kb_Vr_change_1 : decode prog_1_method_8_code 1 = .ok (.invokevirtual 99, 3) := by decide +kernel
theorem kb_Vr_change_4 : decode prog_1_method_8_code 4 = .ok (.ifCond .eq 6, 3) := by decide +kernel
theorem kb_Vr_change_7 : decode prog_1_method_8_code 7 = .ok (.bipush (-4), 2) := by decide +kernel
theorem kb_Vr_change_9 : decode prog_1_method_8_code 9 = .ok (.ireturn, 1) := by decide +kernel
theorem kb_Vr_change_10 : decode prog_1_method_8_code 10 = .ok (.aload_n 0, 1) := by decide +kernel
theorem kb_Vr_change_11 : decode prog_1_method_8_code 11 = .ok (.getfield 24, 3) := by decide +kernel
theorem kb_Vr_change_14 : decode prog_1_method_8_code 14 = .ok (.iload_n 1, 1) := by decide +kernel
theorem kb_Vr_change_15 : decode prog_1_method_8_code 15 = .ok (.invokevirtual 107, 3) := by decide +kernel
theorem kb_Vr_change_18 : decode prog_1_method_8_code 18 = .ok (.ifCond .eq 26, 3) := by decide +kernel
theorem kb_Vr_change_21 : decode prog_1_method_8_code 21 = .ok (.aload_n 0, 1) := by decide +kernel
theorem kb_Vr_change_22 : decode prog_1_method_8_code 22 = .ok (.getfield 24, 3) := by decide +kernel
theorem kb_Vr_change_25 : decode prog_1_method_8_code 25 = .ok (.iload_n 1, 1) := by decide +kernel
theorem kb_Vr_change_26 : decode prog_1_method_8_code 26 = .ok (.invokevirtual 111, 3) := by decide +kernel
theorem kb_Vr_change_29 : decode prog_1_method_8_code 29 = .ok (.ifCond .ne 15, 3) := by decide +kernel
theorem kb_Vr_change_32 : decode prog_1_method_8_code 32 = .ok (.iload 5, 2) := by decide +kernel
theorem kb_Vr_change_34 : decode prog_1_method_8_code 34 = .ok (.iconst 1, 1) := by decide +kernel
theorem kb_Vr_change_35 : decode prog_1_method_8_code 35 = .ok (.if_icmp .eq 12, 3) := by decide +kernel
theorem kb_Vr_change_38 : decode prog_1_method_8_code 38 = .ok (.iload 5, 2) := by decide +kernel
theorem kb_Vr_change_40 : decode prog_1_method_8_code 40 = .ok (.iconst (-1), 1) := by decide +kernel
theorem kb_Vr_change_41 : decode prog_1_method_8_code 41 = .ok (.if_icmp .eq 6, 3) := by decide +kernel
theorem kb_Vr_change_44 : decode prog_1_method_8_code 44 = .ok (.bipush (-2), 2) := by decide +kernel
theorem kb_Vr_change_46 : decode prog_1_method_8_code 46 = .ok (.ireturn, 1) := by decide +kernel
theorem kb_Vr_change_47 : decode prog_1_method_8_code 47 = .ok (.aload_n 0, 1) := by decide +kernel
theorem kb_Vr_change_48 : decode prog_1_method_8_code 48 = .ok (.getfield 24, 3) := by decide +kernel
theorem kb_Vr_change_51 : decode prog_1_method_8_code 51 = .ok (.getfield 114, 3) := by decide +kernel
theorem kb_Vr_change_54 : decode prog_1_method_8_code 54 = .ok (.iload_n 1, 1) := by decide +kernel
theorem kb_Vr_change_55 : decode prog_1_method_8_code 55 = .ok (.iaload, 1) := by decide +kernel
theorem kb_Vr_change_56 : decode prog_1_method_8_code 56 = .ok (.iload_n 2, 1) := by decide +kernel
theorem kb_Vr_change_57 : decode prog_1_method_8_code 57 = .ok (.iload_n 3, 1) := by decide +kernel
theorem kb_Vr_change_58 : decode prog_1_method_8_code 58 = .ok (.iload 4, 2) := by decide +kernel
theorem kb_Vr_change_60 : decode prog_1_method_8_code 60 = .ok (.invokestatic 127, 3) := by decide +kernel
theorem kb_Vr_change_63 : decode prog_1_method_8_code 63 = .ok (.istore 6, 2) := by decide +kernel
theorem kb_Vr_change_65 : decode prog_1_method_8_code 65 = .ok (.iload 6, 2) := by decide +kernel
theorem kb_Vr_change_67 : decode prog_1_method_8_code 67 = .ok (.ifCond .ge 6, 3) := by decide +kernel
theorem kb_Vr_change_70 : decode prog_1_method_8_code 70 = .ok (.bipush (-2), 2) := by decide +kernel
theorem kb_Vr_change_72 : decode prog_1_method_8_code 72 = .ok (.ireturn, 1) := by decide +kernel
theorem kb_Vr_change_73 : decode prog_1_method_8_code 73 = .ok (.aload_n 0, 1) := by decide +kernel
theorem kb_Vr_change_74 : decode prog_1_method_8_code 74 = .ok (.getfield 42, 3) := by decide +kernel
theorem kb_Vr_change_77 : decode prog_1_method_8_code 77 = .ok (.getfield 131, 3) := by decide +kernel
theorem kb_Vr_change_80 : decode prog_1_method_8_code 80 = .ok (.bipush 60, 2) := by decide +kernel
theorem kb_Vr_change_82 : decode prog_1_method_8_code 82 = .ok (.if_icmp .lt 6, 3) := by decide +kernel
theorem kb_Vr_change_85 : decode prog_1_method_8_code 85 = .ok (.bipush (-3), 2) := by decide +kernel
theorem kb_Vr_change_87 : decode prog_1_method_8_code 87 = .ok (.ireturn, 1) := by decide +kernel
theorem kb_Vr_change_88 : decode prog_1_method_8_code 88 = .ok (.aload_n 0, 1) := by decide +kernel
theorem kb_Vr_change_89 : decode prog_1_method_8_code 89 = .ok (.getfield 42, 3) := by decide +kernel
theorem kb_Vr_change_92 : decode prog_1_method_8_code 92 = .ok (.iload_n 1, 1) := by decide +kernel
theorem kb_Vr_change_93 : decode prog_1_method_8_code 93 = .ok (.iload 6, 2) := by decide +kernel
theorem kb_Vr_change_95 : decode prog_1_method_8_code 95 = .ok (.iload 5, 2) := by decide +kernel
theorem kb_Vr_change_97 : decode prog_1_method_8_code 97 = .ok (.invokevirtual 132, 3) := by decide +kernel
theorem kb_Vr_change_100 : decode prog_1_method_8_code 100 = .ok (.aload_n 0, 1) := by decide +kernel
theorem kb_Vr_change_101 : decode prog_1_method_8_code 101 = .ok (.getfield 42, 3) := by decide +kernel
theorem kb_Vr_change_104 : decode prog_1_method_8_code 104 = .ok (.getfield 131, 3) := by decide +kernel
theorem kb_Vr_change_107 : decode prog_1_method_8_code 107 = .ok (.ireturn, 1) := by decide +kernel
theorem kb_Vr_batch_0 : decode prog_1_method_9_code 0 = .ok (.aload_n 0, 1) := by decide +kernel
theorem kb_Vr_batch_1 : decode prog_1_method_9_code 1 = .ok (.invokevirtual 99, 3) := by decide +kernel
theorem kb_Vr_batch_4 : decode prog_1_method_9_code 4 = .ok (.ifCond .eq 6, 3) := by decide +kernel
theorem kb_Vr_batch_7 : decode prog_1_method_9_code 7 = .ok (.bipush (-4), 2) := by decide +kernel
theorem kb_Vr_batch_9 : decode prog_1_method_9_code 9 = .ok (.ireturn, 1) := by decide +kernel
theorem kb_Vr_batch_10 : decode prog_1_method_9_code 10 = .ok (.aload_n 0, 1) := by decide +kernel
theorem kb_Vr_batch_11 : decode prog_1_method_9_code 11 = .ok (.aload_n 0, 1) := by decide +kernel
theorem kb_Vr_batch_12 : decode prog_1_method_9_code 12 = .ok (.getfield 42, 3) := by decide +kernel
theorem kb_Vr_batch_15 : decode prog_1_method_9_code 15 = .ok (.iconst 1, 1) := by decide +kernel
theorem kb_Vr_batch_16 : decode prog_1_method_9_code 16 = .ok (.invokevirtual 136, 3) := by decide +kernel
theorem kb_Vr_batch_19 : decode prog_1_method_9_code 19 = .ok (.istore_n 1, 1) := by decide +kernel
theorem kb_Vr_batch_20 : decode prog_1_method_9_code 20 = .ok (.iload_n 1, 1) := by decide +kernel
theorem kb_Vr_batch_21 : decode prog_1_method_9_code 21 = .ok (.ifCond .lt 7, 3) := by decide +kernel
theorem kb_Vr_batch_24 : decode prog_1_method_9_code 24 = .ok (.aload_n 0, 1) := by decide +kernel
theorem kb_Vr_batch_25 : decode prog_1_method_9_code 25 = .ok (.invokevirtual 140, 3) := by decide +kernel
theorem kb_Vr_batch_28 : decode prog_1_method_9_code 28 = .ok (.aload_n 0, 1) := by decide +kernel
theorem kb_Vr_batch_29 : decode prog_1_method_9_code 29 = .ok (.getfield 42, 3) := by decide +kernel
theorem kb_Vr_batch_32 : decode prog_1_method_9_code 32 = .ok (.iconst 0, 1) := by decide +kernel
theorem kb_Vr_batch_33 : decode prog_1_method_9_code 33 = .ok (.putfield 131, 3) := by decide +kernel
theorem kb_Vr_batch_36 : decode prog_1_method_9_code 36 = .ok (.iload_n 1, 1) := by decide +kernel
theorem kb_Vr_batch_37 : decode prog_1_method_9_code 37 = .ok (.ireturn, 1) := by decide +kernel
theorem kb_Vr_drop_0 : decode prog_1_method_10_code 0 = .ok (.aload_n 0, 1) := by decide +kernel
theorem kb_Vr_drop_1 : decode prog_1_method_10_code 1 = .ok (.invokevirtual 99, 3) := by decide +kernel
theorem kb_Vr_drop_4 : decode prog_1_method_10_code 4 = .ok (.ifCond .eq 6, 3) := by decide +kernel
theorem kb_Vr_drop_7 : decode prog_1_method_10_code 7 = .ok (.bipush (-4), 2) := by decide +kernel
theorem kb_Vr_drop_9 : decode prog_1_method_10_code 9 = .ok (.ireturn, 1) := by decide +kernel
theorem kb_Vr_drop_10 : decode prog_1_method_10_code 10 = .ok (.aload_n 0, 1) := by decide +kernel
theorem kb_Vr_drop_11 : decode prog_1_method_10_code 11 = .ok (.getfield 42, 3) := by decide +kernel
theorem kb_Vr_drop_14 : decode prog_1_method_10_code 14 = .ok (.getfield 131, 3) := by decide +kernel
theorem kb_Vr_drop_17 : decode prog_1_method_10_code 17 = .ok (.istore_n 1, 1) := by decide +kernel
theorem kb_Vr_drop_18 : decode prog_1_method_10_code 18 = .ok (.aload_n 0, 1) := by decide +kernel
theorem kb_Vr_drop_19 : decode prog_1_method_10_code 19 = .ok (.getfield 42, 3) := by decide +kernel
theorem kb_Vr_drop_22 : decode prog_1_method_10_code 22 = .ok (.iconst 0, 1) := by decide +kernel
theorem kb_Vr_drop_23 : decode prog_1_method_10_code 23 = .ok (.putfield 131, 3) := by decide +kernel
theorem kb_Vr_drop_26 : decode prog_1_method_10_code 26 = .ok (.iload_n 1, 1) := by decide +kernel
theorem kb_Vr_drop_27 : decode prog_1_method_10_code 27 = .ok (.ireturn, 1) := by decide +kernel
theorem kb_Vr_difference_0 : decode prog_1_method_11_code 0 = .ok (.aload_n 0, 1) := by decide +kernel
theorem kb_Vr_difference_1 : decode prog_1_method_11_code 1 = .ok (.invokevirtual 99, 3) := by decide +kernel
theorem kb_Vr_difference_4 : decode prog_1_method_11_code 4 = .ok (.ifCond .eq 6, 3) := by decide +kernel
theorem kb_Vr_difference_7 : decode prog_1_method_11_code 7 = .ok (.bipush (-4), 2) := by decide +kernel
theorem kb_Vr_difference_9 : decode prog_1_method_11_code 9 = .ok (.ireturn, 1) := by decide +kernel
theorem kb_Vr_difference_10 : decode prog_1_method_11_code 10 = .ok (.iload_n 2, 1) := by decide +kernel
theorem kb_Vr_difference_11 : decode prog_1_method_11_code 11 = .ok (.ifCond .lt 8, 3) := by decide +kernel
theorem kb_Vr_difference_14 : decode prog_1_method_11_code 14 = .ok (.iload_n 2, 1) := by decide +kernel
theorem kb_Vr_difference_15 : decode prog_1_method_11_code 15 = .ok (.iconst 4, 1) := by decide +kernel
theorem kb_Vr_difference_16 : decode prog_1_method_11_code 16 = .ok (.if_icmp .le 6, 3) := by decide +kernel
theorem kb_Vr_difference_19 : decode prog_1_method_11_code 19 = .ok (.bipush (-2), 2) := by decide +kernel
theorem kb_Vr_difference_21 : decode prog_1_method_11_code 21 = .ok (.ireturn, 1) := by decide +kernel
theorem kb_Vr_difference_22 : decode prog_1_method_11_code 22 = .ok (.iload_n 1, 1) := by decide +kernel
theorem kb_Vr_difference_23 : decode prog_1_method_11_code 23 = .ok (.ifCond .lt 14, 3) := by decide +kernel
theorem kb_Vr_difference_26 : decode prog_1_method_11_code 26 = .ok (.iload_n 1, 1) := by decide +kernel
theorem kb_Vr_difference_27 : decode prog_1_method_11_code 27 = .ok (.aload_n 0, 1) := by decide +kernel
theorem kb_Vr_difference_28 : decode prog_1_method_11_code 28 = .ok (.getfield 50, 3) := by decide +kernel
theorem kb_Vr_difference_31 : decode prog_1_method_11_code 31 = .ok (.getfield 131, 3) := by decide +kernel
theorem kb_Vr_difference_34 : decode prog_1_method_11_code 34 = .ok (.if_icmp .lt 5, 3) := by decide +kernel
theorem kb_Vr_difference_37 : decode prog_1_method_11_code 37 = .ok (.iconst (-1), 1) := by decide +kernel
theorem kb_Vr_difference_38 : decode prog_1_method_11_code 38 = .ok (.ireturn, 1) := by decide +kernel
theorem kb_Vr_difference_39 : decode prog_1_method_11_code 39 = .ok (.iload_n 2, 1) := by decide +kernel
theorem kb_Vr_difference_40 : decode prog_1_method_11_code 40 = .ok (.ifCond .ne 13, 3) := by decide +kernel
theorem kb_Vr_difference_43 : decode prog_1_method_11_code 43 = .ok (.aload_n 0, 1) := by decide +kernel
theorem kb_Vr_difference_44 : decode prog_1_method_11_code 44 = .ok (.getfield 50, 3) := by decide +kernel
theorem kb_Vr_difference_47 : decode prog_1_method_11_code 47 = .ok (.getfield 143, 3) := by decide +kernel
theorem kb_Vr_difference_50 : decode prog_1_method_11_code 50 = .ok (.iload_n 1, 1) := by decide +kernel
theorem kb_Vr_difference_51 : decode prog_1_method_11_code 51 = .ok (.iaload, 1) := by decide +kernel
theorem kb_Vr_difference_52 : decode prog_1_method_11_code 52 = .ok (.ireturn, 1) := by decide +kernel
theorem kb_Vr_difference_53 : decode prog_1_method_11_code 53 = .ok (.iload_n 2, 1) := by decide +kernel
theorem kb_Vr_difference_54 : decode prog_1_method_11_code 54 = .ok (.iconst 4, 1) := by decide +kernel
theorem kb_Vr_difference_55 : decode prog_1_method_11_code 55 = .ok (.if_icmp .ne 15, 3) := by decide +kernel
theorem kb_Vr_difference_58 : decode prog_1_method_11_code 58 = .ok (.aload_n 0, 1) := by decide +kernel
theorem kb_Vr_difference_59 : decode prog_1_method_11_code 59 = .ok (.getfield 50, 3) := by decide +kernel
theorem kb_Vr_difference_62 : decode prog_1_method_11_code 62 = .ok (.getfield 146, 3) := by decide +kernel
theorem kb_Vr_difference_65 : decode prog_1_method_11_code 65 = .ok (.iload_n 1, 1) := by decide +kernel
theorem kb_Vr_difference_66 : decode prog_1_method_11_code 66 = .ok (.iaload, 1) := by decide +kernel
theorem kb_Vr_difference_67 : decode prog_1_method_11_code 67 = .ok (.goto 18, 3) := by decide +kernel
theorem kb_Vr_difference_70 : decode prog_1_method_11_code 70 = .ok (.aload_n 0, 1) := by decide +kernel
theorem kb_Vr_difference_71 : decode prog_1_method_11_code 71 = .ok (.getfield 50, 3) := by decide +kernel
theorem kb_Vr_difference_74 : decode prog_1_method_11_code 74 = .ok (.getfield 149, 3) := by decide +kernel
theorem kb_Vr_difference_77 : decode prog_1_method_11_code 77 = .ok (.iload_n 1, 1) := by decide +kernel
theorem kb_Vr_difference_78 : decode prog_1_method_11_code 78 = .ok (.iaload, 1) := by decide +kernel
theorem kb_Vr_difference_79 : decode prog_1_method_11_code 79 = .ok (.iload_n 2, 1) := by decide +kernel
theorem kb_Vr_difference_80 : decode prog_1_method_11_code 80 = .ok (.iconst 1, 1) := by decide +kernel
theorem kb_Vr_difference_81 : decode prog_1_method_11_code 81 = .ok (.isub, 1) := by decide +kernel
theorem kb_Vr_difference_82 : decode prog_1_method_11_code 82 = .ok (.invokestatic 152, 3) := by decide +kernel
theorem kb_Vr_difference_85 : decode prog_1_method_11_code 85 = .ok (.ireturn, 1) := by decide +kernel
theorem kb_Vr_undo_0 : decode prog_1_method_12_code 0 = .ok (.aload_n 0, 1) := by decide +kernel
theorem kb_Vr_undo_1 : decode prog_1_method_12_code 1 = .ok (.invokevirtual 99, 3) := by decide +kernel
theorem kb_Vr_undo_4 : decode prog_1_method_12_code 4 = .ok (.ifCond .eq 6, 3) := by decide +kernel
theorem kb_Vr_undo_7 : decode prog_1_method_12_code 7 = .ok (.bipush (-4), 2) := by decide +kernel
theorem kb_Vr_undo_9 : decode prog_1_method_12_code 9 = .ok (.ireturn, 1) := by decide +kernel
theorem kb_Vr_undo_10 : decode prog_1_method_12_code 10 = .ok (.aload_n 0, 1) := by decide +kernel
theorem kb_Vr_undo_11 : decode prog_1_method_12_code 11 = .ok (.getfield 156, 3) := by decide +kernel
theorem kb_Vr_undo_14 : decode prog_1_method_12_code 14 = .ok (.iconst 1, 1) := by decide +kernel
theorem kb_Vr_undo_15 : decode prog_1_method_12_code 15 = .ok (.if_icmp .ge 5, 3) := by decide +kernel
theorem kb_Vr_undo_18 : decode prog_1_method_12_code 18 = .ok (.iconst (-1), 1) := by decide +kernel
theorem kb_Vr_undo_19 : decode prog_1_method_12_code 19 = .ok (.ireturn, 1) := by decide +kernel
theorem kb_Vr_undo_20 : decode prog_1_method_12_code 20 = .ok (.aload_n 0, 1) := by decide +kernel
theorem kb_Vr_undo_21 : decode prog_1_method_12_code 21 = .ok (.aload_n 0, 1) := by decide +kernel
theorem kb_Vr_undo_22 : decode prog_1_method_12_code 22 = .ok (.getfield 46, 3) := by decide +kernel
theorem kb_Vr_undo_25 : decode prog_1_method_12_code 25 = .ok (.aload_n 0, 1) := by decide +kernel
theorem kb_Vr_undo_26 : decode prog_1_method_12_code 26 = .ok (.getfield 156, 3) := by decide +kernel
theorem kb_Vr_undo_29 : decode prog_1_method_12_code 29 = .ok (.iconst 1, 1) := by decide +kernel
theorem kb_Vr_undo_30 : decode prog_1_method_12_code 30 = .ok (.isub, 1) := by decide +kernel
theorem kb_Vr_undo_31 : decode prog_1_method_12_code 31 = .ok (.aaload, 1) := by decide +kernel
theorem kb_Vr_undo_32 : decode prog_1_method_12_code 32 = .ok (.iconst (-1), 1) := by decide +kernel
theorem kb_Vr_undo_33 : decode prog_1_method_12_code 33 = .ok (.invokevirtual 136, 3) := by decide +kernel
theorem kb_Vr_undo_36 : decode prog_1_method_12_code 36 = .ok (.istore_n 1, 1) := by decide +kernel
theorem kb_Vr_undo_37 : decode prog_1_method_12_code 37 = .ok (.iload_n 1, 1) := by decide +kernel
theorem kb_Vr_undo_38 : decode prog_1_method_12_code 38 = .ok (.ifCond .lt 13, 3) := by decide +kernel
theorem kb_Vr_undo_41 : decode prog_1_method_12_code 41 = .ok (.aload_n 0, 1) := by decide +kernel
theorem kb_Vr_undo_42 : decode prog_1_method_12_code 42 = .ok (.dup, 1) := by decide +kernel
theorem kb_Vr_undo_43 : decode prog_1_method_12_code 43 = .ok (.getfield 156, 3) := by decide +kernel
theorem kb_Vr_undo_46 : decode prog_1_method_12_code 46 = .ok (.iconst 1, 1) := by decide +kernel
theorem kb_Vr_undo_47 : decode prog_1_method_12_code 47 = .ok (.isub, 1) := by decide +kernel
theorem kb_Vr_undo_48 : decode prog_1_method_12_code 48 = .ok (.putfield 156, 3) := by decide +kernel
theorem kb_Vr_undo_51 : decode prog_1_method_12_code 51 = .ok (.iload_n 1, 1) := by decide +kernel
theorem kb_Vr_undo_52 : decode prog_1_method_12_code 52 = .ok (.ireturn, 1) := by decide +kernel
theorem kb_Vr_has_0 : decode prog_1_method_13_code 0 = .ok (.aload_n 0, 1) := by decide +kernel
theorem kb_Vr_has_1 : decode prog_1_method_13_code 1 = .ok (.invokevirtual 99, 3) := by decide +kernel
theorem kb_Vr_has_4 : decode prog_1_method_13_code 4 = .ok (.ifCond .eq 6, 3) := by decide +kernel
theorem kb_Vr_has_7 : decode prog_1_method_13_code 7 = .ok (.bipush (-4), 2) := by decide +kernel
theorem kb_Vr_has_9 : decode prog_1_method_13_code 9 = .ok (.ireturn, 1) := by decide +kernel
theorem kb_Vr_has_10 : decode prog_1_method_13_code 10 = .ok (.aload_n 0, 1) := by decide +kernel
theorem kb_Vr_has_11 : decode prog_1_method_13_code 11 = .ok (.getfield 24, 3) := by decide +kernel
theorem kb_Vr_has_14 : decode prog_1_method_13_code 14 = .ok (.iload_n 1, 1) := by decide +kernel
theorem kb_Vr_has_15 : decode prog_1_method_13_code 15 = .ok (.invokevirtual 107, 3) := by decide +kernel
theorem kb_Vr_has_18 : decode prog_1_method_13_code 18 = .ok (.ifCond .ne 6, 3) := by decide +kernel
theorem kb_Vr_has_21 : decode prog_1_method_13_code 21 = .ok (.bipush (-2), 2) := by decide +kernel
theorem kb_Vr_has_23 : decode prog_1_method_13_code 23 = .ok (.ireturn, 1) := by decide +kernel
theorem kb_Vr_has_24 : decode prog_1_method_13_code 24 = .ok (.aload_n 0, 1) := by decide +kernel
theorem kb_Vr_has_25 : decode prog_1_method_13_code 25 = .ok (.getfield 24, 3) := by decide +kernel
theorem kb_Vr_has_28 : decode prog_1_method_13_code 28 = .ok (.getfield 114, 3) := by decide +kernel
theorem kb_Vr_has_31 : decode prog_1_method_13_code 31 = .ok (.iload_n 1, 1) := by decide +kernel
theorem kb_Vr_has_32 : decode prog_1_method_13_code 32 = .ok (.iaload, 1) := by decide +kernel
theorem kb_Vr_has_33 : decode prog_1_method_13_code 33 = .ok (.iload_n 2, 1) := by decide +kernel
theorem kb_Vr_has_34 : decode prog_1_method_13_code 34 = .ok (.iload_n 3, 1) := by decide +kernel
theorem kb_Vr_has_35 : decode prog_1_method_13_code 35 = .ok (.iload 4, 2) := by decide +kernel
theorem kb_Vr_has_37 : decode prog_1_method_13_code 37 = .ok (.invokestatic 127, 3) := by decide +kernel
theorem kb_Vr_has_40 : decode prog_1_method_13_code 40 = .ok (.istore 5, 2) := by decide +kernel
theorem kb_Vr_has_42 : decode prog_1_method_13_code 42 = .ok (.iload 5, 2) := by decide +kernel
theorem kb_Vr_has_44 : decode prog_1_method_13_code 44 = .ok (.ifCond .ge 8, 3) := by decide +kernel
theorem kb_Vr_has_47 : decode prog_1_method_13_code 47 = .ok (.bipush (-2), 2) := by decide +kernel
theorem kb_Vr_has_49 : decode prog_1_method_13_code 49 = .ok (.goto 14, 3) := by decide +kernel
theorem kb_Vr_has_52 : decode prog_1_method_13_code 52 = .ok (.aload_n 0, 1) := by decide +kernel
theorem kb_Vr_has_53 : decode prog_1_method_13_code 53 = .ok (.getfield 30, 3) := by decide +kernel
theorem kb_Vr_has_56 : decode prog_1_method_13_code 56 = .ok (.iload_n 1, 1) := by decide +kernel
theorem kb_Vr_has_57 : decode prog_1_method_13_code 57 = .ok (.aaload, 1) := by decide +kernel
theorem kb_Vr_has_58 : decode prog_1_method_13_code 58 = .ok (.iload 5, 2) := by decide +kernel
theorem kb_Vr_has_60 : decode prog_1_method_13_code 60 = .ok (.invokevirtual 159, 3) := by decide +kernel
theorem kb_Vr_has_63 : decode prog_1_method_13_code 63 = .ok (.ireturn, 1) := by decide +kernel
theorem kb_Vr_row_0 : decode prog_1_method_14_code 0 = .ok (.aload_n 0, 1) := by decide +kernel
theorem kb_Vr_row_1 : decode prog_1_method_14_code 1 = .ok (.invokevirtual 99, 3) := by decide +kernel
theorem kb_Vr_row_4 : decode prog_1_method_14_code 4 = .ok (.ifCond .eq 6, 3) := by decide +kernel
theorem kb_Vr_row_7 : decode prog_1_method_14_code 7 = .ok (.bipush (-4), 2) := by decide +kernel
theorem kb_Vr_row_9 : decode prog_1_method_14_code 9 = .ok (.ireturn, 1) := by decide +kernel
theorem kb_Vr_row_10 : decode prog_1_method_14_code 10 = .ok (.aload_n 0, 1) := by decide +kernel
theorem kb_Vr_row_11 : decode prog_1_method_14_code 11 = .ok (.getfield 24, 3) := by decide +kernel
theorem kb_Vr_row_14 : decode prog_1_method_14_code 14 = .ok (.iload_n 1, 1) := by decide +kernel
theorem kb_Vr_row_15 : decode prog_1_method_14_code 15 = .ok (.invokevirtual 107, 3) := by decide +kernel
theorem kb_Vr_row_18 : decode prog_1_method_14_code 18 = .ok (.ifCond .eq 12, 3) := by decide +kernel
theorem kb_Vr_row_21 : decode prog_1_method_14_code 21 = .ok (.iload_n 3, 1) := by decide +kernel
theorem kb_Vr_row_22 : decode prog_1_method_14_code 22 = .ok (.ifCond .lt 8, 3) := by decide +kernel
theorem kb_Vr_row_25 : decode prog_1_method_14_code 25 = .ok (.iload_n 3, 1) := by decide +kernel
theorem kb_Vr_row_26 : decode prog_1_method_14_code 26 = .ok (.iconst 3, 1) := by decide +kernel
theorem kb_Vr_row_27 : decode prog_1_method_14_code 27 = .ok (.if_icmp .le 6, 3) := by decide +kernel
theorem kb_Vr_row_30 : decode prog_1_method_14_code 30 = .ok (.bipush (-2), 2) := by decide +kernel
theorem kb_Vr_row_32 : decode prog_1_method_14_code 32 = .ok (.ireturn, 1) := by decide +kernel
theorem kb_Vr_row_33 : decode prog_1_method_14_code 33 = .ok (.aload_n 0, 1) := by decide +kernel
theorem kb_Vr_row_34 : decode prog_1_method_14_code 34 = .ok (.getfield 30, 3) := by decide +kernel
theorem kb_Vr_row_37 : decode prog_1_method_14_code 37 = .ok (.iload_n 1, 1) := by decide +kernel
theorem kb_Vr_row_38 : decode prog_1_method_14_code 38 = .ok (.aaload, 1) := by decide +kernel
theorem kb_Vr_row_39 : decode prog_1_method_14_code 39 = .ok (.astore 4, 2) := by decide +kernel
theorem kb_Vr_row_41 : decode prog_1_method_14_code 41 = .ok (.iload_n 2, 1) := by decide +kernel
theorem kb_Vr_row_42 : decode prog_1_method_14_code 42 = .ok (.ifCond .lt 12, 3) := by decide +kernel
theorem kb_Vr_row_45 : decode prog_1_method_14_code 45 = .ok (.iload_n 2, 1) := by decide +kernel
theorem kb_Vr_row_46 : decode prog_1_method_14_code 46 = .ok (.aload 4, 2) := by decide +kernel
theorem kb_Vr_row_48 : decode prog_1_method_14_code 48 = .ok (.getfield 82, 3) := by decide +kernel
theorem kb_Vr_row_51 : decode prog_1_method_14_code 51 = .ok (.if_icmp .lt 5, 3) := by decide +kernel
theorem kb_Vr_row_54 : decode prog_1_method_14_code 54 = .ok (.iconst (-1), 1) := by decide +kernel
theorem kb_Vr_row_55 : decode prog_1_method_14_code 55 = .ok (.ireturn, 1) := by decide +kernel
theorem kb_Vr_row_56 : decode prog_1_method_14_code 56 = .ok (.iload_n 3, 1) := by decide +kernel
theorem kb_Vr_row_57 : decode prog_1_method_14_code 57 = .ok (.iconst 3, 1) := by decide +kernel
theorem kb_Vr_row_58 : decode prog_1_method_14_code 58 = .ok (.if_icmp .ne 13, 3) := by decide +kernel
theorem kb_Vr_row_61 : decode prog_1_method_14_code 61 = .ok (.aload 4, 2) := by decide +kernel
theorem kb_Vr_row_63 : decode prog_1_method_14_code 63 = .ok (.getfield 162, 3) := by decide +kernel
theorem kb_Vr_row_66 : decode prog_1_method_14_code 66 = .ok (.iload_n 2, 1) := by decide +kernel
theorem kb_Vr_row_67 : decode prog_1_method_14_code 67 = .ok (.iaload, 1) := by decide +kernel
theorem kb_Vr_row_68 : decode prog_1_method_14_code 68 = .ok (.goto 14, 3) := by decide +kernel
theorem kb_Vr_row_71 : decode prog_1_method_14_code 71 = .ok (.aload 4, 2) := by decide +kernel
theorem kb_Vr_row_73 : decode prog_1_method_14_code 73 = .ok (.getfield 165, 3) := by decide +kernel
theorem kb_Vr_row_76 : decode prog_1_method_14_code 76 = .ok (.iload_n 2, 1) := by decide +kernel
theorem kb_Vr_row_77 : decode prog_1_method_14_code 77 = .ok (.iaload, 1) := by decide +kernel
theorem kb_Vr_row_78 : decode prog_1_method_14_code 78 = .ok (.iload_n 3, 1) := by decide +kernel
theorem kb_Vr_row_79 : decode prog_1_method_14_code 79 = .ok (.invokestatic 152, 3) := by decide +kernel
theorem kb_Vr_row_82 : decode prog_1_method_14_code 82 = .ok (.ireturn, 1) := by decide +kernel
theorem kb_Vr_derivations_0 : decode prog_1_method_15_code 0 = .ok (.aload_n 0, 1) := by decide +kernel
theorem kb_Vr_derivations_1 : decode prog_1_method_15_code 1 = .ok (.invokevirtual 99, 3) := by decide +kernel
theorem kb_Vr_derivations_4 : decode prog_1_method_15_code 4 = .ok (.ifCond .eq 6, 3) := by decide +kernel
theorem kb_Vr_derivations_7 : decode prog_1_method_15_code 7 = .ok (.bipush (-4), 2) := by decide +kernel
theorem kb_Vr_derivations_9 : decode prog_1_method_15_code 9 = .ok (.ireturn, 1) := by decide +kernel
theorem kb_Vr_derivations_10 : decode prog_1_method_15_code 10 = .ok (.aload_n 0, 1) := by decide +kernel
theorem kb_Vr_derivations_11 : decode prog_1_method_15_code 11 = .ok (.getfield 24, 3) := by decide +kernel
theorem kb_Vr_derivations_14 : decode prog_1_method_15_code 14 = .ok (.iload_n 1, 1) := by decide +kernel
theorem kb_Vr_derivations_15 : decode prog_1_method_15_code 15 = .ok (.invokevirtual 111, 3) := by decide +kernel
theorem kb_Vr_derivations_18 : decode prog_1_method_15_code 18 = .ok (.ifCond .ne 6, 3) := by decide +kernel
theorem kb_Vr_derivations_21 : decode prog_1_method_15_code 21 = .ok (.bipush (-2), 2) := by decide +kernel
theorem kb_Vr_derivations_23 : decode prog_1_method_15_code 23 = .ok (.ireturn, 1) := by decide +kernel
theorem kb_Vr_derivations_24 : decode prog_1_method_15_code 24 = .ok (.aload_n 0, 1) := by decide +kernel
theorem kb_Vr_derivations_25 : decode prog_1_method_15_code 25 = .ok (.getfield 24, 3) := by decide +kernel
theorem kb_Vr_derivations_28 : decode prog_1_method_15_code 28 = .ok (.getfield 114, 3) := by decide +kernel
theorem kb_Vr_derivations_31 : decode prog_1_method_15_code 31 = .ok (.iload_n 1, 1) := by decide +kernel
theorem kb_Vr_derivations_32 : decode prog_1_method_15_code 32 = .ok (.iaload, 1) := by decide +kernel
theorem kb_Vr_derivations_33 : decode prog_1_method_15_code 33 = .ok (.iload_n 2, 1) := by decide +kernel
theorem kb_Vr_derivations_34 : decode prog_1_method_15_code 34 = .ok (.iload_n 3, 1) := by decide +kernel
theorem kb_Vr_derivations_35 : decode prog_1_method_15_code 35 = .ok (.iload 4, 2) := by decide +kernel
theorem kb_Vr_derivations_37 : decode prog_1_method_15_code 37 = .ok (.invokestatic 127, 3) := by decide +kernel
theorem kb_Vr_derivations_40 : decode prog_1_method_15_code 40 = .ok (.istore 5, 2) := by decide +kernel
theorem kb_Vr_derivations_42 : decode prog_1_method_15_code 42 = .ok (.iload 5, 2) := by decide +kernel
theorem kb_Vr_derivations_44 : decode prog_1_method_15_code 44 = .ok (.ifCond .ge 6, 3) := by decide +kernel
theorem kb_Vr_derivations_47 : decode prog_1_method_15_code 47 = .ok (.bipush (-2), 2) := by decide +kernel
theorem kb_Vr_derivations_49 : decode prog_1_method_15_code 49 = .ok (.ireturn, 1) := by decide +kernel
theorem kb_Vr_derivations_50 : decode prog_1_method_15_code 50 = .ok (.aload_n 0, 1) := by decide +kernel
theorem kb_Vr_derivations_51 : decode prog_1_method_15_code 51 = .ok (.getfield 24, 3) := by decide +kernel
theorem kb_Vr_derivations_54 : decode prog_1_method_15_code 54 = .ok (.iload_n 1, 1) := by decide +kernel
theorem kb_Vr_derivations_55 : decode prog_1_method_15_code 55 = .ok (.invokevirtual 166, 3) := by decide +kernel
theorem kb_Vr_derivations_58 : decode prog_1_method_15_code 58 = .ok (.ifCond .ne 22, 3) := by decide +kernel
theorem kb_Vr_derivations_61 : decode prog_1_method_15_code 61 = .ok (.aload_n 0, 1) := by decide +kernel
theorem kb_Vr_derivations_62 : decode prog_1_method_15_code 62 = .ok (.getfield 56, 3) := by decide +kernel
theorem kb_Vr_derivations_65 : decode prog_1_method_15_code 65 = .ok (.aload_n 0, 1) := by decide +kernel
theorem kb_Vr_derivations_66 : decode prog_1_method_15_code 66 = .ok (.getfield 24, 3) := by decide +kernel
theorem kb_Vr_derivations_69 : decode prog_1_method_15_code 69 = .ok (.aload_n 0, 1) := by decide +kernel
theorem kb_Vr_derivations_70 : decode prog_1_method_15_code 70 = .ok (.getfield 30, 3) := by decide +kernel
theorem kb_Vr_derivations_73 : decode prog_1_method_15_code 73 = .ok (.iload_n 1, 1) := by decide +kernel
theorem kb_Vr_derivations_74 : decode prog_1_method_15_code 74 = .ok (.iload 5, 2) := by decide +kernel
theorem kb_Vr_derivations_76 : decode prog_1_method_15_code 76 = .ok (.invokevirtual 169, 3) := by decide +kernel
theorem kb_Vr_derivations_79 : decode prog_1_method_15_code 79 = .ok (.ireturn, 1) := by decide +kernel
theorem kb_Vr_derivations_80 : decode prog_1_method_15_code 80 = .ok (.aload_n 0, 1) := by decide +kernel
theorem kb_Vr_derivations_81 : decode prog_1_method_15_code 81 = .ok (.getfield 30, 3) := by decide +kernel
theorem kb_Vr_derivations_84 : decode prog_1_method_15_code 84 = .ok (.iload_n 1, 1) := by decide +kernel
theorem kb_Vr_derivations_85 : decode prog_1_method_15_code 85 = .ok (.aaload, 1) := by decide +kernel
theorem kb_Vr_derivations_86 : decode prog_1_method_15_code 86 = .ok (.iload 5, 2) := by decide +kernel
theorem kb_Vr_derivations_88 : decode prog_1_method_15_code 88 = .ok (.invokevirtual 159, 3) := by decide +kernel
theorem kb_Vr_derivations_91 : decode prog_1_method_15_code 91 = .ok (.ifCond .ne 7, 3) := by decide +kernel
theorem kb_Vr_derivations_94 : decode prog_1_method_15_code 94 = .ok (.iconst 0, 1) := by decide +kernel
theorem kb_Vr_derivations_95 : decode prog_1_method_15_code 95 = .ok (.goto 19, 3) := by decide +kernel
theorem kb_Vr_derivations_98 : decode prog_1_method_15_code 98 = .ok (.iload 5, 2) := by decide +kernel
theorem kb_Vr_derivations_100 : decode prog_1_method_15_code 100 = .ok (.aload_n 0, 1) := by decide +kernel
theorem kb_Vr_derivations_101 : decode prog_1_method_15_code 101 = .ok (.getfield 24, 3) := by decide +kernel
theorem kb_Vr_derivations_104 : decode prog_1_method_15_code 104 = .ok (.getfield 114, 3) := by decide +kernel
theorem kb_Vr_derivations_107 : decode prog_1_method_15_code 107 = .ok (.iload_n 1, 1) := by decide +kernel
theorem kb_Vr_derivations_108 : decode prog_1_method_15_code 108 = .ok (.iaload, 1) := by decide +kernel
theorem kb_Vr_derivations_109 : decode prog_1_method_15_code 109 = .ok (.iconst 1, 1) := by decide +kernel
theorem kb_Vr_derivations_110 : decode prog_1_method_15_code 110 = .ok (.isub, 1) := by decide +kernel
theorem kb_Vr_derivations_111 : decode prog_1_method_15_code 111 = .ok (.invokestatic 152, 3) := by decide +kernel
theorem kb_Vr_derivations_114 : decode prog_1_method_15_code 114 = .ok (.ireturn, 1) := by decide +kernel
theorem kb_Vr_why_0 : decode prog_1_method_16_code 0 = .ok (.aload_n 0, 1) := by decide +kernel
theorem kb_Vr_why_1 : decode prog_1_method_16_code 1 = .ok (.invokevirtual 99, 3) := by decide +kernel
theorem kb_Vr_why_4 : decode prog_1_method_16_code 4 = .ok (.ifCond .eq 6, 3) := by decide +kernel
theorem kb_Vr_why_7 : decode prog_1_method_16_code 7 = .ok (.bipush (-4), 2) := by decide +kernel
theorem kb_Vr_why_9 : decode prog_1_method_16_code 9 = .ok (.ireturn, 1) := by decide +kernel
theorem kb_Vr_why_10 : decode prog_1_method_16_code 10 = .ok (.aload_n 0, 1) := by decide +kernel
theorem kb_Vr_why_11 : decode prog_1_method_16_code 11 = .ok (.getfield 24, 3) := by decide +kernel
theorem kb_Vr_why_14 : decode prog_1_method_16_code 14 = .ok (.iload_n 1, 1) := by decide +kernel
theorem kb_Vr_why_15 : decode prog_1_method_16_code 15 = .ok (.invokevirtual 111, 3) := by decide +kernel
theorem kb_Vr_why_18 : decode prog_1_method_16_code 18 = .ok (.ifCond .eq 26, 3) := by decide +kernel
theorem kb_Vr_why_21 : decode prog_1_method_16_code 21 = .ok (.aload_n 0, 1) := by decide +kernel
theorem kb_Vr_why_22 : decode prog_1_method_16_code 22 = .ok (.getfield 24, 3) := by decide +kernel
theorem kb_Vr_why_25 : decode prog_1_method_16_code 25 = .ok (.iload_n 1, 1) := by decide +kernel
theorem kb_Vr_why_26 : decode prog_1_method_16_code 26 = .ok (.invokevirtual 166, 3) := by decide +kernel
theorem kb_Vr_why_29 : decode prog_1_method_16_code 29 = .ok (.ifCond .ne 15, 3) := by decide +kernel
theorem kb_Vr_why_32 : decode prog_1_method_16_code 32 = .ok (.iload 5, 2) := by decide +kernel
theorem kb_Vr_why_34 : decode prog_1_method_16_code 34 = .ok (.ifCond .lt 10, 3) := by decide +kernel
theorem kb_Vr_why_37 : decode prog_1_method_16_code 37 = .ok (.iload 5, 2) := by decide +kernel
theorem kb_Vr_why_39 : decode prog_1_method_16_code 39 = .ok (.bipush 7, 2) := by decide +kernel
theorem kb_Vr_why_41 : decode prog_1_method_16_code 41 = .ok (.if_icmp .le 6, 3) := by decide +kernel
theorem kb_Vr_why_44 : decode prog_1_method_16_code 44 = .ok (.bipush (-2), 2) := by decide +kernel
theorem kb_Vr_why_46 : decode prog_1_method_16_code 46 = .ok (.ireturn, 1) := by decide +kernel
theorem kb_Vr_why_47 : decode prog_1_method_16_code 47 = .ok (.aload_n 0, 1) := by decide +kernel
theorem kb_Vr_why_48 : decode prog_1_method_16_code 48 = .ok (.getfield 24, 3) := by decide +kernel
theorem kb_Vr_why_51 : decode prog_1_method_16_code 51 = .ok (.getfield 114, 3) := by decide +kernel
theorem kb_Vr_why_54 : decode prog_1_method_16_code 54 = .ok (.iload_n 1, 1) := by decide +kernel
theorem kb_Vr_why_55 : decode prog_1_method_16_code 55 = .ok (.iaload, 1) := by decide +kernel
theorem kb_Vr_why_56 : decode prog_1_method_16_code 56 = .ok (.iload_n 2, 1) := by decide +kernel
theorem kb_Vr_why_57 : decode prog_1_method_16_code 57 = .ok (.iload_n 3, 1) := by decide +kernel
theorem kb_Vr_why_58 : decode prog_1_method_16_code 58 = .ok (.iload 4, 2) := by decide +kernel
theorem kb_Vr_why_60 : decode prog_1_method_16_code 60 = .ok (.invokestatic 127, 3) := by decide +kernel
theorem kb_Vr_why_63 : decode prog_1_method_16_code 63 = .ok (.istore 6, 2) := by decide +kernel
theorem kb_Vr_why_65 : decode prog_1_method_16_code 65 = .ok (.iload 6, 2) := by decide +kernel
theorem kb_Vr_why_67 : decode prog_1_method_16_code 67 = .ok (.ifCond .ge 6, 3) := by decide +kernel
theorem kb_Vr_why_70 : decode prog_1_method_16_code 70 = .ok (.bipush (-2), 2) := by decide +kernel
theorem kb_Vr_why_72 : decode prog_1_method_16_code 72 = .ok (.ireturn, 1) := by decide +kernel
theorem kb_Vr_why_73 : decode prog_1_method_16_code 73 = .ok (.aload_n 0, 1) := by decide +kernel
theorem kb_Vr_why_74 : decode prog_1_method_16_code 74 = .ok (.getfield 56, 3) := by decide +kernel
theorem kb_Vr_why_77 : decode prog_1_method_16_code 77 = .ok (.aload_n 0, 1) := by decide +kernel
theorem kb_Vr_why_78 : decode prog_1_method_16_code 78 = .ok (.getfield 24, 3) := by decide +kernel
theorem kb_Vr_why_81 : decode prog_1_method_16_code 81 = .ok (.aload_n 0, 1) := by decide +kernel
theorem kb_Vr_why_82 : decode prog_1_method_16_code 82 = .ok (.getfield 30, 3) := by decide +kernel
theorem kb_Vr_why_85 : decode prog_1_method_16_code 85 = .ok (.iload_n 1, 1) := by decide +kernel
theorem kb_Vr_why_86 : decode prog_1_method_16_code 86 = .ok (.iload 6, 2) := by decide +kernel
theorem kb_Vr_why_88 : decode prog_1_method_16_code 88 = .ok (.invokevirtual 173, 3) := by decide +kernel
theorem kb_Vr_why_91 : decode prog_1_method_16_code 91 = .ok (.istore 7, 2) := by decide +kernel
theorem kb_Vr_why_93 : decode prog_1_method_16_code 93 = .ok (.iload 7, 2) := by decide +kernel
theorem kb_Vr_why_95 : decode prog_1_method_16_code 95 = .ok (.ifCond .ge 5, 3) := by decide +kernel
theorem kb_Vr_why_98 : decode prog_1_method_16_code 98 = .ok (.iconst (-1), 1) := by decide +kernel
theorem kb_Vr_why_99 : decode prog_1_method_16_code 99 = .ok (.ireturn, 1) := by decide +kernel
theorem kb_Vr_why_100 : decode prog_1_method_16_code 100 = .ok (.aload_n 0, 1) := by decide +kernel
theorem kb_Vr_why_101 : decode prog_1_method_16_code 101 = .ok (.getfield 24, 3) := by decide +kernel
theorem kb_Vr_why_104 : decode prog_1_method_16_code 104 = .ok (.getfield 176, 3) := by decide +kernel
theorem kb_Vr_why_107 : decode prog_1_method_16_code 107 = .ok (.iload 7, 2) := by decide +kernel
theorem kb_Vr_why_109 : decode prog_1_method_16_code 109 = .ok (.aaload, 1) := by decide +kernel
theorem kb_Vr_why_110 : decode prog_1_method_16_code 110 = .ok (.getfield 180, 3) := by decide +kernel
theorem kb_Vr_why_113 : decode prog_1_method_16_code 113 = .ok (.istore 8, 2) := by decide +kernel
theorem kb_Vr_why_115 : decode prog_1_method_16_code 115 = .ok (.iload 5, 2) := by decide +kernel
theorem kb_Vr_why_117 : decode prog_1_method_16_code 117 = .ok (.iconst 2, 1) := by decide +kernel
theorem kb_Vr_why_118 : decode prog_1_method_16_code 118 = .ok (.if_icmp .ge 16, 3) := by decide +kernel
theorem kb_Vr_why_121 : decode prog_1_method_16_code 121 = .ok (.iload 5, 2) := by decide +kernel
theorem kb_Vr_why_123 : decode prog_1_method_16_code 123 = .ok (.ifCond .ne 8, 3) := by decide +kernel
theorem kb_Vr_why_126 : decode prog_1_method_16_code 126 = .ok (.iload 7, 2) := by decide +kernel
theorem kb_Vr_why_128 : decode prog_1_method_16_code 128 = .ok (.goto 5, 3) := by decide +kernel
theorem kb_Vr_why_131 : decode prog_1_method_16_code 131 = .ok (.iload 8, 2) := by decide +kernel
theorem kb_Vr_why_133 : decode prog_1_method_16_code 133 = .ok (.ireturn, 1) := by decide +kernel
theorem kb_Vr_why_134 : decode prog_1_method_16_code 134 = .ok (.iload 5, 2) := by decide +kernel
theorem kb_Vr_why_136 : decode prog_1_method_16_code 136 = .ok (.iconst 2, 1) := by decide +kernel
theorem kb_Vr_why_137 : decode prog_1_method_16_code 137 = .ok (.isub, 1) := by decide +kernel
theorem kb_Vr_why_138 : decode prog_1_method_16_code 138 = .ok (.iload 8, 2) := by decide +kernel
theorem kb_Vr_why_140 : decode prog_1_method_16_code 140 = .ok (.if_icmp .ge 18, 3) := by decide +kernel
theorem kb_Vr_why_143 : decode prog_1_method_16_code 143 = .ok (.aload_n 0, 1) := by decide +kernel
theorem kb_Vr_why_144 : decode prog_1_method_16_code 144 = .ok (.getfield 56, 3) := by decide +kernel
theorem kb_Vr_why_147 : decode prog_1_method_16_code 147 = .ok (.getfield 185, 3) := by decide +kernel
theorem kb_Vr_why_150 : decode prog_1_method_16_code 150 = .ok (.iload 5, 2) := by decide +kernel
theorem kb_Vr_why_152 : decode prog_1_method_16_code 152 = .ok (.iconst 2, 1) := by decide +kernel
theorem kb_Vr_why_153 : decode prog_1_method_16_code 153 = .ok (.isub, 1) := by decide +kernel
theorem kb_Vr_why_154 : decode prog_1_method_16_code 154 = .ok (.iaload, 1) := by decide +kernel
theorem kb_Vr_why_155 : decode prog_1_method_16_code 155 = .ok (.goto 4, 3) := by decide +kernel
theorem kb_Vr_why_158 : decode prog_1_method_16_code 158 = .ok (.iconst (-1), 1) := by decide +kernel
theorem kb_Vr_why_159 : decode prog_1_method_16_code 159 = .ok (.ireturn, 1) := by decide +kernel
theorem kb_Vr_anew_0 : decode prog_1_method_17_code 0 = .ok (.aload_n 0, 1) := by decide +kernel
theorem kb_Vr_anew_1 : decode prog_1_method_17_code 1 = .ok (.invokevirtual 99, 3) := by decide +kernel
theorem kb_Vr_anew_4 : decode prog_1_method_17_code 4 = .ok (.ifCond .eq 5, 3) := by decide +kernel
theorem kb_Vr_anew_7 : decode prog_1_method_17_code 7 = .ok (.iconst 0, 1) := by decide +kernel
theorem kb_Vr_anew_8 : decode prog_1_method_17_code 8 = .ok (.ireturn, 1) := by decide +kernel
theorem kb_Vr_anew_9 : decode prog_1_method_17_code 9 = .ok (.aload_n 0, 1) := by decide +kernel
theorem kb_Vr_anew_10 : decode prog_1_method_17_code 10 = .ok (.invokevirtual 188, 3) := by decide +kernel
theorem kb_Vr_anew_13 : decode prog_1_method_17_code 13 = .ok (.aload_n 0, 1) := by decide +kernel
theorem kb_Vr_anew_14 : decode prog_1_method_17_code 14 = .ok (.getfield 56, 3) := by decide +kernel
theorem kb_Vr_anew_17 : decode prog_1_method_17_code 17 = .ok (.aload_n 0, 1) := by decide +kernel
theorem kb_Vr_anew_18 : decode prog_1_method_17_code 18 = .ok (.getfield 24, 3) := by decide +kernel
theorem kb_Vr_anew_21 : decode prog_1_method_17_code 21 = .ok (.aload_n 0, 1) := by decide +kernel
theorem kb_Vr_anew_22 : decode prog_1_method_17_code 22 = .ok (.getfield 34, 3) := by decide +kernel
theorem kb_Vr_anew_25 : decode prog_1_method_17_code 25 = .ok (.invokevirtual 86, 3) := by decide +kernel
theorem kb_Vr_anew_28 : decode prog_1_method_17_code 28 = .ok (.ifCond .eq 14, 3) := by decide +kernel
theorem kb_Vr_anew_31 : decode prog_1_method_17_code 31 = .ok (.aload_n 0, 1) := by decide +kernel
theorem kb_Vr_anew_32 : decode prog_1_method_17_code 32 = .ok (.invokevirtual 191, 3) := by decide +kernel
theorem kb_Vr_anew_35 : decode prog_1_method_17_code 35 = .ok (.ifCond .eq 7, 3) := by decide +kernel
theorem kb_Vr_anew_38 : decode prog_1_method_17_code 38 = .ok (.iconst 1, 1) := by decide +kernel
theorem kb_Vr_anew_39 : decode prog_1_method_17_code 39 = .ok (.goto 4, 3) := by decide +kernel
theorem kb_Vr_anew_42 : decode prog_1_method_17_code 42 = .ok (.iconst 0, 1) := by decide +kernel
theorem kb_Vr_anew_43 : decode prog_1_method_17_code 43 = .ok (.ireturn, 1) := by decide +kernel
theorem kb_Vr_told_0 : decode prog_1_method_18_code 0 = .ok (.iload_n 1, 1) := by decide +kernel
theorem kb_Vr_told_1 : decode prog_1_method_18_code 1 = .ok (.tableswitch 84 0 5 #[39, 47, 55, 63, 71, 76], 39) := by decide +kernel
theorem kb_Vr_told_40 : decode prog_1_method_18_code 40 = .ok (.aload_n 0, 1) := by decide +kernel
theorem kb_Vr_told_41 : decode prog_1_method_18_code 41 = .ok (.getfield 24, 3) := by decide +kernel
theorem kb_Vr_told_44 : decode prog_1_method_18_code 44 = .ok (.getfield 93, 3) := by decide +kernel
theorem kb_Vr_told_47 : decode prog_1_method_18_code 47 = .ok (.ireturn, 1) := by decide +kernel
theorem kb_Vr_told_48 : decode prog_1_method_18_code 48 = .ok (.aload_n 0, 1) := by decide +kernel
theorem kb_Vr_told_49 : decode prog_1_method_18_code 49 = .ok (.getfield 24, 3) := by decide +kernel
theorem kb_Vr_told_52 : decode prog_1_method_18_code 52 = .ok (.getfield 194, 3) := by decide +kernel
theorem kb_Vr_told_55 : decode prog_1_method_18_code 55 = .ok (.ireturn, 1) := by decide +kernel
theorem kb_Vr_told_56 : decode prog_1_method_18_code 56 = .ok (.aload_n 0, 1) := by decide +kernel
theorem kb_Vr_told_57 : decode prog_1_method_18_code 57 = .ok (.getfield 42, 3) := by decide +kernel
theorem kb_Vr_told_60 : decode prog_1_method_18_code 60 = .ok (.getfield 131, 3) := by decide +kernel
theorem kb_Vr_told_63 : decode prog_1_method_18_code 63 = .ok (.ireturn, 1) := by decide +kernel
theorem kb_Vr_told_64 : decode prog_1_method_18_code 64 = .ok (.aload_n 0, 1) := by decide +kernel
theorem kb_Vr_told_65 : decode prog_1_method_18_code 65 = .ok (.getfield 50, 3) := by decide +kernel
theorem kb_Vr_told_68 : decode prog_1_method_18_code 68 = .ok (.getfield 131, 3) := by decide +kernel
theorem kb_Vr_told_71 : decode prog_1_method_18_code 71 = .ok (.ireturn, 1) := by decide +kernel
theorem kb_Vr_told_72 : decode prog_1_method_18_code 72 = .ok (.aload_n 0, 1) := by decide +kernel
theorem kb_Vr_told_73 : decode prog_1_method_18_code 73 = .ok (.getfield 156, 3) := by decide +kernel
theorem kb_Vr_told_76 : decode prog_1_method_18_code 76 = .ok (.ireturn, 1) := by decide +kernel
theorem kb_Vr_told_77 : decode prog_1_method_18_code 77 = .ok (.aload_n 0, 1) := by decide +kernel
theorem kb_Vr_told_78 : decode prog_1_method_18_code 78 = .ok (.getfield 24, 3) := by decide +kernel
theorem kb_Vr_told_81 : decode prog_1_method_18_code 81 = .ok (.getfield 196, 3) := by decide +kernel
theorem kb_Vr_told_84 : decode prog_1_method_18_code 84 = .ok (.ireturn, 1) := by decide +kernel
theorem kb_Vr_told_85 : decode prog_1_method_18_code 85 = .ok (.bipush (-2), 2) := by decide +kernel
theorem kb_Vr_told_87 : decode prog_1_method_18_code 87 = .ok (.ireturn, 1) := by decide +kernel
theorem kb_Vr_hasNoRules_0 : decode prog_1_method_19_code 0 = .ok (.aload_n 0, 1) := by decide +kernel
theorem kb_Vr_hasNoRules_1 : decode prog_1_method_19_code 1 = .ok (.getfield 24, 3) := by decide +kernel
theorem kb_Vr_hasNoRules_4 : decode prog_1_method_19_code 4 = .ok (.getfield 93, 3) := by decide +kernel
theorem kb_Vr_hasNoRules_7 : decode prog_1_method_19_code 7 = .ok (.ifCond .ne 7, 3) := by decide +kernel
theorem kb_Vr_hasNoRules_10 : decode prog_1_method_19_code 10 = .ok (.iconst 1, 1) := by decide +kernel
theorem kb_Vr_hasNoRules_11 : decode prog_1_method_19_code 11 = .ok (.goto 4, 3) := by decide +kernel
theorem kb_Vr_hasNoRules_14 : decode prog_1_method_19_code 14 = .ok (.iconst 0, 1) := by decide +kernel
theorem kb_Vr_hasNoRules_15 : decode prog_1_method_19_code 15 = .ok (.ireturn, 1) := by decide +kernel
theorem kb_Vr_forgetRules_0 : decode prog_1_method_20_code 0 = .ok (.aload_n 0, 1) := by decide +kernel
theorem kb_Vr_forgetRules_1 : decode prog_1_method_20_code 1 = .ok (.new 21, 3) := by decide +kernel
theorem kb_Vr_forgetRules_4 : decode prog_1_method_20_code 4 = .ok (.dup, 1) := by decide +kernel
theorem kb_Vr_forgetRules_5 : decode prog_1_method_20_code 5 = .ok (.invokespecial 23, 3) := by decide +kernel
theorem kb_Vr_forgetRules_8 : decode prog_1_method_20_code 8 = .ok (.putfield 24, 3) := by decide +kernel
theorem kb_Vr_forgetRules_11 : decode prog_1_method_20_code 11 = .ok (.aload_n 0, 1) := by decide +kernel
theorem kb_Vr_forgetRules_12 : decode prog_1_method_20_code 12 = .ok (.iconst (-1), 1) := by decide +kernel
theorem kb_Vr_forgetRules_13 : decode prog_1_method_20_code 13 = .ok (.putfield 13, 3) := by decide +kernel
theorem kb_Vr_forgetRules_16 : decode prog_1_method_20_code 16 = .ok (.aload_n 0, 1) := by decide +kernel
theorem kb_Vr_forgetRules_17 : decode prog_1_method_20_code 17 = .ok (.iconst 0, 1) := by decide +kernel
theorem kb_Vr_forgetRules_18 : decode prog_1_method_20_code 18 = .ok (.putfield 96, 3) := by decide +kernel
theorem kb_Vr_forgetRules_21 : decode prog_1_method_20_code 21 = .ok (.aload_n 0, 1) := by decide +kernel
theorem kb_Vr_forgetRules_22 : decode prog_1_method_20_code 22 = .ok (.getfield 42, 3) := by decide +kernel
theorem kb_Vr_forgetRules_25 : decode prog_1_method_20_code 25 = .ok (.iconst 0, 1) := by decide +kernel
theorem kb_Vr_forgetRules_26 : decode prog_1_method_20_code 26 = .ok (.putfield 131, 3) := by decide +kernel
theorem kb_Vr_forgetRules_29 : decode prog_1_method_20_code 29 = .ok (.aload_n 0, 1) := by decide +kernel
theorem kb_Vr_forgetRules_30 : decode prog_1_method_20_code 30 = .ok (.iconst 0, 1) := by decide +kernel
theorem kb_Vr_forgetRules_31 : decode prog_1_method_20_code 31 = .ok (.putfield 156, 3) := by decide +kernel
theorem kb_Vr_forgetRules_34 : decode prog_1_method_20_code 34 = .ok (.aload_n 0, 1) := by decide +kernel
theorem kb_Vr_forgetRules_35 : decode prog_1_method_20_code 35 = .ok (.getfield 50, 3) := by decide +kernel
theorem kb_Vr_forgetRules_38 : decode prog_1_method_20_code 38 = .ok (.iconst 0, 1) := by decide +kernel
theorem kb_Vr_forgetRules_39 : decode prog_1_method_20_code 39 = .ok (.putfield 131, 3) := by decide +kernel
theorem kb_Vr_forgetRules_42 : decode prog_1_method_20_code 42 = .ok (.return_, 1) := by decide +kernel
theorem kb_Vr_keepFault_0 : decode prog_1_method_21_code 0 = .ok (.aload_n 0, 1) := by decide +kernel
theorem kb_Vr_keepFault_1 : decode prog_1_method_21_code 1 = .ok (.aload_n 1, 1) := by decide +kernel
theorem kb_Vr_keepFault_2 : decode prog_1_method_21_code 2 = .ok (.getfield 199, 3) := by decide +kernel
theorem kb_Vr_keepFault_5 : decode prog_1_method_21_code 5 = .ok (.putfield 13, 3) := by decide +kernel
theorem kb_Vr_keepFault_8 : decode prog_1_method_21_code 8 = .ok (.iconst 0, 1) := by decide +kernel
theorem kb_Vr_keepFault_9 : decode prog_1_method_21_code 9 = .ok (.istore_n 2, 1) := by decide +kernel
theorem kb_Vr_keepFault_10 : decode prog_1_method_21_code 10 = .ok (.iload_n 2, 1) := by decide +kernel
theorem kb_Vr_keepFault_11 : decode prog_1_method_21_code 11 = .ok (.aload_n 1, 1) := by decide +kernel
theorem kb_Vr_keepFault_12 : decode prog_1_method_21_code 12 = .ok (.getfield 85, 3) := by decide +kernel
theorem kb_Vr_keepFault_15 : decode prog_1_method_21_code 15 = .ok (.getfield 194, 3) := by decide +kernel
theorem kb_Vr_keepFault_18 : decode prog_1_method_21_code 18 = .ok (.if_icmp .ge 51, 3) := by decide +kernel
theorem kb_Vr_keepFault_21 : decode prog_1_method_21_code 21 = .ok (.aload_n 1, 1) := by decide +kernel
theorem kb_Vr_keepFault_22 : decode prog_1_method_21_code 22 = .ok (.getfield 85, 3) := by decide +kernel
theorem kb_Vr_keepFault_25 : decode prog_1_method_21_code 25 = .ok (.getfield 200, 3) := by decide +kernel
theorem kb_Vr_keepFault_28 : decode prog_1_method_21_code 28 = .ok (.iload_n 2, 1) := by decide +kernel
theorem kb_Vr_keepFault_29 : decode prog_1_method_21_code 29 = .ok (.invokestatic 123, 3) := by decide +kernel
theorem kb_Vr_keepFault_32 : decode prog_1_method_21_code 32 = .ok (.ifCond .eq 31, 3) := by decide +kernel
theorem kb_Vr_keepFault_35 : decode prog_1_method_21_code 35 = .ok (.aload_n 0, 1) := by decide +kernel
theorem kb_Vr_keepFault_36 : decode prog_1_method_21_code 36 = .ok (.getfield 17, 3) := by decide +kernel
theorem kb_Vr_keepFault_39 : decode prog_1_method_21_code 39 = .ok (.aload_n 0, 1) := by decide +kernel
theorem kb_Vr_keepFault_40 : decode prog_1_method_21_code 40 = .ok (.getfield 96, 3) := by decide +kernel
theorem kb_Vr_keepFault_43 : decode prog_1_method_21_code 43 = .ok (.aload_n 1, 1) := by decide +kernel
theorem kb_Vr_keepFault_44 : decode prog_1_method_21_code 44 = .ok (.getfield 85, 3) := by decide +kernel
theorem kb_Vr_keepFault_47 : decode prog_1_method_21_code 47 = .ok (.getfield 203, 3) := by decide +kernel
theorem kb_Vr_keepFault_50 : decode prog_1_method_21_code 50 = .ok (.iload_n 2, 1) := by decide +kernel
theorem kb_Vr_keepFault_51 : decode prog_1_method_21_code 51 = .ok (.iaload, 1) := by decide +kernel
theorem kb_Vr_keepFault_52 : decode prog_1_method_21_code 52 = .ok (.iastore, 1) := by decide +kernel
theorem kb_Vr_keepFault_53 : decode prog_1_method_21_code 53 = .ok (.aload_n 0, 1) := by decide +kernel
theorem kb_Vr_keepFault_54 : decode prog_1_method_21_code 54 = .ok (.dup, 1) := by decide +kernel
theorem kb_Vr_keepFault_55 : decode prog_1_method_21_code 55 = .ok (.getfield 96, 3) := by decide +kernel
theorem kb_Vr_keepFault_58 : decode prog_1_method_21_code 58 = .ok (.iconst 1, 1) := by decide +kernel
theorem kb_Vr_keepFault_59 : decode prog_1_method_21_code 59 = .ok (.iadd, 1) := by decide +kernel
theorem kb_Vr_keepFault_60 : decode prog_1_method_21_code 60 = .ok (.putfield 96, 3) := by decide +kernel
theorem kb_Vr_keepFault_63 : decode prog_1_method_21_code 63 = .ok (.iinc 2 1, 3) := by decide +kernel
theorem kb_Vr_keepFault_66 : decode prog_1_method_21_code 66 = .ok (.goto (-56), 3) := by decide +kernel
theorem kb_Vr_keepFault_69 : decode prog_1_method_21_code 69 = .ok (.return_, 1) := by decide +kernel
theorem kb_Vr_settle_0 : decode prog_1_method_22_code 0 = .ok (.aload_n 0, 1) := by decide +kernel
theorem kb_Vr_settle_1 : decode prog_1_method_22_code 1 = .ok (.invokevirtual 188, 3) := by decide +kernel
theorem kb_Vr_settle_4 : decode prog_1_method_22_code 4 = .ok (.iconst 0, 1) := by decide +kernel
theorem kb_Vr_settle_5 : decode prog_1_method_22_code 5 = .ok (.istore_n 3, 1) := by decide +kernel
theorem kb_Vr_settle_6 : decode prog_1_method_22_code 6 = .ok (.iload_n 3, 1) := by decide +kernel
theorem kb_Vr_settle_7 : decode prog_1_method_22_code 7 = .ok (.aload_n 1, 1) := by decide +kernel
theorem kb_Vr_settle_8 : decode prog_1_method_22_code 8 = .ok (.getfield 131, 3) := by decide +kernel
theorem kb_Vr_settle_11 : decode prog_1_method_22_code 11 = .ok (.if_icmp .ge 38, 3) := by decide +kernel
theorem kb_Vr_settle_14 : decode prog_1_method_22_code 14 = .ok (.aload_n 0, 1) := by decide +kernel
theorem kb_Vr_settle_15 : decode prog_1_method_22_code 15 = .ok (.getfield 34, 3) := by decide +kernel
theorem kb_Vr_settle_18 : decode prog_1_method_22_code 18 = .ok (.aload_n 1, 1) := by decide +kernel
theorem kb_Vr_settle_19 : decode prog_1_method_22_code 19 = .ok (.getfield 143, 3) := by decide +kernel
theorem kb_Vr_settle_22 : decode prog_1_method_22_code 22 = .ok (.iload_n 3, 1) := by decide +kernel
theorem kb_Vr_settle_23 : decode prog_1_method_22_code 23 = .ok (.iaload, 1) := by decide +kernel
theorem kb_Vr_settle_24 : decode prog_1_method_22_code 24 = .ok (.aaload, 1) := by decide +kernel
theorem kb_Vr_settle_25 : decode prog_1_method_22_code 25 = .ok (.aload_n 1, 1) := by decide +kernel
theorem kb_Vr_settle_26 : decode prog_1_method_22_code 26 = .ok (.getfield 149, 3) := by decide +kernel
theorem kb_Vr_settle_29 : decode prog_1_method_22_code 29 = .ok (.iload_n 3, 1) := by decide +kernel
theorem kb_Vr_settle_30 : decode prog_1_method_22_code 30 = .ok (.iaload, 1) := by decide +kernel
theorem kb_Vr_settle_31 : decode prog_1_method_22_code 31 = .ok (.iload_n 2, 1) := by decide +kernel
theorem kb_Vr_settle_32 : decode prog_1_method_22_code 32 = .ok (.aload_n 1, 1) := by decide +kernel
theorem kb_Vr_settle_33 : decode prog_1_method_22_code 33 = .ok (.getfield 146, 3) := by decide +kernel
theorem kb_Vr_settle_36 : decode prog_1_method_22_code 36 = .ok (.iload_n 3, 1) := by decide +kernel
theorem kb_Vr_settle_37 : decode prog_1_method_22_code 37 = .ok (.iaload, 1) := by decide +kernel
theorem kb_Vr_settle_38 : decode prog_1_method_22_code 38 = .ok (.imul, 1) := by decide +kernel
theorem kb_Vr_settle_39 : decode prog_1_method_22_code 39 = .ok (.invokevirtual 206, 3) := by decide +kernel
theorem kb_Vr_settle_42 : decode prog_1_method_22_code 42 = .ok (.pop, 1) := by decide +kernel
theorem kb_Vr_settle_43 : decode prog_1_method_22_code 43 = .ok (.iinc 3 1, 3) := by decide +kernel
theorem kb_Vr_settle_46 : decode prog_1_method_22_code 46 = .ok (.goto (-40), 3) := by decide +kernel
theorem kb_Vr_settle_49 : decode prog_1_method_22_code 49 = .ok (.iconst 0, 1) := by decide +kernel
theorem kb_Vr_settle_50 : decode prog_1_method_22_code 50 = .ok (.istore_n 3, 1) := by decide +kernel
theorem kb_Vr_settle_51 : decode prog_1_method_22_code 51 = .ok (.iconst 0, 1) := by decide +kernel
theorem kb_Vr_settle_52 : decode prog_1_method_22_code 52 = .ok (.istore 4, 2) := by decide +kernel
theorem kb_Vr_settle_54 : decode prog_1_method_22_code 54 = .ok (.iload 4, 2) := by decide +kernel
theorem kb_Vr_settle_56 : decode prog_1_method_22_code 56 = .ok (.aload_n 0, 1) := by decide +kernel
theorem kb_Vr_settle_57 : decode prog_1_method_22_code 57 = .ok (.getfield 24, 3) := by decide +kernel
theorem kb_Vr_settle_60 : decode prog_1_method_22_code 60 = .ok (.getfield 194, 3) := by decide +kernel
theorem kb_Vr_settle_63 : decode prog_1_method_22_code 63 = .ok (.if_icmp .ge 62, 3) := by decide +kernel
theorem kb_Vr_settle_66 : decode prog_1_method_22_code 66 = .ok (.aload_n 0, 1) := by decide +kernel
theorem kb_Vr_settle_67 : decode prog_1_method_22_code 67 = .ok (.getfield 24, 3) := by decide +kernel
theorem kb_Vr_settle_70 : decode prog_1_method_22_code 70 = .ok (.iload 4, 2) := by decide +kernel
theorem kb_Vr_settle_72 : decode prog_1_method_22_code 72 = .ok (.invokevirtual 111, 3) := by decide +kernel
theorem kb_Vr_settle_75 : decode prog_1_method_22_code 75 = .ok (.ifCond .ne 44, 3) := by decide +kernel
theorem kb_Vr_settle_78 : decode prog_1_method_22_code 78 = .ok (.aload_n 0, 1) := by decide +kernel
theorem kb_Vr_settle_79 : decode prog_1_method_22_code 79 = .ok (.getfield 34, 3) := by decide +kernel
theorem kb_Vr_settle_82 : decode prog_1_method_22_code 82 = .ok (.iload 4, 2) := by decide +kernel
theorem kb_Vr_settle_84 : decode prog_1_method_22_code 84 = .ok (.aaload, 1) := by decide +kernel
theorem kb_Vr_settle_85 : decode prog_1_method_22_code 85 = .ok (.invokevirtual 209, 3) := by decide +kernel
theorem kb_Vr_settle_88 : decode prog_1_method_22_code 88 = .ok (.ifCond .ne 6, 3) := by decide +kernel
theorem kb_Vr_settle_91 : decode prog_1_method_22_code 91 = .ok (.bipush (-2), 2) := by decide +kernel
theorem kb_Vr_settle_93 : decode prog_1_method_22_code 93 = .ok (.ireturn, 1) := by decide +kernel
theorem kb_Vr_settle_94 : decode prog_1_method_22_code 94 = .ok (.iload_n 3, 1) := by decide +kernel
theorem kb_Vr_settle_95 : decode prog_1_method_22_code 95 = .ok (.ifCond .ne 18, 3) := by decide +kernel
theorem kb_Vr_settle_98 : decode prog_1_method_22_code 98 = .ok (.aload_n 0, 1) := by decide +kernel
theorem kb_Vr_settle_99 : decode prog_1_method_22_code 99 = .ok (.getfield 34, 3) := by decide +kernel
theorem kb_Vr_settle_102 : decode prog_1_method_22_code 102 = .ok (.iload 4, 2) := by decide +kernel
theorem kb_Vr_settle_104 : decode prog_1_method_22_code 104 = .ok (.aaload, 1) := by decide +kernel
theorem kb_Vr_settle_105 : decode prog_1_method_22_code 105 = .ok (.getfield 82, 3) := by decide +kernel
theorem kb_Vr_settle_108 : decode prog_1_method_22_code 108 = .ok (.bipush 40, 2) := by decide +kernel
theorem kb_Vr_settle_110 : decode prog_1_method_22_code 110 = .ok (.if_icmp .le 7, 3) := by decide +kernel
theorem kb_Vr_settle_113 : decode prog_1_method_22_code 113 = .ok (.iconst 1, 1) := by decide +kernel
theorem kb_Vr_settle_114 : decode prog_1_method_22_code 114 = .ok (.goto 4, 3) := by decide +kernel
theorem kb_Vr_settle_117 : decode prog_1_method_22_code 117 = .ok (.iconst 0, 1) := by decide +kernel
theorem kb_Vr_settle_118 : decode prog_1_method_22_code 118 = .ok (.istore_n 3, 1) := by decide +kernel
theorem kb_Vr_settle_119 : decode prog_1_method_22_code 119 = .ok (.iinc 4 1, 3) := by decide +kernel
theorem kb_Vr_settle_122 : decode prog_1_method_22_code 122 = .ok (.goto (-68), 3) := by decide +kernel
theorem kb_Vr_settle_125 : decode prog_1_method_22_code 125 = .ok (.iload_n 3, 1) := by decide +kernel
theorem kb_Vr_settle_126 : decode prog_1_method_22_code 126 = .ok (.ifCond .ne 21, 3) := by decide +kernel
theorem kb_Vr_settle_129 : decode prog_1_method_22_code 129 = .ok (.aload_n 0, 1) := by decide +kernel
theorem kb_Vr_settle_130 : decode prog_1_method_22_code 130 = .ok (.getfield 56, 3) := by decide +kernel
theorem kb_Vr_settle_133 : decode prog_1_method_22_code 133 = .ok (.aload_n 0, 1) := by decide +kernel
theorem kb_Vr_settle_134 : decode prog_1_method_22_code 134 = .ok (.getfield 24, 3) := by decide +kernel
theorem kb_Vr_settle_137 : decode prog_1_method_22_code 137 = .ok (.aload_n 0, 1) := by decide +kernel
theorem kb_Vr_settle_138 : decode prog_1_method_22_code 138 = .ok (.getfield 34, 3) := by decide +kernel
theorem kb_Vr_settle_141 : decode prog_1_method_22_code 141 = .ok (.invokevirtual 86, 3) := by decide +kernel
theorem kb_Vr_settle_144 : decode prog_1_method_22_code 144 = .ok (.ifCond .ne 6, 3) := by decide +kernel
theorem kb_Vr_settle_147 : decode prog_1_method_22_code 147 = .ok (.bipush (-3), 2) := by decide +kernel
theorem kb_Vr_settle_149 : decode prog_1_method_22_code 149 = .ok (.ireturn, 1) := by decide +kernel
theorem kb_Vr_settle_150 : decode prog_1_method_22_code 150 = .ok (.aload_n 0, 1) := by decide +kernel
theorem kb_Vr_settle_151 : decode prog_1_method_22_code 151 = .ok (.getfield 50, 3) := by decide +kernel
theorem kb_Vr_settle_154 : decode prog_1_method_22_code 154 = .ok (.iconst 0, 1) := by decide +kernel
theorem kb_Vr_settle_155 : decode prog_1_method_22_code 155 = .ok (.putfield 131, 3) := by decide +kernel
theorem kb_Vr_settle_158 : decode prog_1_method_22_code 158 = .ok (.iconst 0, 1) := by decide +kernel
theorem kb_Vr_settle_159 : decode prog_1_method_22_code 159 = .ok (.istore 4, 2) := by decide +kernel
theorem kb_Vr_settle_161 : decode prog_1_method_22_code 161 = .ok (.iload 4, 2) := by decide +kernel
theorem kb_Vr_settle_163 : decode prog_1_method_22_code 163 = .ok (.aload_n 0, 1) := by decide +kernel
theorem kb_Vr_settle_164 : decode prog_1_method_22_code 164 = .ok (.getfield 24, 3) := by decide +kernel
theorem kb_Vr_settle_167 : decode prog_1_method_22_code 167 = .ok (.getfield 194, 3) := by decide +kernel
theorem kb_Vr_settle_170 : decode prog_1_method_22_code 170 = .ok (.if_icmp .ge 41, 3) := by decide +kernel
theorem kb_Vr_settle_173 : decode prog_1_method_22_code 173 = .ok (.aload_n 0, 1) := by decide +kernel
theorem kb_Vr_settle_174 : decode prog_1_method_22_code 174 = .ok (.getfield 24, 3) := by decide +kernel
theorem kb_Vr_settle_177 : decode prog_1_method_22_code 177 = .ok (.iload 4, 2) := by decide +kernel
theorem kb_Vr_settle_179 : decode prog_1_method_22_code 179 = .ok (.invokevirtual 111, 3) := by decide +kernel
theorem kb_Vr_settle_182 : decode prog_1_method_22_code 182 = .ok (.ifCond .eq 23, 3) := by decide +kernel
theorem kb_Vr_settle_185 : decode prog_1_method_22_code 185 = .ok (.aload_n 0, 1) := by decide +kernel
theorem kb_Vr_settle_186 : decode prog_1_method_22_code 186 = .ok (.iload 4, 2) := by decide +kernel
theorem kb_Vr_settle_188 : decode prog_1_method_22_code 188 = .ok (.aload_n 0, 1) := by decide +kernel
theorem kb_Vr_settle_189 : decode prog_1_method_22_code 189 = .ok (.getfield 30, 3) := by decide +kernel
theorem kb_Vr_settle_192 : decode prog_1_method_22_code 192 = .ok (.iload 4, 2) := by decide +kernel
theorem kb_Vr_settle_194 : decode prog_1_method_22_code 194 = .ok (.aaload, 1) := by decide +kernel
theorem kb_Vr_settle_195 : decode prog_1_method_22_code 195 = .ok (.aload_n 0, 1) := by decide +kernel
theorem kb_Vr_settle_196 : decode prog_1_method_22_code 196 = .ok (.getfield 34, 3) := by decide +kernel
theorem kb_Vr_settle_199 : decode prog_1_method_22_code 199 = .ok (.iload 4, 2) := by decide +kernel
theorem kb_Vr_settle_201 : decode prog_1_method_22_code 201 = .ok (.aaload, 1) := by decide +kernel
theorem kb_Vr_settle_202 : decode prog_1_method_22_code 202 = .ok (.invokevirtual 212, 3) := by decide +kernel
theorem kb_Vr_settle_205 : decode prog_1_method_22_code 205 = .ok (.iinc 4 1, 3) := by decide +kernel
theorem kb_Vr_settle_208 : decode prog_1_method_22_code 208 = .ok (.goto (-47), 3) := by decide +kernel
theorem kb_Vr_settle_211 : decode prog_1_method_22_code 211 = .ok (.aload_n 0, 1) := by decide +kernel
theorem kb_Vr_settle_212 : decode prog_1_method_22_code 212 = .ok (.invokevirtual 90, 3) := by decide +kernel
theorem kb_Vr_settle_215 : decode prog_1_method_22_code 215 = .ok (.aload_n 0, 1) := by decide +kernel
theorem kb_Vr_settle_216 : decode prog_1_method_22_code 216 = .ok (.getfield 50, 3) := by decide +kernel
theorem kb_Vr_settle_219 : decode prog_1_method_22_code 219 = .ok (.getfield 131, 3) := by decide +kernel
theorem kb_Vr_settle_222 : decode prog_1_method_22_code 222 = .ok (.ireturn, 1) := by decide +kernel
theorem kb_Vr_noteDifferences_0 : decode prog_1_method_23_code 0 = .ok (.iconst 0, 1) := by decide +kernel
theorem kb_Vr_noteDifferences_1 : decode prog_1_method_23_code 1 = .ok (.istore 4, 2) := by decide +kernel
theorem kb_Vr_noteDifferences_3 : decode prog_1_method_23_code 3 = .ok (.iconst 0, 1) := by decide +kernel
theorem kb_Vr_noteDifferences_4 : decode prog_1_method_23_code 4 = .ok (.istore 5, 2) := by decide +kernel
theorem kb_Vr_noteDifferences_6 : decode prog_1_method_23_code 6 = .ok (.iconst 0, 1) := by decide +kernel
theorem kb_Vr_noteDifferences_7 : decode prog_1_method_23_code 7 = .ok (.istore 6, 2) := by decide +kernel
theorem kb_Vr_noteDifferences_9 : decode prog_1_method_23_code 9 = .ok (.iload 6, 2) := by decide +kernel
theorem kb_Vr_noteDifferences_11 : decode prog_1_method_23_code 11 = .ok (.bipush 80, 2) := by decide +kernel
theorem kb_Vr_noteDifferences_13 : decode prog_1_method_23_code 13 = .ok (.if_icmp .ge 182, 3) := by decide +kernel
theorem kb_Vr_noteDifferences_16 : decode prog_1_method_23_code 16 = .ok (.iload 4, 2) := by decide +kernel
theorem kb_Vr_noteDifferences_18 : decode prog_1_method_23_code 18 = .ok (.aload_n 2, 1) := by decide +kernel
theorem kb_Vr_noteDifferences_19 : decode prog_1_method_23_code 19 = .ok (.getfield 82, 3) := by decide +kernel
theorem kb_Vr_noteDifferences_22 : decode prog_1_method_23_code 22 = .ok (.if_icmp .lt 12, 3) := by decide +kernel
theorem kb_Vr_noteDifferences_25 : decode prog_1_method_23_code 25 = .ok (.iload 5, 2) := by decide +kernel
theorem kb_Vr_noteDifferences_27 : decode prog_1_method_23_code 27 = .ok (.aload_n 3, 1) := by decide +kernel
theorem kb_Vr_noteDifferences_28 : decode prog_1_method_23_code 28 = .ok (.getfield 82, 3) := by decide +kernel
theorem kb_Vr_noteDifferences_31 : decode prog_1_method_23_code 31 = .ok (.if_icmp .ge 164, 3) := by decide +kernel
theorem kb_Vr_noteDifferences_34 : decode prog_1_method_23_code 34 = .ok (.iload 5, 2) := by decide +kernel
theorem kb_Vr_noteDifferences_36 : decode prog_1_method_23_code 36 = .ok (.aload_n 3, 1) := by decide +kernel
theorem kb_Vr_noteDifferences_37 : decode prog_1_method_23_code 37 = .ok (.getfield 82, 3) := by decide +kernel
theorem kb_Vr_noteDifferences_40 : decode prog_1_method_23_code 40 = .ok (.if_icmp .ge 29, 3) := by decide +kernel
theorem kb_Vr_noteDifferences_43 : decode prog_1_method_23_code 43 = .ok (.iload 4, 2) := by decide +kernel
theorem kb_Vr_noteDifferences_45 : decode prog_1_method_23_code 45 = .ok (.aload_n 2, 1) := by decide +kernel
theorem kb_Vr_noteDifferences_46 : decode prog_1_method_23_code 46 = .ok (.getfield 82, 3) := by decide +kernel
theorem kb_Vr_noteDifferences_49 : decode prog_1_method_23_code 49 = .ok (.if_icmp .ge 24, 3) := by decide +kernel
theorem kb_Vr_noteDifferences_52 : decode prog_1_method_23_code 52 = .ok (.aload_n 2, 1) := by decide +kernel
theorem kb_Vr_noteDifferences_53 : decode prog_1_method_23_code 53 = .ok (.getfield 165, 3) := by decide +kernel
theorem kb_Vr_noteDifferences_56 : decode prog_1_method_23_code 56 = .ok (.iload 4, 2) := by decide +kernel
theorem kb_Vr_noteDifferences_58 : decode prog_1_method_23_code 58 = .ok (.iaload, 1) := by decide +kernel
theorem kb_Vr_noteDifferences_59 : decode prog_1_method_23_code 59 = .ok (.aload_n 3, 1) := by decide +kernel
theorem kb_Vr_noteDifferences_60 : decode prog_1_method_23_code 60 = .ok (.getfield 165, 3) := by decide +kernel
theorem kb_Vr_noteDifferences_63 : decode prog_1_method_23_code 63 = .ok (.iload 5, 2) := by decide +kernel
theorem kb_Vr_noteDifferences_65 : decode prog_1_method_23_code 65 = .ok (.iaload, 1) := by decide +kernel
theorem kb_Vr_noteDifferences_66 : decode prog_1_method_23_code 66 = .ok (.if_icmp .ge 7, 3) := by decide +kernel
theorem kb_Vr_noteDifferences_69 : decode prog_1_method_23_code 69 = .ok (.iconst 1, 1) := by decide +kernel
theorem kb_Vr_noteDifferences_70 : decode prog_1_method_23_code 70 = .ok (.goto 4, 3) := by decide +kernel
theorem kb_Vr_noteDifferences_73 : decode prog_1_method_23_code 73 = .ok (.iconst 0, 1) := by decide +kernel
theorem kb_Vr_noteDifferences_74 : decode prog_1_method_23_code 74 = .ok (.istore 7, 2) := by decide +kernel
theorem kb_Vr_noteDifferences_76 : decode prog_1_method_23_code 76 = .ok (.iload 7, 2) := by decide +kernel
theorem kb_Vr_noteDifferences_78 : decode prog_1_method_23_code 78 = .ok (.ifCond .ne 33, 3) := by decide +kernel
theorem kb_Vr_noteDifferences_81 : decode prog_1_method_23_code 81 = .ok (.iload 4, 2) := by decide +kernel
theorem kb_Vr_noteDifferences_83 : decode prog_1_method_23_code 83 = .ok (.aload_n 2, 1) := by decide +kernel
theorem kb_Vr_noteDifferences_84 : decode prog_1_method_23_code 84 = .ok (.getfield 82, 3) := by decide +kernel
theorem kb_Vr_noteDifferences_87 : decode prog_1_method_23_code 87 = .ok (.if_icmp .ge 20, 3) := by decide +kernel
theorem kb_Vr_noteDifferences_90 : decode prog_1_method_23_code 90 = .ok (.aload_n 3, 1) := by decide +kernel
theorem kb_Vr_noteDifferences_91 : decode prog_1_method_23_code 91 = .ok (.getfield 165, 3) := by decide +kernel
theorem kb_Vr_noteDifferences_94 : decode prog_1_method_23_code 94 = .ok (.iload 5, 2) := by decide +kernel
theorem kb_Vr_noteDifferences_96 : decode prog_1_method_23_code 96 = .ok (.iaload, 1) := by decide +kernel
theorem kb_Vr_noteDifferences_97 : decode prog_1_method_23_code 97 = .ok (.aload_n 2, 1) := by decide +kernel
theorem kb_Vr_noteDifferences_98 : decode prog_1_method_23_code 98 = .ok (.getfield 165, 3) := by decide +kernel
theorem kb_Vr_noteDifferences_101 : decode prog_1_method_23_code 101 = .ok (.iload 4, 2) := by decide +kernel
theorem kb_Vr_noteDifferences_103 : decode prog_1_method_23_code 103 = .ok (.iaload, 1) := by decide +kernel
theorem kb_Vr_noteDifferences_104 : decode prog_1_method_23_code 104 = .ok (.if_icmp .ge 7, 3) := by decide +kernel
theorem kb_Vr_noteDifferences_107 : decode prog_1_method_23_code 107 = .ok (.iconst 1, 1) := by decide +kernel
theorem kb_Vr_noteDifferences_108 : decode prog_1_method_23_code 108 = .ok (.goto 4, 3) := by decide +kernel
theorem kb_Vr_noteDifferences_111 : decode prog_1_method_23_code 111 = .ok (.iconst 0, 1) := by decide +kernel
theorem kb_Vr_noteDifferences_112 : decode prog_1_method_23_code 112 = .ok (.istore 8, 2) := by decide +kernel
theorem kb_Vr_noteDifferences_114 : decode prog_1_method_23_code 114 = .ok (.iload 7, 2) := by decide +kernel
theorem kb_Vr_noteDifferences_116 : decode prog_1_method_23_code 116 = .ok (.ifCond .eq 22, 3) := by decide +kernel
theorem kb_Vr_noteDifferences_119 : decode prog_1_method_23_code 119 = .ok (.aload_n 0, 1) := by decide +kernel
theorem kb_Vr_noteDifferences_120 : decode prog_1_method_23_code 120 = .ok (.getfield 50, 3) := by decide +kernel
theorem kb_Vr_noteDifferences_123 : decode prog_1_method_23_code 123 = .ok (.iload_n 1, 1) := by decide +kernel
theorem kb_Vr_noteDifferences_124 : decode prog_1_method_23_code 124 = .ok (.aload_n 2, 1) := by decide +kernel
theorem kb_Vr_noteDifferences_125 : decode prog_1_method_23_code 125 = .ok (.getfield 165, 3) := by decide +kernel
theorem kb_Vr_noteDifferences_128 : decode prog_1_method_23_code 128 = .ok (.iload 4, 2) := by decide +kernel
theorem kb_Vr_noteDifferences_130 : decode prog_1_method_23_code 130 = .ok (.iaload, 1) := by decide +kernel
theorem kb_Vr_noteDifferences_131 : decode prog_1_method_23_code 131 = .ok (.iconst (-1), 1) := by decide +kernel
theorem kb_Vr_noteDifferences_132 : decode prog_1_method_23_code 132 = .ok (.invokevirtual 132, 3) := by decide +kernel
theorem kb_Vr_noteDifferences_135 : decode prog_1_method_23_code 135 = .ok (.goto 24, 3) := by decide +kernel
theorem kb_Vr_noteDifferences_138 : decode prog_1_method_23_code 138 = .ok (.iload 8, 2) := by decide +kernel
theorem kb_Vr_noteDifferences_140 : decode prog_1_method_23_code 140 = .ok (.ifCond .eq 19, 3) := by decide +kernel
theorem kb_Vr_noteDifferences_143 : decode prog_1_method_23_code 143 = .ok (.aload_n 0, 1) := by decide +kernel
theorem kb_Vr_noteDifferences_144 : decode prog_1_method_23_code 144 = .ok (.getfield 50, 3) := by decide +kernel
theorem kb_Vr_noteDifferences_147 : decode prog_1_method_23_code 147 = .ok (.iload_n 1, 1) := by decide +kernel
theorem kb_Vr_noteDifferences_148 : decode prog_1_method_23_code 148 = .ok (.aload_n 3, 1) := by decide +kernel
theorem kb_Vr_noteDifferences_149 : decode prog_1_method_23_code 149 = .ok (.getfield 165, 3) := by decide +kernel
theorem kb_Vr_noteDifferences_152 : decode prog_1_method_23_code 152 = .ok (.iload 5, 2) := by decide +kernel
theorem kb_Vr_noteDifferences_154 : decode prog_1_method_23_code 154 = .ok (.iaload, 1) := by decide +kernel
theorem kb_Vr_noteDifferences_155 : decode prog_1_method_23_code 155 = .ok (.iconst 1, 1) := by decide +kernel
theorem kb_Vr_noteDifferences_156 : decode prog_1_method_23_code 156 = .ok (.invokevirtual 132, 3) := by decide +kernel
theorem kb_Vr_noteDifferences_159 : decode prog_1_method_23_code 159 = .ok (.iload 4, 2) := by decide +kernel
theorem kb_Vr_noteDifferences_161 : decode prog_1_method_23_code 161 = .ok (.iload 8, 2) := by decide +kernel
theorem kb_Vr_noteDifferences_163 : decode prog_1_method_23_code 163 = .ok (.ifCond .eq 7, 3) := by decide +kernel
theorem kb_Vr_noteDifferences_166 : decode prog_1_method_23_code 166 = .ok (.iconst 0, 1) := by decide +kernel
theorem kb_Vr_noteDifferences_167 : decode prog_1_method_23_code 167 = .ok (.goto 4, 3) := by decide +kernel
theorem kb_Vr_noteDifferences_170 : decode prog_1_method_23_code 170 = .ok (.iconst 1, 1) := by decide +kernel
theorem kb_Vr_noteDifferences_171 : decode prog_1_method_23_code 171 = .ok (.iadd, 1) := by decide +kernel
theorem kb_Vr_noteDifferences_172 : decode prog_1_method_23_code 172 = .ok (.istore 4, 2) := by decide +kernel
theorem kb_Vr_noteDifferences_174 : decode prog_1_method_23_code 174 = .ok (.iload 5, 2) := by decide +kernel
theorem kb_Vr_noteDifferences_176 : decode prog_1_method_23_code 176 = .ok (.iload 7, 2) := by decide +kernel
theorem kb_Vr_noteDifferences_178 : decode prog_1_method_23_code 178 = .ok (.ifCond .eq 7, 3) := by decide +kernel
theorem kb_Vr_noteDifferences_181 : decode prog_1_method_23_code 181 = .ok (.iconst 0, 1) := by decide +kernel
theorem kb_Vr_noteDifferences_182 : decode prog_1_method_23_code 182 = .ok (.goto 4, 3) := by decide +kernel
theorem kb_Vr_noteDifferences_185 : decode prog_1_method_23_code 185 = .ok (.iconst 1, 1) := by decide +kernel
theorem kb_Vr_noteDifferences_186 : decode prog_1_method_23_code 186 = .ok (.iadd, 1) := by decide +kernel
theorem kb_Vr_noteDifferences_187 : decode prog_1_method_23_code 187 = .ok (.istore 5, 2) := by decide +kernel
theorem kb_Vr_noteDifferences_189 : decode prog_1_method_23_code 189 = .ok (.iinc 6 1, 3) := by decide +kernel
theorem kb_Vr_noteDifferences_192 : decode prog_1_method_23_code 192 = .ok (.goto (-183), 3) := by decide +kernel
theorem kb_Vr_noteDifferences_195 : decode prog_1_method_23_code 195 = .ok (.return_, 1) := by decide +kernel
theorem kb_Vr_keepForTakingBack_0 : decode prog_1_method_24_code 0 = .ok (.aload_n 0, 1) := by decide +kernel
theorem kb_Vr_keepForTakingBack_1 : decode prog_1_method_24_code 1 = .ok (.getfield 156, 3) := by decide +kernel
theorem kb_Vr_keepForTakingBack_4 : decode prog_1_method_24_code 4 = .ok (.bipush 6, 2) := by decide +kernel
theorem kb_Vr_keepForTakingBack_6 : decode prog_1_method_24_code 6 = .ok (.if_icmp .ne 55, 3) := by decide +kernel
theorem kb_Vr_keepForTakingBack_9 : decode prog_1_method_24_code 9 = .ok (.aload_n 0, 1) := by decide +kernel
theorem kb_Vr_keepForTakingBack_10 : decode prog_1_method_24_code 10 = .ok (.getfield 46, 3) := by decide +kernel
theorem kb_Vr_keepForTakingBack_13 : decode prog_1_method_24_code 13 = .ok (.iconst 0, 1) := by decide +kernel
theorem kb_Vr_keepForTakingBack_14 : decode prog_1_method_24_code 14 = .ok (.aaload, 1) := by decide +kernel
theorem kb_Vr_keepForTakingBack_15 : decode prog_1_method_24_code 15 = .ok (.astore_n 1, 1) := by decide +kernel
theorem kb_Vr_keepForTakingBack_16 : decode prog_1_method_24_code 16 = .ok (.iconst 1, 1) := by decide +kernel
theorem kb_Vr_keepForTakingBack_17 : decode prog_1_method_24_code 17 = .ok (.istore_n 2, 1) := by decide +kernel
theorem kb_Vr_keepForTakingBack_18 : decode prog_1_method_24_code 18 = .ok (.iload_n 2, 1) := by decide +kernel
theorem kb_Vr_keepForTakingBack_19 : decode prog_1_method_24_code 19 = .ok (.bipush 6, 2) := by decide +kernel
theorem kb_Vr_keepForTakingBack_21 : decode prog_1_method_24_code 21 = .ok (.if_icmp .ge 23, 3) := by decide +kernel
theorem kb_Vr_keepForTakingBack_24 : decode prog_1_method_24_code 24 = .ok (.aload_n 0, 1) := by decide +kernel
theorem kb_Vr_keepForTakingBack_25 : decode prog_1_method_24_code 25 = .ok (.getfield 46, 3) := by decide +kernel
theorem kb_Vr_keepForTakingBack_28 : decode prog_1_method_24_code 28 = .ok (.iload_n 2, 1) := by decide +kernel
theorem kb_Vr_keepForTakingBack_29 : decode prog_1_method_24_code 29 = .ok (.iconst 1, 1) := by decide +kernel
theorem kb_Vr_keepForTakingBack_30 : decode prog_1_method_24_code 30 = .ok (.isub, 1) := by decide +kernel
theorem kb_Vr_keepForTakingBack_31 : decode prog_1_method_24_code 31 = .ok (.aload_n 0, 1) := by decide +kernel
theorem kb_Vr_keepForTakingBack_32 : decode prog_1_method_24_code 32 = .ok (.getfield 46, 3) := by decide +kernel
theorem kb_Vr_keepForTakingBack_35 : decode prog_1_method_24_code 35 = .ok (.iload_n 2, 1) := by decide +kernel
theorem kb_Vr_keepForTakingBack_36 : decode prog_1_method_24_code 36 = .ok (.aaload, 1) := by decide +kernel
theorem kb_Vr_keepForTakingBack_37 : decode prog_1_method_24_code 37 = .ok (.aastore, 1) := by decide +kernel
theorem kb_Vr_keepForTakingBack_38 : decode prog_1_method_24_code 38 = .ok (.iinc 2 1, 3) := by decide +kernel
theorem kb_Vr_keepForTakingBack_41 : decode prog_1_method_24_code 41 = .ok (.goto (-23), 3) := by decide +kernel
theorem kb_Vr_keepForTakingBack_44 : decode prog_1_method_24_code 44 = .ok (.aload_n 0, 1) := by decide +kernel
theorem kb_Vr_keepForTakingBack_45 : decode prog_1_method_24_code 45 = .ok (.getfield 46, 3) := by decide +kernel
theorem kb_Vr_keepForTakingBack_48 : decode prog_1_method_24_code 48 = .ok (.iconst 5, 1) := by decide +kernel
theorem kb_Vr_keepForTakingBack_49 : decode prog_1_method_24_code 49 = .ok (.aload_n 1, 1) := by decide +kernel
theorem kb_Vr_keepForTakingBack_50 : decode prog_1_method_24_code 50 = .ok (.aastore, 1) := by decide +kernel
theorem kb_Vr_keepForTakingBack_51 : decode prog_1_method_24_code 51 = .ok (.aload_n 0, 1) := by decide +kernel
theorem kb_Vr_keepForTakingBack_52 : decode prog_1_method_24_code 52 = .ok (.dup, 1) := by decide +kernel
theorem kb_Vr_keepForTakingBack_53 : decode prog_1_method_24_code 53 = .ok (.getfield 156, 3) := by decide +kernel
theorem kb_Vr_keepForTakingBack_56 : decode prog_1_method_24_code 56 = .ok (.iconst 1, 1) := by decide +kernel
theorem kb_Vr_keepForTakingBack_57 : decode prog_1_method_24_code 57 = .ok (.isub, 1) := by decide +kernel
theorem kb_Vr_keepForTakingBack_58 : decode prog_1_method_24_code 58 = .ok (.putfield 156, 3) := by decide +kernel
theorem kb_Vr_keepForTakingBack_61 : decode prog_1_method_24_code 61 = .ok (.aload_n 0, 1) := by decide +kernel
theorem kb_Vr_keepForTakingBack_62 : decode prog_1_method_24_code 62 = .ok (.getfield 46, 3) := by decide +kernel
theorem kb_Vr_keepForTakingBack_65 : decode prog_1_method_24_code 65 = .ok (.aload_n 0, 1) := by decide +kernel
theorem kb_Vr_keepForTakingBack_66 : decode prog_1_method_24_code 66 = .ok (.getfield 156, 3) := by decide +kernel
theorem kb_Vr_keepForTakingBack_69 : decode prog_1_method_24_code 69 = .ok (.aaload, 1) := by decide +kernel
theorem kb_Vr_keepForTakingBack_70 : decode prog_1_method_24_code 70 = .ok (.astore_n 1, 1) := by decide +kernel
theorem kb_Vr_keepForTakingBack_71 : decode prog_1_method_24_code 71 = .ok (.aload_n 0, 1) := by decide +kernel
theorem kb_Vr_keepForTakingBack_72 : decode prog_1_method_24_code 72 = .ok (.getfield 46, 3) := by decide +kernel
theorem kb_Vr_keepForTakingBack_75 : decode prog_1_method_24_code 75 = .ok (.aload_n 0, 1) := by decide +kernel
theorem kb_Vr_keepForTakingBack_76 : decode prog_1_method_24_code 76 = .ok (.getfield 156, 3) := by decide +kernel
theorem kb_Vr_keepForTakingBack_79 : decode prog_1_method_24_code 79 = .ok (.aload_n 0, 1) := by decide +kernel
theorem kb_Vr_keepForTakingBack_80 : decode prog_1_method_24_code 80 = .ok (.getfield 42, 3) := by decide +kernel
theorem kb_Vr_keepForTakingBack_83 : decode prog_1_method_24_code 83 = .ok (.aastore, 1) := by decide +kernel
theorem kb_Vr_keepForTakingBack_84 : decode prog_1_method_24_code 84 = .ok (.aload_n 0, 1) := by decide +kernel
theorem kb_Vr_keepForTakingBack_85 : decode prog_1_method_24_code 85 = .ok (.aload_n 1, 1) := by decide +kernel
theorem kb_Vr_keepForTakingBack_86 : decode prog_1_method_24_code 86 = .ok (.putfield 42, 3) := by decide +kernel
theorem kb_Vr_keepForTakingBack_89 : decode prog_1_method_24_code 89 = .ok (.aload_n 0, 1) := by decide +kernel
theorem kb_Vr_keepForTakingBack_90 : decode prog_1_method_24_code 90 = .ok (.dup, 1) := by decide +kernel
theorem kb_Vr_keepForTakingBack_91 : decode prog_1_method_24_code 91 = .ok (.getfield 156, 3) := by decide +kernel
theorem kb_Vr_keepForTakingBack_94 : decode prog_1_method_24_code 94 = .ok (.iconst 1, 1) := by decide +kernel
theorem kb_Vr_keepForTakingBack_95 : decode prog_1_method_24_code 95 = .ok (.iadd, 1) := by decide +kernel
theorem kb_Vr_keepForTakingBack_96 : decode prog_1_method_24_code 96 = .ok (.putfield 156, 3) := by decide +kernel
theorem kb_Vr_keepForTakingBack_99 : decode prog_1_method_24_code 99 = .ok (.return_, 1) := by decide +kernel
theorem kb_Vr_copyTables_0 : decode prog_1_method_25_code 0 = .ok (.iconst 0, 1) := by decide +kernel
theorem kb_Vr_copyTables_1 : decode prog_1_method_25_code 1 = .ok (.istore_n 1, 1) := by decide +kernel
theorem kb_Vr_copyTables_2 : decode prog_1_method_25_code 2 = .ok (.iload_n 1, 1) := by decide +kernel
theorem kb_Vr_copyTables_3 : decode prog_1_method_25_code 3 = .ok (.aload_n 0, 1) := by decide +kernel
theorem kb_Vr_copyTables_4 : decode prog_1_method_25_code 4 = .ok (.getfield 24, 3) := by decide +kernel
theorem kb_Vr_copyTables_7 : decode prog_1_method_25_code 7 = .ok (.getfield 194, 3) := by decide +kernel
theorem kb_Vr_copyTables_10 : decode prog_1_method_25_code 10 = .ok (.if_icmp .ge 35, 3) := by decide +kernel
theorem kb_Vr_copyTables_13 : decode prog_1_method_25_code 13 = .ok (.aload_n 0, 1) := by decide +kernel
theorem kb_Vr_copyTables_14 : decode prog_1_method_25_code 14 = .ok (.getfield 24, 3) := by decide +kernel
theorem kb_Vr_copyTables_17 : decode prog_1_method_25_code 17 = .ok (.iload_n 1, 1) := by decide +kernel
theorem kb_Vr_copyTables_18 : decode prog_1_method_25_code 18 = .ok (.invokevirtual 111, 3) := by decide +kernel
theorem kb_Vr_copyTables_21 : decode prog_1_method_25_code 21 = .ok (.ifCond .ne 18, 3) := by decide +kernel
theorem kb_Vr_copyTables_24 : decode prog_1_method_25_code 24 = .ok (.aload_n 0, 1) := by decide +kernel
theorem kb_Vr_copyTables_25 : decode prog_1_method_25_code 25 = .ok (.getfield 34, 3) := by decide +kernel
theorem kb_Vr_copyTables_28 : decode prog_1_method_25_code 28 = .ok (.iload_n 1, 1) := by decide +kernel
theorem kb_Vr_copyTables_29 : decode prog_1_method_25_code 29 = .ok (.aaload, 1) := by decide +kernel
theorem kb_Vr_copyTables_30 : decode prog_1_method_25_code 30 = .ok (.aload_n 0, 1) := by decide +kernel
theorem kb_Vr_copyTables_31 : decode prog_1_method_25_code 31 = .ok (.getfield 30, 3) := by decide +kernel
theorem kb_Vr_copyTables_34 : decode prog_1_method_25_code 34 = .ok (.iload_n 1, 1) := by decide +kernel
theorem kb_Vr_copyTables_35 : decode prog_1_method_25_code 35 = .ok (.aaload, 1) := by decide +kernel
theorem kb_Vr_copyTables_36 : decode prog_1_method_25_code 36 = .ok (.invokevirtual 216, 3) := by decide +kernel
theorem kb_Vr_copyTables_39 : decode prog_1_method_25_code 39 = .ok (.iinc 1 1, 3) := by decide +kernel
theorem kb_Vr_copyTables_42 : decode prog_1_method_25_code 42 = .ok (.goto (-40), 3) := by decide +kernel
theorem kb_Vr_copyTables_45 : decode prog_1_method_25_code 45 = .ok (.return_, 1) := by decide +kernel
theorem kb_Vr_takeNext_0 : decode prog_1_method_26_code 0 = .ok (.aload_n 0, 1) := by decide +kernel
theorem kb_Vr_takeNext_1 : decode prog_1_method_26_code 1 = .ok (.getfield 30, 3) := by decide +kernel
theorem kb_Vr_takeNext_4 : decode prog_1_method_26_code 4 = .ok (.astore_n 1, 1) := by decide +kernel
theorem kb_Vr_takeNext_5 : decode prog_1_method_26_code 5 = .ok (.aload_n 0, 1) := by decide +kernel
theorem kb_Vr_takeNext_6 : decode prog_1_method_26_code 6 = .ok (.aload_n 0, 1) := by decide +kernel
theorem kb_Vr_takeNext_7 : decode prog_1_method_26_code 7 = .ok (.getfield 34, 3) := by decide +kernel
theorem kb_Vr_takeNext_10 : decode prog_1_method_26_code 10 = .ok (.putfield 30, 3) := by decide +kernel
theorem kb_Vr_takeNext_13 : decode prog_1_method_26_code 13 = .ok (.aload_n 0, 1) := by decide +kernel
theorem kb_Vr_takeNext_14 : decode prog_1_method_26_code 14 = .ok (.aload_n 1, 1) := by decide +kernel
theorem kb_Vr_takeNext_15 : decode prog_1_method_26_code 15 = .ok (.putfield 34, 3) := by decide +kernel
theorem kb_Vr_takeNext_18 : decode prog_1_method_26_code 18 = .ok (.return_, 1) := by decide +kernel
theorem kb_Vr_viewsAreTheSame_0 : decode prog_1_method_27_code 0 = .ok (.iconst 0, 1) := by decide +kernel
theorem kb_Vr_viewsAreTheSame_1 : decode prog_1_method_27_code 1 = .ok (.istore_n 1, 1) := by decide +kernel
theorem kb_Vr_viewsAreTheSame_2 : decode prog_1_method_27_code 2 = .ok (.iload_n 1, 1) := by decide +kernel
theorem kb_Vr_viewsAreTheSame_3 : decode prog_1_method_27_code 3 = .ok (.aload_n 0, 1) := by decide +kernel
theorem kb_Vr_viewsAreTheSame_4 : decode prog_1_method_27_code 4 = .ok (.getfield 24, 3) := by decide +kernel
theorem kb_Vr_viewsAreTheSame_7 : decode prog_1_method_27_code 7 = .ok (.getfield 194, 3) := by decide +kernel
theorem kb_Vr_viewsAreTheSame_10 : decode prog_1_method_27_code 10 = .ok (.if_icmp .ge 40, 3) := by decide +kernel
theorem kb_Vr_viewsAreTheSame_13 : decode prog_1_method_27_code 13 = .ok (.aload_n 0, 1) := by decide +kernel
theorem kb_Vr_viewsAreTheSame_14 : decode prog_1_method_27_code 14 = .ok (.getfield 24, 3) := by decide +kernel
theorem kb_Vr_viewsAreTheSame_17 : decode prog_1_method_27_code 17 = .ok (.iload_n 1, 1) := by decide +kernel
theorem kb_Vr_viewsAreTheSame_18 : decode prog_1_method_27_code 18 = .ok (.invokevirtual 111, 3) := by decide +kernel
theorem kb_Vr_viewsAreTheSame_21 : decode prog_1_method_27_code 21 = .ok (.ifCond .eq 23, 3) := by decide +kernel
theorem kb_Vr_viewsAreTheSame_24 : decode prog_1_method_27_code 24 = .ok (.aload_n 0, 1) := by decide +kernel
theorem kb_Vr_viewsAreTheSame_25 : decode prog_1_method_27_code 25 = .ok (.getfield 30, 3) := by decide +kernel
theorem kb_Vr_viewsAreTheSame_28 : decode prog_1_method_27_code 28 = .ok (.iload_n 1, 1) := by decide +kernel
theorem kb_Vr_viewsAreTheSame_29 : decode prog_1_method_27_code 29 = .ok (.aaload, 1) := by decide +kernel
theorem kb_Vr_viewsAreTheSame_30 : decode prog_1_method_27_code 30 = .ok (.aload_n 0, 1) := by decide +kernel
theorem kb_Vr_viewsAreTheSame_31 : decode prog_1_method_27_code 31 = .ok (.getfield 34, 3) := by decide +kernel
theorem kb_Vr_viewsAreTheSame_34 : decode prog_1_method_27_code 34 = .ok (.iload_n 1, 1) := by decide +kernel
theorem kb_Vr_viewsAreTheSame_35 : decode prog_1_method_27_code 35 = .ok (.aaload, 1) := by decide +kernel
theorem kb_Vr_viewsAreTheSame_36 : decode prog_1_method_27_code 36 = .ok (.invokevirtual 220, 3) := by decide +kernel
theorem kb_Vr_viewsAreTheSame_39 : decode prog_1_method_27_code 39 = .ok (.ifCond .ne 5, 3) := by decide +kernel
theorem kb_Vr_viewsAreTheSame_42 : decode prog_1_method_27_code 42 = .ok (.iconst 0, 1) := by decide +kernel
theorem kb_Vr_viewsAreTheSame_43 : decode prog_1_method_27_code 43 = .ok (.ireturn, 1) := by decide +kernel
theorem kb_Vr_viewsAreTheSame_44 : decode prog_1_method_27_code 44 = .ok (.iinc 1 1, 3) := by decide +kernel
theorem kb_Vr_viewsAreTheSame_47 : decode prog_1_method_27_code 47 = .ok (.goto (-45), 3) := by decide +kernel
theorem kb_Vr_viewsAreTheSame_50 : decode prog_1_method_27_code 50 = .ok (.iconst 1, 1) := by decide +kernel
theorem kb_Vr_viewsAreTheSame_51 : decode prog_1_method_27_code 51 = .ok (.ireturn, 1) := by decide +kernel
theorem kb_Vr_isIn_0 : decode prog_1_method_28_code 0 = .ok (.iload_n 0, 1) := by decide +kernel
theorem kb_Vr_isIn_1 : decode prog_1_method_28_code 1 = .ok (.iconst 1, 1) := by decide +kernel
theorem kb_Vr_isIn_2 : decode prog_1_method_28_code 2 = .ok (.iload_n 1, 1) := by decide +kernel
theorem kb_Vr_isIn_3 : decode prog_1_method_28_code 3 = .ok (.ishl, 1) := by decide +kernel
theorem kb_Vr_isIn_4 : decode prog_1_method_28_code 4 = .ok (.iand, 1) := by decide +kernel
theorem kb_Vr_isIn_5 : decode prog_1_method_28_code 5 = .ok (.ifCond .eq 7, 3) := by decide +kernel
theorem kb_Vr_isIn_8 : decode prog_1_method_28_code 8 = .ok (.iconst 1, 1) := by decide +kernel
theorem kb_Vr_isIn_9 : decode prog_1_method_28_code 9 = .ok (.goto 4, 3) := by decide +kernel
theorem kb_Vr_isIn_12 : decode prog_1_method_28_code 12 = .ok (.iconst 0, 1) := by decide +kernel
theorem kb_Vr_isIn_13 : decode prog_1_method_28_code 13 = .ok (.ireturn, 1) := by decide +kernel
theorem kb_Vr_weight_0 : decode prog_1_method_29_code 0 = .ok (.iload_n 0, 1) := by decide +kernel
theorem kb_Vr_weight_1 : decode prog_1_method_29_code 1 = .ok (.ifCond .ne 6, 3) := by decide +kernel
theorem kb_Vr_weight_4 : decode prog_1_method_29_code 4 = .ok (.ldc 224, 2) := by decide +kernel
theorem kb_Vr_weight_6 : decode prog_1_method_29_code 6 = .ok (.ireturn, 1) := by decide +kernel
theorem kb_Vr_weight_7 : decode prog_1_method_29_code 7 = .ok (.iload_n 0, 1) := by decide +kernel
theorem kb_Vr_weight_8 : decode prog_1_method_29_code 8 = .ok (.iconst 1, 1) := by decide +kernel
theorem kb_Vr_weight_9 : decode prog_1_method_29_code 9 = .ok (.if_icmp .ne 9, 3) := by decide +kernel
theorem kb_Vr_weight_12 : decode prog_1_method_29_code 12 = .ok (.sipush 1000, 3) := by decide +kernel
theorem kb_Vr_weight_15 : decode prog_1_method_29_code 15 = .ok (.goto 4, 3) := by decide +kernel
theorem kb_Vr_weight_18 : decode prog_1_method_29_code 18 = .ok (.iconst 1, 1) := by decide +kernel
theorem kb_Vr_weight_19 : decode prog_1_method_29_code 19 = .ok (.ireturn, 1) := by decide +kernel
theorem kb_Vr_valueAt_0 : decode prog_1_method_30_code 0 = .ok (.iload_n 1, 1) := by decide +kernel
theorem kb_Vr_valueAt_1 : decode prog_1_method_30_code 1 = .ok (.ifCond .ne 8, 3) := by decide +kernel
theorem kb_Vr_valueAt_4 : decode prog_1_method_30_code 4 = .ok (.iload_n 0, 1) := by decide +kernel
theorem kb_Vr_valueAt_5 : decode prog_1_method_30_code 5 = .ok (.ldc 224, 2) := by decide +kernel
theorem kb_Vr_valueAt_7 : decode prog_1_method_30_code 7 = .ok (.idiv, 1) := by decide +kernel
theorem kb_Vr_valueAt_8 : decode prog_1_method_30_code 8 = .ok (.ireturn, 1) := by decide +kernel
theorem kb_Vr_valueAt_9 : decode prog_1_method_30_code 9 = .ok (.iload_n 1, 1) := by decide +kernel
theorem kb_Vr_valueAt_10 : decode prog_1_method_30_code 10 = .ok (.iconst 1, 1) := by decide +kernel
theorem kb_Vr_valueAt_11 : decode prog_1_method_30_code 11 = .ok (.if_icmp .ne 15, 3) := by decide +kernel
theorem kb_Vr_valueAt_14 : decode prog_1_method_30_code 14 = .ok (.iload_n 0, 1) := by decide +kernel
theorem kb_Vr_valueAt_15 : decode prog_1_method_30_code 15 = .ok (.sipush 1000, 3) := by decide +kernel
theorem kb_Vr_valueAt_18 : decode prog_1_method_30_code 18 = .ok (.idiv, 1) := by decide +kernel
theorem kb_Vr_valueAt_19 : decode prog_1_method_30_code 19 = .ok (.sipush 1000, 3) := by decide +kernel
theorem kb_Vr_valueAt_22 : decode prog_1_method_30_code 22 = .ok (.irem, 1) := by decide +kernel
theorem kb_Vr_valueAt_23 : decode prog_1_method_30_code 23 = .ok (.goto 8, 3) := by decide +kernel
theorem kb_Vr_valueAt_26 : decode prog_1_method_30_code 26 = .ok (.iload_n 0, 1) := by decide +kernel
theorem kb_Vr_valueAt_27 : decode prog_1_method_30_code 27 = .ok (.sipush 1000, 3) := by decide +kernel
theorem kb_Vr_valueAt_30 : decode prog_1_method_30_code 30 = .ok (.irem, 1) := by decide +kernel
theorem kb_Vr_valueAt_31 : decode prog_1_method_30_code 31 = .ok (.ireturn, 1) := by decide +kernel
theorem kb_Vr_pack_0 : decode prog_1_method_31_code 0 = .ok (.iload_n 0, 1) := by decide +kernel
theorem kb_Vr_pack_1 : decode prog_1_method_31_code 1 = .ok (.iconst 1, 1) := by decide +kernel
theorem kb_Vr_pack_2 : decode prog_1_method_31_code 2 = .ok (.if_icmp .le 7, 3) := by decide +kernel
theorem kb_Vr_pack_5 : decode prog_1_method_31_code 5 = .ok (.iload_n 2, 1) := by decide +kernel
theorem kb_Vr_pack_6 : decode prog_1_method_31_code 6 = .ok (.goto 4, 3) := by decide +kernel
theorem kb_Vr_pack_9 : decode prog_1_method_31_code 9 = .ok (.iconst 0, 1) := by decide +kernel
theorem kb_Vr_pack_10 : decode prog_1_method_31_code 10 = .ok (.istore 4, 2) := by decide +kernel
theorem kb_Vr_pack_12 : decode prog_1_method_31_code 12 = .ok (.iload_n 0, 1) := by decide +kernel
theorem kb_Vr_pack_13 : decode prog_1_method_31_code 13 = .ok (.iconst 2, 1) := by decide +kernel
theorem kb_Vr_pack_14 : decode prog_1_method_31_code 14 = .ok (.if_icmp .le 7, 3) := by decide +kernel
theorem kb_Vr_pack_17 : decode prog_1_method_31_code 17 = .ok (.iload_n 3, 1) := by decide +kernel
theorem kb_Vr_pack_18 : decode prog_1_method_31_code 18 = .ok (.goto 4, 3) := by decide +kernel
theorem kb_Vr_pack_21 : decode prog_1_method_31_code 21 = .ok (.iconst 0, 1) := by decide +kernel
theorem kb_Vr_pack_22 : decode prog_1_method_31_code 22 = .ok (.istore 5, 2) := by decide +kernel
theorem kb_Vr_pack_24 : decode prog_1_method_31_code 24 = .ok (.iload_n 1, 1) := by decide +kernel
theorem kb_Vr_pack_25 : decode prog_1_method_31_code 25 = .ok (.invokestatic 225, 3) := by decide +kernel
theorem kb_Vr_pack_28 : decode prog_1_method_31_code 28 = .ok (.ifCond .eq 23, 3) := by decide +kernel
theorem kb_Vr_pack_31 : decode prog_1_method_31_code 31 = .ok (.iload 4, 2) := by decide +kernel
theorem kb_Vr_pack_33 : decode prog_1_method_31_code 33 = .ok (.invokestatic 225, 3) := by decide +kernel
theorem kb_Vr_pack_36 : decode prog_1_method_31_code 36 = .ok (.ifCond .eq 15, 3) := by decide +kernel
theorem kb_Vr_pack_39 : decode prog_1_method_31_code 39 = .ok (.iload 5, 2) := by decide +kernel
theorem kb_Vr_pack_41 : decode prog_1_method_31_code 41 = .ok (.invokestatic 225, 3) := by decide +kernel
theorem kb_Vr_pack_44 : decode prog_1_method_31_code 44 = .ok (.ifCond .eq 7, 3) := by decide +kernel
theorem kb_Vr_pack_47 : decode prog_1_method_31_code 47 = .ok (.iconst 1, 1) := by decide +kernel
theorem kb_Vr_pack_48 : decode prog_1_method_31_code 48 = .ok (.goto 4, 3) := by decide +kernel
theorem kb_Vr_pack_51 : decode prog_1_method_31_code 51 = .ok (.iconst 0, 1) := by decide +kernel
theorem kb_Vr_pack_52 : decode prog_1_method_31_code 52 = .ok (.istore 6, 2) := by decide +kernel
theorem kb_Vr_pack_54 : decode prog_1_method_31_code 54 = .ok (.iload 6, 2) := by decide +kernel
theorem kb_Vr_pack_56 : decode prog_1_method_31_code 56 = .ok (.ifCond .eq 20, 3) := by decide +kernel
theorem kb_Vr_pack_59 : decode prog_1_method_31_code 59 = .ok (.iload_n 1, 1) := by decide +kernel
theorem kb_Vr_pack_60 : decode prog_1_method_31_code 60 = .ok (.ldc 224, 2) := by decide +kernel
theorem kb_Vr_pack_62 : decode prog_1_method_31_code 62 = .ok (.imul, 1) := by decide +kernel
theorem kb_Vr_pack_63 : decode prog_1_method_31_code 63 = .ok (.iload 4, 2) := by decide +kernel
theorem kb_Vr_pack_65 : decode prog_1_method_31_code 65 = .ok (.sipush 1000, 3) := by decide +kernel
theorem kb_Vr_pack_68 : decode prog_1_method_31_code 68 = .ok (.imul, 1) := by decide +kernel
theorem kb_Vr_pack_69 : decode prog_1_method_31_code 69 = .ok (.iadd, 1) := by decide +kernel
theorem kb_Vr_pack_70 : decode prog_1_method_31_code 70 = .ok (.iload 5, 2) := by decide +kernel
theorem kb_Vr_pack_72 : decode prog_1_method_31_code 72 = .ok (.iadd, 1) := by decide +kernel
theorem kb_Vr_pack_73 : decode prog_1_method_31_code 73 = .ok (.goto 4, 3) := by decide +kernel
theorem kb_Vr_pack_76 : decode prog_1_method_31_code 76 = .ok (.iconst (-1), 1) := by decide +kernel
theorem kb_Vr_pack_77 : decode prog_1_method_31_code 77 = .ok (.ireturn, 1) := by decide +kernel
theorem kb_Vr_isValue_0 : decode prog_1_method_32_code 0 = .ok (.iload_n 0, 1) := by decide +kernel
theorem kb_Vr_isValue_1 : decode prog_1_method_32_code 1 = .ok (.ifCond .lt 14, 3) := by decide +kernel
theorem kb_Vr_isValue_4 : decode prog_1_method_32_code 4 = .ok (.iload_n 0, 1) := by decide +kernel
theorem kb_Vr_isValue_5 : decode prog_1_method_32_code 5 = .ok (.sipush 999, 3) := by decide +kernel
theorem kb_Vr_isValue_8 : decode prog_1_method_32_code 8 = .ok (.if_icmp .gt 7, 3) := by decide +kernel
theorem kb_Vr_isValue_11 : decode prog_1_method_32_code 11 = .ok (.iconst 1, 1) := by decide +kernel
theorem kb_Vr_isValue_12 : decode prog_1_method_32_code 12 = .ok (.goto 4, 3) := by decide +kernel
theorem kb_Vr_isValue_15 : decode prog_1_method_32_code 15 = .ok (.iconst 0, 1) := by decide +kernel
theorem kb_Vr_isValue_16 : decode prog_1_method_32_code 16 = .ok (.ireturn, 1) := by decide +kernel
