theorem kb_Mo_back_0 : decode prog_10_method_39_code 0 = .ok (.iconst 0, 1) := by decide +kernel
theorem kb_Mo_back_1 : decode prog_10_method_39_code 1 = .ok (.istore_n 1, 1) := by decide +kernel
theorem kb_Mo_back_2 : decode prog_10_method_39_code 2 = .ok (.iload_n 1, 1) := by decide +kernel
theorem kb_Mo_back_3 : decode prog_10_method_39_code 3 = .ok (.sipush 960, 3) := by decide +kernel
theorem kb_Mo_back_6 : decode prog_10_method_39_code 6 = .ok (.if_icmp .ge 21, 3) := by decide +kernel
theorem kb_Mo_back_9 : decode prog_10_method_39_code 9 = .ok (.aload_n 0, 1) := by decide +kernel
theorem kb_Mo_back_10 : decode prog_10_method_39_code 10 = .ok (.getfield 67, 3) := by decide +kernel
theorem kb_Mo_back_13 : decode prog_10_method_39_code 13 = .ok (.iload_n 1, 1) := by decide +kernel
theorem kb_Mo_back_14 : decode prog_10_method_39_code 14 = .ok (.aload_n 0, 1) := by decide +kernel
theorem kb_Mo_back_15 : decode prog_10_method_39_code 15 = .ok (.getfield 76, 3) := by decide +kernel
theorem kb_Mo_back_18 : decode prog_10_method_39_code 18 = .ok (.iload_n 1, 1) := by decide +kernel
theorem kb_Mo_back_19 : decode prog_10_method_39_code 19 = .ok (.iaload, 1) := by decide +kernel
theorem kb_Mo_back_20 : decode prog_10_method_39_code 20 = .ok (.iastore, 1) := by decide +kernel
theorem kb_Mo_back_21 : decode prog_10_method_39_code 21 = .ok (.iinc 1 1, 3) := by decide +kernel
theorem kb_Mo_back_24 : decode prog_10_method_39_code 24 = .ok (.goto (-22), 3) := by decide +kernel
theorem kb_Mo_back_27 : decode prog_10_method_39_code 27 = .ok (.iconst 0, 1) := by decide +kernel
theorem kb_Mo_back_28 : decode prog_10_method_39_code 28 = .ok (.istore_n 1, 1) := by decide +kernel
theorem kb_Mo_back_29 : decode prog_10_method_39_code 29 = .ok (.iload_n 1, 1) := by decide +kernel
theorem kb_Mo_back_30 : decode prog_10_method_39_code 30 = .ok (.sipush 320, 3) := by decide +kernel
theorem kb_Mo_back_33 : decode prog_10_method_39_code 33 = .ok (.if_icmp .ge 21, 3) := by decide +kernel
theorem kb_Mo_back_36 : decode prog_10_method_39_code 36 = .ok (.aload_n 0, 1) := by decide +kernel
theorem kb_Mo_back_37 : decode prog_10_method_39_code 37 = .ok (.getfield 70, 3) := by decide +kernel
theorem kb_Mo_back_40 : decode prog_10_method_39_code 40 = .ok (.iload_n 1, 1) := by decide +kernel
theorem kb_Mo_back_41 : decode prog_10_method_39_code 41 = .ok (.aload_n 0, 1) := by decide +kernel
theorem kb_Mo_back_42 : decode prog_10_method_39_code 42 = .ok (.getfield 79, 3) := by decide +kernel
theorem kb_Mo_back_45 : decode prog_10_method_39_code 45 = .ok (.iload_n 1, 1) := by decide +kernel
theorem kb_Mo_back_46 : decode prog_10_method_39_code 46 = .ok (.iaload, 1) := by decide +kernel
theorem kb_Mo_back_47 : decode prog_10_method_39_code 47 = .ok (.iastore, 1) := by decide +kernel
theorem kb_Mo_back_48 : decode prog_10_method_39_code 48 = .ok (.iinc 1 1, 3) := by decide +kernel
theorem kb_Mo_back_51 : decode prog_10_method_39_code 51 = .ok (.goto (-22), 3) := by decide +kernel
theorem kb_Mo_back_54 : decode prog_10_method_39_code 54 = .ok (.iconst 0, 1) := by decide +kernel
theorem kb_Mo_back_55 : decode prog_10_method_39_code 55 = .ok (.istore_n 1, 1) := by decide +kernel
theorem kb_Mo_back_56 : decode prog_10_method_39_code 56 = .ok (.iload_n 1, 1) := by decide +kernel
theorem kb_Mo_back_57 : decode prog_10_method_39_code 57 = .ok (.bipush 8, 2) := by decide +kernel
theorem kb_Mo_back_59 : decode prog_10_method_39_code 59 = .ok (.if_icmp .ge 21, 3) := by decide +kernel
theorem kb_Mo_back_62 : decode prog_10_method_39_code 62 = .ok (.aload_n 0, 1) := by decide +kernel
theorem kb_Mo_back_63 : decode prog_10_method_39_code 63 = .ok (.getfield 73, 3) := by decide +kernel
theorem kb_Mo_back_66 : decode prog_10_method_39_code 66 = .ok (.iload_n 1, 1) := by decide +kernel
theorem kb_Mo_back_67 : decode prog_10_method_39_code 67 = .ok (.aload_n 0, 1) := by decide +kernel
theorem kb_Mo_back_68 : decode prog_10_method_39_code 68 = .ok (.getfield 82, 3) := by decide +kernel
theorem kb_Mo_back_71 : decode prog_10_method_39_code 71 = .ok (.iload_n 1, 1) := by decide +kernel
theorem kb_Mo_back_72 : decode prog_10_method_39_code 72 = .ok (.iaload, 1) := by decide +kernel
theorem kb_Mo_back_73 : decode prog_10_method_39_code 73 = .ok (.iastore, 1) := by decide +kernel
theorem kb_Mo_back_74 : decode prog_10_method_39_code 74 = .ok (.iinc 1 1, 3) := by decide +kernel
theorem kb_Mo_back_77 : decode prog_10_method_39_code 77 = .ok (.goto (-21), 3) := by decide +kernel
theorem kb_Mo_back_80 : decode prog_10_method_39_code 80 = .ok (.return_, 1) := by decide +kernel
theorem kb_Mo_sum_0 : decode prog_10_method_40_code 0 = .ok (.aload_n 0, 1) := by decide +kernel
theorem kb_Mo_sum_1 : decode prog_10_method_40_code 1 = .ok (.iconst 0, 1) := by decide +kernel
theorem kb_Mo_sum_2 : decode prog_10_method_40_code 2 = .ok (.putfield 245, 3) := by decide +kernel
theorem kb_Mo_sum_5 : decode prog_10_method_40_code 5 = .ok (.iconst 0, 1) := by decide +kernel
theorem kb_Mo_sum_6 : decode prog_10_method_40_code 6 = .ok (.istore 5, 2) := by decide +kernel
theorem kb_Mo_sum_8 : decode prog_10_method_40_code 8 = .ok (.iload 5, 2) := by decide +kernel
theorem kb_Mo_sum_10 : decode prog_10_method_40_code 10 = .ok (.iload_n 3, 1) := by decide +kernel
theorem kb_Mo_sum_11 : decode prog_10_method_40_code 11 = .ok (.if_icmp .ge 214, 3) := by decide +kernel
theorem kb_Mo_sum_14 : decode prog_10_method_40_code 14 = .ok (.iload_n 2, 1) := by decide +kernel
theorem kb_Mo_sum_15 : decode prog_10_method_40_code 15 = .ok (.iconst 5, 1) := by decide +kernel
theorem kb_Mo_sum_16 : decode prog_10_method_40_code 16 = .ok (.iload 5, 2) := by decide +kernel
theorem kb_Mo_sum_18 : decode prog_10_method_40_code 18 = .ok (.imul, 1) := by decide +kernel
theorem kb_Mo_sum_19 : decode prog_10_method_40_code 19 = .ok (.iadd, 1) := by decide +kernel
theorem kb_Mo_sum_20 : decode prog_10_method_40_code 20 = .ok (.istore 6, 2) := by decide +kernel
theorem kb_Mo_sum_22 : decode prog_10_method_40_code 22 = .ok (.iconst (-1), 1) := by decide +kernel
theorem kb_Mo_sum_23 : decode prog_10_method_40_code 23 = .ok (.istore 7, 2) := by decide +kernel
theorem kb_Mo_sum_25 : decode prog_10_method_40_code 25 = .ok (.iconst 0, 1) := by decide +kernel
theorem kb_Mo_sum_26 : decode prog_10_method_40_code 26 = .ok (.istore 8, 2) := by decide +kernel
theorem kb_Mo_sum_28 : decode prog_10_method_40_code 28 = .ok (.iload 8, 2) := by decide +kernel
theorem kb_Mo_sum_30 : decode prog_10_method_40_code 30 = .ok (.aload_n 0, 1) := by decide +kernel
theorem kb_Mo_sum_31 : decode prog_10_method_40_code 31 = .ok (.getfield 245, 3) := by decide +kernel
theorem kb_Mo_sum_34 : decode prog_10_method_40_code 34 = .ok (.if_icmp .ge 94, 3) := by decide +kernel
theorem kb_Mo_sum_37 : decode prog_10_method_40_code 37 = .ok (.aload_n 0, 1) := by decide +kernel
theorem kb_Mo_sum_38 : decode prog_10_method_40_code 38 = .ok (.getfield 112, 3) := by decide +kernel
theorem kb_Mo_sum_41 : decode prog_10_method_40_code 41 = .ok (.iconst 5, 1) := by decide +kernel
theorem kb_Mo_sum_42 : decode prog_10_method_40_code 42 = .ok (.iload 8, 2) := by decide +kernel
theorem kb_Mo_sum_44 : decode prog_10_method_40_code 44 = .ok (.imul, 1) := by decide +kernel
theorem kb_Mo_sum_45 : decode prog_10_method_40_code 45 = .ok (.iaload, 1) := by decide +kernel
theorem kb_Mo_sum_46 : decode prog_10_method_40_code 46 = .ok (.aload_n 1, 1) := by decide +kernel
theorem kb_Mo_sum_47 : decode prog_10_method_40_code 47 = .ok (.iload 6, 2) := by decide +kernel
theorem kb_Mo_sum_49 : decode prog_10_method_40_code 49 = .ok (.iaload, 1) := by decide +kernel
theorem kb_Mo_sum_50 : decode prog_10_method_40_code 50 = .ok (.if_icmp .ne 68, 3) := by decide +kernel
theorem kb_Mo_sum_53 : decode prog_10_method_40_code 53 = .ok (.aload_n 0, 1) := by decide +kernel
theorem kb_Mo_sum_54 : decode prog_10_method_40_code 54 = .ok (.getfield 112, 3) := by decide +kernel
theorem kb_Mo_sum_57 : decode prog_10_method_40_code 57 = .ok (.iconst 5, 1) := by decide +kernel
theorem kb_Mo_sum_58 : decode prog_10_method_40_code 58 = .ok (.iload 8, 2) := by decide +kernel
theorem kb_Mo_sum_60 : decode prog_10_method_40_code 60 = .ok (.imul, 1) := by decide +kernel
theorem kb_Mo_sum_61 : decode prog_10_method_40_code 61 = .ok (.iconst 1, 1) := by decide +kernel
theorem kb_Mo_sum_62 : decode prog_10_method_40_code 62 = .ok (.iadd, 1) := by decide +kernel
theorem kb_Mo_sum_63 : decode prog_10_method_40_code 63 = .ok (.iaload, 1) := by decide +kernel
theorem kb_Mo_sum_64 : decode prog_10_method_40_code 64 = .ok (.aload_n 1, 1) := by decide +kernel
theorem kb_Mo_sum_65 : decode prog_10_method_40_code 65 = .ok (.iload 6, 2) := by decide +kernel
theorem kb_Mo_sum_67 : decode prog_10_method_40_code 67 = .ok (.iconst 1, 1) := by decide +kernel
theorem kb_Mo_sum_68 : decode prog_10_method_40_code 68 = .ok (.iadd, 1) := by decide +kernel
theorem kb_Mo_sum_69 : decode prog_10_method_40_code 69 = .ok (.iaload, 1) := by decide +kernel
theorem kb_Mo_sum_70 : decode prog_10_method_40_code 70 = .ok (.if_icmp .ne 48, 3) := by decide +kernel
theorem kb_Mo_sum_73 : decode prog_10_method_40_code 73 = .ok (.aload_n 0, 1) := by decide +kernel
theorem kb_Mo_sum_74 : decode prog_10_method_40_code 74 = .ok (.getfield 112, 3) := by decide +kernel
theorem kb_Mo_sum_77 : decode prog_10_method_40_code 77 = .ok (.iconst 5, 1) := by decide +kernel
theorem kb_Mo_sum_78 : decode prog_10_method_40_code 78 = .ok (.iload 8, 2) := by decide +kernel
theorem kb_Mo_sum_80 : decode prog_10_method_40_code 80 = .ok (.imul, 1) := by decide +kernel
theorem kb_Mo_sum_81 : decode prog_10_method_40_code 81 = .ok (.iconst 2, 1) := by decide +kernel
theorem kb_Mo_sum_82 : decode prog_10_method_40_code 82 = .ok (.iadd, 1) := by decide +kernel
theorem kb_Mo_sum_83 : decode prog_10_method_40_code 83 = .ok (.iaload, 1) := by decide +kernel
theorem kb_Mo_sum_84 : decode prog_10_method_40_code 84 = .ok (.aload_n 1, 1) := by decide +kernel
theorem kb_Mo_sum_85 : decode prog_10_method_40_code 85 = .ok (.iload 6, 2) := by decide +kernel
theorem kb_Mo_sum_87 : decode prog_10_method_40_code 87 = .ok (.iconst 2, 1) := by decide +kernel
theorem kb_Mo_sum_88 : decode prog_10_method_40_code 88 = .ok (.iadd, 1) := by decide +kernel
theorem kb_Mo_sum_89 : decode prog_10_method_40_code 89 = .ok (.iaload, 1) := by decide +kernel
theorem kb_Mo_sum_90 : decode prog_10_method_40_code 90 = .ok (.if_icmp .ne 28, 3) := by decide +kernel
theorem kb_Mo_sum_93 : decode prog_10_method_40_code 93 = .ok (.aload_n 0, 1) := by decide +kernel
theorem kb_Mo_sum_94 : decode prog_10_method_40_code 94 = .ok (.getfield 112, 3) := by decide +kernel
theorem kb_Mo_sum_97 : decode prog_10_method_40_code 97 = .ok (.iconst 5, 1) := by decide +kernel
theorem kb_Mo_sum_98 : decode prog_10_method_40_code 98 = .ok (.iload 8, 2) := by decide +kernel
theorem kb_Mo_sum_100 : decode prog_10_method_40_code 100 = .ok (.imul, 1) := by decide +kernel
theorem kb_Mo_sum_101 : decode prog_10_method_40_code 101 = .ok (.iconst 3, 1) := by decide +kernel
theorem kb_Mo_sum_102 : decode prog_10_method_40_code 102 = .ok (.iadd, 1) := by decide +kernel
theorem kb_Mo_sum_103 : decode prog_10_method_40_code 103 = .ok (.iaload, 1) := by decide +kernel
theorem kb_Mo_sum_104 : decode prog_10_method_40_code 104 = .ok (.aload_n 1, 1) := by decide +kernel
theorem kb_Mo_sum_105 : decode prog_10_method_40_code 105 = .ok (.iload 6, 2) := by decide +kernel
theorem kb_Mo_sum_107 : decode prog_10_method_40_code 107 = .ok (.iconst 3, 1) := by decide +kernel
theorem kb_Mo_sum_108 : decode prog_10_method_40_code 108 = .ok (.iadd, 1) := by decide +kernel
theorem kb_Mo_sum_109 : decode prog_10_method_40_code 109 = .ok (.iaload, 1) := by decide +kernel
theorem kb_Mo_sum_110 : decode prog_10_method_40_code 110 = .ok (.if_icmp .ne 8, 3) := by decide +kernel
theorem kb_Mo_sum_113 : decode prog_10_method_40_code 113 = .ok (.iload 8, 2) := by decide +kernel
theorem kb_Mo_sum_115 : decode prog_10_method_40_code 115 = .ok (.goto 5, 3) := by decide +kernel
theorem kb_Mo_sum_118 : decode prog_10_method_40_code 118 = .ok (.iload 7, 2) := by decide +kernel
theorem kb_Mo_sum_120 : decode prog_10_method_40_code 120 = .ok (.istore 7, 2) := by decide +kernel
theorem kb_Mo_sum_122 : decode prog_10_method_40_code 122 = .ok (.iinc 8 1, 3) := by decide +kernel
theorem kb_Mo_sum_125 : decode prog_10_method_40_code 125 = .ok (.goto (-97), 3) := by decide +kernel
theorem kb_Mo_sum_128 : decode prog_10_method_40_code 128 = .ok (.iload 7, 2) := by decide +kernel
theorem kb_Mo_sum_130 : decode prog_10_method_40_code 130 = .ok (.iconst (-1), 1) := by decide +kernel
theorem kb_Mo_sum_131 : decode prog_10_method_40_code 131 = .ok (.if_icmp .ne 65, 3) := by decide +kernel
theorem kb_Mo_sum_134 : decode prog_10_method_40_code 134 = .ok (.aload_n 0, 1) := by decide +kernel
theorem kb_Mo_sum_135 : decode prog_10_method_40_code 135 = .ok (.getfield 245, 3) := by decide +kernel
theorem kb_Mo_sum_138 : decode prog_10_method_40_code 138 = .ok (.istore 7, 2) := by decide +kernel
theorem kb_Mo_sum_140 : decode prog_10_method_40_code 140 = .ok (.iconst 0, 1) := by decide +kernel
theorem kb_Mo_sum_141 : decode prog_10_method_40_code 141 = .ok (.istore 8, 2) := by decide +kernel
theorem kb_Mo_sum_143 : decode prog_10_method_40_code 143 = .ok (.iload 8, 2) := by decide +kernel
theorem kb_Mo_sum_145 : decode prog_10_method_40_code 145 = .ok (.iconst 4, 1) := by decide +kernel
theorem kb_Mo_sum_146 : decode prog_10_method_40_code 146 = .ok (.if_icmp .ge 28, 3) := by decide +kernel
theorem kb_Mo_sum_149 : decode prog_10_method_40_code 149 = .ok (.aload_n 0, 1) := by decide +kernel
theorem kb_Mo_sum_150 : decode prog_10_method_40_code 150 = .ok (.getfield 112, 3) := by decide +kernel
theorem kb_Mo_sum_153 : decode prog_10_method_40_code 153 = .ok (.iconst 5, 1) := by decide +kernel
theorem kb_Mo_sum_154 : decode prog_10_method_40_code 154 = .ok (.iload 7, 2) := by decide +kernel
theorem kb_Mo_sum_156 : decode prog_10_method_40_code 156 = .ok (.imul, 1) := by decide +kernel
theorem kb_Mo_sum_157 : decode prog_10_method_40_code 157 = .ok (.iload 8, 2) := by decide +kernel
theorem kb_Mo_sum_159 : decode prog_10_method_40_code 159 = .ok (.iadd, 1) := by decide +kernel
theorem kb_Mo_sum_160 : decode prog_10_method_40_code 160 = .ok (.aload_n 1, 1) := by decide +kernel
theorem kb_Mo_sum_161 : decode prog_10_method_40_code 161 = .ok (.iload 6, 2) := by decide +kernel
theorem kb_Mo_sum_163 : decode prog_10_method_40_code 163 = .ok (.iload 8, 2) := by decide +kernel
theorem kb_Mo_sum_165 : decode prog_10_method_40_code 165 = .ok (.iadd, 1) := by decide +kernel
theorem kb_Mo_sum_166 : decode prog_10_method_40_code 166 = .ok (.iaload, 1) := by decide +kernel
theorem kb_Mo_sum_167 : decode prog_10_method_40_code 167 = .ok (.iastore, 1) := by decide +kernel
theorem kb_Mo_sum_168 : decode prog_10_method_40_code 168 = .ok (.iinc 8 1, 3) := by decide +kernel
theorem kb_Mo_sum_171 : decode prog_10_method_40_code 171 = .ok (.goto (-28), 3) := by decide +kernel
theorem kb_Mo_sum_174 : decode prog_10_method_40_code 174 = .ok (.aload_n 0, 1) := by decide +kernel
theorem kb_Mo_sum_175 : decode prog_10_method_40_code 175 = .ok (.getfield 112, 3) := by decide +kernel
theorem kb_Mo_sum_178 : decode prog_10_method_40_code 178 = .ok (.iconst 5, 1) := by decide +kernel
theorem kb_Mo_sum_179 : decode prog_10_method_40_code 179 = .ok (.iload 7, 2) := by decide +kernel
theorem kb_Mo_sum_181 : decode prog_10_method_40_code 181 = .ok (.imul, 1) := by decide +kernel
theorem kb_Mo_sum_182 : decode prog_10_method_40_code 182 = .ok (.iconst 4, 1) := by decide +kernel
theorem kb_Mo_sum_183 : decode prog_10_method_40_code 183 = .ok (.iadd, 1) := by decide +kernel
theorem kb_Mo_sum_184 : decode prog_10_method_40_code 184 = .ok (.iconst 0, 1) := by decide +kernel
theorem kb_Mo_sum_185 : decode prog_10_method_40_code 185 = .ok (.iastore, 1) := by decide +kernel
theorem kb_Mo_sum_186 : decode prog_10_method_40_code 186 = .ok (.aload_n 0, 1) := by decide +kernel
theorem kb_Mo_sum_187 : decode prog_10_method_40_code 187 = .ok (.dup, 1) := by decide +kernel
theorem kb_Mo_sum_188 : decode prog_10_method_40_code 188 = .ok (.getfield 245, 3) := by decide +kernel
theorem kb_Mo_sum_191 : decode prog_10_method_40_code 191 = .ok (.iconst 1, 1) := by decide +kernel
theorem kb_Mo_sum_192 : decode prog_10_method_40_code 192 = .ok (.iadd, 1) := by decide +kernel
theorem kb_Mo_sum_193 : decode prog_10_method_40_code 193 = .ok (.putfield 245, 3) := by decide +kernel
theorem kb_Mo_sum_196 : decode prog_10_method_40_code 196 = .ok (.aload_n 0, 1) := by decide +kernel
theorem kb_Mo_sum_197 : decode prog_10_method_40_code 197 = .ok (.getfield 112, 3) := by decide +kernel
theorem kb_Mo_sum_200 : decode prog_10_method_40_code 200 = .ok (.iconst 5, 1) := by decide +kernel
theorem kb_Mo_sum_201 : decode prog_10_method_40_code 201 = .ok (.iload 7, 2) := by decide +kernel
theorem kb_Mo_sum_203 : decode prog_10_method_40_code 203 = .ok (.imul, 1) := by decide +kernel
theorem kb_Mo_sum_204 : decode prog_10_method_40_code 204 = .ok (.iconst 4, 1) := by decide +kernel
theorem kb_Mo_sum_205 : decode prog_10_method_40_code 205 = .ok (.iadd, 1) := by decide +kernel
theorem kb_Mo_sum_206 : decode prog_10_method_40_code 206 = .ok (.dup2, 1) := by decide +kernel
theorem kb_Mo_sum_207 : decode prog_10_method_40_code 207 = .ok (.iaload, 1) := by decide +kernel
theorem kb_Mo_sum_208 : decode prog_10_method_40_code 208 = .ok (.iload 4, 2) := by decide +kernel
theorem kb_Mo_sum_210 : decode prog_10_method_40_code 210 = .ok (.aload_n 1, 1) := by decide +kernel
theorem kb_Mo_sum_211 : decode prog_10_method_40_code 211 = .ok (.iload 6, 2) := by decide +kernel
theorem kb_Mo_sum_213 : decode prog_10_method_40_code 213 = .ok (.iconst 4, 1) := by decide +kernel
theorem kb_Mo_sum_214 : decode prog_10_method_40_code 214 = .ok (.iadd, 1) := by decide +kernel
theorem kb_Mo_sum_215 : decode prog_10_method_40_code 215 = .ok (.iaload, 1) := by decide +kernel
theorem kb_Mo_sum_216 : decode prog_10_method_40_code 216 = .ok (.imul, 1) := by decide +kernel
theorem kb_Mo_sum_217 : decode prog_10_method_40_code 217 = .ok (.iadd, 1) := by decide +kernel
theorem kb_Mo_sum_218 : decode prog_10_method_40_code 218 = .ok (.iastore, 1) := by decide +kernel
theorem kb_Mo_sum_219 : decode prog_10_method_40_code 219 = .ok (.iinc 5 1, 3) := by decide +kernel
theorem kb_Mo_sum_222 : decode prog_10_method_40_code 222 = .ok (.goto (-214), 3) := by decide +kernel
theorem kb_Mo_sum_225 : decode prog_10_method_40_code 225 = .ok (.return_, 1) := by decide +kernel
theorem kb_Mo_apply_0 : decode prog_10_method_41_code 0 = .ok (.iconst 0, 1) := by decide +kernel
theorem kb_Mo_apply_1 : decode prog_10_method_41_code 1 = .ok (.istore_n 1, 1) := by decide +kernel
theorem kb_Mo_apply_2 : decode prog_10_method_41_code 2 = .ok (.iload_n 1, 1) := by decide +kernel
theorem kb_Mo_apply_3 : decode prog_10_method_41_code 3 = .ok (.aload_n 0, 1) := by decide +kernel
theorem kb_Mo_apply_4 : decode prog_10_method_41_code 4 = .ok (.getfield 245, 3) := by decide +kernel
theorem kb_Mo_apply_7 : decode prog_10_method_41_code 7 = .ok (.if_icmp .ge 99, 3) := by decide +kernel
theorem kb_Mo_apply_10 : decode prog_10_method_41_code 10 = .ok (.iconst 5, 1) := by decide +kernel
theorem kb_Mo_apply_11 : decode prog_10_method_41_code 11 = .ok (.iload_n 1, 1) := by decide +kernel
theorem kb_Mo_apply_12 : decode prog_10_method_41_code 12 = .ok (.imul, 1) := by decide +kernel
theorem kb_Mo_apply_13 : decode prog_10_method_41_code 13 = .ok (.istore_n 2, 1) := by decide +kernel
theorem kb_Mo_apply_14 : decode prog_10_method_41_code 14 = .ok (.aload_n 0, 1) := by decide +kernel
theorem kb_Mo_apply_15 : decode prog_10_method_41_code 15 = .ok (.aload_n 0, 1) := by decide +kernel
theorem kb_Mo_apply_16 : decode prog_10_method_41_code 16 = .ok (.getfield 112, 3) := by decide +kernel
theorem kb_Mo_apply_19 : decode prog_10_method_41_code 19 = .ok (.iload_n 2, 1) := by decide +kernel
theorem kb_Mo_apply_20 : decode prog_10_method_41_code 20 = .ok (.iaload, 1) := by decide +kernel
theorem kb_Mo_apply_21 : decode prog_10_method_41_code 21 = .ok (.aload_n 0, 1) := by decide +kernel
theorem kb_Mo_apply_22 : decode prog_10_method_41_code 22 = .ok (.getfield 112, 3) := by decide +kernel
theorem kb_Mo_apply_25 : decode prog_10_method_41_code 25 = .ok (.iload_n 2, 1) := by decide +kernel
theorem kb_Mo_apply_26 : decode prog_10_method_41_code 26 = .ok (.iconst 1, 1) := by decide +kernel
theorem kb_Mo_apply_27 : decode prog_10_method_41_code 27 = .ok (.iadd, 1) := by decide +kernel
theorem kb_Mo_apply_28 : decode prog_10_method_41_code 28 = .ok (.iaload, 1) := by decide +kernel
theorem kb_Mo_apply_29 : decode prog_10_method_41_code 29 = .ok (.aload_n 0, 1) := by decide +kernel
theorem kb_Mo_apply_30 : decode prog_10_method_41_code 30 = .ok (.getfield 112, 3) := by decide +kernel
theorem kb_Mo_apply_33 : decode prog_10_method_41_code 33 = .ok (.iload_n 2, 1) := by decide +kernel
theorem kb_Mo_apply_34 : decode prog_10_method_41_code 34 = .ok (.iconst 2, 1) := by decide +kernel
theorem kb_Mo_apply_35 : decode prog_10_method_41_code 35 = .ok (.iadd, 1) := by decide +kernel
theorem kb_Mo_apply_36 : decode prog_10_method_41_code 36 = .ok (.iaload, 1) := by decide +kernel
theorem kb_Mo_apply_37 : decode prog_10_method_41_code 37 = .ok (.aload_n 0, 1) := by decide +kernel
theorem kb_Mo_apply_38 : decode prog_10_method_41_code 38 = .ok (.getfield 112, 3) := by decide +kernel
theorem kb_Mo_apply_41 : decode prog_10_method_41_code 41 = .ok (.iload_n 2, 1) := by decide +kernel
theorem kb_Mo_apply_42 : decode prog_10_method_41_code 42 = .ok (.iconst 3, 1) := by decide +kernel
theorem kb_Mo_apply_43 : decode prog_10_method_41_code 43 = .ok (.iadd, 1) := by decide +kernel
theorem kb_Mo_apply_44 : decode prog_10_method_41_code 44 = .ok (.iaload, 1) := by decide +kernel
theorem kb_Mo_apply_45 : decode prog_10_method_41_code 45 = .ok (.invokevirtual 208, 3) := by decide +kernel
theorem kb_Mo_apply_48 : decode prog_10_method_41_code 48 = .ok (.istore_n 3, 1) := by decide +kernel
theorem kb_Mo_apply_49 : decode prog_10_method_41_code 49 = .ok (.iload_n 3, 1) := by decide +kernel
theorem kb_Mo_apply_50 : decode prog_10_method_41_code 50 = .ok (.iconst (-1), 1) := by decide +kernel
theorem kb_Mo_apply_51 : decode prog_10_method_41_code 51 = .ok (.if_icmp .ne 7, 3) := by decide +kernel
theorem kb_Mo_apply_54 : decode prog_10_method_41_code 54 = .ok (.iconst 0, 1) := by decide +kernel
theorem kb_Mo_apply_55 : decode prog_10_method_41_code 55 = .ok (.goto 19, 3) := by decide +kernel
theorem kb_Mo_apply_58 : decode prog_10_method_41_code 58 = .ok (.aload_n 0, 1) := by decide +kernel
theorem kb_Mo_apply_59 : decode prog_10_method_41_code 59 = .ok (.getfield 70, 3) := by decide +kernel
theorem kb_Mo_apply_62 : decode prog_10_method_41_code 62 = .ok (.bipush 40, 2) := by decide +kernel
theorem kb_Mo_apply_64 : decode prog_10_method_41_code 64 = .ok (.aload_n 0, 1) := by decide +kernel
theorem kb_Mo_apply_65 : decode prog_10_method_41_code 65 = .ok (.getfield 112, 3) := by decide +kernel
theorem kb_Mo_apply_68 : decode prog_10_method_41_code 68 = .ok (.iload_n 2, 1) := by decide +kernel
theorem kb_Mo_apply_69 : decode prog_10_method_41_code 69 = .ok (.iaload, 1) := by decide +kernel
theorem kb_Mo_apply_70 : decode prog_10_method_41_code 70 = .ok (.imul, 1) := by decide +kernel
theorem kb_Mo_apply_71 : decode prog_10_method_41_code 71 = .ok (.iload_n 3, 1) := by decide +kernel
theorem kb_Mo_apply_72 : decode prog_10_method_41_code 72 = .ok (.iadd, 1) := by decide +kernel
theorem kb_Mo_apply_73 : decode prog_10_method_41_code 73 = .ok (.iaload, 1) := by decide +kernel
theorem kb_Mo_apply_74 : decode prog_10_method_41_code 74 = .ok (.aload_n 0, 1) := by decide +kernel
theorem kb_Mo_apply_75 : decode prog_10_method_41_code 75 = .ok (.getfield 112, 3) := by decide +kernel
theorem kb_Mo_apply_78 : decode prog_10_method_41_code 78 = .ok (.iload_n 2, 1) := by decide +kernel
theorem kb_Mo_apply_79 : decode prog_10_method_41_code 79 = .ok (.iconst 4, 1) := by decide +kernel
theorem kb_Mo_apply_80 : decode prog_10_method_41_code 80 = .ok (.iadd, 1) := by decide +kernel
theorem kb_Mo_apply_81 : decode prog_10_method_41_code 81 = .ok (.iaload, 1) := by decide +kernel
theorem kb_Mo_apply_82 : decode prog_10_method_41_code 82 = .ok (.iadd, 1) := by decide +kernel
theorem kb_Mo_apply_83 : decode prog_10_method_41_code 83 = .ok (.istore 4, 2) := by decide +kernel
theorem kb_Mo_apply_85 : decode prog_10_method_41_code 85 = .ok (.iload 4, 2) := by decide +kernel
theorem kb_Mo_apply_87 : decode prog_10_method_41_code 87 = .ok (.ifCond .lt 10, 3) := by decide +kernel
theorem kb_Mo_apply_90 : decode prog_10_method_41_code 90 = .ok (.iload 4, 2) := by decide +kernel
theorem kb_Mo_apply_92 : decode prog_10_method_41_code 92 = .ok (.bipush 9, 2) := by decide +kernel
theorem kb_Mo_apply_94 : decode prog_10_method_41_code 94 = .ok (.if_icmp .le 6, 3) := by decide +kernel
theorem kb_Mo_apply_97 : decode prog_10_method_41_code 97 = .ok (.bipush (-2), 2) := by decide +kernel
theorem kb_Mo_apply_99 : decode prog_10_method_41_code 99 = .ok (.ireturn, 1) := by decide +kernel
theorem kb_Mo_apply_100 : decode prog_10_method_41_code 100 = .ok (.iinc 1 1, 3) := by decide +kernel
theorem kb_Mo_apply_103 : decode prog_10_method_41_code 103 = .ok (.goto (-101), 3) := by decide +kernel
theorem kb_Mo_apply_106 : decode prog_10_method_41_code 106 = .ok (.aload_n 0, 1) := by decide +kernel
theorem kb_Mo_apply_107 : decode prog_10_method_41_code 107 = .ok (.invokevirtual 248, 3) := by decide +kernel
theorem kb_Mo_apply_110 : decode prog_10_method_41_code 110 = .ok (.iconst 0, 1) := by decide +kernel
theorem kb_Mo_apply_111 : decode prog_10_method_41_code 111 = .ok (.istore_n 1, 1) := by decide +kernel
theorem kb_Mo_apply_112 : decode prog_10_method_41_code 112 = .ok (.iload_n 1, 1) := by decide +kernel
theorem kb_Mo_apply_113 : decode prog_10_method_41_code 113 = .ok (.iconst 2, 1) := by decide +kernel
theorem kb_Mo_apply_114 : decode prog_10_method_41_code 114 = .ok (.if_icmp .ge 219, 3) := by decide +kernel
theorem kb_Mo_apply_117 : decode prog_10_method_41_code 117 = .ok (.iconst 0, 1) := by decide +kernel
theorem kb_Mo_apply_118 : decode prog_10_method_41_code 118 = .ok (.istore_n 2, 1) := by decide +kernel
theorem kb_Mo_apply_119 : decode prog_10_method_41_code 119 = .ok (.iload_n 2, 1) := by decide +kernel
theorem kb_Mo_apply_120 : decode prog_10_method_41_code 120 = .ok (.aload_n 0, 1) := by decide +kernel
theorem kb_Mo_apply_121 : decode prog_10_method_41_code 121 = .ok (.getfield 245, 3) := by decide +kernel
theorem kb_Mo_apply_124 : decode prog_10_method_41_code 124 = .ok (.if_icmp .ge 203, 3) := by decide +kernel
theorem kb_Mo_apply_127 : decode prog_10_method_41_code 127 = .ok (.iconst 5, 1) := by decide +kernel
theorem kb_Mo_apply_128 : decode prog_10_method_41_code 128 = .ok (.iload_n 2, 1) := by decide +kernel
theorem kb_Mo_apply_129 : decode prog_10_method_41_code 129 = .ok (.imul, 1) := by decide +kernel
theorem kb_Mo_apply_130 : decode prog_10_method_41_code 130 = .ok (.istore_n 3, 1) := by decide +kernel
theorem kb_Mo_apply_131 : decode prog_10_method_41_code 131 = .ok (.aload_n 0, 1) := by decide +kernel
theorem kb_Mo_apply_132 : decode prog_10_method_41_code 132 = .ok (.getfield 112, 3) := by decide +kernel
theorem kb_Mo_apply_135 : decode prog_10_method_41_code 135 = .ok (.iload_n 3, 1) := by decide +kernel
theorem kb_Mo_apply_136 : decode prog_10_method_41_code 136 = .ok (.iaload, 1) := by decide +kernel
theorem kb_Mo_apply_137 : decode prog_10_method_41_code 137 = .ok (.istore 4, 2) := by decide +kernel
theorem kb_Mo_apply_139 : decode prog_10_method_41_code 139 = .ok (.aload_n 0, 1) := by decide +kernel
theorem kb_Mo_apply_140 : decode prog_10_method_41_code 140 = .ok (.iload 4, 2) := by decide +kernel
theorem kb_Mo_apply_142 : decode prog_10_method_41_code 142 = .ok (.aload_n 0, 1) := by decide +kernel
theorem kb_Mo_apply_143 : decode prog_10_method_41_code 143 = .ok (.getfield 112, 3) := by decide +kernel
theorem kb_Mo_apply_146 : decode prog_10_method_41_code 146 = .ok (.iload_n 3, 1) := by decide +kernel
theorem kb_Mo_apply_147 : decode prog_10_method_41_code 147 = .ok (.iconst 1, 1) := by decide +kernel
theorem kb_Mo_apply_148 : decode prog_10_method_41_code 148 = .ok (.iadd, 1) := by decide +kernel
theorem kb_Mo_apply_149 : decode prog_10_method_41_code 149 = .ok (.iaload, 1) := by decide +kernel
theorem kb_Mo_apply_150 : decode prog_10_method_41_code 150 = .ok (.aload_n 0, 1) := by decide +kernel
theorem kb_Mo_apply_151 : decode prog_10_method_41_code 151 = .ok (.getfield 112, 3) := by decide +kernel
theorem kb_Mo_apply_154 : decode prog_10_method_41_code 154 = .ok (.iload_n 3, 1) := by decide +kernel
theorem kb_Mo_apply_155 : decode prog_10_method_41_code 155 = .ok (.iconst 2, 1) := by decide +kernel
theorem kb_Mo_apply_156 : decode prog_10_method_41_code 156 = .ok (.iadd, 1) := by decide +kernel
theorem kb_Mo_apply_157 : decode prog_10_method_41_code 157 = .ok (.iaload, 1) := by decide +kernel
theorem kb_Mo_apply_158 : decode prog_10_method_41_code 158 = .ok (.aload_n 0, 1) := by decide +kernel
theorem kb_Mo_apply_159 : decode prog_10_method_41_code 159 = .ok (.getfield 112, 3) := by decide +kernel
theorem kb_Mo_apply_162 : decode prog_10_method_41_code 162 = .ok (.iload_n 3, 1) := by decide +kernel
theorem kb_Mo_apply_163 : decode prog_10_method_41_code 163 = .ok (.iconst 3, 1) := by decide +kernel
theorem kb_Mo_apply_164 : decode prog_10_method_41_code 164 = .ok (.iadd, 1) := by decide +kernel
theorem kb_Mo_apply_165 : decode prog_10_method_41_code 165 = .ok (.iaload, 1) := by decide +kernel
theorem kb_Mo_apply_166 : decode prog_10_method_41_code 166 = .ok (.invokevirtual 208, 3) := by decide +kernel
theorem kb_Mo_apply_169 : decode prog_10_method_41_code 169 = .ok (.istore 5, 2) := by decide +kernel
theorem kb_Mo_apply_171 : decode prog_10_method_41_code 171 = .ok (.iload 5, 2) := by decide +kernel
theorem kb_Mo_apply_173 : decode prog_10_method_41_code 173 = .ok (.iconst (-1), 1) := by decide +kernel
theorem kb_Mo_apply_174 : decode prog_10_method_41_code 174 = .ok (.if_icmp .ne 7, 3) := by decide +kernel
theorem kb_Mo_apply_177 : decode prog_10_method_41_code 177 = .ok (.iconst 0, 1) := by decide +kernel
theorem kb_Mo_apply_178 : decode prog_10_method_41_code 178 = .ok (.goto 16, 3) := by decide +kernel
theorem kb_Mo_apply_181 : decode prog_10_method_41_code 181 = .ok (.aload_n 0, 1) := by decide +kernel
theorem kb_Mo_apply_182 : decode prog_10_method_41_code 182 = .ok (.getfield 70, 3) := by decide +kernel
theorem kb_Mo_apply_185 : decode prog_10_method_41_code 185 = .ok (.bipush 40, 2) := by decide +kernel
theorem kb_Mo_apply_187 : decode prog_10_method_41_code 187 = .ok (.iload 4, 2) := by decide +kernel
theorem kb_Mo_apply_189 : decode prog_10_method_41_code 189 = .ok (.imul, 1) := by decide +kernel
theorem kb_Mo_apply_190 : decode prog_10_method_41_code 190 = .ok (.iload 5, 2) := by decide +kernel
theorem kb_Mo_apply_192 : decode prog_10_method_41_code 192 = .ok (.iadd, 1) := by decide +kernel
theorem kb_Mo_apply_193 : decode prog_10_method_41_code 193 = .ok (.iaload, 1) := by decide +kernel
theorem kb_Mo_apply_194 : decode prog_10_method_41_code 194 = .ok (.aload_n 0, 1) := by decide +kernel
theorem kb_Mo_apply_195 : decode prog_10_method_41_code 195 = .ok (.getfield 112, 3) := by decide +kernel
theorem kb_Mo_apply_198 : decode prog_10_method_41_code 198 = .ok (.iload_n 3, 1) := by decide +kernel
theorem kb_Mo_apply_199 : decode prog_10_method_41_code 199 = .ok (.iconst 4, 1) := by decide +kernel
theorem kb_Mo_apply_200 : decode prog_10_method_41_code 200 = .ok (.iadd, 1) := by decide +kernel
theorem kb_Mo_apply_201 : decode prog_10_method_41_code 201 = .ok (.iaload, 1) := by decide +kernel
theorem kb_Mo_apply_202 : decode prog_10_method_41_code 202 = .ok (.iadd, 1) := by decide +kernel
theorem kb_Mo_apply_203 : decode prog_10_method_41_code 203 = .ok (.istore 6, 2) := by decide +kernel
theorem kb_Mo_apply_205 : decode prog_10_method_41_code 205 = .ok (.iload_n 1, 1) := by decide +kernel
theorem kb_Mo_apply_206 : decode prog_10_method_41_code 206 = .ok (.ifCond .ne 34, 3) := by decide +kernel
theorem kb_Mo_apply_209 : decode prog_10_method_41_code 209 = .ok (.iload 5, 2) := by decide +kernel
theorem kb_Mo_apply_211 : decode prog_10_method_41_code 211 = .ok (.iconst (-1), 1) := by decide +kernel
theorem kb_Mo_apply_212 : decode prog_10_method_41_code 212 = .ok (.if_icmp .eq 28, 3) := by decide +kernel
theorem kb_Mo_apply_215 : decode prog_10_method_41_code 215 = .ok (.iload 6, 2) := by decide +kernel
theorem kb_Mo_apply_217 : decode prog_10_method_41_code 217 = .ok (.ifCond .ne 23, 3) := by decide +kernel
theorem kb_Mo_apply_220 : decode prog_10_method_41_code 220 = .ok (.aload_n 0, 1) := by decide +kernel
theorem kb_Mo_apply_221 : decode prog_10_method_41_code 221 = .ok (.iload 4, 2) := by decide +kernel
theorem kb_Mo_apply_223 : decode prog_10_method_41_code 223 = .ok (.iload 5, 2) := by decide +kernel
theorem kb_Mo_apply_225 : decode prog_10_method_41_code 225 = .ok (.invokevirtual 251, 3) := by decide +kernel
theorem kb_Mo_apply_228 : decode prog_10_method_41_code 228 = .ok (.aload_n 0, 1) := by decide +kernel
theorem kb_Mo_apply_229 : decode prog_10_method_41_code 229 = .ok (.getfield 112, 3) := by decide +kernel
theorem kb_Mo_apply_232 : decode prog_10_method_41_code 232 = .ok (.iload_n 3, 1) := by decide +kernel
theorem kb_Mo_apply_233 : decode prog_10_method_41_code 233 = .ok (.iconst 4, 1) := by decide +kernel
theorem kb_Mo_apply_234 : decode prog_10_method_41_code 234 = .ok (.iadd, 1) := by decide +kernel
theorem kb_Mo_apply_235 : decode prog_10_method_41_code 235 = .ok (.iconst 0, 1) := by decide +kernel
theorem kb_Mo_apply_236 : decode prog_10_method_41_code 236 = .ok (.iastore, 1) := by decide +kernel
theorem kb_Mo_apply_237 : decode prog_10_method_41_code 237 = .ok (.goto 84, 3) := by decide +kernel
theorem kb_Mo_apply_240 : decode prog_10_method_41_code 240 = .ok (.iload_n 1, 1) := by decide +kernel
theorem kb_Mo_apply_241 : decode prog_10_method_41_code 241 = .ok (.iconst 1, 1) := by decide +kernel
theorem kb_Mo_apply_242 : decode prog_10_method_41_code 242 = .ok (.if_icmp .ne 27, 3) := by decide +kernel
theorem kb_Mo_apply_245 : decode prog_10_method_41_code 245 = .ok (.iload 5, 2) := by decide +kernel
theorem kb_Mo_apply_247 : decode prog_10_method_41_code 247 = .ok (.iconst (-1), 1) := by decide +kernel
theorem kb_Mo_apply_248 : decode prog_10_method_41_code 248 = .ok (.if_icmp .eq 21, 3) := by decide +kernel
theorem kb_Mo_apply_251 : decode prog_10_method_41_code 251 = .ok (.aload_n 0, 1) := by decide +kernel
theorem kb_Mo_apply_252 : decode prog_10_method_41_code 252 = .ok (.getfield 70, 3) := by decide +kernel
theorem kb_Mo_apply_255 : decode prog_10_method_41_code 255 = .ok (.bipush 40, 2) := by decide +kernel
theorem kb_Mo_apply_257 : decode prog_10_method_41_code 257 = .ok (.iload 4, 2) := by decide +kernel
theorem kb_Mo_apply_259 : decode prog_10_method_41_code 259 = .ok (.imul, 1) := by decide +kernel
theorem kb_Mo_apply_260 : decode prog_10_method_41_code 260 = .ok (.iload 5, 2) := by decide +kernel
theorem kb_Mo_apply_262 : decode prog_10_method_41_code 262 = .ok (.iadd, 1) := by decide +kernel
theorem kb_Mo_apply_263 : decode prog_10_method_41_code 263 = .ok (.iload 6, 2) := by decide +kernel
theorem kb_Mo_apply_265 : decode prog_10_method_41_code 265 = .ok (.iastore, 1) := by decide +kernel
theorem kb_Mo_apply_266 : decode prog_10_method_41_code 266 = .ok (.goto 55, 3) := by decide +kernel
theorem kb_Mo_apply_269 : decode prog_10_method_41_code 269 = .ok (.iload_n 1, 1) := by decide +kernel
theorem kb_Mo_apply_270 : decode prog_10_method_41_code 270 = .ok (.iconst 1, 1) := by decide +kernel
theorem kb_Mo_apply_271 : decode prog_10_method_41_code 271 = .ok (.if_icmp .ne 50, 3) := by decide +kernel
theorem kb_Mo_apply_274 : decode prog_10_method_41_code 274 = .ok (.iload 6, 2) := by decide +kernel
theorem kb_Mo_apply_276 : decode prog_10_method_41_code 276 = .ok (.ifCond .le 45, 3) := by decide +kernel
theorem kb_Mo_apply_279 : decode prog_10_method_41_code 279 = .ok (.aload_n 0, 1) := by decide +kernel
theorem kb_Mo_apply_280 : decode prog_10_method_41_code 280 = .ok (.iload 4, 2) := by decide +kernel
theorem kb_Mo_apply_282 : decode prog_10_method_41_code 282 = .ok (.aload_n 0, 1) := by decide +kernel
theorem kb_Mo_apply_283 : decode prog_10_method_41_code 283 = .ok (.getfield 112, 3) := by decide +kernel
theorem kb_Mo_apply_286 : decode prog_10_method_41_code 286 = .ok (.iload_n 3, 1) := by decide +kernel
theorem kb_Mo_apply_287 : decode prog_10_method_41_code 287 = .ok (.iconst 1, 1) := by decide +kernel
theorem kb_Mo_apply_288 : decode prog_10_method_41_code 288 = .ok (.iadd, 1) := by decide +kernel
theorem kb_Mo_apply_289 : decode prog_10_method_41_code 289 = .ok (.iaload, 1) := by decide +kernel
theorem kb_Mo_apply_290 : decode prog_10_method_41_code 290 = .ok (.aload_n 0, 1) := by decide +kernel
theorem kb_Mo_apply_291 : decode prog_10_method_41_code 291 = .ok (.getfield 112, 3) := by decide +kernel
theorem kb_Mo_apply_294 : decode prog_10_method_41_code 294 = .ok (.iload_n 3, 1) := by decide +kernel
theorem kb_Mo_apply_295 : decode prog_10_method_41_code 295 = .ok (.iconst 2, 1) := by decide +kernel
theorem kb_Mo_apply_296 : decode prog_10_method_41_code 296 = .ok (.iadd, 1) := by decide +kernel
theorem kb_Mo_apply_297 : decode prog_10_method_41_code 297 = .ok (.iaload, 1) := by decide +kernel
theorem kb_Mo_apply_298 : decode prog_10_method_41_code 298 = .ok (.aload_n 0, 1) := by decide +kernel
theorem kb_Mo_apply_299 : decode prog_10_method_41_code 299 = .ok (.getfield 112, 3) := by decide +kernel
theorem kb_Mo_apply_302 : decode prog_10_method_41_code 302 = .ok (.iload_n 3, 1) := by decide +kernel
theorem kb_Mo_apply_303 : decode prog_10_method_41_code 303 = .ok (.iconst 3, 1) := by decide +kernel
theorem kb_Mo_apply_304 : decode prog_10_method_41_code 304 = .ok (.iadd, 1) := by decide +kernel
theorem kb_Mo_apply_305 : decode prog_10_method_41_code 305 = .ok (.iaload, 1) := by decide +kernel
theorem kb_Mo_apply_306 : decode prog_10_method_41_code 306 = .ok (.iload 6, 2) := by decide +kernel
theorem kb_Mo_apply_308 : decode prog_10_method_41_code 308 = .ok (.invokevirtual 235, 3) := by decide +kernel
theorem kb_Mo_apply_311 : decode prog_10_method_41_code 311 = .ok (.ifCond .ne 10, 3) := by decide +kernel
theorem kb_Mo_apply_314 : decode prog_10_method_41_code 314 = .ok (.aload_n 0, 1) := by decide +kernel
theorem kb_Mo_apply_315 : decode prog_10_method_41_code 315 = .ok (.invokevirtual 255, 3) := by decide +kernel
theorem kb_Mo_apply_318 : decode prog_10_method_41_code 318 = .ok (.bipush (-3), 2) := by decide +kernel
theorem kb_Mo_apply_320 : decode prog_10_method_41_code 320 = .ok (.ireturn, 1) := by decide +kernel
theorem kb_Mo_apply_321 : decode prog_10_method_41_code 321 = .ok (.iinc 2 1, 3) := by decide +kernel
theorem kb_Mo_apply_324 : decode prog_10_method_41_code 324 = .ok (.goto (-205), 3) := by decide +kernel
theorem kb_Mo_apply_327 : decode prog_10_method_41_code 327 = .ok (.iinc 1 1, 3) := by decide +kernel
theorem kb_Mo_apply_330 : decode prog_10_method_41_code 330 = .ok (.goto (-218), 3) := by decide +kernel
theorem kb_Mo_apply_333 : decode prog_10_method_41_code 333 = .ok (.aload_n 0, 1) := by decide +kernel
theorem kb_Mo_apply_334 : decode prog_10_method_41_code 334 = .ok (.invokevirtual 258, 3) := by decide +kernel
theorem kb_Mo_apply_337 : decode prog_10_method_41_code 337 = .ok (.ifCond .ne 10, 3) := by decide +kernel
theorem kb_Mo_apply_340 : decode prog_10_method_41_code 340 = .ok (.aload_n 0, 1) := by decide +kernel
theorem kb_Mo_apply_341 : decode prog_10_method_41_code 341 = .ok (.invokevirtual 255, 3) := by decide +kernel
theorem kb_Mo_apply_344 : decode prog_10_method_41_code 344 = .ok (.bipush (-3), 2) := by decide +kernel
theorem kb_Mo_apply_346 : decode prog_10_method_41_code 346 = .ok (.ireturn, 1) := by decide +kernel
theorem kb_Mo_apply_347 : decode prog_10_method_41_code 347 = .ok (.aload_n 0, 1) := by decide +kernel
theorem kb_Mo_apply_348 : decode prog_10_method_41_code 348 = .ok (.invokevirtual 261, 3) := by decide +kernel
theorem kb_Mo_apply_351 : decode prog_10_method_41_code 351 = .ok (.iconst 0, 1) := by decide +kernel
theorem kb_Mo_apply_352 : decode prog_10_method_41_code 352 = .ok (.ireturn, 1) := by decide +kernel
theorem kb_Mo_differ_0 : decode prog_10_method_42_code 0 = .ok (.iconst 5, 1) := by decide +kernel
theorem kb_Mo_differ_1 : decode prog_10_method_42_code 1 = .ok (.aload_n 0, 1) := by decide +kernel
theorem kb_Mo_differ_2 : decode prog_10_method_42_code 2 = .ok (.getfield 264, 3) := by decide +kernel
theorem kb_Mo_differ_5 : decode prog_10_method_42_code 5 = .ok (.imul, 1) := by decide +kernel
theorem kb_Mo_differ_6 : decode prog_10_method_42_code 6 = .ok (.istore 6, 2) := by decide +kernel
theorem kb_Mo_differ_8 : decode prog_10_method_42_code 8 = .ok (.aload_n 0, 1) := by decide +kernel
theorem kb_Mo_differ_9 : decode prog_10_method_42_code 9 = .ok (.getfield 94, 3) := by decide +kernel
theorem kb_Mo_differ_12 : decode prog_10_method_42_code 12 = .ok (.iload 6, 2) := by decide +kernel
theorem kb_Mo_differ_14 : decode prog_10_method_42_code 14 = .ok (.iload_n 1, 1) := by decide +kernel
theorem kb_Mo_differ_15 : decode prog_10_method_42_code 15 = .ok (.iastore, 1) := by decide +kernel
theorem kb_Mo_differ_16 : decode prog_10_method_42_code 16 = .ok (.aload_n 0, 1) := by decide +kernel
theorem kb_Mo_differ_17 : decode prog_10_method_42_code 17 = .ok (.getfield 94, 3) := by decide +kernel
theorem kb_Mo_differ_20 : decode prog_10_method_42_code 20 = .ok (.iload 6, 2) := by decide +kernel
theorem kb_Mo_differ_22 : decode prog_10_method_42_code 22 = .ok (.iconst 1, 1) := by decide +kernel
theorem kb_Mo_differ_23 : decode prog_10_method_42_code 23 = .ok (.iadd, 1) := by decide +kernel
theorem kb_Mo_differ_24 : decode prog_10_method_42_code 24 = .ok (.iload_n 2, 1) := by decide +kernel
theorem kb_Mo_differ_25 : decode prog_10_method_42_code 25 = .ok (.iastore, 1) := by decide +kernel
theorem kb_Mo_differ_26 : decode prog_10_method_42_code 26 = .ok (.aload_n 0, 1) := by decide +kernel
theorem kb_Mo_differ_27 : decode prog_10_method_42_code 27 = .ok (.getfield 94, 3) := by decide +kernel
theorem kb_Mo_differ_30 : decode prog_10_method_42_code 30 = .ok (.iload 6, 2) := by decide +kernel
theorem kb_Mo_differ_32 : decode prog_10_method_42_code 32 = .ok (.iconst 2, 1) := by decide +kernel
theorem kb_Mo_differ_33 : decode prog_10_method_42_code 33 = .ok (.iadd, 1) := by decide +kernel
theorem kb_Mo_differ_34 : decode prog_10_method_42_code 34 = .ok (.iload_n 3, 1) := by decide +kernel
theorem kb_Mo_differ_35 : decode prog_10_method_42_code 35 = .ok (.iastore, 1) := by decide +kernel
theorem kb_Mo_differ_36 : decode prog_10_method_42_code 36 = .ok (.aload_n 0, 1) := by decide +kernel
theorem kb_Mo_differ_37 : decode prog_10_method_42_code 37 = .ok (.getfield 94, 3) := by decide +kernel
theorem kb_Mo_differ_40 : decode prog_10_method_42_code 40 = .ok (.iload 6, 2) := by decide +kernel
theorem kb_Mo_differ_42 : decode prog_10_method_42_code 42 = .ok (.iconst 3, 1) := by decide +kernel
theorem kb_Mo_differ_43 : decode prog_10_method_42_code 43 = .ok (.iadd, 1) := by decide +kernel
theorem kb_Mo_differ_44 : decode prog_10_method_42_code 44 = .ok (.iload 4, 2) := by decide +kernel
theorem kb_Mo_differ_46 : decode prog_10_method_42_code 46 = .ok (.iastore, 1) := by decide +kernel
theorem kb_Mo_differ_47 : decode prog_10_method_42_code 47 = .ok (.aload_n 0, 1) := by decide +kernel
theorem kb_Mo_differ_48 : decode prog_10_method_42_code 48 = .ok (.getfield 94, 3) := by decide +kernel
theorem kb_Mo_differ_51 : decode prog_10_method_42_code 51 = .ok (.iload 6, 2) := by decide +kernel
theorem kb_Mo_differ_53 : decode prog_10_method_42_code 53 = .ok (.iconst 4, 1) := by decide +kernel
theorem kb_Mo_differ_54 : decode prog_10_method_42_code 54 = .ok (.iadd, 1) := by decide +kernel
theorem kb_Mo_differ_55 : decode prog_10_method_42_code 55 = .ok (.iload 5, 2) := by decide +kernel
theorem kb_Mo_differ_57 : decode prog_10_method_42_code 57 = .ok (.iastore, 1) := by decide +kernel
theorem kb_Mo_differ_58 : decode prog_10_method_42_code 58 = .ok (.aload_n 0, 1) := by decide +kernel
theorem kb_Mo_differ_59 : decode prog_10_method_42_code 59 = .ok (.dup, 1) := by decide +kernel
theorem kb_Mo_differ_60 : decode prog_10_method_42_code 60 = .ok (.getfield 264, 3) := by decide +kernel
theorem kb_Mo_differ_63 : decode prog_10_method_42_code 63 = .ok (.iconst 1, 1) := by decide +kernel
theorem kb_Mo_differ_64 : decode prog_10_method_42_code 64 = .ok (.iadd, 1) := by decide +kernel
theorem kb_Mo_differ_65 : decode prog_10_method_42_code 65 = .ok (.putfield 264, 3) := by decide +kernel
theorem kb_Mo_differ_68 : decode prog_10_method_42_code 68 = .ok (.return_, 1) := by decide +kernel
theorem kb_Mo_compareAll_0 : decode prog_10_method_43_code 0 = .ok (.aload_n 0, 1) := by decide +kernel
theorem kb_Mo_compareAll_1 : decode prog_10_method_43_code 1 = .ok (.iconst 0, 1) := by decide +kernel
theorem kb_Mo_compareAll_2 : decode prog_10_method_43_code 2 = .ok (.putfield 264, 3) := by decide +kernel
theorem kb_Mo_compareAll_5 : decode prog_10_method_43_code 5 = .ok (.iconst 0, 1) := by decide +kernel
theorem kb_Mo_compareAll_6 : decode prog_10_method_43_code 6 = .ok (.istore_n 1, 1) := by decide +kernel
theorem kb_Mo_compareAll_7 : decode prog_10_method_43_code 7 = .ok (.iload_n 1, 1) := by decide +kernel
theorem kb_Mo_compareAll_8 : decode prog_10_method_43_code 8 = .ok (.aload_n 0, 1) := by decide +kernel
theorem kb_Mo_compareAll_9 : decode prog_10_method_43_code 9 = .ok (.getfield 139, 3) := by decide +kernel
theorem kb_Mo_compareAll_12 : decode prog_10_method_43_code 12 = .ok (.if_icmp .ge 212, 3) := by decide +kernel
theorem kb_Mo_compareAll_15 : decode prog_10_method_43_code 15 = .ok (.iconst 0, 1) := by decide +kernel
theorem kb_Mo_compareAll_16 : decode prog_10_method_43_code 16 = .ok (.istore_n 2, 1) := by decide +kernel
theorem kb_Mo_compareAll_17 : decode prog_10_method_43_code 17 = .ok (.iconst 0, 1) := by decide +kernel
theorem kb_Mo_compareAll_18 : decode prog_10_method_43_code 18 = .ok (.istore_n 3, 1) := by decide +kernel
theorem kb_Mo_compareAll_19 : decode prog_10_method_43_code 19 = .ok (.aload_n 0, 1) := by decide +kernel
theorem kb_Mo_compareAll_20 : decode prog_10_method_43_code 20 = .ok (.getfield 55, 3) := by decide +kernel
theorem kb_Mo_compareAll_23 : decode prog_10_method_43_code 23 = .ok (.iload_n 1, 1) := by decide +kernel
theorem kb_Mo_compareAll_24 : decode prog_10_method_43_code 24 = .ok (.baload, 1) := by decide +kernel
theorem kb_Mo_compareAll_25 : decode prog_10_method_43_code 25 = .ok (.ifCond .eq 193, 3) := by decide +kernel
theorem kb_Mo_compareAll_28 : decode prog_10_method_43_code 28 = .ok (.iload_n 2, 1) := by decide +kernel
theorem kb_Mo_compareAll_29 : decode prog_10_method_43_code 29 = .ok (.aload_n 0, 1) := by decide +kernel
theorem kb_Mo_compareAll_30 : decode prog_10_method_43_code 30 = .ok (.getfield 82, 3) := by decide +kernel
theorem kb_Mo_compareAll_33 : decode prog_10_method_43_code 33 = .ok (.iload_n 1, 1) := by decide +kernel
theorem kb_Mo_compareAll_34 : decode prog_10_method_43_code 34 = .ok (.iaload, 1) := by decide +kernel
theorem kb_Mo_compareAll_35 : decode prog_10_method_43_code 35 = .ok (.if_icmp .lt 13, 3) := by decide +kernel
theorem kb_Mo_compareAll_38 : decode prog_10_method_43_code 38 = .ok (.iload_n 3, 1) := by decide +kernel
theorem kb_Mo_compareAll_39 : decode prog_10_method_43_code 39 = .ok (.aload_n 0, 1) := by decide +kernel
theorem kb_Mo_compareAll_40 : decode prog_10_method_43_code 40 = .ok (.getfield 73, 3) := by decide +kernel
theorem kb_Mo_compareAll_43 : decode prog_10_method_43_code 43 = .ok (.iload_n 1, 1) := by decide +kernel
theorem kb_Mo_compareAll_44 : decode prog_10_method_43_code 44 = .ok (.iaload, 1) := by decide +kernel
theorem kb_Mo_compareAll_45 : decode prog_10_method_43_code 45 = .ok (.if_icmp .ge 173, 3) := by decide +kernel
theorem kb_Mo_compareAll_48 : decode prog_10_method_43_code 48 = .ok (.aload_n 0, 1) := by decide +kernel
theorem kb_Mo_compareAll_49 : decode prog_10_method_43_code 49 = .ok (.iload_n 1, 1) := by decide +kernel
theorem kb_Mo_compareAll_50 : decode prog_10_method_43_code 50 = .ok (.iload_n 2, 1) := by decide +kernel
theorem kb_Mo_compareAll_51 : decode prog_10_method_43_code 51 = .ok (.invokevirtual 184, 3) := by decide +kernel
theorem kb_Mo_compareAll_54 : decode prog_10_method_43_code 54 = .ok (.istore 4, 2) := by decide +kernel
theorem kb_Mo_compareAll_56 : decode prog_10_method_43_code 56 = .ok (.iload_n 2, 1) := by decide +kernel
theorem kb_Mo_compareAll_57 : decode prog_10_method_43_code 57 = .ok (.aload_n 0, 1) := by decide +kernel
theorem kb_Mo_compareAll_58 : decode prog_10_method_43_code 58 = .ok (.getfield 82, 3) := by decide +kernel
theorem kb_Mo_compareAll_61 : decode prog_10_method_43_code 61 = .ok (.iload_n 1, 1) := by decide +kernel
theorem kb_Mo_compareAll_62 : decode prog_10_method_43_code 62 = .ok (.iaload, 1) := by decide +kernel
theorem kb_Mo_compareAll_63 : decode prog_10_method_43_code 63 = .ok (.if_icmp .ne 7, 3) := by decide +kernel
theorem kb_Mo_compareAll_66 : decode prog_10_method_43_code 66 = .ok (.iconst 1, 1) := by decide +kernel
theorem kb_Mo_compareAll_67 : decode prog_10_method_43_code 67 = .ok (.goto 48, 3) := by decide +kernel
theorem kb_Mo_compareAll_70 : decode prog_10_method_43_code 70 = .ok (.iload_n 3, 1) := by decide +kernel
theorem kb_Mo_compareAll_71 : decode prog_10_method_43_code 71 = .ok (.aload_n 0, 1) := by decide +kernel
theorem kb_Mo_compareAll_72 : decode prog_10_method_43_code 72 = .ok (.getfield 73, 3) := by decide +kernel
theorem kb_Mo_compareAll_75 : decode prog_10_method_43_code 75 = .ok (.iload_n 1, 1) := by decide +kernel
theorem kb_Mo_compareAll_76 : decode prog_10_method_43_code 76 = .ok (.iaload, 1) := by decide +kernel
theorem kb_Mo_compareAll_77 : decode prog_10_method_43_code 77 = .ok (.if_icmp .ne 7, 3) := by decide +kernel
theorem kb_Mo_compareAll_80 : decode prog_10_method_43_code 80 = .ok (.iconst (-1), 1) := by decide +kernel
theorem kb_Mo_compareAll_81 : decode prog_10_method_43_code 81 = .ok (.goto 34, 3) := by decide +kernel
theorem kb_Mo_compareAll_84 : decode prog_10_method_43_code 84 = .ok (.aload_n 0, 1) := by decide +kernel
theorem kb_Mo_compareAll_85 : decode prog_10_method_43_code 85 = .ok (.iload_n 1, 1) := by decide +kernel
theorem kb_Mo_compareAll_86 : decode prog_10_method_43_code 86 = .ok (.iload_n 3, 1) := by decide +kernel
theorem kb_Mo_compareAll_87 : decode prog_10_method_43_code 87 = .ok (.aload_n 0, 1) := by decide +kernel
theorem kb_Mo_compareAll_88 : decode prog_10_method_43_code 88 = .ok (.getfield 76, 3) := by decide +kernel
theorem kb_Mo_compareAll_91 : decode prog_10_method_43_code 91 = .ok (.iload 4, 2) := by decide +kernel
theorem kb_Mo_compareAll_93 : decode prog_10_method_43_code 93 = .ok (.iaload, 1) := by decide +kernel
theorem kb_Mo_compareAll_94 : decode prog_10_method_43_code 94 = .ok (.aload_n 0, 1) := by decide +kernel
theorem kb_Mo_compareAll_95 : decode prog_10_method_43_code 95 = .ok (.getfield 76, 3) := by decide +kernel
theorem kb_Mo_compareAll_98 : decode prog_10_method_43_code 98 = .ok (.iload 4, 2) := by decide +kernel
theorem kb_Mo_compareAll_100 : decode prog_10_method_43_code 100 = .ok (.iconst 1, 1) := by decide +kernel
theorem kb_Mo_compareAll_101 : decode prog_10_method_43_code 101 = .ok (.iadd, 1) := by decide +kernel
theorem kb_Mo_compareAll_102 : decode prog_10_method_43_code 102 = .ok (.iaload, 1) := by decide +kernel
theorem kb_Mo_compareAll_103 : decode prog_10_method_43_code 103 = .ok (.aload_n 0, 1) := by decide +kernel
theorem kb_Mo_compareAll_104 : decode prog_10_method_43_code 104 = .ok (.getfield 76, 3) := by decide +kernel
theorem kb_Mo_compareAll_107 : decode prog_10_method_43_code 107 = .ok (.iload 4, 2) := by decide +kernel
theorem kb_Mo_compareAll_109 : decode prog_10_method_43_code 109 = .ok (.iconst 2, 1) := by decide +kernel
theorem kb_Mo_compareAll_110 : decode prog_10_method_43_code 110 = .ok (.iadd, 1) := by decide +kernel
theorem kb_Mo_compareAll_111 : decode prog_10_method_43_code 111 = .ok (.iaload, 1) := by decide +kernel
theorem kb_Mo_compareAll_112 : decode prog_10_method_43_code 112 = .ok (.invokevirtual 188, 3) := by decide +kernel
theorem kb_Mo_compareAll_115 : decode prog_10_method_43_code 115 = .ok (.istore 5, 2) := by decide +kernel
theorem kb_Mo_compareAll_117 : decode prog_10_method_43_code 117 = .ok (.iload 5, 2) := by decide +kernel
theorem kb_Mo_compareAll_119 : decode prog_10_method_43_code 119 = .ok (.ifCond .ne 12, 3) := by decide +kernel
theorem kb_Mo_compareAll_122 : decode prog_10_method_43_code 122 = .ok (.iinc 2 1, 3) := by decide +kernel
theorem kb_Mo_compareAll_125 : decode prog_10_method_43_code 125 = .ok (.iinc 3 1, 3) := by decide +kernel
theorem kb_Mo_compareAll_128 : decode prog_10_method_43_code 128 = .ok (.goto 87, 3) := by decide +kernel
theorem kb_Mo_compareAll_131 : decode prog_10_method_43_code 131 = .ok (.iload 5, 2) := by decide +kernel
theorem kb_Mo_compareAll_133 : decode prog_10_method_43_code 133 = .ok (.ifCond .le 48, 3) := by decide +kernel
theorem kb_Mo_compareAll_136 : decode prog_10_method_43_code 136 = .ok (.aload_n 0, 1) := by decide +kernel
theorem kb_Mo_compareAll_137 : decode prog_10_method_43_code 137 = .ok (.iload_n 1, 1) := by decide +kernel
theorem kb_Mo_compareAll_138 : decode prog_10_method_43_code 138 = .ok (.iload_n 3, 1) := by decide +kernel
theorem kb_Mo_compareAll_139 : decode prog_10_method_43_code 139 = .ok (.invokevirtual 184, 3) := by decide +kernel
theorem kb_Mo_compareAll_142 : decode prog_10_method_43_code 142 = .ok (.istore 6, 2) := by decide +kernel
theorem kb_Mo_compareAll_144 : decode prog_10_method_43_code 144 = .ok (.aload_n 0, 1) := by decide +kernel
theorem kb_Mo_compareAll_145 : decode prog_10_method_43_code 145 = .ok (.iload_n 1, 1) := by decide +kernel
theorem kb_Mo_compareAll_146 : decode prog_10_method_43_code 146 = .ok (.aload_n 0, 1) := by decide +kernel
theorem kb_Mo_compareAll_147 : decode prog_10_method_43_code 147 = .ok (.getfield 67, 3) := by decide +kernel
theorem kb_Mo_compareAll_150 : decode prog_10_method_43_code 150 = .ok (.iload 6, 2) := by decide +kernel
theorem kb_Mo_compareAll_152 : decode prog_10_method_43_code 152 = .ok (.iaload, 1) := by decide +kernel
theorem kb_Mo_compareAll_153 : decode prog_10_method_43_code 153 = .ok (.aload_n 0, 1) := by decide +kernel
theorem kb_Mo_compareAll_154 : decode prog_10_method_43_code 154 = .ok (.getfield 67, 3) := by decide +kernel
theorem kb_Mo_compareAll_157 : decode prog_10_method_43_code 157 = .ok (.iload 6, 2) := by decide +kernel
theorem kb_Mo_compareAll_159 : decode prog_10_method_43_code 159 = .ok (.iconst 1, 1) := by decide +kernel
theorem kb_Mo_compareAll_160 : decode prog_10_method_43_code 160 = .ok (.iadd, 1) := by decide +kernel
theorem kb_Mo_compareAll_161 : decode prog_10_method_43_code 161 = .ok (.iaload, 1) := by decide +kernel
theorem kb_Mo_compareAll_162 : decode prog_10_method_43_code 162 = .ok (.aload_n 0, 1) := by decide +kernel
theorem kb_Mo_compareAll_163 : decode prog_10_method_43_code 163 = .ok (.getfield 67, 3) := by decide +kernel
theorem kb_Mo_compareAll_166 : decode prog_10_method_43_code 166 = .ok (.iload 6, 2) := by decide +kernel
theorem kb_Mo_compareAll_168 : decode prog_10_method_43_code 168 = .ok (.iconst 2, 1) := by decide +kernel
theorem kb_Mo_compareAll_169 : decode prog_10_method_43_code 169 = .ok (.iadd, 1) := by decide +kernel
theorem kb_Mo_compareAll_170 : decode prog_10_method_43_code 170 = .ok (.iaload, 1) := by decide +kernel
theorem kb_Mo_compareAll_171 : decode prog_10_method_43_code 171 = .ok (.iconst 1, 1) := by decide +kernel
theorem kb_Mo_compareAll_172 : decode prog_10_method_43_code 172 = .ok (.invokevirtual 267, 3) := by decide +kernel
theorem kb_Mo_compareAll_175 : decode prog_10_method_43_code 175 = .ok (.iinc 3 1, 3) := by decide +kernel
theorem kb_Mo_compareAll_178 : decode prog_10_method_43_code 178 = .ok (.goto 37, 3) := by decide +kernel
theorem kb_Mo_compareAll_181 : decode prog_10_method_43_code 181 = .ok (.aload_n 0, 1) := by decide +kernel
theorem kb_Mo_compareAll_182 : decode prog_10_method_43_code 182 = .ok (.iload_n 1, 1) := by decide +kernel
theorem kb_Mo_compareAll_183 : decode prog_10_method_43_code 183 = .ok (.aload_n 0, 1) := by decide +kernel
theorem kb_Mo_compareAll_184 : decode prog_10_method_43_code 184 = .ok (.getfield 76, 3) := by decide +kernel
theorem kb_Mo_compareAll_187 : decode prog_10_method_43_code 187 = .ok (.iload 4, 2) := by decide +kernel
theorem kb_Mo_compareAll_189 : decode prog_10_method_43_code 189 = .ok (.iaload, 1) := by decide +kernel
theorem kb_Mo_compareAll_190 : decode prog_10_method_43_code 190 = .ok (.aload_n 0, 1) := by decide +kernel
theorem kb_Mo_compareAll_191 : decode prog_10_method_43_code 191 = .ok (.getfield 76, 3) := by decide +kernel
theorem kb_Mo_compareAll_194 : decode prog_10_method_43_code 194 = .ok (.iload 4, 2) := by decide +kernel
theorem kb_Mo_compareAll_196 : decode prog_10_method_43_code 196 = .ok (.iconst 1, 1) := by decide +kernel
theorem kb_Mo_compareAll_197 : decode prog_10_method_43_code 197 = .ok (.iadd, 1) := by decide +kernel
theorem kb_Mo_compareAll_198 : decode prog_10_method_43_code 198 = .ok (.iaload, 1) := by decide +kernel
theorem kb_Mo_compareAll_199 : decode prog_10_method_43_code 199 = .ok (.aload_n 0, 1) := by decide +kernel
theorem kb_Mo_compareAll_200 : decode prog_10_method_43_code 200 = .ok (.getfield 76, 3) := by decide +kernel
theorem kb_Mo_compareAll_203 : decode prog_10_method_43_code 203 = .ok (.iload 4, 2) := by decide +kernel
theorem kb_Mo_compareAll_205 : decode prog_10_method_43_code 205 = .ok (.iconst 2, 1) := by decide +kernel
theorem kb_Mo_compareAll_206 : decode prog_10_method_43_code 206 = .ok (.iadd, 1) := by decide +kernel
theorem kb_Mo_compareAll_207 : decode prog_10_method_43_code 207 = .ok (.iaload, 1) := by decide +kernel
theorem kb_Mo_compareAll_208 : decode prog_10_method_43_code 208 = .ok (.iconst (-1), 1) := by decide +kernel
theorem kb_Mo_compareAll_209 : decode prog_10_method_43_code 209 = .ok (.invokevirtual 267, 3) := by decide +kernel
theorem kb_Mo_compareAll_212 : decode prog_10_method_43_code 212 = .ok (.iinc 2 1, 3) := by decide +kernel
theorem kb_Mo_compareAll_215 : decode prog_10_method_43_code 215 = .ok (.goto (-196), 3) := by decide +kernel
theorem kb_Mo_compareAll_218 : decode prog_10_method_43_code 218 = .ok (.iinc 1 1, 3) := by decide +kernel
theorem kb_Mo_compareAll_221 : decode prog_10_method_43_code 221 = .ok (.goto (-214), 3) := by decide +kernel
theorem kb_Mo_compareAll_224 : decode prog_10_method_43_code 224 = .ok (.return_, 1) := by decide +kernel
theorem kb_Mo_feed_0 : decode prog_10_method_44_code 0 = .ok (.iload_n 3, 1) := by decide +kernel
theorem kb_Mo_feed_1 : decode prog_10_method_44_code 1 = .ok (.iconst 1, 1) := by decide +kernel
theorem kb_Mo_feed_2 : decode prog_10_method_44_code 2 = .ok (.bipush 8, 2) := by decide +kernel
theorem kb_Mo_feed_4 : decode prog_10_method_44_code 4 = .ok (.invokestatic 271, 3) := by decide +kernel
theorem kb_Mo_feed_7 : decode prog_10_method_44_code 7 = .ok (.ifCond .ne 6, 3) := by decide +kernel
theorem kb_Mo_feed_10 : decode prog_10_method_44_code 10 = .ok (.bipush (-2), 2) := by decide +kernel
theorem kb_Mo_feed_12 : decode prog_10_method_44_code 12 = .ok (.ireturn, 1) := by decide +kernel
theorem kb_Mo_feed_13 : decode prog_10_method_44_code 13 = .ok (.aload_n 0, 1) := by decide +kernel
theorem kb_Mo_feed_14 : decode prog_10_method_44_code 14 = .ok (.getfield 274, 3) := by decide +kernel
theorem kb_Mo_feed_17 : decode prog_10_method_44_code 17 = .ok (.iload_n 3, 1) := by decide +kernel
theorem kb_Mo_feed_18 : decode prog_10_method_44_code 18 = .ok (.iadd, 1) := by decide +kernel
theorem kb_Mo_feed_19 : decode prog_10_method_44_code 19 = .ok (.sipush 600, 3) := by decide +kernel
theorem kb_Mo_feed_22 : decode prog_10_method_44_code 22 = .ok (.if_icmp .le 6, 3) := by decide +kernel
theorem kb_Mo_feed_25 : decode prog_10_method_44_code 25 = .ok (.bipush (-3), 2) := by decide +kernel
theorem kb_Mo_feed_27 : decode prog_10_method_44_code 27 = .ok (.ireturn, 1) := by decide +kernel
theorem kb_Mo_feed_28 : decode prog_10_method_44_code 28 = .ok (.iconst 0, 1) := by decide +kernel
theorem kb_Mo_feed_29 : decode prog_10_method_44_code 29 = .ok (.istore 4, 2) := by decide +kernel
theorem kb_Mo_feed_31 : decode prog_10_method_44_code 31 = .ok (.iload 4, 2) := by decide +kernel
theorem kb_Mo_feed_33 : decode prog_10_method_44_code 33 = .ok (.iload_n 3, 1) := by decide +kernel
theorem kb_Mo_feed_34 : decode prog_10_method_44_code 34 = .ok (.if_icmp .ge 37, 3) := by decide +kernel
theorem kb_Mo_feed_37 : decode prog_10_method_44_code 37 = .ok (.aload_n 0, 1) := by decide +kernel
theorem kb_Mo_feed_38 : decode prog_10_method_44_code 38 = .ok (.getfield 7, 3) := by decide +kernel
theorem kb_Mo_feed_41 : decode prog_10_method_44_code 41 = .ok (.aload_n 0, 1) := by decide +kernel
theorem kb_Mo_feed_42 : decode prog_10_method_44_code 42 = .ok (.getfield 274, 3) := by decide +kernel
theorem kb_Mo_feed_45 : decode prog_10_method_44_code 45 = .ok (.lload_n 1, 1) := by decide +kernel
theorem kb_Mo_feed_46 : decode prog_10_method_44_code 46 = .ok (.bipush 8, 2) := by decide +kernel
theorem kb_Mo_feed_48 : decode prog_10_method_44_code 48 = .ok (.iload 4, 2) := by decide +kernel
theorem kb_Mo_feed_50 : decode prog_10_method_44_code 50 = .ok (.imul, 1) := by decide +kernel
theorem kb_Mo_feed_51 : decode prog_10_method_44_code 51 = .ok (.lshr, 1) := by decide +kernel
theorem kb_Mo_feed_52 : decode prog_10_method_44_code 52 = .ok (.l2i, 1) := by decide +kernel
theorem kb_Mo_feed_53 : decode prog_10_method_44_code 53 = .ok (.i2b, 1) := by decide +kernel
theorem kb_Mo_feed_54 : decode prog_10_method_44_code 54 = .ok (.bastore, 1) := by decide +kernel
theorem kb_Mo_feed_55 : decode prog_10_method_44_code 55 = .ok (.aload_n 0, 1) := by decide +kernel
theorem kb_Mo_feed_56 : decode prog_10_method_44_code 56 = .ok (.dup, 1) := by decide +kernel
theorem kb_Mo_feed_57 : decode prog_10_method_44_code 57 = .ok (.getfield 274, 3) := by decide +kernel
theorem kb_Mo_feed_60 : decode prog_10_method_44_code 60 = .ok (.iconst 1, 1) := by decide +kernel
theorem kb_Mo_feed_61 : decode prog_10_method_44_code 61 = .ok (.iadd, 1) := by decide +kernel
theorem kb_Mo_feed_62 : decode prog_10_method_44_code 62 = .ok (.putfield 274, 3) := by decide +kernel
theorem kb_Mo_feed_65 : decode prog_10_method_44_code 65 = .ok (.iinc 4 1, 3) := by decide +kernel
theorem kb_Mo_feed_68 : decode prog_10_method_44_code 68 = .ok (.goto (-37), 3) := by decide +kernel
theorem kb_Mo_feed_71 : decode prog_10_method_44_code 71 = .ok (.aload_n 0, 1) := by decide +kernel
theorem kb_Mo_feed_72 : decode prog_10_method_44_code 72 = .ok (.getfield 274, 3) := by decide +kernel
theorem kb_Mo_feed_75 : decode prog_10_method_44_code 75 = .ok (.ireturn, 1) := by decide +kernel
theorem kb_Mo_forget_0 : decode prog_10_method_45_code 0 = .ok (.aload_n 0, 1) := by decide +kernel
theorem kb_Mo_forget_1 : decode prog_10_method_45_code 1 = .ok (.iconst 0, 1) := by decide +kernel
theorem kb_Mo_forget_2 : decode prog_10_method_45_code 2 = .ok (.putfield 164, 3) := by decide +kernel
theorem kb_Mo_forget_5 : decode prog_10_method_45_code 5 = .ok (.aload_n 0, 1) := by decide +kernel
theorem kb_Mo_forget_6 : decode prog_10_method_45_code 6 = .ok (.iconst 0, 1) := by decide +kernel
theorem kb_Mo_forget_7 : decode prog_10_method_45_code 7 = .ok (.putfield 139, 3) := by decide +kernel
theorem kb_Mo_forget_10 : decode prog_10_method_45_code 10 = .ok (.aload_n 0, 1) := by decide +kernel
theorem kb_Mo_forget_11 : decode prog_10_method_45_code 11 = .ok (.iconst 0, 1) := by decide +kernel
theorem kb_Mo_forget_12 : decode prog_10_method_45_code 12 = .ok (.putfield 264, 3) := by decide +kernel
theorem kb_Mo_forget_15 : decode prog_10_method_45_code 15 = .ok (.aload_n 0, 1) := by decide +kernel
theorem kb_Mo_forget_16 : decode prog_10_method_45_code 16 = .ok (.iconst 0, 1) := by decide +kernel
theorem kb_Mo_forget_17 : decode prog_10_method_45_code 17 = .ok (.putfield 277, 3) := by decide +kernel
theorem kb_Mo_forget_20 : decode prog_10_method_45_code 20 = .ok (.iconst 0, 1) := by decide +kernel
theorem kb_Mo_forget_21 : decode prog_10_method_45_code 21 = .ok (.istore_n 1, 1) := by decide +kernel
theorem kb_Mo_forget_22 : decode prog_10_method_45_code 22 = .ok (.iload_n 1, 1) := by decide +kernel
theorem kb_Mo_forget_23 : decode prog_10_method_45_code 23 = .ok (.bipush 8, 2) := by decide +kernel
theorem kb_Mo_forget_25 : decode prog_10_method_45_code 25 = .ok (.if_icmp .ge 23, 3) := by decide +kernel
theorem kb_Mo_forget_28 : decode prog_10_method_45_code 28 = .ok (.aload_n 0, 1) := by decide +kernel
theorem kb_Mo_forget_29 : decode prog_10_method_45_code 29 = .ok (.getfield 73, 3) := by decide +kernel
theorem kb_Mo_forget_32 : decode prog_10_method_45_code 32 = .ok (.iload_n 1, 1) := by decide +kernel
theorem kb_Mo_forget_33 : decode prog_10_method_45_code 33 = .ok (.iconst 0, 1) := by decide +kernel
theorem kb_Mo_forget_34 : decode prog_10_method_45_code 34 = .ok (.iastore, 1) := by decide +kernel
theorem kb_Mo_forget_35 : decode prog_10_method_45_code 35 = .ok (.aload_n 0, 1) := by decide +kernel
theorem kb_Mo_forget_36 : decode prog_10_method_45_code 36 = .ok (.getfield 64, 3) := by decide +kernel
theorem kb_Mo_forget_39 : decode prog_10_method_45_code 39 = .ok (.iload_n 1, 1) := by decide +kernel
theorem kb_Mo_forget_40 : decode prog_10_method_45_code 40 = .ok (.iconst 0, 1) := by decide +kernel
theorem kb_Mo_forget_41 : decode prog_10_method_45_code 41 = .ok (.bastore, 1) := by decide +kernel
theorem kb_Mo_forget_42 : decode prog_10_method_45_code 42 = .ok (.iinc 1 1, 3) := by decide +kernel
theorem kb_Mo_forget_45 : decode prog_10_method_45_code 45 = .ok (.goto (-23), 3) := by decide +kernel
theorem kb_Mo_forget_48 : decode prog_10_method_45_code 48 = .ok (.return_, 1) := by decide +kernel
theorem kb_Mo_parse_0 : decode prog_10_method_46_code 0 = .ok (.aload_n 0, 1) := by decide +kernel
theorem kb_Mo_parse_1 : decode prog_10_method_46_code 1 = .ok (.iconst 0, 1) := by decide +kernel
theorem kb_Mo_parse_2 : decode prog_10_method_46_code 2 = .ok (.putfield 280, 3) := by decide +kernel
theorem kb_Mo_parse_5 : decode prog_10_method_46_code 5 = .ok (.iconst 0, 1) := by decide +kernel
theorem kb_Mo_parse_6 : decode prog_10_method_46_code 6 = .ok (.istore_n 1, 1) := by decide +kernel
theorem kb_Mo_parse_7 : decode prog_10_method_46_code 7 = .ok (.iload_n 1, 1) := by decide +kernel
theorem kb_Mo_parse_8 : decode prog_10_method_46_code 8 = .ok (.aload_n 0, 1) := by decide +kernel
theorem kb_Mo_parse_9 : decode prog_10_method_46_code 9 = .ok (.getfield 274, 3) := by decide +kernel
theorem kb_Mo_parse_12 : decode prog_10_method_46_code 12 = .ok (.if_icmp .ge 62, 3) := by decide +kernel
theorem kb_Mo_parse_15 : decode prog_10_method_46_code 15 = .ok (.aload_n 0, 1) := by decide +kernel
theorem kb_Mo_parse_16 : decode prog_10_method_46_code 16 = .ok (.getfield 7, 3) := by decide +kernel
theorem kb_Mo_parse_19 : decode prog_10_method_46_code 19 = .ok (.iload_n 1, 1) := by decide +kernel
theorem kb_Mo_parse_20 : decode prog_10_method_46_code 20 = .ok (.baload, 1) := by decide +kernel
theorem kb_Mo_parse_21 : decode prog_10_method_46_code 21 = .ok (.sipush 255, 3) := by decide +kernel
theorem kb_Mo_parse_24 : decode prog_10_method_46_code 24 = .ok (.iand, 1) := by decide +kernel
theorem kb_Mo_parse_25 : decode prog_10_method_46_code 25 = .ok (.istore_n 2, 1) := by decide +kernel
theorem kb_Mo_parse_26 : decode prog_10_method_46_code 26 = .ok (.iload_n 2, 1) := by decide +kernel
theorem kb_Mo_parse_27 : decode prog_10_method_46_code 27 = .ok (.bipush 32, 2) := by decide +kernel
theorem kb_Mo_parse_29 : decode prog_10_method_46_code 29 = .ok (.if_icmp .eq 39, 3) := by decide +kernel
theorem kb_Mo_parse_32 : decode prog_10_method_46_code 32 = .ok (.iload_n 2, 1) := by decide +kernel
theorem kb_Mo_parse_33 : decode prog_10_method_46_code 33 = .ok (.bipush 10, 2) := by decide +kernel
theorem kb_Mo_parse_35 : decode prog_10_method_46_code 35 = .ok (.if_icmp .eq 33, 3) := by decide +kernel
theorem kb_Mo_parse_38 : decode prog_10_method_46_code 38 = .ok (.aload_n 0, 1) := by decide +kernel
theorem kb_Mo_parse_39 : decode prog_10_method_46_code 39 = .ok (.getfield 13, 3) := by decide +kernel
theorem kb_Mo_parse_42 : decode prog_10_method_46_code 42 = .ok (.aload_n 0, 1) := by decide +kernel
theorem kb_Mo_parse_43 : decode prog_10_method_46_code 43 = .ok (.getfield 280, 3) := by decide +kernel
theorem kb_Mo_parse_46 : decode prog_10_method_46_code 46 = .ok (.iload_n 2, 1) := by decide +kernel
theorem kb_Mo_parse_47 : decode prog_10_method_46_code 47 = .ok (.iastore, 1) := by decide +kernel
theorem kb_Mo_parse_48 : decode prog_10_method_46_code 48 = .ok (.aload_n 0, 1) := by decide +kernel
theorem kb_Mo_parse_49 : decode prog_10_method_46_code 49 = .ok (.getfield 17, 3) := by decide +kernel
theorem kb_Mo_parse_52 : decode prog_10_method_46_code 52 = .ok (.aload_n 0, 1) := by decide +kernel
theorem kb_Mo_parse_53 : decode prog_10_method_46_code 53 = .ok (.getfield 280, 3) := by decide +kernel
theorem kb_Mo_parse_56 : decode prog_10_method_46_code 56 = .ok (.iload_n 1, 1) := by decide +kernel
theorem kb_Mo_parse_57 : decode prog_10_method_46_code 57 = .ok (.iastore, 1) := by decide +kernel
theorem kb_Mo_parse_58 : decode prog_10_method_46_code 58 = .ok (.aload_n 0, 1) := by decide +kernel
theorem kb_Mo_parse_59 : decode prog_10_method_46_code 59 = .ok (.dup, 1) := by decide +kernel
theorem kb_Mo_parse_60 : decode prog_10_method_46_code 60 = .ok (.getfield 280, 3) := by decide +kernel
theorem kb_Mo_parse_63 : decode prog_10_method_46_code 63 = .ok (.iconst 1, 1) := by decide +kernel
theorem kb_Mo_parse_64 : decode prog_10_method_46_code 64 = .ok (.iadd, 1) := by decide +kernel
theorem kb_Mo_parse_65 : decode prog_10_method_46_code 65 = .ok (.putfield 280, 3) := by decide +kernel
theorem kb_Mo_parse_68 : decode prog_10_method_46_code 68 = .ok (.iinc 1 1, 3) := by decide +kernel
theorem kb_Mo_parse_71 : decode prog_10_method_46_code 71 = .ok (.goto (-64), 3) := by decide +kernel
theorem kb_Mo_parse_74 : decode prog_10_method_46_code 74 = .ok (.aload_n 0, 1) := by decide +kernel
theorem kb_Mo_parse_75 : decode prog_10_method_46_code 75 = .ok (.getfield 13, 3) := by decide +kernel
theorem kb_Mo_parse_78 : decode prog_10_method_46_code 78 = .ok (.aload_n 0, 1) := by decide +kernel
theorem kb_Mo_parse_79 : decode prog_10_method_46_code 79 = .ok (.getfield 280, 3) := by decide +kernel
theorem kb_Mo_parse_82 : decode prog_10_method_46_code 82 = .ok (.iconst (-1), 1) := by decide +kernel
theorem kb_Mo_parse_83 : decode prog_10_method_46_code 83 = .ok (.iastore, 1) := by decide +kernel
theorem kb_Mo_parse_84 : decode prog_10_method_46_code 84 = .ok (.aload_n 0, 1) := by decide +kernel
theorem kb_Mo_parse_85 : decode prog_10_method_46_code 85 = .ok (.getfield 17, 3) := by decide +kernel
theorem kb_Mo_parse_88 : decode prog_10_method_46_code 88 = .ok (.aload_n 0, 1) := by decide +kernel
theorem kb_Mo_parse_89 : decode prog_10_method_46_code 89 = .ok (.getfield 280, 3) := by decide +kernel
theorem kb_Mo_parse_92 : decode prog_10_method_46_code 92 = .ok (.aload_n 0, 1) := by decide +kernel
theorem kb_Mo_parse_93 : decode prog_10_method_46_code 93 = .ok (.getfield 274, 3) := by decide +kernel
theorem kb_Mo_parse_96 : decode prog_10_method_46_code 96 = .ok (.iastore, 1) := by decide +kernel
theorem kb_Mo_parse_97 : decode prog_10_method_46_code 97 = .ok (.aload_n 0, 1) := by decide +kernel
theorem kb_Mo_parse_98 : decode prog_10_method_46_code 98 = .ok (.invokevirtual 283, 3) := by decide +kernel
theorem kb_Mo_parse_101 : decode prog_10_method_46_code 101 = .ok (.aload_n 0, 1) := by decide +kernel
theorem kb_Mo_parse_102 : decode prog_10_method_46_code 102 = .ok (.iconst 0, 1) := by decide +kernel
theorem kb_Mo_parse_103 : decode prog_10_method_46_code 103 = .ok (.putfield 286, 3) := by decide +kernel
theorem kb_Mo_parse_106 : decode prog_10_method_46_code 106 = .ok (.aload_n 0, 1) := by decide +kernel
theorem kb_Mo_parse_107 : decode prog_10_method_46_code 107 = .ok (.iconst 0, 1) := by decide +kernel
theorem kb_Mo_parse_108 : decode prog_10_method_46_code 108 = .ok (.putfield 124, 3) := by decide +kernel
theorem kb_Mo_parse_111 : decode prog_10_method_46_code 111 = .ok (.aload_n 0, 1) := by decide +kernel
theorem kb_Mo_parse_112 : decode prog_10_method_46_code 112 = .ok (.iconst 0, 1) := by decide +kernel
theorem kb_Mo_parse_113 : decode prog_10_method_46_code 113 = .ok (.putfield 121, 3) := by decide +kernel
theorem kb_Mo_parse_116 : decode prog_10_method_46_code 116 = .ok (.aload_n 0, 1) := by decide +kernel
theorem kb_Mo_parse_117 : decode prog_10_method_46_code 117 = .ok (.iconst (-1), 1) := by decide +kernel
theorem kb_Mo_parse_118 : decode prog_10_method_46_code 118 = .ok (.putfield 20, 3) := by decide +kernel
theorem kb_Mo_parse_121 : decode prog_10_method_46_code 121 = .ok (.aload_n 0, 1) := by decide +kernel
theorem kb_Mo_parse_122 : decode prog_10_method_46_code 122 = .ok (.getfield 121, 3) := by decide +kernel
theorem kb_Mo_parse_125 : decode prog_10_method_46_code 125 = .ok (.ifCond .ne 21, 3) := by decide +kernel
theorem kb_Mo_parse_128 : decode prog_10_method_46_code 128 = .ok (.aload_n 0, 1) := by decide +kernel
theorem kb_Mo_parse_129 : decode prog_10_method_46_code 129 = .ok (.getfield 124, 3) := by decide +kernel
theorem kb_Mo_parse_132 : decode prog_10_method_46_code 132 = .ok (.aload_n 0, 1) := by decide +kernel
theorem kb_Mo_parse_133 : decode prog_10_method_46_code 133 = .ok (.getfield 280, 3) := by decide +kernel
theorem kb_Mo_parse_136 : decode prog_10_method_46_code 136 = .ok (.if_icmp .ge 10, 3) := by decide +kernel
theorem kb_Mo_parse_139 : decode prog_10_method_46_code 139 = .ok (.aload_n 0, 1) := by decide +kernel
theorem kb_Mo_parse_140 : decode prog_10_method_46_code 140 = .ok (.invokevirtual 289, 3) := by decide +kernel
theorem kb_Mo_parse_143 : decode prog_10_method_46_code 143 = .ok (.goto (-22), 3) := by decide +kernel
theorem kb_Mo_parse_146 : decode prog_10_method_46_code 146 = .ok (.aload_n 0, 1) := by decide +kernel
theorem kb_Mo_parse_147 : decode prog_10_method_46_code 147 = .ok (.getfield 121, 3) := by decide +kernel
theorem kb_Mo_parse_150 : decode prog_10_method_46_code 150 = .ok (.ifCond .ne 32, 3) := by decide +kernel
theorem kb_Mo_parse_153 : decode prog_10_method_46_code 153 = .ok (.aload_n 0, 1) := by decide +kernel
theorem kb_Mo_parse_154 : decode prog_10_method_46_code 154 = .ok (.invokevirtual 292, 3) := by decide +kernel
theorem kb_Mo_parse_157 : decode prog_10_method_46_code 157 = .ok (.aload_n 0, 1) := by decide +kernel
theorem kb_Mo_parse_158 : decode prog_10_method_46_code 158 = .ok (.invokevirtual 295, 3) := by decide +kernel
theorem kb_Mo_parse_161 : decode prog_10_method_46_code 161 = .ok (.ifCond .ne 21, 3) := by decide +kernel
theorem kb_Mo_parse_164 : decode prog_10_method_46_code 164 = .ok (.aload_n 0, 1) := by decide +kernel
theorem kb_Mo_parse_165 : decode prog_10_method_46_code 165 = .ok (.aload_n 0, 1) := by decide +kernel
theorem kb_Mo_parse_166 : decode prog_10_method_46_code 166 = .ok (.getfield 280, 3) := by decide +kernel
theorem kb_Mo_parse_169 : decode prog_10_method_46_code 169 = .ok (.putfield 124, 3) := by decide +kernel
theorem kb_Mo_parse_172 : decode prog_10_method_46_code 172 = .ok (.aload_n 0, 1) := by decide +kernel
theorem kb_Mo_parse_173 : decode prog_10_method_46_code 173 = .ok (.bipush 6, 2) := by decide +kernel
theorem kb_Mo_parse_175 : decode prog_10_method_46_code 175 = .ok (.invokevirtual 131, 3) := by decide +kernel
theorem kb_Mo_parse_178 : decode prog_10_method_46_code 178 = .ok (.aload_n 0, 1) := by decide +kernel
theorem kb_Mo_parse_179 : decode prog_10_method_46_code 179 = .ok (.invokevirtual 298, 3) := by decide +kernel
theorem kb_Mo_parse_182 : decode prog_10_method_46_code 182 = .ok (.aload_n 0, 1) := by decide +kernel
theorem kb_Mo_parse_183 : decode prog_10_method_46_code 183 = .ok (.iconst 0, 1) := by decide +kernel
theorem kb_Mo_parse_184 : decode prog_10_method_46_code 184 = .ok (.putfield 274, 3) := by decide +kernel
theorem kb_Mo_parse_187 : decode prog_10_method_46_code 187 = .ok (.aload_n 0, 1) := by decide +kernel
theorem kb_Mo_parse_188 : decode prog_10_method_46_code 188 = .ok (.getfield 121, 3) := by decide +kernel
theorem kb_Mo_parse_191 : decode prog_10_method_46_code 191 = .ok (.ifCond .eq 20, 3) := by decide +kernel
theorem kb_Mo_parse_194 : decode prog_10_method_46_code 194 = .ok (.aload_n 0, 1) := by decide +kernel
theorem kb_Mo_parse_195 : decode prog_10_method_46_code 195 = .ok (.invokevirtual 301, 3) := by decide +kernel
theorem kb_Mo_parse_198 : decode prog_10_method_46_code 198 = .ok (.aload_n 0, 1) := by decide +kernel
theorem kb_Mo_parse_199 : decode prog_10_method_46_code 199 = .ok (.iconst 0, 1) := by decide +kernel
theorem kb_Mo_parse_200 : decode prog_10_method_46_code 200 = .ok (.putfield 164, 3) := by decide +kernel
theorem kb_Mo_parse_203 : decode prog_10_method_46_code 203 = .ok (.bipush (-10), 2) := by decide +kernel
theorem kb_Mo_parse_205 : decode prog_10_method_46_code 205 = .ok (.aload_n 0, 1) := by decide +kernel
theorem kb_Mo_parse_206 : decode prog_10_method_46_code 206 = .ok (.getfield 121, 3) := by decide +kernel
theorem kb_Mo_parse_209 : decode prog_10_method_46_code 209 = .ok (.isub, 1) := by decide +kernel
theorem kb_Mo_parse_210 : decode prog_10_method_46_code 210 = .ok (.ireturn, 1) := by decide +kernel
theorem kb_Mo_parse_211 : decode prog_10_method_46_code 211 = .ok (.aload_n 0, 1) := by decide +kernel
theorem kb_Mo_parse_212 : decode prog_10_method_46_code 212 = .ok (.invokevirtual 258, 3) := by decide +kernel
theorem kb_Mo_parse_215 : decode prog_10_method_46_code 215 = .ok (.ifCond .ne 11, 3) := by decide +kernel
theorem kb_Mo_parse_218 : decode prog_10_method_46_code 218 = .ok (.aload_n 0, 1) := by decide +kernel
theorem kb_Mo_parse_219 : decode prog_10_method_46_code 219 = .ok (.iconst 0, 1) := by decide +kernel
theorem kb_Mo_parse_220 : decode prog_10_method_46_code 220 = .ok (.putfield 164, 3) := by decide +kernel
theorem kb_Mo_parse_223 : decode prog_10_method_46_code 223 = .ok (.bipush (-3), 2) := by decide +kernel
theorem kb_Mo_parse_225 : decode prog_10_method_46_code 225 = .ok (.ireturn, 1) := by decide +kernel
theorem kb_Mo_parse_226 : decode prog_10_method_46_code 226 = .ok (.aload_n 0, 1) := by decide +kernel
theorem kb_Mo_parse_227 : decode prog_10_method_46_code 227 = .ok (.getfield 164, 3) := by decide +kernel
theorem kb_Mo_parse_230 : decode prog_10_method_46_code 230 = .ok (.ireturn, 1) := by decide +kernel
theorem kb_Mo_ringMany_0 : decode prog_10_method_47_code 0 = .ok (.aload_n 0, 1) := by decide +kernel
theorem kb_Mo_ringMany_1 : decode prog_10_method_47_code 1 = .ok (.iconst 0, 1) := by decide +kernel
theorem kb_Mo_ringMany_2 : decode prog_10_method_47_code 2 = .ok (.putfield 304, 3) := by decide +kernel
theorem kb_Mo_ringMany_5 : decode prog_10_method_47_code 5 = .ok (.iconst 0, 1) := by decide +kernel
theorem kb_Mo_ringMany_6 : decode prog_10_method_47_code 6 = .ok (.istore_n 1, 1) := by decide +kernel
theorem kb_Mo_ringMany_7 : decode prog_10_method_47_code 7 = .ok (.iload_n 1, 1) := by decide +kernel
theorem kb_Mo_ringMany_8 : decode prog_10_method_47_code 8 = .ok (.bipush 8, 2) := by decide +kernel
theorem kb_Mo_ringMany_10 : decode prog_10_method_47_code 10 = .ok (.if_icmp .ge 43, 3) := by decide +kernel
theorem kb_Mo_ringMany_13 : decode prog_10_method_47_code 13 = .ok (.aload_n 0, 1) := by decide +kernel
theorem kb_Mo_ringMany_14 : decode prog_10_method_47_code 14 = .ok (.getfield 64, 3) := by decide +kernel
theorem kb_Mo_ringMany_17 : decode prog_10_method_47_code 17 = .ok (.iload_n 1, 1) := by decide +kernel
theorem kb_Mo_ringMany_18 : decode prog_10_method_47_code 18 = .ok (.baload, 1) := by decide +kernel
theorem kb_Mo_ringMany_19 : decode prog_10_method_47_code 19 = .ok (.ifCond .eq 28, 3) := by decide +kernel
theorem kb_Mo_ringMany_22 : decode prog_10_method_47_code 22 = .ok (.aload_n 0, 1) := by decide +kernel
theorem kb_Mo_ringMany_23 : decode prog_10_method_47_code 23 = .ok (.getfield 115, 3) := by decide +kernel
theorem kb_Mo_ringMany_26 : decode prog_10_method_47_code 26 = .ok (.aload_n 0, 1) := by decide +kernel
theorem kb_Mo_ringMany_27 : decode prog_10_method_47_code 27 = .ok (.getfield 304, 3) := by decide +kernel
theorem kb_Mo_ringMany_30 : decode prog_10_method_47_code 30 = .ok (.aload_n 0, 1) := by decide +kernel
theorem kb_Mo_ringMany_31 : decode prog_10_method_47_code 31 = .ok (.getfield 49, 3) := by decide +kernel
theorem kb_Mo_ringMany_34 : decode prog_10_method_47_code 34 = .ok (.iload_n 1, 1) := by decide +kernel
theorem kb_Mo_ringMany_35 : decode prog_10_method_47_code 35 = .ok (.iaload, 1) := by decide +kernel
theorem kb_Mo_ringMany_36 : decode prog_10_method_47_code 36 = .ok (.iastore, 1) := by decide +kernel
theorem kb_Mo_ringMany_37 : decode prog_10_method_47_code 37 = .ok (.aload_n 0, 1) := by decide +kernel
theorem kb_Mo_ringMany_38 : decode prog_10_method_47_code 38 = .ok (.dup, 1) := by decide +kernel
theorem kb_Mo_ringMany_39 : decode prog_10_method_47_code 39 = .ok (.getfield 304, 3) := by decide +kernel
theorem kb_Mo_ringMany_42 : decode prog_10_method_47_code 42 = .ok (.iconst 1, 1) := by decide +kernel
theorem kb_Mo_ringMany_43 : decode prog_10_method_47_code 43 = .ok (.iadd, 1) := by decide +kernel
theorem kb_Mo_ringMany_44 : decode prog_10_method_47_code 44 = .ok (.putfield 304, 3) := by decide +kernel
theorem kb_Mo_ringMany_47 : decode prog_10_method_47_code 47 = .ok (.iinc 1 1, 3) := by decide +kernel
theorem kb_Mo_ringMany_50 : decode prog_10_method_47_code 50 = .ok (.goto (-43), 3) := by decide +kernel
theorem kb_Mo_ringMany_53 : decode prog_10_method_47_code 53 = .ok (.return_, 1) := by decide +kernel
theorem kb_Mo_place_0 : decode prog_10_method_48_code 0 = .ok (.aload_n 0, 1) := by decide +kernel
theorem kb_Mo_place_1 : decode prog_10_method_48_code 1 = .ok (.getfield 20, 3) := by decide +kernel
theorem kb_Mo_place_4 : decode prog_10_method_48_code 4 = .ok (.ireturn, 1) := by decide +kernel
theorem kb_Mo_ring_0 : decode prog_10_method_49_code 0 = .ok (.aload_n 0, 1) := by decide +kernel
theorem kb_Mo_ring_1 : decode prog_10_method_49_code 1 = .ok (.getfield 121, 3) := by decide +kernel
theorem kb_Mo_ring_4 : decode prog_10_method_49_code 4 = .ok (.bipush 6, 2) := by decide +kernel
theorem kb_Mo_ring_6 : decode prog_10_method_49_code 6 = .ok (.if_icmp .ne 26, 3) := by decide +kernel
theorem kb_Mo_ring_9 : decode prog_10_method_49_code 9 = .ok (.iload_n 1, 1) := by decide +kernel
theorem kb_Mo_ring_10 : decode prog_10_method_49_code 10 = .ok (.iconst 0, 1) := by decide +kernel
theorem kb_Mo_ring_11 : decode prog_10_method_49_code 11 = .ok (.aload_n 0, 1) := by decide +kernel
theorem kb_Mo_ring_12 : decode prog_10_method_49_code 12 = .ok (.getfield 304, 3) := by decide +kernel
theorem kb_Mo_ring_15 : decode prog_10_method_49_code 15 = .ok (.iconst 1, 1) := by decide +kernel
theorem kb_Mo_ring_16 : decode prog_10_method_49_code 16 = .ok (.isub, 1) := by decide +kernel
theorem kb_Mo_ring_17 : decode prog_10_method_49_code 17 = .ok (.invokestatic 271, 3) := by decide +kernel
theorem kb_Mo_ring_20 : decode prog_10_method_49_code 20 = .ok (.ifCond .eq 12, 3) := by decide +kernel
theorem kb_Mo_ring_23 : decode prog_10_method_49_code 23 = .ok (.aload_n 0, 1) := by decide +kernel
theorem kb_Mo_ring_24 : decode prog_10_method_49_code 24 = .ok (.getfield 115, 3) := by decide +kernel
theorem kb_Mo_ring_27 : decode prog_10_method_49_code 27 = .ok (.iload_n 1, 1) := by decide +kernel
theorem kb_Mo_ring_28 : decode prog_10_method_49_code 28 = .ok (.iaload, 1) := by decide +kernel
theorem kb_Mo_ring_29 : decode prog_10_method_49_code 29 = .ok (.goto 4, 3) := by decide +kernel
theorem kb_Mo_ring_32 : decode prog_10_method_49_code 32 = .ok (.iconst (-1), 1) := by decide +kernel
theorem kb_Mo_ring_33 : decode prog_10_method_49_code 33 = .ok (.ireturn, 1) := by decide +kernel
theorem kb_Mo_relation_0 : decode prog_10_method_50_code 0 = .ok (.aload_n 0, 1) := by decide +kernel
theorem kb_Mo_relation_1 : decode prog_10_method_50_code 1 = .ok (.getfield 164, 3) := by decide +kernel
theorem kb_Mo_relation_4 : decode prog_10_method_50_code 4 = .ok (.ifCond .ne 6, 3) := by decide +kernel
theorem kb_Mo_relation_7 : decode prog_10_method_50_code 7 = .ok (.bipush (-4), 2) := by decide +kernel
theorem kb_Mo_relation_9 : decode prog_10_method_50_code 9 = .ok (.ireturn, 1) := by decide +kernel
theorem kb_Mo_relation_10 : decode prog_10_method_50_code 10 = .ok (.iconst 0, 1) := by decide +kernel
theorem kb_Mo_relation_11 : decode prog_10_method_50_code 11 = .ok (.istore_n 2, 1) := by decide +kernel
theorem kb_Mo_relation_12 : decode prog_10_method_50_code 12 = .ok (.iload_n 2, 1) := by decide +kernel
theorem kb_Mo_relation_13 : decode prog_10_method_50_code 13 = .ok (.aload_n 0, 1) := by decide +kernel
theorem kb_Mo_relation_14 : decode prog_10_method_50_code 14 = .ok (.getfield 139, 3) := by decide +kernel
theorem kb_Mo_relation_17 : decode prog_10_method_50_code 17 = .ok (.if_icmp .ge 21, 3) := by decide +kernel
theorem kb_Mo_relation_20 : decode prog_10_method_50_code 20 = .ok (.aload_n 0, 1) := by decide +kernel
theorem kb_Mo_relation_21 : decode prog_10_method_50_code 21 = .ok (.getfield 49, 3) := by decide +kernel
theorem kb_Mo_relation_24 : decode prog_10_method_50_code 24 = .ok (.iload_n 2, 1) := by decide +kernel
theorem kb_Mo_relation_25 : decode prog_10_method_50_code 25 = .ok (.iaload, 1) := by decide +kernel
theorem kb_Mo_relation_26 : decode prog_10_method_50_code 26 = .ok (.iload_n 1, 1) := by decide +kernel
theorem kb_Mo_relation_27 : decode prog_10_method_50_code 27 = .ok (.if_icmp .ne 5, 3) := by decide +kernel
theorem kb_Mo_relation_30 : decode prog_10_method_50_code 30 = .ok (.iload_n 2, 1) := by decide +kernel
theorem kb_Mo_relation_31 : decode prog_10_method_50_code 31 = .ok (.ireturn, 1) := by decide +kernel
theorem kb_Mo_relation_32 : decode prog_10_method_50_code 32 = .ok (.iinc 2 1, 3) := by decide +kernel
theorem kb_Mo_relation_35 : decode prog_10_method_50_code 35 = .ok (.goto (-23), 3) := by decide +kernel
theorem kb_Mo_relation_38 : decode prog_10_method_50_code 38 = .ok (.iconst (-1), 1) := by decide +kernel
theorem kb_Mo_relation_39 : decode prog_10_method_50_code 39 = .ok (.ireturn, 1) := by decide +kernel
theorem kb_Mo_isRelation_0 : decode prog_10_method_51_code 0 = .ok (.iload_n 1, 1) := by decide +kernel
theorem kb_Mo_isRelation_1 : decode prog_10_method_51_code 1 = .ok (.iconst 0, 1) := by decide +kernel
theorem kb_Mo_isRelation_2 : decode prog_10_method_51_code 2 = .ok (.aload_n 0, 1) := by decide +kernel
theorem kb_Mo_isRelation_3 : decode prog_10_method_51_code 3 = .ok (.getfield 139, 3) := by decide +kernel
theorem kb_Mo_isRelation_6 : decode prog_10_method_51_code 6 = .ok (.iconst 1, 1) := by decide +kernel
theorem kb_Mo_isRelation_7 : decode prog_10_method_51_code 7 = .ok (.isub, 1) := by decide +kernel
theorem kb_Mo_isRelation_8 : decode prog_10_method_51_code 8 = .ok (.invokestatic 271, 3) := by decide +kernel
theorem kb_Mo_isRelation_11 : decode prog_10_method_51_code 11 = .ok (.ireturn, 1) := by decide +kernel
theorem kb_Mo_of_0 : decode prog_10_method_52_code 0 = .ok (.aload_n 0, 1) := by decide +kernel
theorem kb_Mo_of_1 : decode prog_10_method_52_code 1 = .ok (.getfield 164, 3) := by decide +kernel
theorem kb_Mo_of_4 : decode prog_10_method_52_code 4 = .ok (.ifCond .ne 6, 3) := by decide +kernel
theorem kb_Mo_of_7 : decode prog_10_method_52_code 7 = .ok (.bipush (-4), 2) := by decide +kernel
theorem kb_Mo_of_9 : decode prog_10_method_52_code 9 = .ok (.ireturn, 1) := by decide +kernel
theorem kb_Mo_of_10 : decode prog_10_method_52_code 10 = .ok (.aload_n 0, 1) := by decide +kernel
theorem kb_Mo_of_11 : decode prog_10_method_52_code 11 = .ok (.iload_n 1, 1) := by decide +kernel
theorem kb_Mo_of_12 : decode prog_10_method_52_code 12 = .ok (.invokevirtual 307, 3) := by decide +kernel
theorem kb_Mo_of_15 : decode prog_10_method_52_code 15 = .ok (.ifCond .eq 12, 3) := by decide +kernel
theorem kb_Mo_of_18 : decode prog_10_method_52_code 18 = .ok (.iload_n 2, 1) := by decide +kernel
theorem kb_Mo_of_19 : decode prog_10_method_52_code 19 = .ok (.iconst 0, 1) := by decide +kernel
theorem kb_Mo_of_20 : decode prog_10_method_52_code 20 = .ok (.iconst 4, 1) := by decide +kernel
theorem kb_Mo_of_21 : decode prog_10_method_52_code 21 = .ok (.invokestatic 271, 3) := by decide +kernel
theorem kb_Mo_of_24 : decode prog_10_method_52_code 24 = .ok (.ifCond .ne 6, 3) := by decide +kernel
theorem kb_Mo_of_27 : decode prog_10_method_52_code 27 = .ok (.bipush (-2), 2) := by decide +kernel
theorem kb_Mo_of_29 : decode prog_10_method_52_code 29 = .ok (.ireturn, 1) := by decide +kernel
theorem kb_Mo_of_30 : decode prog_10_method_52_code 30 = .ok (.iload_n 2, 1) := by decide +kernel
theorem kb_Mo_of_31 : decode prog_10_method_52_code 31 = .ok (.tableswitch 65 0 3 #[29, 44, 51, 58], 29) := by decide +kernel
theorem kb_Mo_of_60 : decode prog_10_method_52_code 60 = .ok (.aload_n 0, 1) := by decide +kernel
theorem kb_Mo_of_61 : decode prog_10_method_52_code 61 = .ok (.getfield 55, 3) := by decide +kernel
theorem kb_Mo_of_64 : decode prog_10_method_52_code 64 = .ok (.iload_n 1, 1) := by decide +kernel
theorem kb_Mo_of_65 : decode prog_10_method_52_code 65 = .ok (.baload, 1) := by decide +kernel
theorem kb_Mo_of_66 : decode prog_10_method_52_code 66 = .ok (.ifCond .eq 7, 3) := by decide +kernel
theorem kb_Mo_of_69 : decode prog_10_method_52_code 69 = .ok (.iconst 1, 1) := by decide +kernel
theorem kb_Mo_of_70 : decode prog_10_method_52_code 70 = .ok (.goto 4, 3) := by decide +kernel
theorem kb_Mo_of_73 : decode prog_10_method_52_code 73 = .ok (.iconst 0, 1) := by decide +kernel
theorem kb_Mo_of_74 : decode prog_10_method_52_code 74 = .ok (.ireturn, 1) := by decide +kernel
theorem kb_Mo_of_75 : decode prog_10_method_52_code 75 = .ok (.aload_n 0, 1) := by decide +kernel
theorem kb_Mo_of_76 : decode prog_10_method_52_code 76 = .ok (.getfield 52, 3) := by decide +kernel
theorem kb_Mo_of_79 : decode prog_10_method_52_code 79 = .ok (.iload_n 1, 1) := by decide +kernel
theorem kb_Mo_of_80 : decode prog_10_method_52_code 80 = .ok (.iaload, 1) := by decide +kernel
theorem kb_Mo_of_81 : decode prog_10_method_52_code 81 = .ok (.ireturn, 1) := by decide +kernel
theorem kb_Mo_of_82 : decode prog_10_method_52_code 82 = .ok (.aload_n 0, 1) := by decide +kernel
theorem kb_Mo_of_83 : decode prog_10_method_52_code 83 = .ok (.getfield 58, 3) := by decide +kernel
theorem kb_Mo_of_86 : decode prog_10_method_52_code 86 = .ok (.iload_n 1, 1) := by decide +kernel
theorem kb_Mo_of_87 : decode prog_10_method_52_code 87 = .ok (.iaload, 1) := by decide +kernel
theorem kb_Mo_of_88 : decode prog_10_method_52_code 88 = .ok (.ireturn, 1) := by decide +kernel
theorem kb_Mo_of_89 : decode prog_10_method_52_code 89 = .ok (.aload_n 0, 1) := by decide +kernel
theorem kb_Mo_of_90 : decode prog_10_method_52_code 90 = .ok (.getfield 73, 3) := by decide +kernel
theorem kb_Mo_of_93 : decode prog_10_method_52_code 93 = .ok (.iload_n 1, 1) := by decide +kernel
theorem kb_Mo_of_94 : decode prog_10_method_52_code 94 = .ok (.iaload, 1) := by decide +kernel
theorem kb_Mo_of_95 : decode prog_10_method_52_code 95 = .ok (.ireturn, 1) := by decide +kernel
theorem kb_Mo_of_96 : decode prog_10_method_52_code 96 = .ok (.aload_n 0, 1) := by decide +kernel
theorem kb_Mo_of_97 : decode prog_10_method_52_code 97 = .ok (.getfield 61, 3) := by decide +kernel
theorem kb_Mo_of_100 : decode prog_10_method_52_code 100 = .ok (.bipush 9, 2) := by decide +kernel
theorem kb_Mo_of_102 : decode prog_10_method_52_code 102 = .ok (.iload_n 1, 1) := by decide +kernel
theorem kb_Mo_of_103 : decode prog_10_method_52_code 103 = .ok (.imul, 1) := by decide +kernel
theorem kb_Mo_of_104 : decode prog_10_method_52_code 104 = .ok (.baload, 1) := by decide +kernel
theorem kb_Mo_of_105 : decode prog_10_method_52_code 105 = .ok (.ifCond .eq 7, 3) := by decide +kernel
theorem kb_Mo_of_108 : decode prog_10_method_52_code 108 = .ok (.iconst 1, 1) := by decide +kernel
theorem kb_Mo_of_109 : decode prog_10_method_52_code 109 = .ok (.goto 4, 3) := by decide +kernel
theorem kb_Mo_of_112 : decode prog_10_method_52_code 112 = .ok (.iconst 0, 1) := by decide +kernel
theorem kb_Mo_of_113 : decode prog_10_method_52_code 113 = .ok (.ireturn, 1) := by decide +kernel
theorem kb_Mo_given_0 : decode prog_10_method_53_code 0 = .ok (.iload_n 2, 1) := by decide +kernel
theorem kb_Mo_given_1 : decode prog_10_method_53_code 1 = .ok (.aload_n 0, 1) := by decide +kernel
theorem kb_Mo_given_2 : decode prog_10_method_53_code 2 = .ok (.getfield 52, 3) := by decide +kernel
theorem kb_Mo_given_5 : decode prog_10_method_53_code 5 = .ok (.iload_n 1, 1) := by decide +kernel
theorem kb_Mo_given_6 : decode prog_10_method_53_code 6 = .ok (.iaload, 1) := by decide +kernel
theorem kb_Mo_given_7 : decode prog_10_method_53_code 7 = .ok (.if_icmp .ge 7, 3) := by decide +kernel
theorem kb_Mo_given_10 : decode prog_10_method_53_code 10 = .ok (.iload_n 3, 1) := by decide +kernel
theorem kb_Mo_given_11 : decode prog_10_method_53_code 11 = .ok (.goto 4, 3) := by decide +kernel
theorem kb_Mo_given_14 : decode prog_10_method_53_code 14 = .ok (.iconst 0, 1) := by decide +kernel
theorem kb_Mo_given_15 : decode prog_10_method_53_code 15 = .ok (.ireturn, 1) := by decide +kernel
theorem kb_Mo_areValues_0 : decode prog_10_method_54_code 0 = .ok (.aload_n 0, 1) := by decide +kernel
theorem kb_Mo_areValues_1 : decode prog_10_method_54_code 1 = .ok (.iload_n 1, 1) := by decide +kernel
theorem kb_Mo_areValues_2 : decode prog_10_method_54_code 2 = .ok (.iconst 0, 1) := by decide +kernel
theorem kb_Mo_areValues_3 : decode prog_10_method_54_code 3 = .ok (.iload_n 2, 1) := by decide +kernel
theorem kb_Mo_areValues_4 : decode prog_10_method_54_code 4 = .ok (.invokevirtual 310, 3) := by decide +kernel
theorem kb_Mo_areValues_7 : decode prog_10_method_54_code 7 = .ok (.iconst 0, 1) := by decide +kernel
theorem kb_Mo_areValues_8 : decode prog_10_method_54_code 8 = .ok (.sipush 999, 3) := by decide +kernel
theorem kb_Mo_areValues_11 : decode prog_10_method_54_code 11 = .ok (.invokestatic 271, 3) := by decide +kernel
theorem kb_Mo_areValues_14 : decode prog_10_method_54_code 14 = .ok (.ifCond .eq 42, 3) := by decide +kernel
theorem kb_Mo_areValues_17 : decode prog_10_method_54_code 17 = .ok (.aload_n 0, 1) := by decide +kernel
theorem kb_Mo_areValues_18 : decode prog_10_method_54_code 18 = .ok (.iload_n 1, 1) := by decide +kernel
theorem kb_Mo_areValues_19 : decode prog_10_method_54_code 19 = .ok (.iconst 1, 1) := by decide +kernel
theorem kb_Mo_areValues_20 : decode prog_10_method_54_code 20 = .ok (.iload_n 3, 1) := by decide +kernel
theorem kb_Mo_areValues_21 : decode prog_10_method_54_code 21 = .ok (.invokevirtual 310, 3) := by decide +kernel
theorem kb_Mo_areValues_24 : decode prog_10_method_54_code 24 = .ok (.iconst 0, 1) := by decide +kernel
theorem kb_Mo_areValues_25 : decode prog_10_method_54_code 25 = .ok (.sipush 999, 3) := by decide +kernel
theorem kb_Mo_areValues_28 : decode prog_10_method_54_code 28 = .ok (.invokestatic 271, 3) := by decide +kernel
theorem kb_Mo_areValues_31 : decode prog_10_method_54_code 31 = .ok (.ifCond .eq 25, 3) := by decide +kernel
theorem kb_Mo_areValues_34 : decode prog_10_method_54_code 34 = .ok (.aload_n 0, 1) := by decide +kernel
theorem kb_Mo_areValues_35 : decode prog_10_method_54_code 35 = .ok (.iload_n 1, 1) := by decide +kernel
theorem kb_Mo_areValues_36 : decode prog_10_method_54_code 36 = .ok (.iconst 2, 1) := by decide +kernel
theorem kb_Mo_areValues_37 : decode prog_10_method_54_code 37 = .ok (.iload 4, 2) := by decide +kernel
theorem kb_Mo_areValues_39 : decode prog_10_method_54_code 39 = .ok (.invokevirtual 310, 3) := by decide +kernel
theorem kb_Mo_areValues_42 : decode prog_10_method_54_code 42 = .ok (.iconst 0, 1) := by decide +kernel
theorem kb_Mo_areValues_43 : decode prog_10_method_54_code 43 = .ok (.sipush 999, 3) := by decide +kernel
theorem kb_Mo_areValues_46 : decode prog_10_method_54_code 46 = .ok (.invokestatic 271, 3) := by decide +kernel
theorem kb_Mo_areValues_49 : decode prog_10_method_54_code 49 = .ok (.ifCond .eq 7, 3) := by decide +kernel
theorem kb_Mo_areValues_52 : decode prog_10_method_54_code 52 = .ok (.iconst 1, 1) := by decide +kernel
theorem kb_Mo_areValues_53 : decode prog_10_method_54_code 53 = .ok (.goto 4, 3) := by decide +kernel
theorem kb_Mo_areValues_56 : decode prog_10_method_54_code 56 = .ok (.iconst 0, 1) := by decide +kernel
theorem kb_Mo_areValues_57 : decode prog_10_method_54_code 57 = .ok (.ireturn, 1) := by decide +kernel
theorem kb_Mo_change_0 : decode prog_10_method_55_code 0 = .ok (.aload_n 0, 1) := by decide +kernel
theorem kb_Mo_change_1 : decode prog_10_method_55_code 1 = .ok (.getfield 164, 3) := by decide +kernel
theorem kb_Mo_change_4 : decode prog_10_method_55_code 4 = .ok (.ifCond .ne 6, 3) := by decide +kernel
theorem kb_Mo_change_7 : decode prog_10_method_55_code 7 = .ok (.bipush (-4), 2) := by decide +kernel
theorem kb_Mo_change_9 : decode prog_10_method_55_code 9 = .ok (.ireturn, 1) := by decide +kernel
theorem kb_Mo_change_10 : decode prog_10_method_55_code 10 = .ok (.aload_n 0, 1) := by decide +kernel
theorem kb_Mo_change_11 : decode prog_10_method_55_code 11 = .ok (.iload_n 1, 1) := by decide +kernel
theorem kb_Mo_change_12 : decode prog_10_method_55_code 12 = .ok (.invokevirtual 307, 3) := by decide +kernel
theorem kb_Mo_change_15 : decode prog_10_method_55_code 15 = .ok (.ifCond .eq 36, 3) := by decide +kernel
theorem kb_Mo_change_18 : decode prog_10_method_55_code 18 = .ok (.aload_n 0, 1) := by decide +kernel
theorem kb_Mo_change_19 : decode prog_10_method_55_code 19 = .ok (.getfield 55, 3) := by decide +kernel
theorem kb_Mo_change_22 : decode prog_10_method_55_code 22 = .ok (.iload_n 1, 1) := by decide +kernel
theorem kb_Mo_change_23 : decode prog_10_method_55_code 23 = .ok (.baload, 1) := by decide +kernel
theorem kb_Mo_change_24 : decode prog_10_method_55_code 24 = .ok (.ifCond .ne 27, 3) := by decide +kernel
theorem kb_Mo_change_27 : decode prog_10_method_55_code 27 = .ok (.iload 5, 2) := by decide +kernel
theorem kb_Mo_change_29 : decode prog_10_method_55_code 29 = .ok (.iconst 1, 1) := by decide +kernel
theorem kb_Mo_change_30 : decode prog_10_method_55_code 30 = .ok (.if_icmp .eq 9, 3) := by decide +kernel
theorem kb_Mo_change_33 : decode prog_10_method_55_code 33 = .ok (.iload 5, 2) := by decide +kernel
theorem kb_Mo_change_35 : decode prog_10_method_55_code 35 = .ok (.iconst (-1), 1) := by decide +kernel
theorem kb_Mo_change_36 : decode prog_10_method_55_code 36 = .ok (.if_icmp .ne 15, 3) := by decide +kernel
theorem kb_Mo_change_39 : decode prog_10_method_55_code 39 = .ok (.aload_n 0, 1) := by decide +kernel
theorem kb_Mo_change_40 : decode prog_10_method_55_code 40 = .ok (.iload_n 1, 1) := by decide +kernel
theorem kb_Mo_change_41 : decode prog_10_method_55_code 41 = .ok (.iload_n 2, 1) := by decide +kernel
theorem kb_Mo_change_42 : decode prog_10_method_55_code 42 = .ok (.iload_n 3, 1) := by decide +kernel
theorem kb_Mo_change_43 : decode prog_10_method_55_code 43 = .ok (.iload 4, 2) := by decide +kernel
theorem kb_Mo_change_45 : decode prog_10_method_55_code 45 = .ok (.invokevirtual 314, 3) := by decide +kernel
theorem kb_Mo_change_48 : decode prog_10_method_55_code 48 = .ok (.ifCond .ne 6, 3) := by decide +kernel
theorem kb_Mo_change_51 : decode prog_10_method_55_code 51 = .ok (.bipush (-2), 2) := by decide +kernel
theorem kb_Mo_change_53 : decode prog_10_method_55_code 53 = .ok (.ireturn, 1) := by decide +kernel
theorem kb_Mo_change_54 : decode prog_10_method_55_code 54 = .ok (.aload_n 0, 1) := by decide +kernel
theorem kb_Mo_change_55 : decode prog_10_method_55_code 55 = .ok (.getfield 286, 3) := by decide +kernel
theorem kb_Mo_change_58 : decode prog_10_method_55_code 58 = .ok (.bipush 60, 2) := by decide +kernel
theorem kb_Mo_change_60 : decode prog_10_method_55_code 60 = .ok (.if_icmp .ne 6, 3) := by decide +kernel
theorem kb_Mo_change_63 : decode prog_10_method_55_code 63 = .ok (.bipush (-3), 2) := by decide +kernel
theorem kb_Mo_change_65 : decode prog_10_method_55_code 65 = .ok (.ireturn, 1) := by decide +kernel
theorem kb_Mo_change_66 : decode prog_10_method_55_code 66 = .ok (.iconst 5, 1) := by decide +kernel
theorem kb_Mo_change_67 : decode prog_10_method_55_code 67 = .ok (.aload_n 0, 1) := by decide +kernel
theorem kb_Mo_change_68 : decode prog_10_method_55_code 68 = .ok (.getfield 286, 3) := by decide +kernel
theorem kb_Mo_change_71 : decode prog_10_method_55_code 71 = .ok (.imul, 1) := by decide +kernel
theorem kb_Mo_change_72 : decode prog_10_method_55_code 72 = .ok (.istore 6, 2) := by decide +kernel
theorem kb_Mo_change_74 : decode prog_10_method_55_code 74 = .ok (.aload_n 0, 1) := by decide +kernel
theorem kb_Mo_change_75 : decode prog_10_method_55_code 75 = .ok (.getfield 85, 3) := by decide +kernel
theorem kb_Mo_change_78 : decode prog_10_method_55_code 78 = .ok (.iload 6, 2) := by decide +kernel
theorem kb_Mo_change_80 : decode prog_10_method_55_code 80 = .ok (.iload_n 1, 1) := by decide +kernel
theorem kb_Mo_change_81 : decode prog_10_method_55_code 81 = .ok (.iastore, 1) := by decide +kernel
theorem kb_Mo_change_82 : decode prog_10_method_55_code 82 = .ok (.aload_n 0, 1) := by decide +kernel
theorem kb_Mo_change_83 : decode prog_10_method_55_code 83 = .ok (.getfield 85, 3) := by decide +kernel
theorem kb_Mo_change_86 : decode prog_10_method_55_code 86 = .ok (.iload 6, 2) := by decide +kernel
theorem kb_Mo_change_88 : decode prog_10_method_55_code 88 = .ok (.iconst 1, 1) := by decide +kernel
theorem kb_Mo_change_89 : decode prog_10_method_55_code 89 = .ok (.iadd, 1) := by decide +kernel
theorem kb_Mo_change_90 : decode prog_10_method_55_code 90 = .ok (.iload_n 2, 1) := by decide +kernel
theorem kb_Mo_change_91 : decode prog_10_method_55_code 91 = .ok (.iastore, 1) := by decide +kernel
theorem kb_Mo_change_92 : decode prog_10_method_55_code 92 = .ok (.aload_n 0, 1) := by decide +kernel
theorem kb_Mo_change_93 : decode prog_10_method_55_code 93 = .ok (.getfield 85, 3) := by decide +kernel
theorem kb_Mo_change_96 : decode prog_10_method_55_code 96 = .ok (.iload 6, 2) := by decide +kernel
theorem kb_Mo_change_98 : decode prog_10_method_55_code 98 = .ok (.iconst 2, 1) := by decide +kernel
theorem kb_Mo_change_99 : decode prog_10_method_55_code 99 = .ok (.iadd, 1) := by decide +kernel
theorem kb_Mo_change_100 : decode prog_10_method_55_code 100 = .ok (.aload_n 0, 1) := by decide +kernel
theorem kb_Mo_change_101 : decode prog_10_method_55_code 101 = .ok (.iload_n 1, 1) := by decide +kernel
theorem kb_Mo_change_102 : decode prog_10_method_55_code 102 = .ok (.iconst 1, 1) := by decide +kernel
theorem kb_Mo_change_103 : decode prog_10_method_55_code 103 = .ok (.iload_n 3, 1) := by decide +kernel
theorem kb_Mo_change_104 : decode prog_10_method_55_code 104 = .ok (.invokevirtual 310, 3) := by decide +kernel
theorem kb_Mo_change_107 : decode prog_10_method_55_code 107 = .ok (.iastore, 1) := by decide +kernel
theorem kb_Mo_change_108 : decode prog_10_method_55_code 108 = .ok (.aload_n 0, 1) := by decide +kernel
theorem kb_Mo_change_109 : decode prog_10_method_55_code 109 = .ok (.getfield 85, 3) := by decide +kernel
theorem kb_Mo_change_112 : decode prog_10_method_55_code 112 = .ok (.iload 6, 2) := by decide +kernel
theorem kb_Mo_change_114 : decode prog_10_method_55_code 114 = .ok (.iconst 3, 1) := by decide +kernel
theorem kb_Mo_change_115 : decode prog_10_method_55_code 115 = .ok (.iadd, 1) := by decide +kernel
theorem kb_Mo_change_116 : decode prog_10_method_55_code 116 = .ok (.aload_n 0, 1) := by decide +kernel
theorem kb_Mo_change_117 : decode prog_10_method_55_code 117 = .ok (.iload_n 1, 1) := by decide +kernel
theorem kb_Mo_change_118 : decode prog_10_method_55_code 118 = .ok (.iconst 2, 1) := by decide +kernel
theorem kb_Mo_change_119 : decode prog_10_method_55_code 119 = .ok (.iload 4, 2) := by decide +kernel
theorem kb_Mo_change_121 : decode prog_10_method_55_code 121 = .ok (.invokevirtual 310, 3) := by decide +kernel
theorem kb_Mo_change_124 : decode prog_10_method_55_code 124 = .ok (.iastore, 1) := by decide +kernel
theorem kb_Mo_change_125 : decode prog_10_method_55_code 125 = .ok (.aload_n 0, 1) := by decide +kernel
theorem kb_Mo_change_126 : decode prog_10_method_55_code 126 = .ok (.getfield 85, 3) := by decide +kernel
theorem kb_Mo_change_129 : decode prog_10_method_55_code 129 = .ok (.iload 6, 2) := by decide +kernel
theorem kb_Mo_change_131 : decode prog_10_method_55_code 131 = .ok (.iconst 4, 1) := by decide +kernel
theorem kb_Mo_change_132 : decode prog_10_method_55_code 132 = .ok (.iadd, 1) := by decide +kernel
theorem kb_Mo_change_133 : decode prog_10_method_55_code 133 = .ok (.iload 5, 2) := by decide +kernel
theorem kb_Mo_change_135 : decode prog_10_method_55_code 135 = .ok (.iastore, 1) := by decide +kernel
theorem kb_Mo_change_136 : decode prog_10_method_55_code 136 = .ok (.aload_n 0, 1) := by decide +kernel
theorem kb_Mo_change_137 : decode prog_10_method_55_code 137 = .ok (.dup, 1) := by decide +kernel
theorem kb_Mo_change_138 : decode prog_10_method_55_code 138 = .ok (.getfield 286, 3) := by decide +kernel
theorem kb_Mo_change_141 : decode prog_10_method_55_code 141 = .ok (.iconst 1, 1) := by decide +kernel
theorem kb_Mo_change_142 : decode prog_10_method_55_code 142 = .ok (.iadd, 1) := by decide +kernel
theorem kb_Mo_change_143 : decode prog_10_method_55_code 143 = .ok (.putfield 286, 3) := by decide +kernel
theorem kb_Mo_change_146 : decode prog_10_method_55_code 146 = .ok (.aload_n 0, 1) := by decide +kernel
theorem kb_Mo_change_147 : decode prog_10_method_55_code 147 = .ok (.getfield 286, 3) := by decide +kernel
theorem kb_Mo_change_150 : decode prog_10_method_55_code 150 = .ok (.ireturn, 1) := by decide +kernel
theorem kb_Mo_batch_0 : decode prog_10_method_56_code 0 = .ok (.aload_n 0, 1) := by decide +kernel
theorem kb_Mo_batch_1 : decode prog_10_method_56_code 1 = .ok (.getfield 164, 3) := by decide +kernel
theorem kb_Mo_batch_4 : decode prog_10_method_56_code 4 = .ok (.ifCond .ne 6, 3) := by decide +kernel
theorem kb_Mo_batch_7 : decode prog_10_method_56_code 7 = .ok (.bipush (-4), 2) := by decide +kernel
theorem kb_Mo_batch_9 : decode prog_10_method_56_code 9 = .ok (.ireturn, 1) := by decide +kernel
theorem kb_Mo_batch_10 : decode prog_10_method_56_code 10 = .ok (.aload_n 0, 1) := by decide +kernel
theorem kb_Mo_batch_11 : decode prog_10_method_56_code 11 = .ok (.getfield 286, 3) := by decide +kernel
theorem kb_Mo_batch_14 : decode prog_10_method_56_code 14 = .ok (.istore_n 1, 1) := by decide +kernel
theorem kb_Mo_batch_15 : decode prog_10_method_56_code 15 = .ok (.aload_n 0, 1) := by decide +kernel
theorem kb_Mo_batch_16 : decode prog_10_method_56_code 16 = .ok (.iconst 0, 1) := by decide +kernel
theorem kb_Mo_batch_17 : decode prog_10_method_56_code 17 = .ok (.putfield 286, 3) := by decide +kernel
theorem kb_Mo_batch_20 : decode prog_10_method_56_code 20 = .ok (.aload_n 0, 1) := by decide +kernel
theorem kb_Mo_batch_21 : decode prog_10_method_56_code 21 = .ok (.aload_n 0, 1) := by decide +kernel
theorem kb_Mo_batch_22 : decode prog_10_method_56_code 22 = .ok (.getfield 85, 3) := by decide +kernel
theorem kb_Mo_batch_25 : decode prog_10_method_56_code 25 = .ok (.iconst 0, 1) := by decide +kernel
theorem kb_Mo_batch_26 : decode prog_10_method_56_code 26 = .ok (.iload_n 1, 1) := by decide +kernel
theorem kb_Mo_batch_27 : decode prog_10_method_56_code 27 = .ok (.iconst 1, 1) := by decide +kernel
theorem kb_Mo_batch_28 : decode prog_10_method_56_code 28 = .ok (.invokevirtual 318, 3) := by decide +kernel
theorem kb_Mo_batch_31 : decode prog_10_method_56_code 31 = .ok (.aload_n 0, 1) := by decide +kernel
theorem kb_Mo_batch_32 : decode prog_10_method_56_code 32 = .ok (.invokevirtual 322, 3) := by decide +kernel
theorem kb_Mo_batch_35 : decode prog_10_method_56_code 35 = .ok (.istore_n 2, 1) := by decide +kernel
theorem kb_Mo_batch_36 : decode prog_10_method_56_code 36 = .ok (.iload_n 2, 1) := by decide +kernel
theorem kb_Mo_batch_37 : decode prog_10_method_56_code 37 = .ok (.ifCond .eq 5, 3) := by decide +kernel
theorem kb_Mo_batch_40 : decode prog_10_method_56_code 40 = .ok (.iload_n 2, 1) := by decide +kernel
theorem kb_Mo_batch_41 : decode prog_10_method_56_code 41 = .ok (.ireturn, 1) := by decide +kernel
theorem kb_Mo_batch_42 : decode prog_10_method_56_code 42 = .ok (.aload_n 0, 1) := by decide +kernel
theorem kb_Mo_batch_43 : decode prog_10_method_56_code 43 = .ok (.getfield 277, 3) := by decide +kernel
theorem kb_Mo_batch_46 : decode prog_10_method_56_code 46 = .ok (.bipush 6, 2) := by decide +kernel
theorem kb_Mo_batch_48 : decode prog_10_method_56_code 48 = .ok (.if_icmp .ne 66, 3) := by decide +kernel
theorem kb_Mo_batch_51 : decode prog_10_method_56_code 51 = .ok (.iconst 0, 1) := by decide +kernel
theorem kb_Mo_batch_52 : decode prog_10_method_56_code 52 = .ok (.istore_n 3, 1) := by decide +kernel
theorem kb_Mo_batch_53 : decode prog_10_method_56_code 53 = .ok (.iload_n 3, 1) := by decide +kernel
theorem kb_Mo_batch_54 : decode prog_10_method_56_code 54 = .ok (.sipush 1500, 3) := by decide +kernel
theorem kb_Mo_batch_57 : decode prog_10_method_56_code 57 = .ok (.if_icmp .ge 25, 3) := by decide +kernel
theorem kb_Mo_batch_60 : decode prog_10_method_56_code 60 = .ok (.aload_n 0, 1) := by decide +kernel
theorem kb_Mo_batch_61 : decode prog_10_method_56_code 61 = .ok (.getfield 88, 3) := by decide +kernel
theorem kb_Mo_batch_64 : decode prog_10_method_56_code 64 = .ok (.iload_n 3, 1) := by decide +kernel
theorem kb_Mo_batch_65 : decode prog_10_method_56_code 65 = .ok (.aload_n 0, 1) := by decide +kernel
theorem kb_Mo_batch_66 : decode prog_10_method_56_code 66 = .ok (.getfield 88, 3) := by decide +kernel
theorem kb_Mo_batch_69 : decode prog_10_method_56_code 69 = .ok (.iload_n 3, 1) := by decide +kernel
theorem kb_Mo_batch_70 : decode prog_10_method_56_code 70 = .ok (.sipush 300, 3) := by decide +kernel
theorem kb_Mo_batch_73 : decode prog_10_method_56_code 73 = .ok (.iadd, 1) := by decide +kernel
theorem kb_Mo_batch_74 : decode prog_10_method_56_code 74 = .ok (.iaload, 1) := by decide +kernel
theorem kb_Mo_batch_75 : decode prog_10_method_56_code 75 = .ok (.iastore, 1) := by decide +kernel
theorem kb_Mo_batch_76 : decode prog_10_method_56_code 76 = .ok (.iinc 3 1, 3) := by decide +kernel
theorem kb_Mo_batch_79 : decode prog_10_method_56_code 79 = .ok (.goto (-26), 3) := by decide +kernel
theorem kb_Mo_batch_82 : decode prog_10_method_56_code 82 = .ok (.iconst 0, 1) := by decide +kernel
theorem kb_Mo_batch_83 : decode prog_10_method_56_code 83 = .ok (.istore_n 3, 1) := by decide +kernel
theorem kb_Mo_batch_84 : decode prog_10_method_56_code 84 = .ok (.iload_n 3, 1) := by decide +kernel
theorem kb_Mo_batch_85 : decode prog_10_method_56_code 85 = .ok (.iconst 5, 1) := by decide +kernel
theorem kb_Mo_batch_86 : decode prog_10_method_56_code 86 = .ok (.if_icmp .ge 23, 3) := by decide +kernel
theorem kb_Mo_batch_89 : decode prog_10_method_56_code 89 = .ok (.aload_n 0, 1) := by decide +kernel
theorem kb_Mo_batch_90 : decode prog_10_method_56_code 90 = .ok (.getfield 91, 3) := by decide +kernel
theorem kb_Mo_batch_93 : decode prog_10_method_56_code 93 = .ok (.iload_n 3, 1) := by decide +kernel
theorem kb_Mo_batch_94 : decode prog_10_method_56_code 94 = .ok (.aload_n 0, 1) := by decide +kernel
theorem kb_Mo_batch_95 : decode prog_10_method_56_code 95 = .ok (.getfield 91, 3) := by decide +kernel
theorem kb_Mo_batch_98 : decode prog_10_method_56_code 98 = .ok (.iload_n 3, 1) := by decide +kernel
theorem kb_Mo_batch_99 : decode prog_10_method_56_code 99 = .ok (.iconst 1, 1) := by decide +kernel
theorem kb_Mo_batch_100 : decode prog_10_method_56_code 100 = .ok (.iadd, 1) := by decide +kernel
theorem kb_Mo_batch_101 : decode prog_10_method_56_code 101 = .ok (.iaload, 1) := by decide +kernel
theorem kb_Mo_batch_102 : decode prog_10_method_56_code 102 = .ok (.iastore, 1) := by decide +kernel
theorem kb_Mo_batch_103 : decode prog_10_method_56_code 103 = .ok (.iinc 3 1, 3) := by decide +kernel
theorem kb_Mo_batch_106 : decode prog_10_method_56_code 106 = .ok (.goto (-22), 3) := by decide +kernel
theorem kb_Mo_batch_109 : decode prog_10_method_56_code 109 = .ok (.aload_n 0, 1) := by decide +kernel
theorem kb_Mo_batch_110 : decode prog_10_method_56_code 110 = .ok (.iconst 5, 1) := by decide +kernel
theorem kb_Mo_batch_111 : decode prog_10_method_56_code 111 = .ok (.putfield 277, 3) := by decide +kernel
theorem kb_Mo_batch_114 : decode prog_10_method_56_code 114 = .ok (.iconst 0, 1) := by decide +kernel
theorem kb_Mo_batch_115 : decode prog_10_method_56_code 115 = .ok (.istore_n 3, 1) := by decide +kernel
theorem kb_Mo_batch_116 : decode prog_10_method_56_code 116 = .ok (.iload_n 3, 1) := by decide +kernel
theorem kb_Mo_batch_117 : decode prog_10_method_56_code 117 = .ok (.iconst 5, 1) := by decide +kernel
theorem kb_Mo_batch_118 : decode prog_10_method_56_code 118 = .ok (.iload_n 1, 1) := by decide +kernel
theorem kb_Mo_batch_119 : decode prog_10_method_56_code 119 = .ok (.imul, 1) := by decide +kernel
theorem kb_Mo_batch_120 : decode prog_10_method_56_code 120 = .ok (.if_icmp .ge 30, 3) := by decide +kernel
theorem kb_Mo_batch_123 : decode prog_10_method_56_code 123 = .ok (.aload_n 0, 1) := by decide +kernel
theorem kb_Mo_batch_124 : decode prog_10_method_56_code 124 = .ok (.getfield 88, 3) := by decide +kernel
theorem kb_Mo_batch_127 : decode prog_10_method_56_code 127 = .ok (.sipush 300, 3) := by decide +kernel
theorem kb_Mo_batch_130 : decode prog_10_method_56_code 130 = .ok (.aload_n 0, 1) := by decide +kernel
theorem kb_Mo_batch_131 : decode prog_10_method_56_code 131 = .ok (.getfield 277, 3) := by decide +kernel
theorem kb_Mo_batch_134 : decode prog_10_method_56_code 134 = .ok (.imul, 1) := by decide +kernel
theorem kb_Mo_batch_135 : decode prog_10_method_56_code 135 = .ok (.iload_n 3, 1) := by decide +kernel
theorem kb_Mo_batch_136 : decode prog_10_method_56_code 136 = .ok (.iadd, 1) := by decide +kernel
theorem kb_Mo_batch_137 : decode prog_10_method_56_code 137 = .ok (.aload_n 0, 1) := by decide +kernel
theorem kb_Mo_batch_138 : decode prog_10_method_56_code 138 = .ok (.getfield 85, 3) := by decide +kernel
theorem kb_Mo_batch_141 : decode prog_10_method_56_code 141 = .ok (.iload_n 3, 1) := by decide +kernel
theorem kb_Mo_batch_142 : decode prog_10_method_56_code 142 = .ok (.iaload, 1) := by decide +kernel
theorem kb_Mo_batch_143 : decode prog_10_method_56_code 143 = .ok (.iastore, 1) := by decide +kernel
theorem kb_Mo_batch_144 : decode prog_10_method_56_code 144 = .ok (.iinc 3 1, 3) := by decide +kernel
theorem kb_Mo_batch_147 : decode prog_10_method_56_code 147 = .ok (.goto (-31), 3) := by decide +kernel
theorem kb_Mo_batch_150 : decode prog_10_method_56_code 150 = .ok (.aload_n 0, 1) := by decide +kernel
theorem kb_Mo_batch_151 : decode prog_10_method_56_code 151 = .ok (.getfield 91, 3) := by decide +kernel
theorem kb_Mo_batch_154 : decode prog_10_method_56_code 154 = .ok (.aload_n 0, 1) := by decide +kernel
theorem kb_Mo_batch_155 : decode prog_10_method_56_code 155 = .ok (.getfield 277, 3) := by decide +kernel
theorem kb_Mo_batch_158 : decode prog_10_method_56_code 158 = .ok (.iload_n 1, 1) := by decide +kernel
theorem kb_Mo_batch_159 : decode prog_10_method_56_code 159 = .ok (.iastore, 1) := by decide +kernel
theorem kb_Mo_batch_160 : decode prog_10_method_56_code 160 = .ok (.aload_n 0, 1) := by decide +kernel
theorem kb_Mo_batch_161 : decode prog_10_method_56_code 161 = .ok (.dup, 1) := by decide +kernel
theorem kb_Mo_batch_162 : decode prog_10_method_56_code 162 = .ok (.getfield 277, 3) := by decide +kernel
theorem kb_Mo_batch_165 : decode prog_10_method_56_code 165 = .ok (.iconst 1, 1) := by decide +kernel
theorem kb_Mo_batch_166 : decode prog_10_method_56_code 166 = .ok (.iadd, 1) := by decide +kernel
theorem kb_Mo_batch_167 : decode prog_10_method_56_code 167 = .ok (.putfield 277, 3) := by decide +kernel
theorem kb_Mo_batch_170 : decode prog_10_method_56_code 170 = .ok (.aload_n 0, 1) := by decide +kernel
theorem kb_Mo_batch_171 : decode prog_10_method_56_code 171 = .ok (.getfield 264, 3) := by decide +kernel
theorem kb_Mo_batch_174 : decode prog_10_method_56_code 174 = .ok (.ireturn, 1) := by decide +kernel
theorem kb_Mo_drop_0 : decode prog_10_method_57_code 0 = .ok (.aload_n 0, 1) := by decide +kernel
theorem kb_Mo_drop_1 : decode prog_10_method_57_code 1 = .ok (.getfield 164, 3) := by decide +kernel
theorem kb_Mo_drop_4 : decode prog_10_method_57_code 4 = .ok (.ifCond .ne 6, 3) := by decide +kernel
theorem kb_Mo_drop_7 : decode prog_10_method_57_code 7 = .ok (.bipush (-4), 2) := by decide +kernel
theorem kb_Mo_drop_9 : decode prog_10_method_57_code 9 = .ok (.ireturn, 1) := by decide +kernel
theorem kb_Mo_drop_10 : decode prog_10_method_57_code 10 = .ok (.aload_n 0, 1) := by decide +kernel
theorem kb_Mo_drop_11 : decode prog_10_method_57_code 11 = .ok (.getfield 286, 3) := by decide +kernel
theorem kb_Mo_drop_14 : decode prog_10_method_57_code 14 = .ok (.istore_n 1, 1) := by decide +kernel
theorem kb_Mo_drop_15 : decode prog_10_method_57_code 15 = .ok (.aload_n 0, 1) := by decide +kernel
theorem kb_Mo_drop_16 : decode prog_10_method_57_code 16 = .ok (.iconst 0, 1) := by decide +kernel
theorem kb_Mo_drop_17 : decode prog_10_method_57_code 17 = .ok (.putfield 286, 3) := by decide +kernel
theorem kb_Mo_drop_20 : decode prog_10_method_57_code 20 = .ok (.iload_n 1, 1) := by decide +kernel
theorem kb_Mo_drop_21 : decode prog_10_method_57_code 21 = .ok (.ireturn, 1) := by decide +kernel
theorem kb_Mo_difference_0 : decode prog_10_method_58_code 0 = .ok (.aload_n 0, 1) := by decide +kernel
theorem kb_Mo_difference_1 : decode prog_10_method_58_code 1 = .ok (.getfield 164, 3) := by decide +kernel
theorem kb_Mo_difference_4 : decode prog_10_method_58_code 4 = .ok (.ifCond .ne 6, 3) := by decide +kernel
theorem kb_Mo_difference_7 : decode prog_10_method_58_code 7 = .ok (.bipush (-4), 2) := by decide +kernel
theorem kb_Mo_difference_9 : decode prog_10_method_58_code 9 = .ok (.ireturn, 1) := by decide +kernel
theorem kb_Mo_difference_10 : decode prog_10_method_58_code 10 = .ok (.iload_n 2, 1) := by decide +kernel
theorem kb_Mo_difference_11 : decode prog_10_method_58_code 11 = .ok (.iconst 0, 1) := by decide +kernel
theorem kb_Mo_difference_12 : decode prog_10_method_58_code 12 = .ok (.iconst 4, 1) := by decide +kernel
theorem kb_Mo_difference_13 : decode prog_10_method_58_code 13 = .ok (.invokestatic 271, 3) := by decide +kernel
theorem kb_Mo_difference_16 : decode prog_10_method_58_code 16 = .ok (.ifCond .ne 6, 3) := by decide +kernel
theorem kb_Mo_difference_19 : decode prog_10_method_58_code 19 = .ok (.bipush (-2), 2) := by decide +kernel
theorem kb_Mo_difference_21 : decode prog_10_method_58_code 21 = .ok (.ireturn, 1) := by decide +kernel
theorem kb_Mo_difference_22 : decode prog_10_method_58_code 22 = .ok (.iload_n 1, 1) := by decide +kernel
theorem kb_Mo_difference_23 : decode prog_10_method_58_code 23 = .ok (.iconst 0, 1) := by decide +kernel
theorem kb_Mo_difference_24 : decode prog_10_method_58_code 24 = .ok (.aload_n 0, 1) := by decide +kernel
theorem kb_Mo_difference_25 : decode prog_10_method_58_code 25 = .ok (.getfield 264, 3) := by decide +kernel
theorem kb_Mo_difference_28 : decode prog_10_method_58_code 28 = .ok (.iconst 1, 1) := by decide +kernel
theorem kb_Mo_difference_29 : decode prog_10_method_58_code 29 = .ok (.isub, 1) := by decide +kernel
theorem kb_Mo_difference_30 : decode prog_10_method_58_code 30 = .ok (.invokestatic 271, 3) := by decide +kernel
theorem kb_Mo_difference_33 : decode prog_10_method_58_code 33 = .ok (.ifCond .eq 16, 3) := by decide +kernel
theorem kb_Mo_difference_36 : decode prog_10_method_58_code 36 = .ok (.aload_n 0, 1) := by decide +kernel
theorem kb_Mo_difference_37 : decode prog_10_method_58_code 37 = .ok (.getfield 94, 3) := by decide +kernel
theorem kb_Mo_difference_40 : decode prog_10_method_58_code 40 = .ok (.iconst 5, 1) := by decide +kernel
theorem kb_Mo_difference_41 : decode prog_10_method_58_code 41 = .ok (.iload_n 1, 1) := by decide +kernel
theorem kb_Mo_difference_42 : decode prog_10_method_58_code 42 = .ok (.imul, 1) := by decide +kernel
theorem kb_Mo_difference_43 : decode prog_10_method_58_code 43 = .ok (.iload_n 2, 1) := by decide +kernel
theorem kb_Mo_difference_44 : decode prog_10_method_58_code 44 = .ok (.iadd, 1) := by decide +kernel
theorem kb_Mo_difference_45 : decode prog_10_method_58_code 45 = .ok (.iaload, 1) := by decide +kernel
theorem kb_Mo_difference_46 : decode prog_10_method_58_code 46 = .ok (.goto 4, 3) := by decide +kernel
theorem kb_Mo_difference_49 : decode prog_10_method_58_code 49 = .ok (.iconst (-1), 1) := by decide +kernel
theorem kb_Mo_difference_50 : decode prog_10_method_58_code 50 = .ok (.ireturn, 1) := by decide +kernel
theorem kb_Mo_undo_0 : decode prog_10_method_59_code 0 = .ok (.aload_n 0, 1) := by decide +kernel
theorem kb_Mo_undo_1 : decode prog_10_method_59_code 1 = .ok (.getfield 164, 3) := by decide +kernel
theorem kb_Mo_undo_4 : decode prog_10_method_59_code 4 = .ok (.ifCond .ne 6, 3) := by decide +kernel
theorem kb_Mo_undo_7 : decode prog_10_method_59_code 7 = .ok (.bipush (-4), 2) := by decide +kernel
theorem kb_Mo_undo_9 : decode prog_10_method_59_code 9 = .ok (.ireturn, 1) := by decide +kernel
theorem kb_Mo_undo_10 : decode prog_10_method_59_code 10 = .ok (.aload_n 0, 1) := by decide +kernel
theorem kb_Mo_undo_11 : decode prog_10_method_59_code 11 = .ok (.getfield 277, 3) := by decide +kernel
theorem kb_Mo_undo_14 : decode prog_10_method_59_code 14 = .ok (.ifCond .ne 5, 3) := by decide +kernel
theorem kb_Mo_undo_17 : decode prog_10_method_59_code 17 = .ok (.iconst (-1), 1) := by decide +kernel
theorem kb_Mo_undo_18 : decode prog_10_method_59_code 18 = .ok (.ireturn, 1) := by decide +kernel
theorem kb_Mo_undo_19 : decode prog_10_method_59_code 19 = .ok (.aload_n 0, 1) := by decide +kernel
theorem kb_Mo_undo_20 : decode prog_10_method_59_code 20 = .ok (.dup, 1) := by decide +kernel
theorem kb_Mo_undo_21 : decode prog_10_method_59_code 21 = .ok (.getfield 277, 3) := by decide +kernel
theorem kb_Mo_undo_24 : decode prog_10_method_59_code 24 = .ok (.iconst 1, 1) := by decide +kernel
theorem kb_Mo_undo_25 : decode prog_10_method_59_code 25 = .ok (.isub, 1) := by decide +kernel
theorem kb_Mo_undo_26 : decode prog_10_method_59_code 26 = .ok (.putfield 277, 3) := by decide +kernel
theorem kb_Mo_undo_29 : decode prog_10_method_59_code 29 = .ok (.aload_n 0, 1) := by decide +kernel
theorem kb_Mo_undo_30 : decode prog_10_method_59_code 30 = .ok (.aload_n 0, 1) := by decide +kernel
theorem kb_Mo_undo_31 : decode prog_10_method_59_code 31 = .ok (.getfield 88, 3) := by decide +kernel
theorem kb_Mo_undo_34 : decode prog_10_method_59_code 34 = .ok (.sipush 300, 3) := by decide +kernel
theorem kb_Mo_undo_37 : decode prog_10_method_59_code 37 = .ok (.aload_n 0, 1) := by decide +kernel
theorem kb_Mo_undo_38 : decode prog_10_method_59_code 38 = .ok (.getfield 277, 3) := by decide +kernel
theorem kb_Mo_undo_41 : decode prog_10_method_59_code 41 = .ok (.imul, 1) := by decide +kernel
theorem kb_Mo_undo_42 : decode prog_10_method_59_code 42 = .ok (.aload_n 0, 1) := by decide +kernel
theorem kb_Mo_undo_43 : decode prog_10_method_59_code 43 = .ok (.getfield 91, 3) := by decide +kernel
theorem kb_Mo_undo_46 : decode prog_10_method_59_code 46 = .ok (.aload_n 0, 1) := by decide +kernel
theorem kb_Mo_undo_47 : decode prog_10_method_59_code 47 = .ok (.getfield 277, 3) := by decide +kernel
theorem kb_Mo_undo_50 : decode prog_10_method_59_code 50 = .ok (.iaload, 1) := by decide +kernel
theorem kb_Mo_undo_51 : decode prog_10_method_59_code 51 = .ok (.iconst (-1), 1) := by decide +kernel
theorem kb_Mo_undo_52 : decode prog_10_method_59_code 52 = .ok (.invokevirtual 318, 3) := by decide +kernel
theorem kb_Mo_undo_55 : decode prog_10_method_59_code 55 = .ok (.aload_n 0, 1) := by decide +kernel
theorem kb_Mo_undo_56 : decode prog_10_method_59_code 56 = .ok (.invokevirtual 322, 3) := by decide +kernel
theorem kb_Mo_undo_59 : decode prog_10_method_59_code 59 = .ok (.istore_n 1, 1) := by decide +kernel
theorem kb_Mo_undo_60 : decode prog_10_method_59_code 60 = .ok (.aload_n 0, 1) := by decide +kernel
theorem kb_Mo_undo_61 : decode prog_10_method_59_code 61 = .ok (.getfield 264, 3) := by decide +kernel
theorem kb_Mo_undo_64 : decode prog_10_method_59_code 64 = .ok (.ireturn, 1) := by decide +kernel
theorem kb_Mo_has_0 : decode prog_10_method_60_code 0 = .ok (.aload_n 0, 1) := by decide +kernel
theorem kb_Mo_has_1 : decode prog_10_method_60_code 1 = .ok (.getfield 164, 3) := by decide +kernel
theorem kb_Mo_has_4 : decode prog_10_method_60_code 4 = .ok (.ifCond .ne 6, 3) := by decide +kernel
theorem kb_Mo_has_7 : decode prog_10_method_60_code 7 = .ok (.bipush (-4), 2) := by decide +kernel
theorem kb_Mo_has_9 : decode prog_10_method_60_code 9 = .ok (.ireturn, 1) := by decide +kernel
theorem kb_Mo_has_10 : decode prog_10_method_60_code 10 = .ok (.aload_n 0, 1) := by decide +kernel
theorem kb_Mo_has_11 : decode prog_10_method_60_code 11 = .ok (.iload_n 1, 1) := by decide +kernel
theorem kb_Mo_has_12 : decode prog_10_method_60_code 12 = .ok (.invokevirtual 307, 3) := by decide +kernel
theorem kb_Mo_has_15 : decode prog_10_method_60_code 15 = .ok (.ifCond .eq 15, 3) := by decide +kernel
theorem kb_Mo_has_18 : decode prog_10_method_60_code 18 = .ok (.aload_n 0, 1) := by decide +kernel
theorem kb_Mo_has_19 : decode prog_10_method_60_code 19 = .ok (.iload_n 1, 1) := by decide +kernel
theorem kb_Mo_has_20 : decode prog_10_method_60_code 20 = .ok (.iload_n 2, 1) := by decide +kernel
theorem kb_Mo_has_21 : decode prog_10_method_60_code 21 = .ok (.iload_n 3, 1) := by decide +kernel
theorem kb_Mo_has_22 : decode prog_10_method_60_code 22 = .ok (.iload 4, 2) := by decide +kernel
theorem kb_Mo_has_24 : decode prog_10_method_60_code 24 = .ok (.invokevirtual 314, 3) := by decide +kernel
theorem kb_Mo_has_27 : decode prog_10_method_60_code 27 = .ok (.ifCond .ne 6, 3) := by decide +kernel
theorem kb_Mo_has_30 : decode prog_10_method_60_code 30 = .ok (.bipush (-2), 2) := by decide +kernel
theorem kb_Mo_has_32 : decode prog_10_method_60_code 32 = .ok (.ireturn, 1) := by decide +kernel
theorem kb_Mo_has_33 : decode prog_10_method_60_code 33 = .ok (.aload_n 0, 1) := by decide +kernel
theorem kb_Mo_has_34 : decode prog_10_method_60_code 34 = .ok (.iload_n 1, 1) := by decide +kernel
theorem kb_Mo_has_35 : decode prog_10_method_60_code 35 = .ok (.iload_n 2, 1) := by decide +kernel
theorem kb_Mo_has_36 : decode prog_10_method_60_code 36 = .ok (.aload_n 0, 1) := by decide +kernel
theorem kb_Mo_has_37 : decode prog_10_method_60_code 37 = .ok (.iload_n 1, 1) := by decide +kernel
theorem kb_Mo_has_38 : decode prog_10_method_60_code 38 = .ok (.iconst 1, 1) := by decide +kernel
theorem kb_Mo_has_39 : decode prog_10_method_60_code 39 = .ok (.iload_n 3, 1) := by decide +kernel
theorem kb_Mo_has_40 : decode prog_10_method_60_code 40 = .ok (.invokevirtual 310, 3) := by decide +kernel
theorem kb_Mo_has_43 : decode prog_10_method_60_code 43 = .ok (.aload_n 0, 1) := by decide +kernel
theorem kb_Mo_has_44 : decode prog_10_method_60_code 44 = .ok (.iload_n 1, 1) := by decide +kernel
theorem kb_Mo_has_45 : decode prog_10_method_60_code 45 = .ok (.iconst 2, 1) := by decide +kernel
theorem kb_Mo_has_46 : decode prog_10_method_60_code 46 = .ok (.iload 4, 2) := by decide +kernel
theorem kb_Mo_has_48 : decode prog_10_method_60_code 48 = .ok (.invokevirtual 310, 3) := by decide +kernel
theorem kb_Mo_has_51 : decode prog_10_method_60_code 51 = .ok (.invokevirtual 208, 3) := by decide +kernel
theorem kb_Mo_has_54 : decode prog_10_method_60_code 54 = .ok (.istore 5, 2) := by decide +kernel
theorem kb_Mo_has_56 : decode prog_10_method_60_code 56 = .ok (.iload 5, 2) := by decide +kernel
theorem kb_Mo_has_58 : decode prog_10_method_60_code 58 = .ok (.iconst (-1), 1) := by decide +kernel
theorem kb_Mo_has_59 : decode prog_10_method_60_code 59 = .ok (.if_icmp .ne 7, 3) := by decide +kernel
theorem kb_Mo_has_62 : decode prog_10_method_60_code 62 = .ok (.iconst 0, 1) := by decide +kernel
theorem kb_Mo_has_63 : decode prog_10_method_60_code 63 = .ok (.goto 15, 3) := by decide +kernel
theorem kb_Mo_has_66 : decode prog_10_method_60_code 66 = .ok (.aload_n 0, 1) := by decide +kernel
theorem kb_Mo_has_67 : decode prog_10_method_60_code 67 = .ok (.getfield 70, 3) := by decide +kernel
theorem kb_Mo_has_70 : decode prog_10_method_60_code 70 = .ok (.bipush 40, 2) := by decide +kernel
theorem kb_Mo_has_72 : decode prog_10_method_60_code 72 = .ok (.iload_n 1, 1) := by decide +kernel
theorem kb_Mo_has_73 : decode prog_10_method_60_code 73 = .ok (.imul, 1) := by decide +kernel
theorem kb_Mo_has_74 : decode prog_10_method_60_code 74 = .ok (.iload 5, 2) := by decide +kernel
theorem kb_Mo_has_76 : decode prog_10_method_60_code 76 = .ok (.iadd, 1) := by decide +kernel
theorem kb_Mo_has_77 : decode prog_10_method_60_code 77 = .ok (.iaload, 1) := by decide +kernel
theorem kb_Mo_has_78 : decode prog_10_method_60_code 78 = .ok (.ireturn, 1) := by decide +kernel
theorem kb_Mo_row_0 : decode prog_10_method_61_code 0 = .ok (.aload_n 0, 1) := by decide +kernel
theorem kb_Mo_row_1 : decode prog_10_method_61_code 1 = .ok (.getfield 164, 3) := by decide +kernel
theorem kb_Mo_row_4 : decode prog_10_method_61_code 4 = .ok (.ifCond .ne 6, 3) := by decide +kernel
theorem kb_Mo_row_7 : decode prog_10_method_61_code 7 = .ok (.bipush (-4), 2) := by decide +kernel
theorem kb_Mo_row_9 : decode prog_10_method_61_code 9 = .ok (.ireturn, 1) := by decide +kernel
theorem kb_Mo_row_10 : decode prog_10_method_61_code 10 = .ok (.aload_n 0, 1) := by decide +kernel
theorem kb_Mo_row_11 : decode prog_10_method_61_code 11 = .ok (.iload_n 1, 1) := by decide +kernel
theorem kb_Mo_row_12 : decode prog_10_method_61_code 12 = .ok (.invokevirtual 307, 3) := by decide +kernel
theorem kb_Mo_row_15 : decode prog_10_method_61_code 15 = .ok (.ifCond .eq 12, 3) := by decide +kernel
theorem kb_Mo_row_18 : decode prog_10_method_61_code 18 = .ok (.iload_n 3, 1) := by decide +kernel
theorem kb_Mo_row_19 : decode prog_10_method_61_code 19 = .ok (.iconst 0, 1) := by decide +kernel
theorem kb_Mo_row_20 : decode prog_10_method_61_code 20 = .ok (.iconst 3, 1) := by decide +kernel
theorem kb_Mo_row_21 : decode prog_10_method_61_code 21 = .ok (.invokestatic 271, 3) := by decide +kernel
theorem kb_Mo_row_24 : decode prog_10_method_61_code 24 = .ok (.ifCond .ne 6, 3) := by decide +kernel
theorem kb_Mo_row_27 : decode prog_10_method_61_code 27 = .ok (.bipush (-2), 2) := by decide +kernel
theorem kb_Mo_row_29 : decode prog_10_method_61_code 29 = .ok (.ireturn, 1) := by decide +kernel
theorem kb_Mo_row_30 : decode prog_10_method_61_code 30 = .ok (.iload_n 2, 1) := by decide +kernel
theorem kb_Mo_row_31 : decode prog_10_method_61_code 31 = .ok (.iconst 0, 1) := by decide +kernel
theorem kb_Mo_row_32 : decode prog_10_method_61_code 32 = .ok (.aload_n 0, 1) := by decide +kernel
theorem kb_Mo_row_33 : decode prog_10_method_61_code 33 = .ok (.getfield 73, 3) := by decide +kernel
theorem kb_Mo_row_36 : decode prog_10_method_61_code 36 = .ok (.iload_n 1, 1) := by decide +kernel
theorem kb_Mo_row_37 : decode prog_10_method_61_code 37 = .ok (.iaload, 1) := by decide +kernel
theorem kb_Mo_row_38 : decode prog_10_method_61_code 38 = .ok (.iconst 1, 1) := by decide +kernel
theorem kb_Mo_row_39 : decode prog_10_method_61_code 39 = .ok (.isub, 1) := by decide +kernel
theorem kb_Mo_row_40 : decode prog_10_method_61_code 40 = .ok (.invokestatic 271, 3) := by decide +kernel
theorem kb_Mo_row_43 : decode prog_10_method_61_code 43 = .ok (.ifCond .ne 5, 3) := by decide +kernel
theorem kb_Mo_row_46 : decode prog_10_method_61_code 46 = .ok (.iconst (-1), 1) := by decide +kernel
theorem kb_Mo_row_47 : decode prog_10_method_61_code 47 = .ok (.ireturn, 1) := by decide +kernel
theorem kb_Mo_row_48 : decode prog_10_method_61_code 48 = .ok (.iload_n 3, 1) := by decide +kernel
theorem kb_Mo_row_49 : decode prog_10_method_61_code 49 = .ok (.iconst 3, 1) := by decide +kernel
theorem kb_Mo_row_50 : decode prog_10_method_61_code 50 = .ok (.if_icmp .ne 17, 3) := by decide +kernel
theorem kb_Mo_row_53 : decode prog_10_method_61_code 53 = .ok (.aload_n 0, 1) := by decide +kernel
theorem kb_Mo_row_54 : decode prog_10_method_61_code 54 = .ok (.getfield 70, 3) := by decide +kernel
theorem kb_Mo_row_57 : decode prog_10_method_61_code 57 = .ok (.bipush 40, 2) := by decide +kernel
theorem kb_Mo_row_59 : decode prog_10_method_61_code 59 = .ok (.iload_n 1, 1) := by decide +kernel
theorem kb_Mo_row_60 : decode prog_10_method_61_code 60 = .ok (.imul, 1) := by decide +kernel
theorem kb_Mo_row_61 : decode prog_10_method_61_code 61 = .ok (.iload_n 2, 1) := by decide +kernel
theorem kb_Mo_row_62 : decode prog_10_method_61_code 62 = .ok (.iadd, 1) := by decide +kernel
theorem kb_Mo_row_63 : decode prog_10_method_61_code 63 = .ok (.iaload, 1) := by decide +kernel
theorem kb_Mo_row_64 : decode prog_10_method_61_code 64 = .ok (.goto 16, 3) := by decide +kernel
theorem kb_Mo_row_67 : decode prog_10_method_61_code 67 = .ok (.aload_n 0, 1) := by decide +kernel
theorem kb_Mo_row_68 : decode prog_10_method_61_code 68 = .ok (.getfield 67, 3) := by decide +kernel
theorem kb_Mo_row_71 : decode prog_10_method_61_code 71 = .ok (.aload_n 0, 1) := by decide +kernel
theorem kb_Mo_row_72 : decode prog_10_method_61_code 72 = .ok (.iload_n 1, 1) := by decide +kernel
theorem kb_Mo_row_73 : decode prog_10_method_61_code 73 = .ok (.iload_n 2, 1) := by decide +kernel
theorem kb_Mo_row_74 : decode prog_10_method_61_code 74 = .ok (.invokevirtual 184, 3) := by decide +kernel
theorem kb_Mo_row_77 : decode prog_10_method_61_code 77 = .ok (.iload_n 3, 1) := by decide +kernel
theorem kb_Mo_row_78 : decode prog_10_method_61_code 78 = .ok (.iadd, 1) := by decide +kernel
theorem kb_Mo_row_79 : decode prog_10_method_61_code 79 = .ok (.iaload, 1) := by decide +kernel
theorem kb_Mo_row_80 : decode prog_10_method_61_code 80 = .ok (.ireturn, 1) := by decide +kernel
theorem kb_Mo_isCounted_0 : decode prog_10_method_62_code 0 = .ok (.iconst 0, 1) := by decide +kernel
theorem kb_Mo_isCounted_1 : decode prog_10_method_62_code 1 = .ok (.istore_n 2, 1) := by decide +kernel
theorem kb_Mo_isCounted_2 : decode prog_10_method_62_code 2 = .ok (.iconst 0, 1) := by decide +kernel
theorem kb_Mo_isCounted_3 : decode prog_10_method_62_code 3 = .ok (.istore_n 3, 1) := by decide +kernel
theorem kb_Mo_isCounted_4 : decode prog_10_method_62_code 4 = .ok (.iload_n 3, 1) := by decide +kernel
theorem kb_Mo_isCounted_5 : decode prog_10_method_62_code 5 = .ok (.aload_n 0, 1) := by decide +kernel
theorem kb_Mo_isCounted_6 : decode prog_10_method_62_code 6 = .ok (.getfield 164, 3) := by decide +kernel
theorem kb_Mo_isCounted_9 : decode prog_10_method_62_code 9 = .ok (.if_icmp .ge 38, 3) := by decide +kernel
theorem kb_Mo_isCounted_12 : decode prog_10_method_62_code 12 = .ok (.iload_n 2, 1) := by decide +kernel
theorem kb_Mo_isCounted_13 : decode prog_10_method_62_code 13 = .ok (.ifCond .ne 22, 3) := by decide +kernel
theorem kb_Mo_isCounted_16 : decode prog_10_method_62_code 16 = .ok (.aload_n 0, 1) := by decide +kernel
theorem kb_Mo_isCounted_17 : decode prog_10_method_62_code 17 = .ok (.getfield 24, 3) := by decide +kernel
theorem kb_Mo_isCounted_20 : decode prog_10_method_62_code 20 = .ok (.iload_n 3, 1) := by decide +kernel
theorem kb_Mo_isCounted_21 : decode prog_10_method_62_code 21 = .ok (.iaload, 1) := by decide +kernel
theorem kb_Mo_isCounted_22 : decode prog_10_method_62_code 22 = .ok (.iload_n 1, 1) := by decide +kernel
theorem kb_Mo_isCounted_23 : decode prog_10_method_62_code 23 = .ok (.if_icmp .ne 16, 3) := by decide +kernel
theorem kb_Mo_isCounted_26 : decode prog_10_method_62_code 26 = .ok (.aload_n 0, 1) := by decide +kernel
theorem kb_Mo_isCounted_27 : decode prog_10_method_62_code 27 = .ok (.getfield 42, 3) := by decide +kernel
theorem kb_Mo_isCounted_30 : decode prog_10_method_62_code 30 = .ok (.iload_n 3, 1) := by decide +kernel
theorem kb_Mo_isCounted_31 : decode prog_10_method_62_code 31 = .ok (.baload, 1) := by decide +kernel
theorem kb_Mo_isCounted_32 : decode prog_10_method_62_code 32 = .ok (.ifCond .eq 7, 3) := by decide +kernel
theorem kb_Mo_isCounted_35 : decode prog_10_method_62_code 35 = .ok (.iconst 1, 1) := by decide +kernel
theorem kb_Mo_isCounted_36 : decode prog_10_method_62_code 36 = .ok (.goto 4, 3) := by decide +kernel
theorem kb_Mo_isCounted_39 : decode prog_10_method_62_code 39 = .ok (.iconst 0, 1) := by decide +kernel
theorem kb_Mo_isCounted_40 : decode prog_10_method_62_code 40 = .ok (.istore_n 2, 1) := by decide +kernel
theorem kb_Mo_isCounted_41 : decode prog_10_method_62_code 41 = .ok (.iinc 3 1, 3) := by decide +kernel
theorem kb_Mo_isCounted_44 : decode prog_10_method_62_code 44 = .ok (.goto (-40), 3) := by decide +kernel
theorem kb_Mo_isCounted_47 : decode prog_10_method_62_code 47 = .ok (.iload_n 2, 1) := by decide +kernel
theorem kb_Mo_isCounted_48 : decode prog_10_method_62_code 48 = .ok (.ireturn, 1) := by decide +kernel
theorem kb_Mo_leads_0 : decode prog_10_method_63_code 0 = .ok (.aload_n 0, 1) := by decide +kernel
theorem kb_Mo_leads_1 : decode prog_10_method_63_code 1 = .ok (.iconst 0, 1) := by decide +kernel
theorem kb_Mo_leads_2 : decode prog_10_method_63_code 2 = .ok (.invokevirtual 232, 3) := by decide +kernel
theorem kb_Mo_leads_5 : decode prog_10_method_63_code 5 = .ok (.iload_n 1, 1) := by decide +kernel
theorem kb_Mo_leads_6 : decode prog_10_method_63_code 6 = .ok (.if_icmp .ne 25, 3) := by decide +kernel
theorem kb_Mo_leads_9 : decode prog_10_method_63_code 9 = .ok (.aload_n 0, 1) := by decide +kernel
theorem kb_Mo_leads_10 : decode prog_10_method_63_code 10 = .ok (.iconst 1, 1) := by decide +kernel
theorem kb_Mo_leads_11 : decode prog_10_method_63_code 11 = .ok (.invokevirtual 232, 3) := by decide +kernel
theorem kb_Mo_leads_14 : decode prog_10_method_63_code 14 = .ok (.iload_n 2, 1) := by decide +kernel
theorem kb_Mo_leads_15 : decode prog_10_method_63_code 15 = .ok (.if_icmp .ne 16, 3) := by decide +kernel
theorem kb_Mo_leads_18 : decode prog_10_method_63_code 18 = .ok (.aload_n 0, 1) := by decide +kernel
theorem kb_Mo_leads_19 : decode prog_10_method_63_code 19 = .ok (.iconst 2, 1) := by decide +kernel
theorem kb_Mo_leads_20 : decode prog_10_method_63_code 20 = .ok (.invokevirtual 232, 3) := by decide +kernel
theorem kb_Mo_leads_23 : decode prog_10_method_63_code 23 = .ok (.iload_n 3, 1) := by decide +kernel
theorem kb_Mo_leads_24 : decode prog_10_method_63_code 24 = .ok (.if_icmp .ne 7, 3) := by decide +kernel
theorem kb_Mo_leads_27 : decode prog_10_method_63_code 27 = .ok (.iconst 1, 1) := by decide +kernel
theorem kb_Mo_leads_28 : decode prog_10_method_63_code 28 = .ok (.goto 4, 3) := by decide +kernel
theorem kb_Mo_leads_31 : decode prog_10_method_63_code 31 = .ok (.iconst 0, 1) := by decide +kernel
theorem kb_Mo_leads_32 : decode prog_10_method_63_code 32 = .ok (.ireturn, 1) := by decide +kernel
theorem kb_Mo_derivations_0 : decode prog_10_method_64_code 0 = .ok (.aload_n 0, 1) := by decide +kernel
theorem kb_Mo_derivations_1 : decode prog_10_method_64_code 1 = .ok (.getfield 164, 3) := by decide +kernel
theorem kb_Mo_derivations_4 : decode prog_10_method_64_code 4 = .ok (.ifCond .ne 6, 3) := by decide +kernel
theorem kb_Mo_derivations_7 : decode prog_10_method_64_code 7 = .ok (.bipush (-4), 2) := by decide +kernel
theorem kb_Mo_derivations_9 : decode prog_10_method_64_code 9 = .ok (.ireturn, 1) := by decide +kernel
theorem kb_Mo_derivations_10 : decode prog_10_method_64_code 10 = .ok (.aload_n 0, 1) := by decide +kernel
theorem kb_Mo_derivations_11 : decode prog_10_method_64_code 11 = .ok (.iload_n 1, 1) := by decide +kernel
theorem kb_Mo_derivations_12 : decode prog_10_method_64_code 12 = .ok (.invokevirtual 307, 3) := by decide +kernel
theorem kb_Mo_derivations_15 : decode prog_10_method_64_code 15 = .ok (.ifCond .eq 24, 3) := by decide +kernel
theorem kb_Mo_derivations_18 : decode prog_10_method_64_code 18 = .ok (.aload_n 0, 1) := by decide +kernel
theorem kb_Mo_derivations_19 : decode prog_10_method_64_code 19 = .ok (.getfield 55, 3) := by decide +kernel
theorem kb_Mo_derivations_22 : decode prog_10_method_64_code 22 = .ok (.iload_n 1, 1) := by decide +kernel
theorem kb_Mo_derivations_23 : decode prog_10_method_64_code 23 = .ok (.baload, 1) := by decide +kernel
theorem kb_Mo_derivations_24 : decode prog_10_method_64_code 24 = .ok (.ifCond .eq 15, 3) := by decide +kernel
theorem kb_Mo_derivations_27 : decode prog_10_method_64_code 27 = .ok (.aload_n 0, 1) := by decide +kernel
theorem kb_Mo_derivations_28 : decode prog_10_method_64_code 28 = .ok (.iload_n 1, 1) := by decide +kernel
theorem kb_Mo_derivations_29 : decode prog_10_method_64_code 29 = .ok (.iload_n 2, 1) := by decide +kernel
theorem kb_Mo_derivations_30 : decode prog_10_method_64_code 30 = .ok (.iload_n 3, 1) := by decide +kernel
theorem kb_Mo_derivations_31 : decode prog_10_method_64_code 31 = .ok (.iload 4, 2) := by decide +kernel
theorem kb_Mo_derivations_33 : decode prog_10_method_64_code 33 = .ok (.invokevirtual 314, 3) := by decide +kernel
theorem kb_Mo_derivations_36 : decode prog_10_method_64_code 36 = .ok (.ifCond .ne 6, 3) := by decide +kernel
theorem kb_Mo_derivations_39 : decode prog_10_method_64_code 39 = .ok (.bipush (-2), 2) := by decide +kernel
theorem kb_Mo_derivations_41 : decode prog_10_method_64_code 41 = .ok (.ireturn, 1) := by decide +kernel
theorem kb_Mo_derivations_42 : decode prog_10_method_64_code 42 = .ok (.aload_n 0, 1) := by decide +kernel
theorem kb_Mo_derivations_43 : decode prog_10_method_64_code 43 = .ok (.iload_n 1, 1) := by decide +kernel
theorem kb_Mo_derivations_44 : decode prog_10_method_64_code 44 = .ok (.iconst 1, 1) := by decide +kernel
theorem kb_Mo_derivations_45 : decode prog_10_method_64_code 45 = .ok (.iload_n 3, 1) := by decide +kernel
theorem kb_Mo_derivations_46 : decode prog_10_method_64_code 46 = .ok (.invokevirtual 310, 3) := by decide +kernel
theorem kb_Mo_derivations_49 : decode prog_10_method_64_code 49 = .ok (.istore 5, 2) := by decide +kernel
theorem kb_Mo_derivations_51 : decode prog_10_method_64_code 51 = .ok (.aload_n 0, 1) := by decide +kernel
theorem kb_Mo_derivations_52 : decode prog_10_method_64_code 52 = .ok (.iload_n 1, 1) := by decide +kernel
theorem kb_Mo_derivations_53 : decode prog_10_method_64_code 53 = .ok (.iconst 2, 1) := by decide +kernel
theorem kb_Mo_derivations_54 : decode prog_10_method_64_code 54 = .ok (.iload 4, 2) := by decide +kernel
theorem kb_Mo_derivations_56 : decode prog_10_method_64_code 56 = .ok (.invokevirtual 310, 3) := by decide +kernel
theorem kb_Mo_derivations_59 : decode prog_10_method_64_code 59 = .ok (.istore 6, 2) := by decide +kernel
theorem kb_Mo_derivations_61 : decode prog_10_method_64_code 61 = .ok (.aload_n 0, 1) := by decide +kernel
theorem kb_Mo_derivations_62 : decode prog_10_method_64_code 62 = .ok (.iload_n 1, 1) := by decide +kernel
theorem kb_Mo_derivations_63 : decode prog_10_method_64_code 63 = .ok (.invokevirtual 325, 3) := by decide +kernel
theorem kb_Mo_derivations_66 : decode prog_10_method_64_code 66 = .ok (.ifCond .eq 57, 3) := by decide +kernel
theorem kb_Mo_derivations_69 : decode prog_10_method_64_code 69 = .ok (.aload_n 0, 1) := by decide +kernel
theorem kb_Mo_derivations_70 : decode prog_10_method_64_code 70 = .ok (.getfield 52, 3) := by decide +kernel
theorem kb_Mo_derivations_73 : decode prog_10_method_64_code 73 = .ok (.iload_n 1, 1) := by decide +kernel
theorem kb_Mo_derivations_74 : decode prog_10_method_64_code 74 = .ok (.iaload, 1) := by decide +kernel
theorem kb_Mo_derivations_75 : decode prog_10_method_64_code 75 = .ok (.iconst 1, 1) := by decide +kernel
theorem kb_Mo_derivations_76 : decode prog_10_method_64_code 76 = .ok (.if_icmp .ne 7, 3) := by decide +kernel
theorem kb_Mo_derivations_79 : decode prog_10_method_64_code 79 = .ok (.iload_n 2, 1) := by decide +kernel
theorem kb_Mo_derivations_80 : decode prog_10_method_64_code 80 = .ok (.goto 20, 3) := by decide +kernel
theorem kb_Mo_derivations_83 : decode prog_10_method_64_code 83 = .ok (.aload_n 0, 1) := by decide +kernel
theorem kb_Mo_derivations_84 : decode prog_10_method_64_code 84 = .ok (.getfield 52, 3) := by decide +kernel
theorem kb_Mo_derivations_87 : decode prog_10_method_64_code 87 = .ok (.iload_n 1, 1) := by decide +kernel
theorem kb_Mo_derivations_88 : decode prog_10_method_64_code 88 = .ok (.iaload, 1) := by decide +kernel
theorem kb_Mo_derivations_89 : decode prog_10_method_64_code 89 = .ok (.iconst 2, 1) := by decide +kernel
theorem kb_Mo_derivations_90 : decode prog_10_method_64_code 90 = .ok (.if_icmp .ne 8, 3) := by decide +kernel
theorem kb_Mo_derivations_93 : decode prog_10_method_64_code 93 = .ok (.iload 5, 2) := by decide +kernel
theorem kb_Mo_derivations_95 : decode prog_10_method_64_code 95 = .ok (.goto 5, 3) := by decide +kernel
theorem kb_Mo_derivations_98 : decode prog_10_method_64_code 98 = .ok (.iload 6, 2) := by decide +kernel
theorem kb_Mo_derivations_100 : decode prog_10_method_64_code 100 = .ok (.istore 7, 2) := by decide +kernel
theorem kb_Mo_derivations_102 : decode prog_10_method_64_code 102 = .ok (.aload_n 0, 1) := by decide +kernel
theorem kb_Mo_derivations_103 : decode prog_10_method_64_code 103 = .ok (.iload_n 1, 1) := by decide +kernel
theorem kb_Mo_derivations_104 : decode prog_10_method_64_code 104 = .ok (.iload_n 2, 1) := by decide +kernel
theorem kb_Mo_derivations_105 : decode prog_10_method_64_code 105 = .ok (.iload 5, 2) := by decide +kernel
theorem kb_Mo_derivations_107 : decode prog_10_method_64_code 107 = .ok (.iload 6, 2) := by decide +kernel
theorem kb_Mo_derivations_109 : decode prog_10_method_64_code 109 = .ok (.invokevirtual 208, 3) := by decide +kernel
theorem kb_Mo_derivations_112 : decode prog_10_method_64_code 112 = .ok (.iconst (-1), 1) := by decide +kernel
theorem kb_Mo_derivations_113 : decode prog_10_method_64_code 113 = .ok (.if_icmp .ne 7, 3) := by decide +kernel
theorem kb_Mo_derivations_116 : decode prog_10_method_64_code 116 = .ok (.iconst 0, 1) := by decide +kernel
theorem kb_Mo_derivations_117 : decode prog_10_method_64_code 117 = .ok (.goto 5, 3) := by decide +kernel
theorem kb_Mo_derivations_120 : decode prog_10_method_64_code 120 = .ok (.iload 7, 2) := by decide +kernel
theorem kb_Mo_derivations_122 : decode prog_10_method_64_code 122 = .ok (.ireturn, 1) := by decide +kernel
theorem kb_Mo_derivations_123 : decode prog_10_method_64_code 123 = .ok (.iconst 0, 1) := by decide +kernel
theorem kb_Mo_derivations_124 : decode prog_10_method_64_code 124 = .ok (.istore 7, 2) := by decide +kernel
theorem kb_Mo_derivations_126 : decode prog_10_method_64_code 126 = .ok (.iconst 0, 1) := by decide +kernel
theorem kb_Mo_derivations_127 : decode prog_10_method_64_code 127 = .ok (.istore 8, 2) := by decide +kernel
theorem kb_Mo_derivations_129 : decode prog_10_method_64_code 129 = .ok (.iload 8, 2) := by decide +kernel
theorem kb_Mo_derivations_131 : decode prog_10_method_64_code 131 = .ok (.aload_n 0, 1) := by decide +kernel
theorem kb_Mo_derivations_132 : decode prog_10_method_64_code 132 = .ok (.getfield 164, 3) := by decide +kernel
theorem kb_Mo_derivations_135 : decode prog_10_method_64_code 135 = .ok (.if_icmp .ge 58, 3) := by decide +kernel
theorem kb_Mo_derivations_138 : decode prog_10_method_64_code 138 = .ok (.aload_n 0, 1) := by decide +kernel
theorem kb_Mo_derivations_139 : decode prog_10_method_64_code 139 = .ok (.getfield 24, 3) := by decide +kernel
theorem kb_Mo_derivations_142 : decode prog_10_method_64_code 142 = .ok (.iload 8, 2) := by decide +kernel
theorem kb_Mo_derivations_144 : decode prog_10_method_64_code 144 = .ok (.iaload, 1) := by decide +kernel
theorem kb_Mo_derivations_145 : decode prog_10_method_64_code 145 = .ok (.iload_n 1, 1) := by decide +kernel
theorem kb_Mo_derivations_146 : decode prog_10_method_64_code 146 = .ok (.if_icmp .ne 41, 3) := by decide +kernel
theorem kb_Mo_derivations_149 : decode prog_10_method_64_code 149 = .ok (.aload_n 0, 1) := by decide +kernel
theorem kb_Mo_derivations_150 : decode prog_10_method_64_code 150 = .ok (.iload 8, 2) := by decide +kernel
theorem kb_Mo_derivations_152 : decode prog_10_method_64_code 152 = .ok (.invokevirtual 226, 3) := by decide +kernel
theorem kb_Mo_derivations_155 : decode prog_10_method_64_code 155 = .ok (.aload_n 0, 1) := by decide +kernel
theorem kb_Mo_derivations_156 : decode prog_10_method_64_code 156 = .ok (.invokevirtual 229, 3) := by decide +kernel
theorem kb_Mo_derivations_159 : decode prog_10_method_64_code 159 = .ok (.ifCond .eq 28, 3) := by decide +kernel
theorem kb_Mo_derivations_162 : decode prog_10_method_64_code 162 = .ok (.iload 7, 2) := by decide +kernel
theorem kb_Mo_derivations_164 : decode prog_10_method_64_code 164 = .ok (.aload_n 0, 1) := by decide +kernel
theorem kb_Mo_derivations_165 : decode prog_10_method_64_code 165 = .ok (.iload_n 2, 1) := by decide +kernel
theorem kb_Mo_derivations_166 : decode prog_10_method_64_code 166 = .ok (.iload 5, 2) := by decide +kernel
theorem kb_Mo_derivations_168 : decode prog_10_method_64_code 168 = .ok (.iload 6, 2) := by decide +kernel
theorem kb_Mo_derivations_170 : decode prog_10_method_64_code 170 = .ok (.invokevirtual 328, 3) := by decide +kernel
theorem kb_Mo_derivations_173 : decode prog_10_method_64_code 173 = .ok (.ifCond .eq 7, 3) := by decide +kernel
theorem kb_Mo_derivations_176 : decode prog_10_method_64_code 176 = .ok (.iconst 1, 1) := by decide +kernel
theorem kb_Mo_derivations_177 : decode prog_10_method_64_code 177 = .ok (.goto 4, 3) := by decide +kernel
theorem kb_Mo_derivations_180 : decode prog_10_method_64_code 180 = .ok (.iconst 0, 1) := by decide +kernel
theorem kb_Mo_derivations_181 : decode prog_10_method_64_code 181 = .ok (.iadd, 1) := by decide +kernel
theorem kb_Mo_derivations_182 : decode prog_10_method_64_code 182 = .ok (.istore 7, 2) := by decide +kernel
theorem kb_Mo_derivations_184 : decode prog_10_method_64_code 184 = .ok (.goto (-29), 3) := by decide +kernel
theorem kb_Mo_derivations_187 : decode prog_10_method_64_code 187 = .ok (.iinc 8 1, 3) := by decide +kernel
theorem kb_Mo_derivations_190 : decode prog_10_method_64_code 190 = .ok (.goto (-61), 3) := by decide +kernel
theorem kb_Mo_derivations_193 : decode prog_10_method_64_code 193 = .ok (.iload 7, 2) := by decide +kernel
theorem kb_Mo_derivations_195 : decode prog_10_method_64_code 195 = .ok (.ireturn, 1) := by decide +kernel
theorem kb_Mo_isLess_0 : decode prog_10_method_65_code 0 = .ok (.iconst 0, 1) := by decide +kernel
theorem kb_Mo_isLess_1 : decode prog_10_method_65_code 1 = .ok (.istore_n 1, 1) := by decide +kernel
theorem kb_Mo_isLess_2 : decode prog_10_method_65_code 2 = .ok (.iload_n 1, 1) := by decide +kernel
theorem kb_Mo_isLess_3 : decode prog_10_method_65_code 3 = .ok (.bipush 26, 2) := by decide +kernel
theorem kb_Mo_isLess_5 : decode prog_10_method_65_code 5 = .ok (.if_icmp .ge 50, 3) := by decide +kernel
theorem kb_Mo_isLess_8 : decode prog_10_method_65_code 8 = .ok (.aload_n 0, 1) := by decide +kernel
theorem kb_Mo_isLess_9 : decode prog_10_method_65_code 9 = .ok (.getfield 97, 3) := by decide +kernel
theorem kb_Mo_isLess_12 : decode prog_10_method_65_code 12 = .ok (.bipush 26, 2) := by decide +kernel
theorem kb_Mo_isLess_14 : decode prog_10_method_65_code 14 = .ok (.aload_n 0, 1) := by decide +kernel
theorem kb_Mo_isLess_15 : decode prog_10_method_65_code 15 = .ok (.getfield 199, 3) := by decide +kernel
theorem kb_Mo_isLess_18 : decode prog_10_method_65_code 18 = .ok (.imul, 1) := by decide +kernel
theorem kb_Mo_isLess_19 : decode prog_10_method_65_code 19 = .ok (.iload_n 1, 1) := by decide +kernel
theorem kb_Mo_isLess_20 : decode prog_10_method_65_code 20 = .ok (.iadd, 1) := by decide +kernel
theorem kb_Mo_isLess_21 : decode prog_10_method_65_code 21 = .ok (.iaload, 1) := by decide +kernel
theorem kb_Mo_isLess_22 : decode prog_10_method_65_code 22 = .ok (.istore_n 2, 1) := by decide +kernel
theorem kb_Mo_isLess_23 : decode prog_10_method_65_code 23 = .ok (.iload_n 2, 1) := by decide +kernel
theorem kb_Mo_isLess_24 : decode prog_10_method_65_code 24 = .ok (.aload_n 0, 1) := by decide +kernel
theorem kb_Mo_isLess_25 : decode prog_10_method_65_code 25 = .ok (.getfield 118, 3) := by decide +kernel
theorem kb_Mo_isLess_28 : decode prog_10_method_65_code 28 = .ok (.iload_n 1, 1) := by decide +kernel
theorem kb_Mo_isLess_29 : decode prog_10_method_65_code 29 = .ok (.iaload, 1) := by decide +kernel
theorem kb_Mo_isLess_30 : decode prog_10_method_65_code 30 = .ok (.if_icmp .eq 19, 3) := by decide +kernel
theorem kb_Mo_isLess_33 : decode prog_10_method_65_code 33 = .ok (.iload_n 2, 1) := by decide +kernel
theorem kb_Mo_isLess_34 : decode prog_10_method_65_code 34 = .ok (.aload_n 0, 1) := by decide +kernel
theorem kb_Mo_isLess_35 : decode prog_10_method_65_code 35 = .ok (.getfield 118, 3) := by decide +kernel
theorem kb_Mo_isLess_38 : decode prog_10_method_65_code 38 = .ok (.iload_n 1, 1) := by decide +kernel
theorem kb_Mo_isLess_39 : decode prog_10_method_65_code 39 = .ok (.iaload, 1) := by decide +kernel
theorem kb_Mo_isLess_40 : decode prog_10_method_65_code 40 = .ok (.if_icmp .ge 7, 3) := by decide +kernel
theorem kb_Mo_isLess_43 : decode prog_10_method_65_code 43 = .ok (.iconst 1, 1) := by decide +kernel
theorem kb_Mo_isLess_44 : decode prog_10_method_65_code 44 = .ok (.goto 4, 3) := by decide +kernel
theorem kb_Mo_isLess_47 : decode prog_10_method_65_code 47 = .ok (.iconst 0, 1) := by decide +kernel
theorem kb_Mo_isLess_48 : decode prog_10_method_65_code 48 = .ok (.ireturn, 1) := by decide +kernel
theorem kb_Mo_isLess_49 : decode prog_10_method_65_code 49 = .ok (.iinc 1 1, 3) := by decide +kernel
theorem kb_Mo_isLess_52 : decode prog_10_method_65_code 52 = .ok (.goto (-50), 3) := by decide +kernel
theorem kb_Mo_isLess_55 : decode prog_10_method_65_code 55 = .ok (.iconst 0, 1) := by decide +kernel
theorem kb_Mo_isLess_56 : decode prog_10_method_65_code 56 = .ok (.ireturn, 1) := by decide +kernel
theorem kb_Mo_why_0 : decode prog_10_method_66_code 0 = .ok (.aload_n 0, 1) := by decide +kernel
theorem kb_Mo_why_1 : decode prog_10_method_66_code 1 = .ok (.getfield 164, 3) := by decide +kernel
theorem kb_Mo_why_4 : decode prog_10_method_66_code 4 = .ok (.ifCond .ne 6, 3) := by decide +kernel
theorem kb_Mo_why_7 : decode prog_10_method_66_code 7 = .ok (.bipush (-4), 2) := by decide +kernel
theorem kb_Mo_why_9 : decode prog_10_method_66_code 9 = .ok (.ireturn, 1) := by decide +kernel
theorem kb_Mo_why_10 : decode prog_10_method_66_code 10 = .ok (.aload_n 0, 1) := by decide +kernel
theorem kb_Mo_why_11 : decode prog_10_method_66_code 11 = .ok (.iload_n 1, 1) := by decide +kernel
theorem kb_Mo_why_12 : decode prog_10_method_66_code 12 = .ok (.invokevirtual 307, 3) := by decide +kernel
theorem kb_Mo_why_15 : decode prog_10_method_66_code 15 = .ok (.ifCond .eq 43, 3) := by decide +kernel
theorem kb_Mo_why_18 : decode prog_10_method_66_code 18 = .ok (.aload_n 0, 1) := by decide +kernel
theorem kb_Mo_why_19 : decode prog_10_method_66_code 19 = .ok (.getfield 55, 3) := by decide +kernel
theorem kb_Mo_why_22 : decode prog_10_method_66_code 22 = .ok (.iload_n 1, 1) := by decide +kernel
theorem kb_Mo_why_23 : decode prog_10_method_66_code 23 = .ok (.baload, 1) := by decide +kernel
theorem kb_Mo_why_24 : decode prog_10_method_66_code 24 = .ok (.ifCond .eq 34, 3) := by decide +kernel
theorem kb_Mo_why_27 : decode prog_10_method_66_code 27 = .ok (.aload_n 0, 1) := by decide +kernel
theorem kb_Mo_why_28 : decode prog_10_method_66_code 28 = .ok (.iload_n 1, 1) := by decide +kernel
theorem kb_Mo_why_29 : decode prog_10_method_66_code 29 = .ok (.invokevirtual 325, 3) := by decide +kernel
theorem kb_Mo_why_32 : decode prog_10_method_66_code 32 = .ok (.ifCond .ne 26, 3) := by decide +kernel
theorem kb_Mo_why_35 : decode prog_10_method_66_code 35 = .ok (.aload_n 0, 1) := by decide +kernel
theorem kb_Mo_why_36 : decode prog_10_method_66_code 36 = .ok (.iload_n 1, 1) := by decide +kernel
theorem kb_Mo_why_37 : decode prog_10_method_66_code 37 = .ok (.iload_n 2, 1) := by decide +kernel
theorem kb_Mo_why_38 : decode prog_10_method_66_code 38 = .ok (.iload_n 3, 1) := by decide +kernel
theorem kb_Mo_why_39 : decode prog_10_method_66_code 39 = .ok (.iload 4, 2) := by decide +kernel
theorem kb_Mo_why_41 : decode prog_10_method_66_code 41 = .ok (.invokevirtual 314, 3) := by decide +kernel
theorem kb_Mo_why_44 : decode prog_10_method_66_code 44 = .ok (.ifCond .eq 14, 3) := by decide +kernel
theorem kb_Mo_why_47 : decode prog_10_method_66_code 47 = .ok (.iload 5, 2) := by decide +kernel
theorem kb_Mo_why_49 : decode prog_10_method_66_code 49 = .ok (.iconst 0, 1) := by decide +kernel
theorem kb_Mo_why_50 : decode prog_10_method_66_code 50 = .ok (.bipush 7, 2) := by decide +kernel
theorem kb_Mo_why_52 : decode prog_10_method_66_code 52 = .ok (.invokestatic 271, 3) := by decide +kernel
theorem kb_Mo_why_55 : decode prog_10_method_66_code 55 = .ok (.ifCond .ne 6, 3) := by decide +kernel
theorem kb_Mo_why_58 : decode prog_10_method_66_code 58 = .ok (.bipush (-2), 2) := by decide +kernel
theorem kb_Mo_why_60 : decode prog_10_method_66_code 60 = .ok (.ireturn, 1) := by decide +kernel
theorem kb_Mo_why_61 : decode prog_10_method_66_code 61 = .ok (.aload_n 0, 1) := by decide +kernel
theorem kb_Mo_why_62 : decode prog_10_method_66_code 62 = .ok (.iload_n 1, 1) := by decide +kernel
theorem kb_Mo_why_63 : decode prog_10_method_66_code 63 = .ok (.iconst 1, 1) := by decide +kernel
theorem kb_Mo_why_64 : decode prog_10_method_66_code 64 = .ok (.iload_n 3, 1) := by decide +kernel
theorem kb_Mo_why_65 : decode prog_10_method_66_code 65 = .ok (.invokevirtual 310, 3) := by decide +kernel
theorem kb_Mo_why_68 : decode prog_10_method_66_code 68 = .ok (.istore 6, 2) := by decide +kernel
theorem kb_Mo_why_70 : decode prog_10_method_66_code 70 = .ok (.aload_n 0, 1) := by decide +kernel
theorem kb_Mo_why_71 : decode prog_10_method_66_code 71 = .ok (.iload_n 1, 1) := by decide +kernel
theorem kb_Mo_why_72 : decode prog_10_method_66_code 72 = .ok (.iconst 2, 1) := by decide +kernel
theorem kb_Mo_why_73 : decode prog_10_method_66_code 73 = .ok (.iload 4, 2) := by decide +kernel
theorem kb_Mo_why_75 : decode prog_10_method_66_code 75 = .ok (.invokevirtual 310, 3) := by decide +kernel
theorem kb_Mo_why_78 : decode prog_10_method_66_code 78 = .ok (.istore 7, 2) := by decide +kernel
theorem kb_Mo_why_80 : decode prog_10_method_66_code 80 = .ok (.iconst 0, 1) := by decide +kernel
theorem kb_Mo_why_81 : decode prog_10_method_66_code 81 = .ok (.istore 8, 2) := by decide +kernel
theorem kb_Mo_why_83 : decode prog_10_method_66_code 83 = .ok (.iload 8, 2) := by decide +kernel
theorem kb_Mo_why_85 : decode prog_10_method_66_code 85 = .ok (.aload_n 0, 1) := by decide +kernel
theorem kb_Mo_why_86 : decode prog_10_method_66_code 86 = .ok (.getfield 164, 3) := by decide +kernel
theorem kb_Mo_why_89 : decode prog_10_method_66_code 89 = .ok (.if_icmp .ge 118, 3) := by decide +kernel
theorem kb_Mo_why_92 : decode prog_10_method_66_code 92 = .ok (.iconst 0, 1) := by decide +kernel
theorem kb_Mo_why_93 : decode prog_10_method_66_code 93 = .ok (.istore 9, 2) := by decide +kernel
theorem kb_Mo_why_95 : decode prog_10_method_66_code 95 = .ok (.aload_n 0, 1) := by decide +kernel
theorem kb_Mo_why_96 : decode prog_10_method_66_code 96 = .ok (.getfield 24, 3) := by decide +kernel
theorem kb_Mo_why_99 : decode prog_10_method_66_code 99 = .ok (.iload 8, 2) := by decide +kernel
theorem kb_Mo_why_101 : decode prog_10_method_66_code 101 = .ok (.iaload, 1) := by decide +kernel
theorem kb_Mo_why_102 : decode prog_10_method_66_code 102 = .ok (.iload_n 1, 1) := by decide +kernel
theorem kb_Mo_why_103 : decode prog_10_method_66_code 103 = .ok (.if_icmp .ne 84, 3) := by decide +kernel
theorem kb_Mo_why_106 : decode prog_10_method_66_code 106 = .ok (.aload_n 0, 1) := by decide +kernel
theorem kb_Mo_why_107 : decode prog_10_method_66_code 107 = .ok (.iload 8, 2) := by decide +kernel
theorem kb_Mo_why_109 : decode prog_10_method_66_code 109 = .ok (.invokevirtual 226, 3) := by decide +kernel
theorem kb_Mo_why_112 : decode prog_10_method_66_code 112 = .ok (.aload_n 0, 1) := by decide +kernel
theorem kb_Mo_why_113 : decode prog_10_method_66_code 113 = .ok (.invokevirtual 229, 3) := by decide +kernel
theorem kb_Mo_why_116 : decode prog_10_method_66_code 116 = .ok (.ifCond .eq 71, 3) := by decide +kernel
theorem kb_Mo_why_119 : decode prog_10_method_66_code 119 = .ok (.aload_n 0, 1) := by decide +kernel
theorem kb_Mo_why_120 : decode prog_10_method_66_code 120 = .ok (.iload_n 2, 1) := by decide +kernel
theorem kb_Mo_why_121 : decode prog_10_method_66_code 121 = .ok (.iload 6, 2) := by decide +kernel
theorem kb_Mo_why_123 : decode prog_10_method_66_code 123 = .ok (.iload 7, 2) := by decide +kernel
theorem kb_Mo_why_125 : decode prog_10_method_66_code 125 = .ok (.invokevirtual 328, 3) := by decide +kernel
theorem kb_Mo_why_128 : decode prog_10_method_66_code 128 = .ok (.ifCond .eq (-16), 3) := by decide +kernel
theorem kb_Mo_why_131 : decode prog_10_method_66_code 131 = .ok (.iload 9, 2) := by decide +kernel
theorem kb_Mo_why_133 : decode prog_10_method_66_code 133 = .ok (.ifCond .eq 10, 3) := by decide +kernel
theorem kb_Mo_why_136 : decode prog_10_method_66_code 136 = .ok (.aload_n 0, 1) := by decide +kernel
theorem kb_Mo_why_137 : decode prog_10_method_66_code 137 = .ok (.invokevirtual 331, 3) := by decide +kernel
theorem kb_Mo_why_140 : decode prog_10_method_66_code 140 = .ok (.ifCond .eq (-28), 3) := by decide +kernel
theorem kb_Mo_why_143 : decode prog_10_method_66_code 143 = .ok (.iconst 1, 1) := by decide +kernel
theorem kb_Mo_why_144 : decode prog_10_method_66_code 144 = .ok (.istore 9, 2) := by decide +kernel
theorem kb_Mo_why_146 : decode prog_10_method_66_code 146 = .ok (.iconst 0, 1) := by decide +kernel
theorem kb_Mo_why_147 : decode prog_10_method_66_code 147 = .ok (.istore 10, 2) := by decide +kernel
theorem kb_Mo_why_149 : decode prog_10_method_66_code 149 = .ok (.iload 10, 2) := by decide +kernel
theorem kb_Mo_why_151 : decode prog_10_method_66_code 151 = .ok (.bipush 26, 2) := by decide +kernel
theorem kb_Mo_why_153 : decode prog_10_method_66_code 153 = .ok (.if_icmp .ge 31, 3) := by decide +kernel
theorem kb_Mo_why_156 : decode prog_10_method_66_code 156 = .ok (.aload_n 0, 1) := by decide +kernel
theorem kb_Mo_why_157 : decode prog_10_method_66_code 157 = .ok (.getfield 118, 3) := by decide +kernel
theorem kb_Mo_why_160 : decode prog_10_method_66_code 160 = .ok (.iload 10, 2) := by decide +kernel
theorem kb_Mo_why_162 : decode prog_10_method_66_code 162 = .ok (.aload_n 0, 1) := by decide +kernel
theorem kb_Mo_why_163 : decode prog_10_method_66_code 163 = .ok (.getfield 97, 3) := by decide +kernel
theorem kb_Mo_why_166 : decode prog_10_method_66_code 166 = .ok (.bipush 26, 2) := by decide +kernel
theorem kb_Mo_why_168 : decode prog_10_method_66_code 168 = .ok (.aload_n 0, 1) := by decide +kernel
theorem kb_Mo_why_169 : decode prog_10_method_66_code 169 = .ok (.getfield 199, 3) := by decide +kernel
theorem kb_Mo_why_172 : decode prog_10_method_66_code 172 = .ok (.imul, 1) := by decide +kernel
theorem kb_Mo_why_173 : decode prog_10_method_66_code 173 = .ok (.iload 10, 2) := by decide +kernel
theorem kb_Mo_why_175 : decode prog_10_method_66_code 175 = .ok (.iadd, 1) := by decide +kernel
theorem kb_Mo_why_176 : decode prog_10_method_66_code 176 = .ok (.iaload, 1) := by decide +kernel
theorem kb_Mo_why_177 : decode prog_10_method_66_code 177 = .ok (.iastore, 1) := by decide +kernel
theorem kb_Mo_why_178 : decode prog_10_method_66_code 178 = .ok (.iinc 10 1, 3) := by decide +kernel
theorem kb_Mo_why_181 : decode prog_10_method_66_code 181 = .ok (.goto (-32), 3) := by decide +kernel
theorem kb_Mo_why_184 : decode prog_10_method_66_code 184 = .ok (.goto (-72), 3) := by decide +kernel
theorem kb_Mo_why_187 : decode prog_10_method_66_code 187 = .ok (.iload 9, 2) := by decide +kernel
theorem kb_Mo_why_189 : decode prog_10_method_66_code 189 = .ok (.ifCond .eq 12, 3) := by decide +kernel
theorem kb_Mo_why_192 : decode prog_10_method_66_code 192 = .ok (.aload_n 0, 1) := by decide +kernel
theorem kb_Mo_why_193 : decode prog_10_method_66_code 193 = .ok (.iload 8, 2) := by decide +kernel
theorem kb_Mo_why_195 : decode prog_10_method_66_code 195 = .ok (.iload 5, 2) := by decide +kernel
theorem kb_Mo_why_197 : decode prog_10_method_66_code 197 = .ok (.invokevirtual 334, 3) := by decide +kernel
theorem kb_Mo_why_200 : decode prog_10_method_66_code 200 = .ok (.ireturn, 1) := by decide +kernel
theorem kb_Mo_why_201 : decode prog_10_method_66_code 201 = .ok (.iinc 8 1, 3) := by decide +kernel
theorem kb_Mo_why_204 : decode prog_10_method_66_code 204 = .ok (.goto (-121), 3) := by decide +kernel
theorem kb_Mo_why_207 : decode prog_10_method_66_code 207 = .ok (.iconst (-1), 1) := by decide +kernel
theorem kb_Mo_why_208 : decode prog_10_method_66_code 208 = .ok (.ireturn, 1) := by decide +kernel
theorem kb_Mo_tell_0 : decode prog_10_method_67_code 0 = .ok (.iconst 0, 1) := by decide +kernel
theorem kb_Mo_tell_1 : decode prog_10_method_67_code 1 = .ok (.istore_n 3, 1) := by decide +kernel
theorem kb_Mo_tell_2 : decode prog_10_method_67_code 2 = .ok (.iconst (-1), 1) := by decide +kernel
theorem kb_Mo_tell_3 : decode prog_10_method_67_code 3 = .ok (.istore 4, 2) := by decide +kernel
theorem kb_Mo_tell_5 : decode prog_10_method_67_code 5 = .ok (.iconst 0, 1) := by decide +kernel
theorem kb_Mo_tell_6 : decode prog_10_method_67_code 6 = .ok (.istore 5, 2) := by decide +kernel
theorem kb_Mo_tell_8 : decode prog_10_method_67_code 8 = .ok (.iload 5, 2) := by decide +kernel
theorem kb_Mo_tell_10 : decode prog_10_method_67_code 10 = .ok (.bipush 26, 2) := by decide +kernel
theorem kb_Mo_tell_12 : decode prog_10_method_67_code 12 = .ok (.if_icmp .ge 48, 3) := by decide +kernel
theorem kb_Mo_tell_15 : decode prog_10_method_67_code 15 = .ok (.aload_n 0, 1) := by decide +kernel
theorem kb_Mo_tell_16 : decode prog_10_method_67_code 16 = .ok (.getfield 46, 3) := by decide +kernel
theorem kb_Mo_tell_19 : decode prog_10_method_67_code 19 = .ok (.iload_n 1, 1) := by decide +kernel
theorem kb_Mo_tell_20 : decode prog_10_method_67_code 20 = .ok (.iaload, 1) := by decide +kernel
theorem kb_Mo_tell_21 : decode prog_10_method_67_code 21 = .ok (.iload 5, 2) := by decide +kernel
theorem kb_Mo_tell_23 : decode prog_10_method_67_code 23 = .ok (.ishr, 1) := by decide +kernel
theorem kb_Mo_tell_24 : decode prog_10_method_67_code 24 = .ok (.iconst 1, 1) := by decide +kernel
theorem kb_Mo_tell_25 : decode prog_10_method_67_code 25 = .ok (.iand, 1) := by decide +kernel
theorem kb_Mo_tell_26 : decode prog_10_method_67_code 26 = .ok (.iconst 1, 1) := by decide +kernel
theorem kb_Mo_tell_27 : decode prog_10_method_67_code 27 = .ok (.if_icmp .ne 27, 3) := by decide +kernel
theorem kb_Mo_tell_30 : decode prog_10_method_67_code 30 = .ok (.iload_n 3, 1) := by decide +kernel
theorem kb_Mo_tell_31 : decode prog_10_method_67_code 31 = .ok (.iload_n 2, 1) := by decide +kernel
theorem kb_Mo_tell_32 : decode prog_10_method_67_code 32 = .ok (.iconst 2, 1) := by decide +kernel
theorem kb_Mo_tell_33 : decode prog_10_method_67_code 33 = .ok (.isub, 1) := by decide +kernel
theorem kb_Mo_tell_34 : decode prog_10_method_67_code 34 = .ok (.if_icmp .ne 13, 3) := by decide +kernel
theorem kb_Mo_tell_37 : decode prog_10_method_67_code 37 = .ok (.aload_n 0, 1) := by decide +kernel
theorem kb_Mo_tell_38 : decode prog_10_method_67_code 38 = .ok (.getfield 118, 3) := by decide +kernel
theorem kb_Mo_tell_41 : decode prog_10_method_67_code 41 = .ok (.iload 5, 2) := by decide +kernel
theorem kb_Mo_tell_43 : decode prog_10_method_67_code 43 = .ok (.iaload, 1) := by decide +kernel
theorem kb_Mo_tell_44 : decode prog_10_method_67_code 44 = .ok (.goto 5, 3) := by decide +kernel
theorem kb_Mo_tell_47 : decode prog_10_method_67_code 47 = .ok (.iload 4, 2) := by decide +kernel
theorem kb_Mo_tell_49 : decode prog_10_method_67_code 49 = .ok (.istore 4, 2) := by decide +kernel
theorem kb_Mo_tell_51 : decode prog_10_method_67_code 51 = .ok (.iinc 3 1, 3) := by decide +kernel
theorem kb_Mo_tell_54 : decode prog_10_method_67_code 54 = .ok (.iinc 5 1, 3) := by decide +kernel
theorem kb_Mo_tell_57 : decode prog_10_method_67_code 57 = .ok (.goto (-49), 3) := by decide +kernel
theorem kb_Mo_tell_60 : decode prog_10_method_67_code 60 = .ok (.iload_n 2, 1) := by decide +kernel
theorem kb_Mo_tell_61 : decode prog_10_method_67_code 61 = .ok (.ifCond .ne 7, 3) := by decide +kernel
theorem kb_Mo_tell_64 : decode prog_10_method_67_code 64 = .ok (.iload_n 1, 1) := by decide +kernel
theorem kb_Mo_tell_65 : decode prog_10_method_67_code 65 = .ok (.goto 14, 3) := by decide +kernel
theorem kb_Mo_tell_68 : decode prog_10_method_67_code 68 = .ok (.iload_n 2, 1) := by decide +kernel
theorem kb_Mo_tell_69 : decode prog_10_method_67_code 69 = .ok (.iconst 1, 1) := by decide +kernel
theorem kb_Mo_tell_70 : decode prog_10_method_67_code 70 = .ok (.if_icmp .ne 7, 3) := by decide +kernel
theorem kb_Mo_tell_73 : decode prog_10_method_67_code 73 = .ok (.iload_n 3, 1) := by decide +kernel
theorem kb_Mo_tell_74 : decode prog_10_method_67_code 74 = .ok (.goto 5, 3) := by decide +kernel
theorem kb_Mo_tell_77 : decode prog_10_method_67_code 77 = .ok (.iload 4, 2) := by decide +kernel
theorem kb_Mo_tell_79 : decode prog_10_method_67_code 79 = .ok (.ireturn, 1) := by decide +kernel
theorem kb_Mo_anew_0 : decode prog_10_method_68_code 0 = .ok (.aload_n 0, 1) := by decide +kernel
theorem kb_Mo_anew_1 : decode prog_10_method_68_code 1 = .ok (.getfield 164, 3) := by decide +kernel
theorem kb_Mo_anew_4 : decode prog_10_method_68_code 4 = .ok (.ifCond .le 7, 3) := by decide +kernel
theorem kb_Mo_anew_7 : decode prog_10_method_68_code 7 = .ok (.iconst 1, 1) := by decide +kernel
theorem kb_Mo_anew_8 : decode prog_10_method_68_code 8 = .ok (.goto 4, 3) := by decide +kernel
theorem kb_Mo_anew_11 : decode prog_10_method_68_code 11 = .ok (.iconst 0, 1) := by decide +kernel
theorem kb_Mo_anew_12 : decode prog_10_method_68_code 12 = .ok (.ireturn, 1) := by decide +kernel
theorem kb_Mo_told_0 : decode prog_10_method_69_code 0 = .ok (.iload_n 1, 1) := by decide +kernel
theorem kb_Mo_told_1 : decode prog_10_method_69_code 1 = .ok (.iconst 0, 1) := by decide +kernel
theorem kb_Mo_told_2 : decode prog_10_method_69_code 2 = .ok (.iconst 5, 1) := by decide +kernel
theorem kb_Mo_told_3 : decode prog_10_method_69_code 3 = .ok (.invokestatic 271, 3) := by decide +kernel
theorem kb_Mo_told_6 : decode prog_10_method_69_code 6 = .ok (.ifCond .ne 6, 3) := by decide +kernel
theorem kb_Mo_told_9 : decode prog_10_method_69_code 9 = .ok (.bipush (-2), 2) := by decide +kernel
theorem kb_Mo_told_11 : decode prog_10_method_69_code 11 = .ok (.ireturn, 1) := by decide +kernel
theorem kb_Mo_told_12 : decode prog_10_method_69_code 12 = .ok (.iload_n 1, 1) := by decide +kernel
theorem kb_Mo_told_13 : decode prog_10_method_69_code 13 = .ok (.iconst 2, 1) := by decide +kernel
theorem kb_Mo_told_14 : decode prog_10_method_69_code 14 = .ok (.if_icmp .eq 10, 3) := by decide +kernel
theorem kb_Mo_told_17 : decode prog_10_method_69_code 17 = .ok (.aload_n 0, 1) := by decide +kernel
theorem kb_Mo_told_18 : decode prog_10_method_69_code 18 = .ok (.getfield 164, 3) := by decide +kernel
theorem kb_Mo_told_21 : decode prog_10_method_69_code 21 = .ok (.ifCond .ne 17, 3) := by decide +kernel
theorem kb_Mo_told_24 : decode prog_10_method_69_code 24 = .ok (.iload_n 1, 1) := by decide +kernel
theorem kb_Mo_told_25 : decode prog_10_method_69_code 25 = .ok (.iconst 2, 1) := by decide +kernel
theorem kb_Mo_told_26 : decode prog_10_method_69_code 26 = .ok (.if_icmp .ne 10, 3) := by decide +kernel
theorem kb_Mo_told_29 : decode prog_10_method_69_code 29 = .ok (.aload_n 0, 1) := by decide +kernel
theorem kb_Mo_told_30 : decode prog_10_method_69_code 30 = .ok (.getfield 286, 3) := by decide +kernel
theorem kb_Mo_told_33 : decode prog_10_method_69_code 33 = .ok (.goto 4, 3) := by decide +kernel
theorem kb_Mo_told_36 : decode prog_10_method_69_code 36 = .ok (.iconst 0, 1) := by decide +kernel
theorem kb_Mo_told_37 : decode prog_10_method_69_code 37 = .ok (.ireturn, 1) := by decide +kernel
theorem kb_Mo_told_38 : decode prog_10_method_69_code 38 = .ok (.iconst 0, 1) := by decide +kernel
theorem kb_Mo_told_39 : decode prog_10_method_69_code 39 = .ok (.istore_n 2, 1) := by decide +kernel
theorem kb_Mo_told_40 : decode prog_10_method_69_code 40 = .ok (.iconst 0, 1) := by decide +kernel
theorem kb_Mo_told_41 : decode prog_10_method_69_code 41 = .ok (.istore_n 3, 1) := by decide +kernel
theorem kb_Mo_told_42 : decode prog_10_method_69_code 42 = .ok (.iload_n 3, 1) := by decide +kernel
theorem kb_Mo_told_43 : decode prog_10_method_69_code 43 = .ok (.aload_n 0, 1) := by decide +kernel
theorem kb_Mo_told_44 : decode prog_10_method_69_code 44 = .ok (.getfield 139, 3) := by decide +kernel
theorem kb_Mo_told_47 : decode prog_10_method_69_code 47 = .ok (.if_icmp .ge 30, 3) := by decide +kernel
theorem kb_Mo_told_50 : decode prog_10_method_69_code 50 = .ok (.aload_n 0, 1) := by decide +kernel
theorem kb_Mo_told_51 : decode prog_10_method_69_code 51 = .ok (.getfield 58, 3) := by decide +kernel
theorem kb_Mo_told_54 : decode prog_10_method_69_code 54 = .ok (.iload_n 3, 1) := by decide +kernel
theorem kb_Mo_told_55 : decode prog_10_method_69_code 55 = .ok (.iaload, 1) := by decide +kernel
theorem kb_Mo_told_56 : decode prog_10_method_69_code 56 = .ok (.iload_n 2, 1) := by decide +kernel
theorem kb_Mo_told_57 : decode prog_10_method_69_code 57 = .ok (.if_icmp .le 12, 3) := by decide +kernel
theorem kb_Mo_told_60 : decode prog_10_method_69_code 60 = .ok (.aload_n 0, 1) := by decide +kernel
theorem kb_Mo_told_61 : decode prog_10_method_69_code 61 = .ok (.getfield 58, 3) := by decide +kernel
theorem kb_Mo_told_64 : decode prog_10_method_69_code 64 = .ok (.iload_n 3, 1) := by decide +kernel
theorem kb_Mo_told_65 : decode prog_10_method_69_code 65 = .ok (.iaload, 1) := by decide +kernel
theorem kb_Mo_told_66 : decode prog_10_method_69_code 66 = .ok (.goto 4, 3) := by decide +kernel
theorem kb_Mo_told_69 : decode prog_10_method_69_code 69 = .ok (.iload_n 2, 1) := by decide +kernel
theorem kb_Mo_told_70 : decode prog_10_method_69_code 70 = .ok (.istore_n 2, 1) := by decide +kernel
theorem kb_Mo_told_71 : decode prog_10_method_69_code 71 = .ok (.iinc 3 1, 3) := by decide +kernel
theorem kb_Mo_told_74 : decode prog_10_method_69_code 74 = .ok (.goto (-32), 3) := by decide +kernel
theorem kb_Mo_told_77 : decode prog_10_method_69_code 77 = .ok (.iload_n 1, 1) := by decide +kernel
theorem kb_Mo_told_78 : decode prog_10_method_69_code 78 = .ok (.ifCond .ne 10, 3) := by decide +kernel
theorem kb_Mo_told_81 : decode prog_10_method_69_code 81 = .ok (.aload_n 0, 1) := by decide +kernel
theorem kb_Mo_told_82 : decode prog_10_method_69_code 82 = .ok (.getfield 164, 3) := by decide +kernel
theorem kb_Mo_told_85 : decode prog_10_method_69_code 85 = .ok (.goto 40, 3) := by decide +kernel
theorem kb_Mo_told_88 : decode prog_10_method_69_code 88 = .ok (.iload_n 1, 1) := by decide +kernel
theorem kb_Mo_told_89 : decode prog_10_method_69_code 89 = .ok (.iconst 1, 1) := by decide +kernel
theorem kb_Mo_told_90 : decode prog_10_method_69_code 90 = .ok (.if_icmp .ne 10, 3) := by decide +kernel
theorem kb_Mo_told_93 : decode prog_10_method_69_code 93 = .ok (.aload_n 0, 1) := by decide +kernel
theorem kb_Mo_told_94 : decode prog_10_method_69_code 94 = .ok (.getfield 139, 3) := by decide +kernel
theorem kb_Mo_told_97 : decode prog_10_method_69_code 97 = .ok (.goto 28, 3) := by decide +kernel
theorem kb_Mo_told_100 : decode prog_10_method_69_code 100 = .ok (.iload_n 1, 1) := by decide +kernel
theorem kb_Mo_told_101 : decode prog_10_method_69_code 101 = .ok (.iconst 3, 1) := by decide +kernel
theorem kb_Mo_told_102 : decode prog_10_method_69_code 102 = .ok (.if_icmp .ne 10, 3) := by decide +kernel
theorem kb_Mo_told_105 : decode prog_10_method_69_code 105 = .ok (.aload_n 0, 1) := by decide +kernel
theorem kb_Mo_told_106 : decode prog_10_method_69_code 106 = .ok (.getfield 264, 3) := by decide +kernel
theorem kb_Mo_told_109 : decode prog_10_method_69_code 109 = .ok (.goto 16, 3) := by decide +kernel
theorem kb_Mo_told_112 : decode prog_10_method_69_code 112 = .ok (.iload_n 1, 1) := by decide +kernel
theorem kb_Mo_told_113 : decode prog_10_method_69_code 113 = .ok (.iconst 4, 1) := by decide +kernel
theorem kb_Mo_told_114 : decode prog_10_method_69_code 114 = .ok (.if_icmp .ne 10, 3) := by decide +kernel
theorem kb_Mo_told_117 : decode prog_10_method_69_code 117 = .ok (.aload_n 0, 1) := by decide +kernel
theorem kb_Mo_told_118 : decode prog_10_method_69_code 118 = .ok (.getfield 277, 3) := by decide +kernel
theorem kb_Mo_told_121 : decode prog_10_method_69_code 121 = .ok (.goto 4, 3) := by decide +kernel
theorem kb_Mo_told_124 : decode prog_10_method_69_code 124 = .ok (.iload_n 2, 1) := by decide +kernel
theorem kb_Mo_told_125 : decode prog_10_method_69_code 125 = .ok (.ireturn, 1) := by decide +kernel
