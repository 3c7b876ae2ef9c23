theorem dX7_join_51 : decode cX7_join 51 = .ok (.iload_n 2, 1) := by decide +kernel
theorem dX7_join_52 : decode cX7_join 52 = .ok (.invokevirtual 144, 3) := by decide +kernel
theorem dX7_join_55 : decode cX7_join 55 = .ok (.iconst 0, 1) := by decide +kernel
theorem dX7_join_56 : decode cX7_join 56 = .ok (.istore_n 3, 1) := by decide +kernel
theorem dX7_join_57 : decode cX7_join 57 = .ok (.iconst 0, 1) := by decide +kernel
theorem dX7_join_58 : decode cX7_join 58 = .ok (.istore 4, 2) := by decide +kernel
theorem dX7_join_60 : decode cX7_join 60 = .ok (.iload 4, 2) := by decide +kernel
theorem dX7_join_62 : decode cX7_join 62 = .ok (.sipush 576, 3) := by decide +kernel
theorem dX7_join_65 : decode cX7_join 65 = .ok (.if_icmp .ge 165, 3) := by decide +kernel
theorem dX7_join_68 : decode cX7_join 68 = .ok (.iload 4, 2) := by decide +kernel
theorem dX7_join_70 : decode cX7_join 70 = .ok (.bipush 24, 2) := by decide +kernel
theorem dX7_join_72 : decode cX7_join 72 = .ok (.irem, 1) := by decide +kernel
theorem dX7_join_73 : decode cX7_join 73 = .ok (.istore 5, 2) := by decide +kernel
theorem dX7_join_75 : decode cX7_join 75 = .ok (.iload 4, 2) := by decide +kernel
theorem dX7_join_77 : decode cX7_join 77 = .ok (.bipush 24, 2) := by decide +kernel
theorem dX7_join_79 : decode cX7_join 79 = .ok (.idiv, 1) := by decide +kernel
theorem dX7_join_80 : decode cX7_join 80 = .ok (.istore 6, 2) := by decide +kernel
theorem dX7_join_82 : decode cX7_join 82 = .ok (.aload_n 0, 1) := by decide +kernel
theorem dX7_join_83 : decode cX7_join 83 = .ok (.getfield 7, 3) := by decide +kernel
theorem dX7_join_86 : decode cX7_join 86 = .ok (.bipush 24, 2) := by decide +kernel
theorem dX7_join_88 : decode cX7_join 88 = .ok (.iload_n 1, 1) := by decide +kernel
theorem dX7_join_89 : decode cX7_join 89 = .ok (.imul, 1) := by decide +kernel
theorem dX7_join_90 : decode cX7_join 90 = .ok (.iload 6, 2) := by decide +kernel
theorem dX7_join_92 : decode cX7_join 92 = .ok (.iadd, 1) := by decide +kernel
theorem dX7_join_93 : decode cX7_join 93 = .ok (.iaload, 1) := by decide +kernel
theorem dX7_join_94 : decode cX7_join 94 = .ok (.iload 5, 2) := by decide +kernel
theorem dX7_join_96 : decode cX7_join 96 = .ok (.ishr, 1) := by decide +kernel
theorem dX7_join_97 : decode cX7_join 97 = .ok (.iconst 1, 1) := by decide +kernel
theorem dX7_join_98 : decode cX7_join 98 = .ok (.iand, 1) := by decide +kernel
theorem dX7_join_99 : decode cX7_join 99 = .ok (.iconst 1, 1) := by decide +kernel
theorem dX7_join_100 : decode cX7_join 100 = .ok (.if_icmp .ne 7, 3) := by decide +kernel
theorem dX7_join_103 : decode cX7_join 103 = .ok (.iconst 1, 1) := by decide +kernel
theorem dX7_join_104 : decode cX7_join 104 = .ok (.goto 4, 3) := by decide +kernel
theorem dX7_join_107 : decode cX7_join 107 = .ok (.iconst 0, 1) := by decide +kernel
theorem dX7_join_108 : decode cX7_join 108 = .ok (.istore 7, 2) := by decide +kernel
theorem dX7_join_110 : decode cX7_join 110 = .ok (.iconst 0, 1) := by decide +kernel
theorem dX7_join_111 : decode cX7_join 111 = .ok (.istore 8, 2) := by decide +kernel
theorem dX7_join_113 : decode cX7_join 113 = .ok (.iload 8, 2) := by decide +kernel
theorem dX7_join_115 : decode cX7_join 115 = .ok (.aload_n 0, 1) := by decide +kernel
theorem dX7_join_116 : decode cX7_join 116 = .ok (.getfield 135, 3) := by decide +kernel
theorem dX7_join_119 : decode cX7_join 119 = .ok (.if_icmp .ge 24, 3) := by decide +kernel
theorem dX7_join_122 : decode cX7_join 122 = .ok (.iload 5, 2) := by decide +kernel
theorem dX7_join_124 : decode cX7_join 124 = .ok (.istore 9, 2) := by decide +kernel
theorem dX7_join_126 : decode cX7_join 126 = .ok (.bipush 23, 2) := by decide +kernel
theorem dX7_join_128 : decode cX7_join 128 = .ok (.iload 6, 2) := by decide +kernel
theorem dX7_join_130 : decode cX7_join 130 = .ok (.isub, 1) := by decide +kernel
theorem dX7_join_131 : decode cX7_join 131 = .ok (.istore 5, 2) := by decide +kernel
theorem dX7_join_133 : decode cX7_join 133 = .ok (.iload 9, 2) := by decide +kernel
theorem dX7_join_135 : decode cX7_join 135 = .ok (.istore 6, 2) := by decide +kernel
theorem dX7_join_137 : decode cX7_join 137 = .ok (.iinc 8 1, 3) := by decide +kernel
theorem dX7_join_140 : decode cX7_join 140 = .ok (.goto (-27), 3) := by decide +kernel
theorem dX7_join_143 : decode cX7_join 143 = .ok (.iload 5, 2) := by decide +kernel
theorem dX7_join_145 : decode cX7_join 145 = .ok (.aload_n 0, 1) := by decide +kernel
theorem dX7_join_146 : decode cX7_join 146 = .ok (.getfield 138, 3) := by decide +kernel
theorem dX7_join_149 : decode cX7_join 149 = .ok (.iadd, 1) := by decide +kernel
theorem dX7_join_150 : decode cX7_join 150 = .ok (.istore 5, 2) := by decide +kernel
theorem dX7_join_152 : decode cX7_join 152 = .ok (.iload 6, 2) := by decide +kernel
theorem dX7_join_154 : decode cX7_join 154 = .ok (.aload_n 0, 1) := by decide +kernel
theorem dX7_join_155 : decode cX7_join 155 = .ok (.getfield 141, 3) := by decide +kernel
theorem dX7_join_158 : decode cX7_join 158 = .ok (.iadd, 1) := by decide +kernel
theorem dX7_join_159 : decode cX7_join 159 = .ok (.istore 6, 2) := by decide +kernel
theorem dX7_join_161 : decode cX7_join 161 = .ok (.iload 7, 2) := by decide +kernel
theorem dX7_join_163 : decode cX7_join 163 = .ok (.ifCond .eq 61, 3) := by decide +kernel
theorem dX7_join_166 : decode cX7_join 166 = .ok (.iload 5, 2) := by decide +kernel
theorem dX7_join_168 : decode cX7_join 168 = .ok (.invokestatic 73, 3) := by decide +kernel
theorem dX7_join_171 : decode cX7_join 171 = .ok (.ifCond .eq 53, 3) := by decide +kernel
theorem dX7_join_174 : decode cX7_join 174 = .ok (.iload 6, 2) := by decide +kernel
theorem dX7_join_176 : decode cX7_join 176 = .ok (.invokestatic 73, 3) := by decide +kernel
theorem dX7_join_179 : decode cX7_join 179 = .ok (.ifCond .eq 45, 3) := by decide +kernel
theorem dX7_join_182 : decode cX7_join 182 = .ok (.aload_n 0, 1) := by decide +kernel
theorem dX7_join_183 : decode cX7_join 183 = .ok (.getfield 7, 3) := by decide +kernel
theorem dX7_join_186 : decode cX7_join 186 = .ok (.bipush 24, 2) := by decide +kernel
theorem dX7_join_188 : decode cX7_join 188 = .ok (.iload_n 2, 1) := by decide +kernel
theorem dX7_join_189 : decode cX7_join 189 = .ok (.imul, 1) := by decide +kernel
theorem dX7_join_190 : decode cX7_join 190 = .ok (.iload 6, 2) := by decide +kernel
theorem dX7_join_192 : decode cX7_join 192 = .ok (.iadd, 1) := by decide +kernel
theorem dX7_join_193 : decode cX7_join 193 = .ok (.iaload, 1) := by decide +kernel
theorem dX7_join_194 : decode cX7_join 194 = .ok (.iload 5, 2) := by decide +kernel
theorem dX7_join_196 : decode cX7_join 196 = .ok (.ishr, 1) := by decide +kernel
theorem dX7_join_197 : decode cX7_join 197 = .ok (.iconst 1, 1) := by decide +kernel
theorem dX7_join_198 : decode cX7_join 198 = .ok (.iand, 1) := by decide +kernel
theorem dX7_join_199 : decode cX7_join 199 = .ok (.ifCond .ne 25, 3) := by decide +kernel
theorem dX7_join_202 : decode cX7_join 202 = .ok (.aload_n 0, 1) := by decide +kernel
theorem dX7_join_203 : decode cX7_join 203 = .ok (.getfield 7, 3) := by decide +kernel
theorem dX7_join_206 : decode cX7_join 206 = .ok (.bipush 24, 2) := by decide +kernel
theorem dX7_join_208 : decode cX7_join 208 = .ok (.iload_n 2, 1) := by decide +kernel
theorem dX7_join_209 : decode cX7_join 209 = .ok (.imul, 1) := by decide +kernel
theorem dX7_join_210 : decode cX7_join 210 = .ok (.iload 6, 2) := by decide +kernel
theorem dX7_join_212 : decode cX7_join 212 = .ok (.iadd, 1) := by decide +kernel
theorem dX7_join_213 : decode cX7_join 213 = .ok (.dup2, 1) := by decide +kernel
theorem dX7_join_214 : decode cX7_join 214 = .ok (.iaload, 1) := by decide +kernel
theorem dX7_join_215 : decode cX7_join 215 = .ok (.iconst 1, 1) := by decide +kernel
theorem dX7_join_216 : decode cX7_join 216 = .ok (.iload 5, 2) := by decide +kernel
theorem dX7_join_218 : decode cX7_join 218 = .ok (.ishl, 1) := by decide +kernel
theorem dX7_join_219 : decode cX7_join 219 = .ok (.ior, 1) := by decide +kernel
theorem dX7_join_220 : decode cX7_join 220 = .ok (.iastore, 1) := by decide +kernel
theorem dX7_join_221 : decode cX7_join 221 = .ok (.iinc 3 1, 3) := by decide +kernel
theorem dX7_join_224 : decode cX7_join 224 = .ok (.iinc 4 1, 3) := by decide +kernel
theorem dX7_join_227 : decode cX7_join 227 = .ok (.goto (-167), 3) := by decide +kernel
theorem dX7_join_230 : decode cX7_join 230 = .ok (.aload_n 0, 1) := by decide +kernel
theorem dX7_join_231 : decode cX7_join 231 = .ok (.iload_n 3, 1) := by decide +kernel
theorem dX7_join_232 : decode cX7_join 232 = .ok (.invokevirtual 69, 3) := by decide +kernel
theorem dX7_join_235 : decode cX7_join 235 = .ok (.ireturn, 1) := by decide +kernel
theorem dX7_count_0 : decode cX7_count 0 = .ok (.aload_n 0, 1) := by decide +kernel
theorem dX7_count_1 : decode cX7_count 1 = .ok (.iconst 0, 1) := by decide +kernel
theorem dX7_count_2 : decode cX7_count 2 = .ok (.putfield 54, 3) := by decide +kernel
theorem dX7_count_5 : decode cX7_count 5 = .ok (.iload_n 1, 1) := by decide +kernel
theorem dX7_count_6 : decode cX7_count 6 = .ok (.iconst 1, 1) := by decide +kernel
theorem dX7_count_7 : decode cX7_count 7 = .ok (.if_icmp .ne 52, 3) := by decide +kernel
theorem dX7_count_10 : decode cX7_count 10 = .ok (.iconst 0, 1) := by decide +kernel
theorem dX7_count_11 : decode cX7_count 11 = .ok (.istore_n 2, 1) := by decide +kernel
theorem dX7_count_12 : decode cX7_count 12 = .ok (.iconst 0, 1) := by decide +kernel
theorem dX7_count_13 : decode cX7_count 13 = .ok (.istore_n 3, 1) := by decide +kernel
theorem dX7_count_14 : decode cX7_count 14 = .ok (.iload_n 3, 1) := by decide +kernel
theorem dX7_count_15 : decode cX7_count 15 = .ok (.sipush 384, 3) := by decide +kernel
theorem dX7_count_18 : decode cX7_count 18 = .ok (.if_icmp .ge 39, 3) := by decide +kernel
theorem dX7_count_21 : decode cX7_count 21 = .ok (.iconst 0, 1) := by decide +kernel
theorem dX7_count_22 : decode cX7_count 22 = .ok (.istore 4, 2) := by decide +kernel
theorem dX7_count_24 : decode cX7_count 24 = .ok (.iload 4, 2) := by decide +kernel
theorem dX7_count_26 : decode cX7_count 26 = .ok (.bipush 24, 2) := by decide +kernel
theorem dX7_count_28 : decode cX7_count 28 = .ok (.if_icmp .ge 23, 3) := by decide +kernel
theorem dX7_count_31 : decode cX7_count 31 = .ok (.iload_n 2, 1) := by decide +kernel
theorem dX7_count_32 : decode cX7_count 32 = .ok (.aload_n 0, 1) := by decide +kernel
theorem dX7_count_33 : decode cX7_count 33 = .ok (.getfield 7, 3) := by decide +kernel
theorem dX7_count_36 : decode cX7_count 36 = .ok (.iload_n 3, 1) := by decide +kernel
theorem dX7_count_37 : decode cX7_count 37 = .ok (.iaload, 1) := by decide +kernel
theorem dX7_count_38 : decode cX7_count 38 = .ok (.iload 4, 2) := by decide +kernel
theorem dX7_count_40 : decode cX7_count 40 = .ok (.ishr, 1) := by decide +kernel
theorem dX7_count_41 : decode cX7_count 41 = .ok (.iconst 1, 1) := by decide +kernel
theorem dX7_count_42 : decode cX7_count 42 = .ok (.iand, 1) := by decide +kernel
theorem dX7_count_43 : decode cX7_count 43 = .ok (.iadd, 1) := by decide +kernel
theorem dX7_count_44 : decode cX7_count 44 = .ok (.istore_n 2, 1) := by decide +kernel
theorem dX7_count_45 : decode cX7_count 45 = .ok (.iinc 4 1, 3) := by decide +kernel
theorem dX7_count_48 : decode cX7_count 48 = .ok (.goto (-24), 3) := by decide +kernel
theorem dX7_count_51 : decode cX7_count 51 = .ok (.iinc 3 1, 3) := by decide +kernel
theorem dX7_count_54 : decode cX7_count 54 = .ok (.goto (-40), 3) := by decide +kernel
theorem dX7_count_57 : decode cX7_count 57 = .ok (.iload_n 2, 1) := by decide +kernel
theorem dX7_count_58 : decode cX7_count 58 = .ok (.ireturn, 1) := by decide +kernel
theorem dX7_count_59 : decode cX7_count 59 = .ok (.iload_n 1, 1) := by decide +kernel
theorem dX7_count_60 : decode cX7_count 60 = .ok (.ifCond .ne 10, 3) := by decide +kernel
theorem dX7_count_63 : decode cX7_count 63 = .ok (.aload_n 0, 1) := by decide +kernel
theorem dX7_count_64 : decode cX7_count 64 = .ok (.getfield 60, 3) := by decide +kernel
theorem dX7_count_67 : decode cX7_count 67 = .ok (.goto 16, 3) := by decide +kernel
theorem dX7_count_70 : decode cX7_count 70 = .ok (.iload_n 1, 1) := by decide +kernel
theorem dX7_count_71 : decode cX7_count 71 = .ok (.iconst 2, 1) := by decide +kernel
theorem dX7_count_72 : decode cX7_count 72 = .ok (.if_icmp .ne 10, 3) := by decide +kernel
theorem dX7_count_75 : decode cX7_count 75 = .ok (.aload_n 0, 1) := by decide +kernel
theorem dX7_count_76 : decode cX7_count 76 = .ok (.getfield 13, 3) := by decide +kernel
theorem dX7_count_79 : decode cX7_count 79 = .ok (.goto 4, 3) := by decide +kernel
theorem dX7_count_82 : decode cX7_count 82 = .ok (.iconst (-1), 1) := by decide +kernel
theorem dX7_count_83 : decode cX7_count 83 = .ok (.ireturn, 1) := by decide +kernel
theorem dX7_status_0 : decode cX7_status 0 = .ok (.aload_n 0, 1) := by decide +kernel
theorem dX7_status_1 : decode cX7_status 1 = .ok (.iconst 0, 1) := by decide +kernel
theorem dX7_status_2 : decode cX7_status 2 = .ok (.putfield 54, 3) := by decide +kernel
theorem dX7_status_5 : decode cX7_status 5 = .ok (.aload_n 0, 1) := by decide +kernel
theorem dX7_status_6 : decode cX7_status 6 = .ok (.getfield 57, 3) := by decide +kernel
theorem dX7_status_9 : decode cX7_status 9 = .ok (.ireturn, 1) := by decide +kernel
theorem dJ6_bitCount_0f7a4_0 : decode cJ6_bitCount_0f7a4 0 = .ok (.iload_n 0, 1) := by decide +kernel
theorem dJ6_bitCount_0f7a4_1 : decode cJ6_bitCount_0f7a4 1 = .ok (.iload_n 0, 1) := by decide +kernel
theorem dJ6_bitCount_0f7a4_2 : decode cJ6_bitCount_0f7a4 2 = .ok (.iconst 1, 1) := by decide +kernel
theorem dJ6_bitCount_0f7a4_3 : decode cJ6_bitCount_0f7a4 3 = .ok (.iushr, 1) := by decide +kernel
theorem dJ6_bitCount_0f7a4_4 : decode cJ6_bitCount_0f7a4 4 = .ok (.ldc_w 265, 3) := by decide +kernel
theorem dJ6_bitCount_0f7a4_7 : decode cJ6_bitCount_0f7a4 7 = .ok (.iand, 1) := by decide +kernel
theorem dJ6_bitCount_0f7a4_8 : decode cJ6_bitCount_0f7a4 8 = .ok (.isub, 1) := by decide +kernel
theorem dJ6_bitCount_0f7a4_9 : decode cJ6_bitCount_0f7a4 9 = .ok (.istore_n 0, 1) := by decide +kernel
theorem dJ6_bitCount_0f7a4_10 : decode cJ6_bitCount_0f7a4 10 = .ok (.iload_n 0, 1) := by decide +kernel
theorem dJ6_bitCount_0f7a4_11 : decode cJ6_bitCount_0f7a4 11 = .ok (.ldc_w 266, 3) := by decide +kernel
theorem dJ6_bitCount_0f7a4_14 : decode cJ6_bitCount_0f7a4 14 = .ok (.iand, 1) := by decide +kernel
theorem dJ6_bitCount_0f7a4_15 : decode cJ6_bitCount_0f7a4 15 = .ok (.iload_n 0, 1) := by decide +kernel
theorem dJ6_bitCount_0f7a4_16 : decode cJ6_bitCount_0f7a4 16 = .ok (.iconst 2, 1) := by decide +kernel
theorem dJ6_bitCount_0f7a4_17 : decode cJ6_bitCount_0f7a4 17 = .ok (.iushr, 1) := by decide +kernel
theorem dJ6_bitCount_0f7a4_18 : decode cJ6_bitCount_0f7a4 18 = .ok (.ldc_w 266, 3) := by decide +kernel
theorem dJ6_bitCount_0f7a4_21 : decode cJ6_bitCount_0f7a4 21 = .ok (.iand, 1) := by decide +kernel
theorem dJ6_bitCount_0f7a4_22 : decode cJ6_bitCount_0f7a4 22 = .ok (.iadd, 1) := by decide +kernel
theorem dJ6_bitCount_0f7a4_23 : decode cJ6_bitCount_0f7a4 23 = .ok (.istore_n 0, 1) := by decide +kernel
theorem dJ6_bitCount_0f7a4_24 : decode cJ6_bitCount_0f7a4 24 = .ok (.iload_n 0, 1) := by decide +kernel
theorem dJ6_bitCount_0f7a4_25 : decode cJ6_bitCount_0f7a4 25 = .ok (.iload_n 0, 1) := by decide +kernel
theorem dJ6_bitCount_0f7a4_26 : decode cJ6_bitCount_0f7a4 26 = .ok (.iconst 4, 1) := by decide +kernel
theorem dJ6_bitCount_0f7a4_27 : decode cJ6_bitCount_0f7a4 27 = .ok (.iushr, 1) := by decide +kernel
theorem dJ6_bitCount_0f7a4_28 : decode cJ6_bitCount_0f7a4 28 = .ok (.iadd, 1) := by decide +kernel
theorem dJ6_bitCount_0f7a4_29 : decode cJ6_bitCount_0f7a4 29 = .ok (.ldc_w 267, 3) := by decide +kernel
theorem dJ6_bitCount_0f7a4_32 : decode cJ6_bitCount_0f7a4 32 = .ok (.iand, 1) := by decide +kernel
theorem dJ6_bitCount_0f7a4_33 : decode cJ6_bitCount_0f7a4 33 = .ok (.istore_n 0, 1) := by decide +kernel
theorem dJ6_bitCount_0f7a4_34 : decode cJ6_bitCount_0f7a4 34 = .ok (.iload_n 0, 1) := by decide +kernel
theorem dJ6_bitCount_0f7a4_35 : decode cJ6_bitCount_0f7a4 35 = .ok (.iload_n 0, 1) := by decide +kernel
theorem dJ6_bitCount_0f7a4_36 : decode cJ6_bitCount_0f7a4 36 = .ok (.bipush 8, 2) := by decide +kernel
theorem dJ6_bitCount_0f7a4_38 : decode cJ6_bitCount_0f7a4 38 = .ok (.iushr, 1) := by decide +kernel
theorem dJ6_bitCount_0f7a4_39 : decode cJ6_bitCount_0f7a4 39 = .ok (.iadd, 1) := by decide +kernel
theorem dJ6_bitCount_0f7a4_40 : decode cJ6_bitCount_0f7a4 40 = .ok (.istore_n 0, 1) := by decide +kernel
theorem dJ6_bitCount_0f7a4_41 : decode cJ6_bitCount_0f7a4 41 = .ok (.iload_n 0, 1) := by decide +kernel
theorem dJ6_bitCount_0f7a4_42 : decode cJ6_bitCount_0f7a4 42 = .ok (.iload_n 0, 1) := by decide +kernel
theorem dJ6_bitCount_0f7a4_43 : decode cJ6_bitCount_0f7a4 43 = .ok (.bipush 16, 2) := by decide +kernel
theorem dJ6_bitCount_0f7a4_45 : decode cJ6_bitCount_0f7a4 45 = .ok (.iushr, 1) := by decide +kernel
theorem dJ6_bitCount_0f7a4_46 : decode cJ6_bitCount_0f7a4 46 = .ok (.iadd, 1) := by decide +kernel
theorem dJ6_bitCount_0f7a4_47 : decode cJ6_bitCount_0f7a4 47 = .ok (.istore_n 0, 1) := by decide +kernel
theorem dJ6_bitCount_0f7a4_48 : decode cJ6_bitCount_0f7a4 48 = .ok (.iload_n 0, 1) := by decide +kernel
theorem dJ6_bitCount_0f7a4_49 : decode cJ6_bitCount_0f7a4 49 = .ok (.bipush 63, 2) := by decide +kernel
theorem dJ6_bitCount_0f7a4_51 : decode cJ6_bitCount_0f7a4 51 = .ok (.iand, 1) := by decide +kernel
theorem dJ6_bitCount_0f7a4_52 : decode cJ6_bitCount_0f7a4 52 = .ok (.ireturn, 1) := by decide +kernel
theorem dJ13_bitCount_95d88_0 : decode cJ13_bitCount_95d88 0 = .ok (.lload_n 0, 1) := by decide +kernel
theorem dJ13_bitCount_95d88_1 : decode cJ13_bitCount_95d88 1 = .ok (.lload_n 0, 1) := by decide +kernel
theorem dJ13_bitCount_95d88_2 : decode cJ13_bitCount_95d88 2 = .ok (.iconst 1, 1) := by decide +kernel
theorem dJ13_bitCount_95d88_3 : decode cJ13_bitCount_95d88 3 = .ok (.lushr, 1) := by decide +kernel
theorem dJ13_bitCount_95d88_4 : decode cJ13_bitCount_95d88 4 = .ok (.ldc2_w 314, 3) := by decide +kernel
theorem dJ13_bitCount_95d88_7 : decode cJ13_bitCount_95d88 7 = .ok (.land, 1) := by decide +kernel
theorem dJ13_bitCount_95d88_8 : decode cJ13_bitCount_95d88 8 = .ok (.lsub, 1) := by decide +kernel
theorem dJ13_bitCount_95d88_9 : decode cJ13_bitCount_95d88 9 = .ok (.lstore_n 0, 1) := by decide +kernel
theorem dJ13_bitCount_95d88_10 : decode cJ13_bitCount_95d88 10 = .ok (.lload_n 0, 1) := by decide +kernel
theorem dJ13_bitCount_95d88_11 : decode cJ13_bitCount_95d88 11 = .ok (.ldc2_w 316, 3) := by decide +kernel
theorem dJ13_bitCount_95d88_14 : decode cJ13_bitCount_95d88 14 = .ok (.land, 1) := by decide +kernel
theorem dJ13_bitCount_95d88_15 : decode cJ13_bitCount_95d88 15 = .ok (.lload_n 0, 1) := by decide +kernel
theorem dJ13_bitCount_95d88_16 : decode cJ13_bitCount_95d88 16 = .ok (.iconst 2, 1) := by decide +kernel
theorem dJ13_bitCount_95d88_17 : decode cJ13_bitCount_95d88 17 = .ok (.lushr, 1) := by decide +kernel
theorem dJ13_bitCount_95d88_18 : decode cJ13_bitCount_95d88 18 = .ok (.ldc2_w 316, 3) := by decide +kernel
theorem dJ13_bitCount_95d88_21 : decode cJ13_bitCount_95d88 21 = .ok (.land, 1) := by decide +kernel
theorem dJ13_bitCount_95d88_22 : decode cJ13_bitCount_95d88 22 = .ok (.ladd, 1) := by decide +kernel
theorem dJ13_bitCount_95d88_23 : decode cJ13_bitCount_95d88 23 = .ok (.lstore_n 0, 1) := by decide +kernel
theorem dJ13_bitCount_95d88_24 : decode cJ13_bitCount_95d88 24 = .ok (.lload_n 0, 1) := by decide +kernel
theorem dJ13_bitCount_95d88_25 : decode cJ13_bitCount_95d88 25 = .ok (.lload_n 0, 1) := by decide +kernel
theorem dJ13_bitCount_95d88_26 : decode cJ13_bitCount_95d88 26 = .ok (.iconst 4, 1) := by decide +kernel
theorem dJ13_bitCount_95d88_27 : decode cJ13_bitCount_95d88 27 = .ok (.lushr, 1) := by decide +kernel
theorem dJ13_bitCount_95d88_28 : decode cJ13_bitCount_95d88 28 = .ok (.ladd, 1) := by decide +kernel
theorem dJ13_bitCount_95d88_29 : decode cJ13_bitCount_95d88 29 = .ok (.ldc2_w 318, 3) := by decide +kernel
theorem dJ13_bitCount_95d88_32 : decode cJ13_bitCount_95d88 32 = .ok (.land, 1) := by decide +kernel
theorem dJ13_bitCount_95d88_33 : decode cJ13_bitCount_95d88 33 = .ok (.lstore_n 0, 1) := by decide +kernel
theorem dJ13_bitCount_95d88_34 : decode cJ13_bitCount_95d88 34 = .ok (.lload_n 0, 1) := by decide +kernel
theorem dJ13_bitCount_95d88_35 : decode cJ13_bitCount_95d88 35 = .ok (.lload_n 0, 1) := by decide +kernel
theorem dJ13_bitCount_95d88_36 : decode cJ13_bitCount_95d88 36 = .ok (.bipush 8, 2) := by decide +kernel
theorem dJ13_bitCount_95d88_38 : decode cJ13_bitCount_95d88 38 = .ok (.lushr, 1) := by decide +kernel
theorem dJ13_bitCount_95d88_39 : decode cJ13_bitCount_95d88 39 = .ok (.ladd, 1) := by decide +kernel
theorem dJ13_bitCount_95d88_40 : decode cJ13_bitCount_95d88 40 = .ok (.lstore_n 0, 1) := by decide +kernel
theorem dJ13_bitCount_95d88_41 : decode cJ13_bitCount_95d88 41 = .ok (.lload_n 0, 1) := by decide +kernel
theorem dJ13_bitCount_95d88_42 : decode cJ13_bitCount_95d88 42 = .ok (.lload_n 0, 1) := by decide +kernel
theorem dJ13_bitCount_95d88_43 : decode cJ13_bitCount_95d88 43 = .ok (.bipush 16, 2) := by decide +kernel
theorem dJ13_bitCount_95d88_45 : decode cJ13_bitCount_95d88 45 = .ok (.lushr, 1) := by decide +kernel
theorem dJ13_bitCount_95d88_46 : decode cJ13_bitCount_95d88 46 = .ok (.ladd, 1) := by decide +kernel
theorem dJ13_bitCount_95d88_47 : decode cJ13_bitCount_95d88 47 = .ok (.lstore_n 0, 1) := by decide +kernel
theorem dJ13_bitCount_95d88_48 : decode cJ13_bitCount_95d88 48 = .ok (.lload_n 0, 1) := by decide +kernel
theorem dJ13_bitCount_95d88_49 : decode cJ13_bitCount_95d88 49 = .ok (.lload_n 0, 1) := by decide +kernel
theorem dJ13_bitCount_95d88_50 : decode cJ13_bitCount_95d88 50 = .ok (.bipush 32, 2) := by decide +kernel
theorem dJ13_bitCount_95d88_52 : decode cJ13_bitCount_95d88 52 = .ok (.lushr, 1) := by decide +kernel
theorem dJ13_bitCount_95d88_53 : decode cJ13_bitCount_95d88 53 = .ok (.ladd, 1) := by decide +kernel
theorem dJ13_bitCount_95d88_54 : decode cJ13_bitCount_95d88 54 = .ok (.lstore_n 0, 1) := by decide +kernel
theorem dJ13_bitCount_95d88_55 : decode cJ13_bitCount_95d88 55 = .ok (.lload_n 0, 1) := by decide +kernel
theorem dJ13_bitCount_95d88_56 : decode cJ13_bitCount_95d88 56 = .ok (.l2i, 1) := by decide +kernel
theorem dJ13_bitCount_95d88_57 : decode cJ13_bitCount_95d88 57 = .ok (.bipush 127, 2) := by decide +kernel
theorem dJ13_bitCount_95d88_59 : decode cJ13_bitCount_95d88 59 = .ok (.iand, 1) := by decide +kernel
theorem dJ13_bitCount_95d88_60 : decode cJ13_bitCount_95d88 60 = .ok (.ireturn, 1) := by decide +kernel
theorem dJ9_abs_0f7a4_0 : decode cJ9_abs_0f7a4 0 = .ok (.iload_n 0, 1) := by decide +kernel
theorem dJ9_abs_0f7a4_1 : decode cJ9_abs_0f7a4 1 = .ok (.ifCond .ge 8, 3) := by decide +kernel
theorem dJ9_abs_0f7a4_4 : decode cJ9_abs_0f7a4 4 = .ok (.iload_n 0, 1) := by decide +kernel
theorem dJ9_abs_0f7a4_5 : decode cJ9_abs_0f7a4 5 = .ok (.ineg, 1) := by decide +kernel
theorem dJ9_abs_0f7a4_6 : decode cJ9_abs_0f7a4 6 = .ok (.goto 4, 3) := by decide +kernel
theorem dJ9_abs_0f7a4_9 : decode cJ9_abs_0f7a4 9 = .ok (.iload_n 0, 1) := by decide +kernel
theorem dJ9_abs_0f7a4_10 : decode cJ9_abs_0f7a4 10 = .ok (.ireturn, 1) := by decide +kernel
theorem dJ9_min_7cf53_0 : decode cJ9_min_7cf53 0 = .ok (.iload_n 0, 1) := by decide +kernel
theorem dJ9_min_7cf53_1 : decode cJ9_min_7cf53 1 = .ok (.iload_n 1, 1) := by decide +kernel
theorem dJ9_min_7cf53_2 : decode cJ9_min_7cf53 2 = .ok (.if_icmp .gt 7, 3) := by decide +kernel
theorem dJ9_min_7cf53_5 : decode cJ9_min_7cf53 5 = .ok (.iload_n 0, 1) := by decide +kernel
theorem dJ9_min_7cf53_6 : decode cJ9_min_7cf53 6 = .ok (.goto 4, 3) := by decide +kernel
theorem dJ9_min_7cf53_9 : decode cJ9_min_7cf53 9 = .ok (.iload_n 1, 1) := by decide +kernel
theorem dJ9_min_7cf53_10 : decode cJ9_min_7cf53 10 = .ok (.ireturn, 1) := by decide +kernel
abbrev vwCl : List vw_C := [(RX0, TX0, 9), (RX1, TX1, 9), (RX2, TX2, 13), (RX3, TX3, 5), (RX4, TX4, 3), (RX5, TX5, 2), (RX6, TX6, 8), (RX7, TX7, 21)]
