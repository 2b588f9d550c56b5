theorem dX10_findMade_206 : decode cX10_findMade 206 = .ok (.idiv, 1) := by decide +kernel
theorem dX10_findMade_207 : decode cX10_findMade 207 = .ok (.bipush 8, 2) := by decide +kernel
theorem dX10_findMade_209 : decode cX10_findMade 209 = .ok (.imul, 1) := by decide +kernel
theorem dX10_findMade_210 : decode cX10_findMade 210 = .ok (.iload_n 1, 1) := by decide +kernel
theorem dX10_findMade_211 : decode cX10_findMade 211 = .ok (.iadd, 1) := by decide +kernel
theorem dX10_findMade_212 : decode cX10_findMade 212 = .ok (.baload, 1) := by decide +kernel
theorem dX10_findMade_213 : decode cX10_findMade 213 = .ok (.ifCond .eq 24, 3) := by decide +kernel
theorem dX10_findMade_216 : decode cX10_findMade 216 = .ok (.aload_n 0, 1) := by decide +kernel
theorem dX10_findMade_217 : decode cX10_findMade 217 = .ok (.getfield 115, 3) := by decide +kernel
theorem dX10_findMade_220 : decode cX10_findMade 220 = .ok (.bipush 8, 2) := by decide +kernel
theorem dX10_findMade_222 : decode cX10_findMade 222 = .ok (.iload_n 1, 1) := by decide +kernel
theorem dX10_findMade_223 : decode cX10_findMade 223 = .ok (.imul, 1) := by decide +kernel
theorem dX10_findMade_224 : decode cX10_findMade 224 = .ok (.iload_n 2, 1) := by decide +kernel
theorem dX10_findMade_225 : decode cX10_findMade 225 = .ok (.bipush 8, 2) := by decide +kernel
theorem dX10_findMade_227 : decode cX10_findMade 227 = .ok (.irem, 1) := by decide +kernel
theorem dX10_findMade_228 : decode cX10_findMade 228 = .ok (.iadd, 1) := by decide +kernel
theorem dX10_findMade_229 : decode cX10_findMade 229 = .ok (.baload, 1) := by decide +kernel
theorem dX10_findMade_230 : decode cX10_findMade 230 = .ok (.ifCond .eq 7, 3) := by decide +kernel
theorem dX10_findMade_233 : decode cX10_findMade 233 = .ok (.iconst 1, 1) := by decide +kernel
theorem dX10_findMade_234 : decode cX10_findMade 234 = .ok (.goto 4, 3) := by decide +kernel
theorem dX10_findMade_237 : decode cX10_findMade 237 = .ok (.iconst 0, 1) := by decide +kernel
theorem dX10_findMade_238 : decode cX10_findMade 238 = .ok (.bastore, 1) := by decide +kernel
theorem dX10_findMade_239 : decode cX10_findMade 239 = .ok (.iinc 2 1, 3) := by decide +kernel
theorem dX10_findMade_242 : decode cX10_findMade 242 = .ok (.goto (-63), 3) := by decide +kernel
theorem dX10_findMade_245 : decode cX10_findMade 245 = .ok (.iinc 1 1, 3) := by decide +kernel
theorem dX10_findMade_248 : decode cX10_findMade 248 = .ok (.goto (-77), 3) := by decide +kernel
theorem dX10_findMade_251 : decode cX10_findMade 251 = .ok (.return_, 1) := by decide +kernel
theorem dX10_isEndless_0 : decode cX10_isEndless 0 = .ok (.aload_n 0, 1) := by decide +kernel
theorem dX10_isEndless_1 : decode cX10_isEndless 1 = .ok (.getfield 106, 3) := by decide +kernel
theorem dX10_isEndless_4 : decode cX10_isEndless 4 = .ok (.iload_n 1, 1) := by decide +kernel
theorem dX10_isEndless_5 : decode cX10_isEndless 5 = .ok (.laload, 1) := by decide +kernel
theorem dX10_isEndless_6 : decode cX10_isEndless 6 = .ok (.lconst 0, 1) := by decide +kernel
theorem dX10_isEndless_7 : decode cX10_isEndless 7 = .ok (.lcmp, 1) := by decide +kernel
theorem dX10_isEndless_8 : decode cX10_isEndless 8 = .ok (.ifCond .lt 15, 3) := by decide +kernel
theorem dX10_isEndless_11 : decode cX10_isEndless 11 = .ok (.aload_n 0, 1) := by decide +kernel
theorem dX10_isEndless_12 : decode cX10_isEndless 12 = .ok (.getfield 115, 3) := by decide +kernel
theorem dX10_isEndless_15 : decode cX10_isEndless 15 = .ok (.bipush 9, 2) := by decide +kernel
theorem dX10_isEndless_17 : decode cX10_isEndless 17 = .ok (.iload_n 1, 1) := by decide +kernel
theorem dX10_isEndless_18 : decode cX10_isEndless 18 = .ok (.imul, 1) := by decide +kernel
theorem dX10_isEndless_19 : decode cX10_isEndless 19 = .ok (.baload, 1) := by decide +kernel
theorem dX10_isEndless_20 : decode cX10_isEndless 20 = .ok (.ifCond .eq 7, 3) := by decide +kernel
theorem dX10_isEndless_23 : decode cX10_isEndless 23 = .ok (.iconst 1, 1) := by decide +kernel
theorem dX10_isEndless_24 : decode cX10_isEndless 24 = .ok (.goto 4, 3) := by decide +kernel
theorem dX10_isEndless_27 : decode cX10_isEndless 27 = .ok (.iconst 0, 1) := by decide +kernel
theorem dX10_isEndless_28 : decode cX10_isEndless 28 = .ok (.istore_n 2, 1) := by decide +kernel
theorem dX10_isEndless_29 : decode cX10_isEndless 29 = .ok (.iconst 0, 1) := by decide +kernel
theorem dX10_isEndless_30 : decode cX10_isEndless 30 = .ok (.istore_n 3, 1) := by decide +kernel
theorem dX10_isEndless_31 : decode cX10_isEndless 31 = .ok (.iload_n 3, 1) := by decide +kernel
theorem dX10_isEndless_32 : decode cX10_isEndless 32 = .ok (.bipush 8, 2) := by decide +kernel
theorem dX10_isEndless_34 : decode cX10_isEndless 34 = .ok (.if_icmp .ge 56, 3) := by decide +kernel
theorem dX10_isEndless_37 : decode cX10_isEndless 37 = .ok (.iload_n 2, 1) := by decide +kernel
theorem dX10_isEndless_38 : decode cX10_isEndless 38 = .ok (.ifCond .ne 40, 3) := by decide +kernel
theorem dX10_isEndless_41 : decode cX10_isEndless 41 = .ok (.aload_n 0, 1) := by decide +kernel
theorem dX10_isEndless_42 : decode cX10_isEndless 42 = .ok (.getfield 115, 3) := by decide +kernel
theorem dX10_isEndless_45 : decode cX10_isEndless 45 = .ok (.bipush 8, 2) := by decide +kernel
theorem dX10_isEndless_47 : decode cX10_isEndless 47 = .ok (.iload_n 1, 1) := by decide +kernel
theorem dX10_isEndless_48 : decode cX10_isEndless 48 = .ok (.imul, 1) := by decide +kernel
theorem dX10_isEndless_49 : decode cX10_isEndless 49 = .ok (.iload_n 3, 1) := by decide +kernel
theorem dX10_isEndless_50 : decode cX10_isEndless 50 = .ok (.iadd, 1) := by decide +kernel
theorem dX10_isEndless_51 : decode cX10_isEndless 51 = .ok (.baload, 1) := by decide +kernel
theorem dX10_isEndless_52 : decode cX10_isEndless 52 = .ok (.ifCond .eq 30, 3) := by decide +kernel
theorem dX10_isEndless_55 : decode cX10_isEndless 55 = .ok (.aload_n 0, 1) := by decide +kernel
theorem dX10_isEndless_56 : decode cX10_isEndless 56 = .ok (.getfield 106, 3) := by decide +kernel
theorem dX10_isEndless_59 : decode cX10_isEndless 59 = .ok (.iload_n 3, 1) := by decide +kernel
theorem dX10_isEndless_60 : decode cX10_isEndless 60 = .ok (.laload, 1) := by decide +kernel
theorem dX10_isEndless_61 : decode cX10_isEndless 61 = .ok (.lconst 0, 1) := by decide +kernel
theorem dX10_isEndless_62 : decode cX10_isEndless 62 = .ok (.lcmp, 1) := by decide +kernel
theorem dX10_isEndless_63 : decode cX10_isEndless 63 = .ok (.ifCond .lt 15, 3) := by decide +kernel
theorem dX10_isEndless_66 : decode cX10_isEndless 66 = .ok (.aload_n 0, 1) := by decide +kernel
theorem dX10_isEndless_67 : decode cX10_isEndless 67 = .ok (.getfield 115, 3) := by decide +kernel
theorem dX10_isEndless_70 : decode cX10_isEndless 70 = .ok (.bipush 9, 2) := by decide +kernel
theorem dX10_isEndless_72 : decode cX10_isEndless 72 = .ok (.iload_n 3, 1) := by decide +kernel
theorem dX10_isEndless_73 : decode cX10_isEndless 73 = .ok (.imul, 1) := by decide +kernel
theorem dX10_isEndless_74 : decode cX10_isEndless 74 = .ok (.baload, 1) := by decide +kernel
theorem dX10_isEndless_75 : decode cX10_isEndless 75 = .ok (.ifCond .eq 7, 3) := by decide +kernel
theorem dX10_isEndless_78 : decode cX10_isEndless 78 = .ok (.iconst 1, 1) := by decide +kernel
theorem dX10_isEndless_79 : decode cX10_isEndless 79 = .ok (.goto 4, 3) := by decide +kernel
theorem dX10_isEndless_82 : decode cX10_isEndless 82 = .ok (.iconst 0, 1) := by decide +kernel
theorem dX10_isEndless_83 : decode cX10_isEndless 83 = .ok (.istore_n 2, 1) := by decide +kernel
theorem dX10_isEndless_84 : decode cX10_isEndless 84 = .ok (.iinc 3 1, 3) := by decide +kernel
theorem dX10_isEndless_87 : decode cX10_isEndless 87 = .ok (.goto (-56), 3) := by decide +kernel
theorem dX10_isEndless_90 : decode cX10_isEndless 90 = .ok (.iload_n 2, 1) := by decide +kernel
theorem dX10_isEndless_91 : decode cX10_isEndless 91 = .ok (.ireturn, 1) := by decide +kernel
theorem dX10_sum_0 : decode cX10_sum 0 = .ok (.aload_n 0, 1) := by decide +kernel
theorem dX10_sum_1 : decode cX10_sum 1 = .ok (.invokevirtual 251, 3) := by decide +kernel
theorem dX10_sum_4 : decode cX10_sum 4 = .ok (.iconst 0, 1) := by decide +kernel
theorem dX10_sum_5 : decode cX10_sum 5 = .ok (.istore_n 2, 1) := by decide +kernel
theorem dX10_sum_6 : decode cX10_sum 6 = .ok (.iload_n 2, 1) := by decide +kernel
theorem dX10_sum_7 : decode cX10_sum 7 = .ok (.bipush 8, 2) := by decide +kernel
theorem dX10_sum_9 : decode cX10_sum 9 = .ok (.if_icmp .ge 41, 3) := by decide +kernel
theorem dX10_sum_12 : decode cX10_sum 12 = .ok (.aload_n 0, 1) := by decide +kernel
theorem dX10_sum_13 : decode cX10_sum 13 = .ok (.getfield 93, 3) := by decide +kernel
theorem dX10_sum_16 : decode cX10_sum 16 = .ok (.iload_n 1, 1) := by decide +kernel
theorem dX10_sum_17 : decode cX10_sum 17 = .ok (.iload_n 2, 1) := by decide +kernel
theorem dX10_sum_18 : decode cX10_sum 18 = .ok (.iadd, 1) := by decide +kernel
theorem dX10_sum_19 : decode cX10_sum 19 = .ok (.aload_n 0, 1) := by decide +kernel
theorem dX10_sum_20 : decode cX10_sum 20 = .ok (.getfield 112, 3) := by decide +kernel
theorem dX10_sum_23 : decode cX10_sum 23 = .ok (.iload_n 2, 1) := by decide +kernel
theorem dX10_sum_24 : decode cX10_sum 24 = .ok (.baload, 1) := by decide +kernel
theorem dX10_sum_25 : decode cX10_sum 25 = .ok (.ifCond .eq 17, 3) := by decide +kernel
theorem dX10_sum_28 : decode cX10_sum 28 = .ok (.aload_n 0, 1) := by decide +kernel
theorem dX10_sum_29 : decode cX10_sum 29 = .ok (.iload_n 2, 1) := by decide +kernel
theorem dX10_sum_30 : decode cX10_sum 30 = .ok (.invokevirtual 254, 3) := by decide +kernel
theorem dX10_sum_33 : decode cX10_sum 33 = .ok (.ifCond .eq 9, 3) := by decide +kernel
theorem dX10_sum_36 : decode cX10_sum 36 = .ok (.ldc2_w 233, 3) := by decide +kernel
theorem dX10_sum_39 : decode cX10_sum 39 = .ok (.goto 4, 3) := by decide +kernel
theorem dX10_sum_42 : decode cX10_sum 42 = .ok (.lconst 0, 1) := by decide +kernel
theorem dX10_sum_43 : decode cX10_sum 43 = .ok (.lastore, 1) := by decide +kernel
theorem dX10_sum_44 : decode cX10_sum 44 = .ok (.iinc 2 1, 3) := by decide +kernel
theorem dX10_sum_47 : decode cX10_sum 47 = .ok (.goto (-41), 3) := by decide +kernel
theorem dX10_sum_50 : decode cX10_sum 50 = .ok (.iconst 0, 1) := by decide +kernel
theorem dX10_sum_51 : decode cX10_sum 51 = .ok (.istore_n 2, 1) := by decide +kernel
theorem dX10_sum_52 : decode cX10_sum 52 = .ok (.iload_n 2, 1) := by decide +kernel
theorem dX10_sum_53 : decode cX10_sum 53 = .ok (.bipush 8, 2) := by decide +kernel
theorem dX10_sum_55 : decode cX10_sum 55 = .ok (.if_icmp .ge 111, 3) := by decide +kernel
theorem dX10_sum_58 : decode cX10_sum 58 = .ok (.iconst 0, 1) := by decide +kernel
theorem dX10_sum_59 : decode cX10_sum 59 = .ok (.istore_n 3, 1) := by decide +kernel
theorem dX10_sum_60 : decode cX10_sum 60 = .ok (.iload_n 3, 1) := by decide +kernel
theorem dX10_sum_61 : decode cX10_sum 61 = .ok (.bipush 8, 2) := by decide +kernel
theorem dX10_sum_63 : decode cX10_sum 63 = .ok (.if_icmp .ge 97, 3) := by decide +kernel
theorem dX10_sum_66 : decode cX10_sum 66 = .ok (.aload_n 0, 1) := by decide +kernel
theorem dX10_sum_67 : decode cX10_sum 67 = .ok (.getfield 93, 3) := by decide +kernel
theorem dX10_sum_70 : decode cX10_sum 70 = .ok (.iload_n 1, 1) := by decide +kernel
theorem dX10_sum_71 : decode cX10_sum 71 = .ok (.iload_n 3, 1) := by decide +kernel
theorem dX10_sum_72 : decode cX10_sum 72 = .ok (.iadd, 1) := by decide +kernel
theorem dX10_sum_73 : decode cX10_sum 73 = .ok (.laload, 1) := by decide +kernel
theorem dX10_sum_74 : decode cX10_sum 74 = .ok (.lconst 0, 1) := by decide +kernel
theorem dX10_sum_75 : decode cX10_sum 75 = .ok (.lcmp, 1) := by decide +kernel
theorem dX10_sum_76 : decode cX10_sum 76 = .ok (.ifCond .lt 78, 3) := by decide +kernel
theorem dX10_sum_79 : decode cX10_sum 79 = .ok (.aload_n 0, 1) := by decide +kernel
theorem dX10_sum_80 : decode cX10_sum 80 = .ok (.getfield 112, 3) := by decide +kernel
theorem dX10_sum_83 : decode cX10_sum 83 = .ok (.iload_n 3, 1) := by decide +kernel
theorem dX10_sum_84 : decode cX10_sum 84 = .ok (.baload, 1) := by decide +kernel
theorem dX10_sum_85 : decode cX10_sum 85 = .ok (.ifCond .eq 69, 3) := by decide +kernel
theorem dX10_sum_88 : decode cX10_sum 88 = .ok (.aload_n 0, 1) := by decide +kernel
theorem dX10_sum_89 : decode cX10_sum 89 = .ok (.getfield 106, 3) := by decide +kernel
theorem dX10_sum_92 : decode cX10_sum 92 = .ok (.iload_n 3, 1) := by decide +kernel
theorem dX10_sum_93 : decode cX10_sum 93 = .ok (.laload, 1) := by decide +kernel
theorem dX10_sum_94 : decode cX10_sum 94 = .ok (.lstore 4, 2) := by decide +kernel
theorem dX10_sum_96 : decode cX10_sum 96 = .ok (.iconst 0, 1) := by decide +kernel
theorem dX10_sum_97 : decode cX10_sum 97 = .ok (.istore 6, 2) := by decide +kernel
theorem dX10_sum_99 : decode cX10_sum 99 = .ok (.iload 6, 2) := by decide +kernel
theorem dX10_sum_101 : decode cX10_sum 101 = .ok (.bipush 8, 2) := by decide +kernel
theorem dX10_sum_103 : decode cX10_sum 103 = .ok (.if_icmp .ge 41, 3) := by decide +kernel
theorem dX10_sum_106 : decode cX10_sum 106 = .ok (.lload 4, 2) := by decide +kernel
theorem dX10_sum_108 : decode cX10_sum 108 = .ok (.aload_n 0, 1) := by decide +kernel
theorem dX10_sum_109 : decode cX10_sum 109 = .ok (.getfield 109, 3) := by decide +kernel
theorem dX10_sum_112 : decode cX10_sum 112 = .ok (.bipush 8, 2) := by decide +kernel
theorem dX10_sum_114 : decode cX10_sum 114 = .ok (.iload_n 3, 1) := by decide +kernel
theorem dX10_sum_115 : decode cX10_sum 115 = .ok (.imul, 1) := by decide +kernel
theorem dX10_sum_116 : decode cX10_sum 116 = .ok (.iload 6, 2) := by decide +kernel
theorem dX10_sum_118 : decode cX10_sum 118 = .ok (.iadd, 1) := by decide +kernel
theorem dX10_sum_119 : decode cX10_sum 119 = .ok (.iaload, 1) := by decide +kernel
theorem dX10_sum_120 : decode cX10_sum 120 = .ok (.i2l, 1) := by decide +kernel
theorem dX10_sum_121 : decode cX10_sum 121 = .ok (.aload_n 0, 1) := by decide +kernel
theorem dX10_sum_122 : decode cX10_sum 122 = .ok (.getfield 93, 3) := by decide +kernel
theorem dX10_sum_125 : decode cX10_sum 125 = .ok (.iload_n 1, 1) := by decide +kernel
theorem dX10_sum_126 : decode cX10_sum 126 = .ok (.iload 6, 2) := by decide +kernel
theorem dX10_sum_128 : decode cX10_sum 128 = .ok (.iadd, 1) := by decide +kernel
theorem dX10_sum_129 : decode cX10_sum 129 = .ok (.laload, 1) := by decide +kernel
theorem dX10_sum_130 : decode cX10_sum 130 = .ok (.invokestatic 248, 3) := by decide +kernel
theorem dX10_sum_133 : decode cX10_sum 133 = .ok (.invokestatic 241, 3) := by decide +kernel
theorem dX10_sum_136 : decode cX10_sum 136 = .ok (.lstore 4, 2) := by decide +kernel
theorem dX10_sum_138 : decode cX10_sum 138 = .ok (.iinc 6 1, 3) := by decide +kernel
theorem dX10_sum_141 : decode cX10_sum 141 = .ok (.goto (-42), 3) := by decide +kernel
theorem dX10_sum_144 : decode cX10_sum 144 = .ok (.aload_n 0, 1) := by decide +kernel
theorem dX10_sum_145 : decode cX10_sum 145 = .ok (.getfield 93, 3) := by decide +kernel
theorem dX10_sum_148 : decode cX10_sum 148 = .ok (.iload_n 1, 1) := by decide +kernel
theorem dX10_sum_149 : decode cX10_sum 149 = .ok (.iload_n 3, 1) := by decide +kernel
theorem dX10_sum_150 : decode cX10_sum 150 = .ok (.iadd, 1) := by decide +kernel
theorem dX10_sum_151 : decode cX10_sum 151 = .ok (.lload 4, 2) := by decide +kernel
theorem dX10_sum_153 : decode cX10_sum 153 = .ok (.lastore, 1) := by decide +kernel
theorem dX10_sum_154 : decode cX10_sum 154 = .ok (.iinc 3 1, 3) := by decide +kernel
theorem dX10_sum_157 : decode cX10_sum 157 = .ok (.goto (-97), 3) := by decide +kernel
theorem dX10_sum_160 : decode cX10_sum 160 = .ok (.iinc 2 1, 3) := by decide +kernel
theorem dX10_sum_163 : decode cX10_sum 163 = .ok (.goto (-111), 3) := by decide +kernel
theorem dX10_sum_166 : decode cX10_sum 166 = .ok (.return_, 1) := by decide +kernel
theorem dX10_tries_0 : decode cX10_tries 0 = .ok (.aload_n 0, 1) := by decide +kernel
theorem dX10_tries_1 : decode cX10_tries 1 = .ok (.aload_n 0, 1) := by decide +kernel
theorem dX10_tries_2 : decode cX10_tries 2 = .ok (.getfield 16, 3) := by decide +kernel
theorem dX10_tries_5 : decode cX10_tries 5 = .ok (.iload_n 1, 1) := by decide +kernel
theorem dX10_tries_6 : decode cX10_tries 6 = .ok (.iaload, 1) := by decide +kernel
theorem dX10_tries_7 : decode cX10_tries 7 = .ok (.putfield 257, 3) := by decide +kernel
theorem dX10_tries_10 : decode cX10_tries 10 = .ok (.aload_n 0, 1) := by decide +kernel
theorem dX10_tries_11 : decode cX10_tries 11 = .ok (.iconst 1, 1) := by decide +kernel
theorem dX10_tries_12 : decode cX10_tries 12 = .ok (.putfield 260, 3) := by decide +kernel
theorem dX10_tries_15 : decode cX10_tries 15 = .ok (.aload_n 0, 1) := by decide +kernel
theorem dX10_tries_16 : decode cX10_tries 16 = .ok (.iload_n 1, 1) := by decide +kernel
theorem dX10_tries_17 : decode cX10_tries 17 = .ok (.iload 4, 2) := by decide +kernel
theorem dX10_tries_19 : decode cX10_tries 19 = .ok (.iload 5, 2) := by decide +kernel
theorem dX10_tries_21 : decode cX10_tries 21 = .ok (.invokevirtual 186, 3) := by decide +kernel
theorem dX10_tries_24 : decode cX10_tries 24 = .ok (.ifCond .eq 38, 3) := by decide +kernel
theorem dX10_tries_27 : decode cX10_tries 27 = .ok (.aload_n 0, 1) := by decide +kernel
theorem dX10_tries_28 : decode cX10_tries 28 = .ok (.getfield 13, 3) := by decide +kernel
theorem dX10_tries_31 : decode cX10_tries 31 = .ok (.iload_n 1, 1) := by decide +kernel
theorem dX10_tries_32 : decode cX10_tries 32 = .ok (.iaload, 1) := by decide +kernel
theorem dX10_tries_33 : decode cX10_tries 33 = .ok (.ifCond .ne 31, 3) := by decide +kernel
theorem dX10_tries_36 : decode cX10_tries 36 = .ok (.aload_n 0, 1) := by decide +kernel
theorem dX10_tries_37 : decode cX10_tries 37 = .ok (.getfield 229, 3) := by decide +kernel
theorem dX10_tries_40 : decode cX10_tries 40 = .ok (.ifCond .eq 24, 3) := by decide +kernel
theorem dX10_tries_43 : decode cX10_tries 43 = .ok (.aload_n 0, 1) := by decide +kernel
theorem dX10_tries_44 : decode cX10_tries 44 = .ok (.iload_n 2, 1) := by decide +kernel
theorem dX10_tries_45 : decode cX10_tries 45 = .ok (.iload_n 3, 1) := by decide +kernel
theorem dX10_tries_46 : decode cX10_tries 46 = .ok (.iload 4, 2) := by decide +kernel
theorem dX10_tries_48 : decode cX10_tries 48 = .ok (.iload 5, 2) := by decide +kernel
theorem dX10_tries_50 : decode cX10_tries 50 = .ok (.aload_n 0, 1) := by decide +kernel
theorem dX10_tries_51 : decode cX10_tries 51 = .ok (.getfield 19, 3) := by decide +kernel
theorem dX10_tries_54 : decode cX10_tries 54 = .ok (.iload_n 1, 1) := by decide +kernel
theorem dX10_tries_55 : decode cX10_tries 55 = .ok (.iaload, 1) := by decide +kernel
theorem dX10_tries_56 : decode cX10_tries 56 = .ok (.invokevirtual 237, 3) := by decide +kernel
theorem dX10_tries_59 : decode cX10_tries 59 = .ok (.ifCond .ne 5, 3) := by decide +kernel
theorem dX10_tries_62 : decode cX10_tries 62 = .ok (.iconst 0, 1) := by decide +kernel
theorem dX10_tries_63 : decode cX10_tries 63 = .ok (.ireturn, 1) := by decide +kernel
theorem dX10_tries_64 : decode cX10_tries 64 = .ok (.aload_n 0, 1) := by decide +kernel
theorem dX10_tries_65 : decode cX10_tries 65 = .ok (.iload_n 1, 1) := by decide +kernel
theorem dX10_tries_66 : decode cX10_tries 66 = .ok (.invokevirtual 176, 3) := by decide +kernel
theorem dX10_tries_69 : decode cX10_tries 69 = .ok (.istore 6, 2) := by decide +kernel
theorem dX10_tries_71 : decode cX10_tries 71 = .ok (.iconst 1, 1) := by decide +kernel
theorem dX10_tries_72 : decode cX10_tries 72 = .ok (.istore 7, 2) := by decide +kernel
theorem dX10_tries_74 : decode cX10_tries 74 = .ok (.iconst 0, 1) := by decide +kernel
theorem dX10_tries_75 : decode cX10_tries 75 = .ok (.istore 8, 2) := by decide +kernel
theorem dX10_tries_77 : decode cX10_tries 77 = .ok (.iload 8, 2) := by decide +kernel
theorem dX10_tries_79 : decode cX10_tries 79 = .ok (.aload_n 0, 1) := by decide +kernel
theorem dX10_tries_80 : decode cX10_tries 80 = .ok (.getfield 173, 3) := by decide +kernel
theorem dX10_tries_83 : decode cX10_tries 83 = .ok (.if_icmp .ge 151, 3) := by decide +kernel
theorem dX10_tries_86 : decode cX10_tries 86 = .ok (.iload 7, 2) := by decide +kernel
theorem dX10_tries_88 : decode cX10_tries 88 = .ok (.ifCond .eq 146, 3) := by decide +kernel
theorem dX10_tries_91 : decode cX10_tries 91 = .ok (.iload 6, 2) := by decide +kernel
theorem dX10_tries_93 : decode cX10_tries 93 = .ok (.ifCond .eq 29, 3) := by decide +kernel
theorem dX10_tries_96 : decode cX10_tries 96 = .ok (.aload_n 0, 1) := by decide +kernel
theorem dX10_tries_97 : decode cX10_tries 97 = .ok (.iload_n 2, 1) := by decide +kernel
theorem dX10_tries_98 : decode cX10_tries 98 = .ok (.iload_n 3, 1) := by decide +kernel
theorem dX10_tries_99 : decode cX10_tries 99 = .ok (.aload_n 0, 1) := by decide +kernel
theorem dX10_tries_100 : decode cX10_tries 100 = .ok (.getfield 47, 3) := by decide +kernel
theorem dX10_tries_103 : decode cX10_tries 103 = .ok (.iload 8, 2) := by decide +kernel
theorem dX10_tries_105 : decode cX10_tries 105 = .ok (.iaload, 1) := by decide +kernel
theorem dX10_tries_106 : decode cX10_tries 106 = .ok (.iadd, 1) := by decide +kernel
theorem dX10_tries_107 : decode cX10_tries 107 = .ok (.iload 4, 2) := by decide +kernel
theorem dX10_tries_109 : decode cX10_tries 109 = .ok (.aload_n 0, 1) := by decide +kernel
theorem dX10_tries_110 : decode cX10_tries 110 = .ok (.getfield 50, 3) := by decide +kernel
theorem dX10_tries_113 : decode cX10_tries 113 = .ok (.iload 8, 2) := by decide +kernel
theorem dX10_tries_115 : decode cX10_tries 115 = .ok (.iaload, 1) := by decide +kernel
theorem dX10_tries_116 : decode cX10_tries 116 = .ok (.invokevirtual 245, 3) := by decide +kernel
theorem dX10_tries_119 : decode cX10_tries 119 = .ok (.goto 26, 3) := by decide +kernel
theorem dX10_tries_122 : decode cX10_tries 122 = .ok (.aload_n 0, 1) := by decide +kernel
theorem dX10_tries_123 : decode cX10_tries 123 = .ok (.iload_n 2, 1) := by decide +kernel
theorem dX10_tries_124 : decode cX10_tries 124 = .ok (.aload_n 0, 1) := by decide +kernel
theorem dX10_tries_125 : decode cX10_tries 125 = .ok (.getfield 47, 3) := by decide +kernel
theorem dX10_tries_128 : decode cX10_tries 128 = .ok (.iload 8, 2) := by decide +kernel
theorem dX10_tries_130 : decode cX10_tries 130 = .ok (.iaload, 1) := by decide +kernel
theorem dX10_tries_131 : decode cX10_tries 131 = .ok (.iadd, 1) := by decide +kernel
theorem dX10_tries_132 : decode cX10_tries 132 = .ok (.iload_n 3, 1) := by decide +kernel
theorem dX10_tries_133 : decode cX10_tries 133 = .ok (.aload_n 0, 1) := by decide +kernel
theorem dX10_tries_134 : decode cX10_tries 134 = .ok (.getfield 50, 3) := by decide +kernel
theorem dX10_tries_137 : decode cX10_tries 137 = .ok (.iload 8, 2) := by decide +kernel
theorem dX10_tries_139 : decode cX10_tries 139 = .ok (.iaload, 1) := by decide +kernel
theorem dX10_tries_140 : decode cX10_tries 140 = .ok (.iload 5, 2) := by decide +kernel
theorem dX10_tries_142 : decode cX10_tries 142 = .ok (.invokevirtual 245, 3) := by decide +kernel
theorem dX10_tries_145 : decode cX10_tries 145 = .ok (.istore 9, 2) := by decide +kernel
theorem dX10_tries_147 : decode cX10_tries 147 = .ok (.iload 9, 2) := by decide +kernel
theorem dX10_tries_149 : decode cX10_tries 149 = .ok (.aload_n 0, 1) := by decide +kernel
theorem dX10_tries_150 : decode cX10_tries 150 = .ok (.getfield 53, 3) := by decide +kernel
theorem dX10_tries_153 : decode cX10_tries 153 = .ok (.iload 8, 2) := by decide +kernel
theorem dX10_tries_155 : decode cX10_tries 155 = .ok (.iaload, 1) := by decide +kernel
theorem dX10_tries_156 : decode cX10_tries 156 = .ok (.iadd, 1) := by decide +kernel
theorem dX10_tries_157 : decode cX10_tries 157 = .ok (.istore 10, 2) := by decide +kernel
theorem dX10_tries_159 : decode cX10_tries 159 = .ok (.aload_n 0, 1) := by decide +kernel
theorem dX10_tries_160 : decode cX10_tries 160 = .ok (.getfield 103, 3) := by decide +kernel
theorem dX10_tries_163 : decode cX10_tries 163 = .ok (.iload 10, 2) := by decide +kernel
theorem dX10_tries_165 : decode cX10_tries 165 = .ok (.iaload, 1) := by decide +kernel
theorem dX10_tries_166 : decode cX10_tries 166 = .ok (.bipush (-9), 2) := by decide +kernel
theorem dX10_tries_168 : decode cX10_tries 168 = .ok (.if_icmp .eq 7, 3) := by decide +kernel
theorem dX10_tries_171 : decode cX10_tries 171 = .ok (.iconst 1, 1) := by decide +kernel
theorem dX10_tries_172 : decode cX10_tries 172 = .ok (.goto 4, 3) := by decide +kernel
theorem dX10_tries_175 : decode cX10_tries 175 = .ok (.iconst 0, 1) := by decide +kernel
theorem dX10_tries_176 : decode cX10_tries 176 = .ok (.istore 7, 2) := by decide +kernel
theorem dX10_tries_178 : decode cX10_tries 178 = .ok (.aload_n 0, 1) := by decide +kernel
theorem dX10_tries_179 : decode cX10_tries 179 = .ok (.dup, 1) := by decide +kernel
theorem dX10_tries_180 : decode cX10_tries 180 = .ok (.getfield 257, 3) := by decide +kernel
theorem dX10_tries_183 : decode cX10_tries 183 = .ok (.iload 7, 2) := by decide +kernel
theorem dX10_tries_185 : decode cX10_tries 185 = .ok (.ifCond .eq 13, 3) := by decide +kernel
theorem dX10_tries_188 : decode cX10_tries 188 = .ok (.aload_n 0, 1) := by decide +kernel
theorem dX10_tries_189 : decode cX10_tries 189 = .ok (.getfield 97, 3) := by decide +kernel
theorem dX10_tries_192 : decode cX10_tries 192 = .ok (.iload 10, 2) := by decide +kernel
theorem dX10_tries_194 : decode cX10_tries 194 = .ok (.iaload, 1) := by decide +kernel
theorem dX10_tries_195 : decode cX10_tries 195 = .ok (.goto 4, 3) := by decide +kernel
theorem dX10_tries_198 : decode cX10_tries 198 = .ok (.iconst 0, 1) := by decide +kernel
theorem dX10_tries_199 : decode cX10_tries 199 = .ok (.iadd, 1) := by decide +kernel
theorem dX10_tries_200 : decode cX10_tries 200 = .ok (.putfield 257, 3) := by decide +kernel
theorem dX10_tries_203 : decode cX10_tries 203 = .ok (.aload_n 0, 1) := by decide +kernel
theorem dX10_tries_204 : decode cX10_tries 204 = .ok (.dup, 1) := by decide +kernel
theorem dX10_tries_205 : decode cX10_tries 205 = .ok (.getfield 260, 3) := by decide +kernel
theorem dX10_tries_208 : decode cX10_tries 208 = .ok (.iload 7, 2) := by decide +kernel
theorem dX10_tries_210 : decode cX10_tries 210 = .ok (.ifCond .eq 13, 3) := by decide +kernel
theorem dX10_tries_213 : decode cX10_tries 213 = .ok (.aload_n 0, 1) := by decide +kernel
theorem dX10_tries_214 : decode cX10_tries 214 = .ok (.getfield 100, 3) := by decide +kernel
theorem dX10_tries_217 : decode cX10_tries 217 = .ok (.iload 10, 2) := by decide +kernel
theorem dX10_tries_219 : decode cX10_tries 219 = .ok (.iaload, 1) := by decide +kernel
theorem dX10_tries_220 : decode cX10_tries 220 = .ok (.goto 4, 3) := by decide +kernel
theorem dX10_tries_223 : decode cX10_tries 223 = .ok (.iconst 0, 1) := by decide +kernel
theorem dX10_tries_224 : decode cX10_tries 224 = .ok (.iadd, 1) := by decide +kernel
theorem dX10_tries_225 : decode cX10_tries 225 = .ok (.putfield 260, 3) := by decide +kernel
theorem dX10_tries_228 : decode cX10_tries 228 = .ok (.iinc 8 1, 3) := by decide +kernel
theorem dX10_tries_231 : decode cX10_tries 231 = .ok (.goto (-154), 3) := by decide +kernel
theorem dX10_tries_234 : decode cX10_tries 234 = .ok (.iload 7, 2) := by decide +kernel
theorem dX10_tries_236 : decode cX10_tries 236 = .ok (.ireturn, 1) := by decide +kernel
theorem dX10_improve_0 : decode cX10_improve 0 = .ok (.iconst 0, 1) := by decide +kernel
theorem dX10_improve_1 : decode cX10_improve 1 = .ok (.istore 6, 2) := by decide +kernel
theorem dX10_improve_3 : decode cX10_improve 3 = .ok (.iconst 0, 1) := by decide +kernel
theorem dX10_improve_4 : decode cX10_improve 4 = .ok (.istore 7, 2) := by decide +kernel
theorem dX10_improve_6 : decode cX10_improve 6 = .ok (.iload 7, 2) := by decide +kernel
theorem dX10_improve_8 : decode cX10_improve 8 = .ok (.aload_n 0, 1) := by decide +kernel
theorem dX10_improve_9 : decode cX10_improve 9 = .ok (.getfield 128, 3) := by decide +kernel
theorem dX10_improve_12 : decode cX10_improve 12 = .ok (.if_icmp .ge 149, 3) := by decide +kernel
theorem dX10_improve_15 : decode cX10_improve 15 = .ok (.iload_n 1, 1) := by decide +kernel
theorem dX10_improve_16 : decode cX10_improve 16 = .ok (.aload_n 0, 1) := by decide +kernel
theorem dX10_improve_17 : decode cX10_improve 17 = .ok (.getfield 7, 3) := by decide +kernel
theorem dX10_improve_20 : decode cX10_improve 20 = .ok (.iload 7, 2) := by decide +kernel
theorem dX10_improve_22 : decode cX10_improve 22 = .ok (.iaload, 1) := by decide +kernel
theorem dX10_improve_23 : decode cX10_improve 23 = .ok (.iadd, 1) := by decide +kernel
theorem dX10_improve_24 : decode cX10_improve 24 = .ok (.istore 8, 2) := by decide +kernel
theorem dX10_improve_26 : decode cX10_improve 26 = .ok (.aload_n 0, 1) := by decide +kernel
theorem dX10_improve_27 : decode cX10_improve 27 = .ok (.iload 7, 2) := by decide +kernel
theorem dX10_improve_29 : decode cX10_improve 29 = .ok (.iload_n 2, 1) := by decide +kernel
theorem dX10_improve_30 : decode cX10_improve 30 = .ok (.iload_n 3, 1) := by decide +kernel
theorem dX10_improve_31 : decode cX10_improve 31 = .ok (.iload 4, 2) := by decide +kernel
theorem dX10_improve_33 : decode cX10_improve 33 = .ok (.iload 5, 2) := by decide +kernel
theorem dX10_improve_35 : decode cX10_improve 35 = .ok (.invokevirtual 263, 3) := by decide +kernel
theorem dX10_improve_38 : decode cX10_improve 38 = .ok (.ifCond .eq 117, 3) := by decide +kernel
theorem dX10_improve_41 : decode cX10_improve 41 = .ok (.aload_n 0, 1) := by decide +kernel
theorem dX10_improve_42 : decode cX10_improve 42 = .ok (.getfield 103, 3) := by decide +kernel
theorem dX10_improve_45 : decode cX10_improve 45 = .ok (.iload 8, 2) := by decide +kernel
theorem dX10_improve_47 : decode cX10_improve 47 = .ok (.iaload, 1) := by decide +kernel
theorem dX10_improve_48 : decode cX10_improve 48 = .ok (.bipush (-9), 2) := by decide +kernel
theorem dX10_improve_50 : decode cX10_improve 50 = .ok (.if_icmp .eq 71, 3) := by decide +kernel
theorem dX10_improve_53 : decode cX10_improve 53 = .ok (.aload_n 0, 1) := by decide +kernel
theorem dX10_improve_54 : decode cX10_improve 54 = .ok (.getfield 257, 3) := by decide +kernel
theorem dX10_improve_57 : decode cX10_improve 57 = .ok (.aload_n 0, 1) := by decide +kernel
theorem dX10_improve_58 : decode cX10_improve 58 = .ok (.getfield 97, 3) := by decide +kernel
theorem dX10_improve_61 : decode cX10_improve 61 = .ok (.iload 8, 2) := by decide +kernel
theorem dX10_improve_63 : decode cX10_improve 63 = .ok (.iaload, 1) := by decide +kernel
theorem dX10_improve_64 : decode cX10_improve 64 = .ok (.if_icmp .lt 57, 3) := by decide +kernel
theorem dX10_improve_67 : decode cX10_improve 67 = .ok (.aload_n 0, 1) := by decide +kernel
theorem dX10_improve_68 : decode cX10_improve 68 = .ok (.getfield 257, 3) := by decide +kernel
theorem dX10_improve_71 : decode cX10_improve 71 = .ok (.aload_n 0, 1) := by decide +kernel
theorem dX10_improve_72 : decode cX10_improve 72 = .ok (.getfield 97, 3) := by decide +kernel
theorem dX10_improve_75 : decode cX10_improve 75 = .ok (.iload 8, 2) := by decide +kernel
theorem dX10_improve_77 : decode cX10_improve 77 = .ok (.iaload, 1) := by decide +kernel
theorem dX10_improve_78 : decode cX10_improve 78 = .ok (.if_icmp .ne 77, 3) := by decide +kernel
theorem dX10_improve_81 : decode cX10_improve 81 = .ok (.aload_n 0, 1) := by decide +kernel
theorem dX10_improve_82 : decode cX10_improve 82 = .ok (.getfield 260, 3) := by decide +kernel
theorem dX10_improve_85 : decode cX10_improve 85 = .ok (.aload_n 0, 1) := by decide +kernel
theorem dX10_improve_86 : decode cX10_improve 86 = .ok (.getfield 100, 3) := by decide +kernel
theorem dX10_improve_89 : decode cX10_improve 89 = .ok (.iload 8, 2) := by decide +kernel
theorem dX10_improve_91 : decode cX10_improve 91 = .ok (.iaload, 1) := by decide +kernel
theorem dX10_improve_92 : decode cX10_improve 92 = .ok (.if_icmp .lt 29, 3) := by decide +kernel
theorem dX10_improve_95 : decode cX10_improve 95 = .ok (.aload_n 0, 1) := by decide +kernel
theorem dX10_improve_96 : decode cX10_improve 96 = .ok (.getfield 260, 3) := by decide +kernel
theorem dX10_improve_99 : decode cX10_improve 99 = .ok (.aload_n 0, 1) := by decide +kernel
theorem dX10_improve_100 : decode cX10_improve 100 = .ok (.getfield 100, 3) := by decide +kernel
theorem dX10_improve_103 : decode cX10_improve 103 = .ok (.iload 8, 2) := by decide +kernel
theorem dX10_improve_105 : decode cX10_improve 105 = .ok (.iaload, 1) := by decide +kernel
theorem dX10_improve_106 : decode cX10_improve 106 = .ok (.if_icmp .ne 49, 3) := by decide +kernel
theorem dX10_improve_109 : decode cX10_improve 109 = .ok (.iload 7, 2) := by decide +kernel
theorem dX10_improve_111 : decode cX10_improve 111 = .ok (.aload_n 0, 1) := by decide +kernel
theorem dX10_improve_112 : decode cX10_improve 112 = .ok (.getfield 103, 3) := by decide +kernel
theorem dX10_improve_115 : decode cX10_improve 115 = .ok (.iload 8, 2) := by decide +kernel
theorem dX10_improve_117 : decode cX10_improve 117 = .ok (.iaload, 1) := by decide +kernel
theorem dX10_improve_118 : decode cX10_improve 118 = .ok (.if_icmp .ge 37, 3) := by decide +kernel
theorem dX10_improve_121 : decode cX10_improve 121 = .ok (.aload_n 0, 1) := by decide +kernel
theorem dX10_improve_122 : decode cX10_improve 122 = .ok (.getfield 97, 3) := by decide +kernel
theorem dX10_improve_125 : decode cX10_improve 125 = .ok (.iload 8, 2) := by decide +kernel
theorem dX10_improve_127 : decode cX10_improve 127 = .ok (.aload_n 0, 1) := by decide +kernel
theorem dX10_improve_128 : decode cX10_improve 128 = .ok (.getfield 257, 3) := by decide +kernel
theorem dX10_improve_131 : decode cX10_improve 131 = .ok (.iastore, 1) := by decide +kernel
theorem dX10_improve_132 : decode cX10_improve 132 = .ok (.aload_n 0, 1) := by decide +kernel
theorem dX10_improve_133 : decode cX10_improve 133 = .ok (.getfield 100, 3) := by decide +kernel
theorem dX10_improve_136 : decode cX10_improve 136 = .ok (.iload 8, 2) := by decide +kernel
theorem dX10_improve_138 : decode cX10_improve 138 = .ok (.aload_n 0, 1) := by decide +kernel
theorem dX10_improve_139 : decode cX10_improve 139 = .ok (.getfield 260, 3) := by decide +kernel
theorem dX10_improve_142 : decode cX10_improve 142 = .ok (.iastore, 1) := by decide +kernel
theorem dX10_improve_143 : decode cX10_improve 143 = .ok (.aload_n 0, 1) := by decide +kernel
theorem dX10_improve_144 : decode cX10_improve 144 = .ok (.getfield 103, 3) := by decide +kernel
theorem dX10_improve_147 : decode cX10_improve 147 = .ok (.iload 8, 2) := by decide +kernel
theorem dX10_improve_149 : decode cX10_improve 149 = .ok (.iload 7, 2) := by decide +kernel
theorem dX10_improve_151 : decode cX10_improve 151 = .ok (.iastore, 1) := by decide +kernel
theorem dX10_improve_152 : decode cX10_improve 152 = .ok (.iconst 1, 1) := by decide +kernel
theorem dX10_improve_153 : decode cX10_improve 153 = .ok (.istore 6, 2) := by decide +kernel
theorem dX10_improve_155 : decode cX10_improve 155 = .ok (.iinc 7 1, 3) := by decide +kernel
theorem dX10_improve_158 : decode cX10_improve 158 = .ok (.goto (-152), 3) := by decide +kernel
theorem dX10_improve_161 : decode cX10_improve 161 = .ok (.iload 6, 2) := by decide +kernel
theorem dX10_improve_163 : decode cX10_improve 163 = .ok (.ireturn, 1) := by decide +kernel
theorem dX10_work_0 : decode cX10_work 0 = .ok (.aload_n 0, 1) := by decide +kernel
theorem dX10_work_1 : decode cX10_work 1 = .ok (.iload_n 1, 1) := by decide +kernel
theorem dX10_work_2 : decode cX10_work 2 = .ok (.iload_n 2, 1) := by decide +kernel
theorem dX10_work_3 : decode cX10_work 3 = .ok (.iload_n 3, 1) := by decide +kernel
theorem dX10_work_4 : decode cX10_work 4 = .ok (.iload 4, 2) := by decide +kernel
theorem dX10_work_6 : decode cX10_work 6 = .ok (.invokevirtual 245, 3) := by decide +kernel
theorem dX10_work_9 : decode cX10_work 9 = .ok (.istore 5, 2) := by decide +kernel
theorem dX10_work_11 : decode cX10_work 11 = .ok (.iconst 0, 1) := by decide +kernel
theorem dX10_work_12 : decode cX10_work 12 = .ok (.istore 6, 2) := by decide +kernel
theorem dX10_work_14 : decode cX10_work 14 = .ok (.iload 6, 2) := by decide +kernel
theorem dX10_work_16 : decode cX10_work 16 = .ok (.bipush 8, 2) := by decide +kernel
theorem dX10_work_18 : decode cX10_work 18 = .ok (.if_icmp .ge 29, 3) := by decide +kernel
theorem dX10_work_21 : decode cX10_work 21 = .ok (.aload_n 0, 1) := by decide +kernel
theorem dX10_work_22 : decode cX10_work 22 = .ok (.getfield 106, 3) := by decide +kernel
theorem dX10_work_25 : decode cX10_work 25 = .ok (.iload 6, 2) := by decide +kernel
theorem dX10_work_27 : decode cX10_work 27 = .ok (.lconst 0, 1) := by decide +kernel
theorem dX10_work_28 : decode cX10_work 28 = .ok (.lastore, 1) := by decide +kernel
theorem dX10_work_29 : decode cX10_work 29 = .ok (.aload_n 0, 1) := by decide +kernel
theorem dX10_work_30 : decode cX10_work 30 = .ok (.getfield 103, 3) := by decide +kernel
theorem dX10_work_33 : decode cX10_work 33 = .ok (.iload 5, 2) := by decide +kernel
theorem dX10_work_35 : decode cX10_work 35 = .ok (.iload 6, 2) := by decide +kernel
theorem dX10_work_37 : decode cX10_work 37 = .ok (.iadd, 1) := by decide +kernel
theorem dX10_work_38 : decode cX10_work 38 = .ok (.bipush (-9), 2) := by decide +kernel
theorem dX10_work_40 : decode cX10_work 40 = .ok (.iastore, 1) := by decide +kernel
theorem dX10_work_41 : decode cX10_work 41 = .ok (.iinc 6 1, 3) := by decide +kernel
theorem dX10_work_44 : decode cX10_work 44 = .ok (.goto (-30), 3) := by decide +kernel
theorem dX10_work_47 : decode cX10_work 47 = .ok (.iconst 0, 1) := by decide +kernel
theorem dX10_work_48 : decode cX10_work 48 = .ok (.istore 6, 2) := by decide +kernel
theorem dX10_work_50 : decode cX10_work 50 = .ok (.iload 6, 2) := by decide +kernel
theorem dX10_work_52 : decode cX10_work 52 = .ok (.bipush 64, 2) := by decide +kernel
theorem dX10_work_54 : decode cX10_work 54 = .ok (.if_icmp .ge 17, 3) := by decide +kernel
theorem dX10_work_57 : decode cX10_work 57 = .ok (.aload_n 0, 1) := by decide +kernel
theorem dX10_work_58 : decode cX10_work 58 = .ok (.getfield 109, 3) := by decide +kernel
theorem dX10_work_61 : decode cX10_work 61 = .ok (.iload 6, 2) := by decide +kernel
theorem dX10_work_63 : decode cX10_work 63 = .ok (.iconst 0, 1) := by decide +kernel
theorem dX10_work_64 : decode cX10_work 64 = .ok (.iastore, 1) := by decide +kernel
theorem dX10_work_65 : decode cX10_work 65 = .ok (.iinc 6 1, 3) := by decide +kernel
theorem dX10_work_68 : decode cX10_work 68 = .ok (.goto (-18), 3) := by decide +kernel
theorem dX10_work_71 : decode cX10_work 71 = .ok (.iconst 0, 1) := by decide +kernel
theorem dX10_work_72 : decode cX10_work 72 = .ok (.istore 6, 2) := by decide +kernel
theorem dX10_work_74 : decode cX10_work 74 = .ok (.iload 6, 2) := by decide +kernel
theorem dX10_work_76 : decode cX10_work 76 = .ok (.aload_n 0, 1) := by decide +kernel
theorem dX10_work_77 : decode cX10_work 77 = .ok (.getfield 128, 3) := by decide +kernel
theorem dX10_work_80 : decode cX10_work 80 = .ok (.if_icmp .ge 20, 3) := by decide +kernel
theorem dX10_work_83 : decode cX10_work 83 = .ok (.aload_n 0, 1) := by decide +kernel
theorem dX10_work_84 : decode cX10_work 84 = .ok (.iload 6, 2) := by decide +kernel
theorem dX10_work_86 : decode cX10_work 86 = .ok (.iload_n 1, 1) := by decide +kernel
theorem dX10_work_87 : decode cX10_work 87 = .ok (.iload_n 2, 1) := by decide +kernel
theorem dX10_work_88 : decode cX10_work 88 = .ok (.iload_n 3, 1) := by decide +kernel
theorem dX10_work_89 : decode cX10_work 89 = .ok (.iload 4, 2) := by decide +kernel
theorem dX10_work_91 : decode cX10_work 91 = .ok (.invokevirtual 266, 3) := by decide +kernel
theorem dX10_work_94 : decode cX10_work 94 = .ok (.iinc 6 1, 3) := by decide +kernel
theorem dX10_work_97 : decode cX10_work 97 = .ok (.goto (-23), 3) := by decide +kernel
theorem dX10_work_100 : decode cX10_work 100 = .ok (.aload_n 0, 1) := by decide +kernel
theorem dX10_work_101 : decode cX10_work 101 = .ok (.iload 5, 2) := by decide +kernel
theorem dX10_work_103 : decode cX10_work 103 = .ok (.invokevirtual 269, 3) := by decide +kernel
theorem dX10_work_106 : decode cX10_work 106 = .ok (.iconst 1, 1) := by decide +kernel
theorem dX10_work_107 : decode cX10_work 107 = .ok (.istore 6, 2) := by decide +kernel
theorem dX10_work_109 : decode cX10_work 109 = .ok (.iload 6, 2) := by decide +kernel
theorem dX10_work_111 : decode cX10_work 111 = .ok (.ifCond .eq 19, 3) := by decide +kernel
theorem dX10_work_114 : decode cX10_work 114 = .ok (.aload_n 0, 1) := by decide +kernel
theorem dX10_work_115 : decode cX10_work 115 = .ok (.iload 5, 2) := by decide +kernel
theorem dX10_work_117 : decode cX10_work 117 = .ok (.iload_n 1, 1) := by decide +kernel
theorem dX10_work_118 : decode cX10_work 118 = .ok (.iload_n 2, 1) := by decide +kernel
theorem dX10_work_119 : decode cX10_work 119 = .ok (.iload_n 3, 1) := by decide +kernel
theorem dX10_work_120 : decode cX10_work 120 = .ok (.iload 4, 2) := by decide +kernel
theorem dX10_work_122 : decode cX10_work 122 = .ok (.invokevirtual 273, 3) := by decide +kernel
theorem dX10_work_125 : decode cX10_work 125 = .ok (.istore 6, 2) := by decide +kernel
theorem dX10_work_127 : decode cX10_work 127 = .ok (.goto (-18), 3) := by decide +kernel
theorem dX10_work_130 : decode cX10_work 130 = .ok (.return_, 1) := by decide +kernel
theorem dX10_workScopes_0 : decode cX10_workScopes 0 = .ok (.aload_n 0, 1) := by decide +kernel
theorem dX10_workScopes_1 : decode cX10_workScopes 1 = .ok (.iconst 0, 1) := by decide +kernel
theorem dX10_workScopes_2 : decode cX10_workScopes 2 = .ok (.putfield 229, 3) := by decide +kernel
theorem dX10_workScopes_5 : decode cX10_workScopes 5 = .ok (.iconst 1, 1) := by decide +kernel
theorem dX10_workScopes_6 : decode cX10_workScopes 6 = .ok (.istore_n 1, 1) := by decide +kernel
theorem dX10_workScopes_7 : decode cX10_workScopes 7 = .ok (.iload_n 1, 1) := by decide +kernel
theorem dX10_workScopes_8 : decode cX10_workScopes 8 = .ok (.bipush 20, 2) := by decide +kernel
theorem dX10_workScopes_10 : decode cX10_workScopes 10 = .ok (.if_icmp .gt 38, 3) := by decide +kernel
theorem dX10_workScopes_13 : decode cX10_workScopes 13 = .ok (.aload_n 0, 1) := by decide +kernel
theorem dX10_workScopes_14 : decode cX10_workScopes 14 = .ok (.getfield 276, 3) := by decide +kernel
theorem dX10_workScopes_17 : decode cX10_workScopes 17 = .ok (.ifCond .ne 31, 3) := by decide +kernel
theorem dX10_workScopes_20 : decode cX10_workScopes 20 = .ok (.iconst 1, 1) := by decide +kernel
theorem dX10_workScopes_21 : decode cX10_workScopes 21 = .ok (.istore_n 2, 1) := by decide +kernel
theorem dX10_workScopes_22 : decode cX10_workScopes 22 = .ok (.iload_n 2, 1) := by decide +kernel
theorem dX10_workScopes_23 : decode cX10_workScopes 23 = .ok (.bipush 20, 2) := by decide +kernel
theorem dX10_workScopes_25 : decode cX10_workScopes 25 = .ok (.if_icmp .gt 17, 3) := by decide +kernel
theorem dX10_workScopes_28 : decode cX10_workScopes 28 = .ok (.aload_n 0, 1) := by decide +kernel
theorem dX10_workScopes_29 : decode cX10_workScopes 29 = .ok (.iconst 0, 1) := by decide +kernel
theorem dX10_workScopes_30 : decode cX10_workScopes 30 = .ok (.iconst 0, 1) := by decide +kernel
theorem dX10_workScopes_31 : decode cX10_workScopes 31 = .ok (.iload_n 2, 1) := by decide +kernel
theorem dX10_workScopes_32 : decode cX10_workScopes 32 = .ok (.iload_n 1, 1) := by decide +kernel
theorem dX10_workScopes_33 : decode cX10_workScopes 33 = .ok (.invokevirtual 279, 3) := by decide +kernel
theorem dX10_workScopes_36 : decode cX10_workScopes 36 = .ok (.iinc 2 1, 3) := by decide +kernel
theorem dX10_workScopes_39 : decode cX10_workScopes 39 = .ok (.goto (-17), 3) := by decide +kernel
theorem dX10_workScopes_42 : decode cX10_workScopes 42 = .ok (.iinc 1 1, 3) := by decide +kernel
theorem dX10_workScopes_45 : decode cX10_workScopes 45 = .ok (.goto (-38), 3) := by decide +kernel
theorem dX10_workScopes_48 : decode cX10_workScopes 48 = .ok (.aload_n 0, 1) := by decide +kernel
theorem dX10_workScopes_49 : decode cX10_workScopes 49 = .ok (.iconst 1, 1) := by decide +kernel
theorem dX10_workScopes_50 : decode cX10_workScopes 50 = .ok (.putfield 276, 3) := by decide +kernel
theorem dX10_workScopes_53 : decode cX10_workScopes 53 = .ok (.return_, 1) := by decide +kernel
theorem dX10_forget_0 : decode cX10_forget 0 = .ok (.aload_n 0, 1) := by decide +kernel
theorem dX10_forget_1 : decode cX10_forget 1 = .ok (.iconst 0, 1) := by decide +kernel
theorem dX10_forget_2 : decode cX10_forget 2 = .ok (.putfield 276, 3) := by decide +kernel
theorem dX10_forget_5 : decode cX10_forget 5 = .ok (.aload_n 0, 1) := by decide +kernel
theorem dX10_forget_6 : decode cX10_forget 6 = .ok (.iconst 0, 1) := by decide +kernel
theorem dX10_forget_7 : decode cX10_forget 7 = .ok (.putfield 214, 3) := by decide +kernel
theorem dX10_forget_10 : decode cX10_forget 10 = .ok (.return_, 1) := by decide +kernel
theorem dX10_workBoard_0 : decode cX10_workBoard 0 = .ok (.aload_n 0, 1) := by decide +kernel
theorem dX10_workBoard_1 : decode cX10_workBoard 1 = .ok (.iconst 1, 1) := by decide +kernel
theorem dX10_workBoard_2 : decode cX10_workBoard 2 = .ok (.putfield 229, 3) := by decide +kernel
theorem dX10_workBoard_5 : decode cX10_workBoard 5 = .ok (.aload_n 0, 1) := by decide +kernel
theorem dX10_workBoard_6 : decode cX10_workBoard 6 = .ok (.getfield 214, 3) := by decide +kernel
theorem dX10_workBoard_9 : decode cX10_workBoard 9 = .ok (.ifCond .eq 4, 3) := by decide +kernel
theorem dX10_workBoard_12 : decode cX10_workBoard 12 = .ok (.return_, 1) := by decide +kernel
theorem dX10_workBoard_13 : decode cX10_workBoard 13 = .ok (.aload_n 0, 1) := by decide +kernel
theorem dX10_workBoard_14 : decode cX10_workBoard 14 = .ok (.iconst 1, 1) := by decide +kernel
theorem dX10_workBoard_15 : decode cX10_workBoard 15 = .ok (.putfield 214, 3) := by decide +kernel
theorem dX10_workBoard_18 : decode cX10_workBoard 18 = .ok (.iconst 1, 1) := by decide +kernel
theorem dX10_workBoard_19 : decode cX10_workBoard 19 = .ok (.istore_n 1, 1) := by decide +kernel
theorem dX10_workBoard_20 : decode cX10_workBoard 20 = .ok (.iload_n 1, 1) := by decide +kernel
theorem dX10_workBoard_21 : decode cX10_workBoard 21 = .ok (.aload_n 0, 1) := by decide +kernel
theorem dX10_workBoard_22 : decode cX10_workBoard 22 = .ok (.getfield 221, 3) := by decide +kernel
theorem dX10_workBoard_25 : decode cX10_workBoard 25 = .ok (.if_icmp .gt 72, 3) := by decide +kernel
theorem dX10_workBoard_28 : decode cX10_workBoard 28 = .ok (.iconst 1, 1) := by decide +kernel
theorem dX10_workBoard_29 : decode cX10_workBoard 29 = .ok (.istore_n 2, 1) := by decide +kernel
theorem dX10_workBoard_30 : decode cX10_workBoard 30 = .ok (.iload_n 2, 1) := by decide +kernel
theorem dX10_workBoard_31 : decode cX10_workBoard 31 = .ok (.aload_n 0, 1) := by decide +kernel
theorem dX10_workBoard_32 : decode cX10_workBoard 32 = .ok (.getfield 218, 3) := by decide +kernel
theorem dX10_workBoard_35 : decode cX10_workBoard 35 = .ok (.if_icmp .gt 56, 3) := by decide +kernel
theorem dX10_workBoard_38 : decode cX10_workBoard 38 = .ok (.iconst 0, 1) := by decide +kernel
theorem dX10_workBoard_39 : decode cX10_workBoard 39 = .ok (.istore_n 3, 1) := by decide +kernel
theorem dX10_workBoard_40 : decode cX10_workBoard 40 = .ok (.iload_n 3, 1) := by decide +kernel
theorem dX10_workBoard_41 : decode cX10_workBoard 41 = .ok (.iload_n 1, 1) := by decide +kernel
theorem dX10_workBoard_42 : decode cX10_workBoard 42 = .ok (.iadd, 1) := by decide +kernel
theorem dX10_workBoard_43 : decode cX10_workBoard 43 = .ok (.aload_n 0, 1) := by decide +kernel
theorem dX10_workBoard_44 : decode cX10_workBoard 44 = .ok (.getfield 221, 3) := by decide +kernel
theorem dX10_workBoard_47 : decode cX10_workBoard 47 = .ok (.if_icmp .gt 38, 3) := by decide +kernel
theorem dX10_workBoard_50 : decode cX10_workBoard 50 = .ok (.iconst 0, 1) := by decide +kernel
theorem dX10_workBoard_51 : decode cX10_workBoard 51 = .ok (.istore 4, 2) := by decide +kernel
theorem dX10_workBoard_53 : decode cX10_workBoard 53 = .ok (.iload 4, 2) := by decide +kernel
theorem dX10_workBoard_55 : decode cX10_workBoard 55 = .ok (.iload_n 2, 1) := by decide +kernel
theorem dX10_workBoard_56 : decode cX10_workBoard 56 = .ok (.iadd, 1) := by decide +kernel
theorem dX10_workBoard_57 : decode cX10_workBoard 57 = .ok (.aload_n 0, 1) := by decide +kernel
theorem dX10_workBoard_58 : decode cX10_workBoard 58 = .ok (.getfield 218, 3) := by decide +kernel
theorem dX10_workBoard_61 : decode cX10_workBoard 61 = .ok (.if_icmp .gt 18, 3) := by decide +kernel
theorem dX10_workBoard_64 : decode cX10_workBoard 64 = .ok (.aload_n 0, 1) := by decide +kernel
theorem dX10_workBoard_65 : decode cX10_workBoard 65 = .ok (.iload 4, 2) := by decide +kernel
theorem dX10_workBoard_67 : decode cX10_workBoard 67 = .ok (.iload_n 3, 1) := by decide +kernel
theorem dX10_workBoard_68 : decode cX10_workBoard 68 = .ok (.iload_n 2, 1) := by decide +kernel
theorem dX10_workBoard_69 : decode cX10_workBoard 69 = .ok (.iload_n 1, 1) := by decide +kernel
theorem dX10_workBoard_70 : decode cX10_workBoard 70 = .ok (.invokevirtual 279, 3) := by decide +kernel
theorem dX10_workBoard_73 : decode cX10_workBoard 73 = .ok (.iinc 4 1, 3) := by decide +kernel
theorem dX10_workBoard_76 : decode cX10_workBoard 76 = .ok (.goto (-23), 3) := by decide +kernel
theorem dX10_workBoard_79 : decode cX10_workBoard 79 = .ok (.iinc 3 1, 3) := by decide +kernel
theorem dX10_workBoard_82 : decode cX10_workBoard 82 = .ok (.goto (-42), 3) := by decide +kernel
theorem dX10_workBoard_85 : decode cX10_workBoard 85 = .ok (.iinc 2 1, 3) := by decide +kernel
theorem dX10_workBoard_88 : decode cX10_workBoard 88 = .ok (.goto (-58), 3) := by decide +kernel
theorem dX10_workBoard_91 : decode cX10_workBoard 91 = .ok (.iinc 1 1, 3) := by decide +kernel
theorem dX10_workBoard_94 : decode cX10_workBoard 94 = .ok (.goto (-74), 3) := by decide +kernel
theorem dX10_workBoard_97 : decode cX10_workBoard 97 = .ok (.return_, 1) := by decide +kernel
theorem dX10_ways_0 : decode cX10_ways 0 = .ok (.iload_n 1, 1) := by decide +kernel
theorem dX10_ways_1 : decode cX10_ways 1 = .ok (.invokestatic 135, 3) := by decide +kernel
theorem dX10_ways_4 : decode cX10_ways 4 = .ok (.ifCond .ne 7, 3) := by decide +kernel
theorem dX10_ways_7 : decode cX10_ways 7 = .ok (.ldc2_w 283, 3) := by decide +kernel
theorem dX10_ways_10 : decode cX10_ways 10 = .ok (.lreturn, 1) := by decide +kernel
theorem dX10_ways_11 : decode cX10_ways 11 = .ok (.iload_n 2, 1) := by decide +kernel
theorem dX10_ways_12 : decode cX10_ways 12 = .ok (.invokestatic 161, 3) := by decide +kernel
theorem dX10_ways_15 : decode cX10_ways 15 = .ok (.ifCond .eq 10, 3) := by decide +kernel
theorem dX10_ways_18 : decode cX10_ways 18 = .ok (.iload_n 3, 1) := by decide +kernel
theorem dX10_ways_19 : decode cX10_ways 19 = .ok (.invokestatic 161, 3) := by decide +kernel
theorem dX10_ways_22 : decode cX10_ways 22 = .ok (.ifCond .ne 7, 3) := by decide +kernel
theorem dX10_ways_25 : decode cX10_ways 25 = .ok (.ldc2_w 285, 3) := by decide +kernel
theorem dX10_ways_28 : decode cX10_ways 28 = .ok (.lreturn, 1) := by decide +kernel
theorem dX10_ways_29 : decode cX10_ways 29 = .ok (.aload_n 0, 1) := by decide +kernel
theorem dX10_ways_30 : decode cX10_ways 30 = .ok (.invokevirtual 287, 3) := by decide +kernel
theorem dX10_ways_33 : decode cX10_ways 33 = .ok (.aload_n 0, 1) := by decide +kernel
theorem dX10_ways_34 : decode cX10_ways 34 = .ok (.getfield 93, 3) := by decide +kernel
theorem dX10_ways_37 : decode cX10_ways 37 = .ok (.aload_n 0, 1) := by decide +kernel
theorem dX10_ways_38 : decode cX10_ways 38 = .ok (.iconst 0, 1) := by decide +kernel
theorem dX10_ways_39 : decode cX10_ways 39 = .ok (.iconst 0, 1) := by decide +kernel
theorem dX10_ways_40 : decode cX10_ways 40 = .ok (.iload_n 2, 1) := by decide +kernel
theorem dX10_ways_41 : decode cX10_ways 41 = .ok (.iload_n 3, 1) := by decide +kernel
theorem dX10_ways_42 : decode cX10_ways 42 = .ok (.invokevirtual 245, 3) := by decide +kernel
theorem dX10_ways_45 : decode cX10_ways 45 = .ok (.iload_n 1, 1) := by decide +kernel
theorem dX10_ways_46 : decode cX10_ways 46 = .ok (.iadd, 1) := by decide +kernel
theorem dX10_ways_47 : decode cX10_ways 47 = .ok (.laload, 1) := by decide +kernel
theorem dX10_ways_48 : decode cX10_ways 48 = .ok (.lreturn, 1) := by decide +kernel
theorem dX10_least_0 : decode cX10_least 0 = .ok (.iload_n 1, 1) := by decide +kernel
theorem dX10_least_1 : decode cX10_least 1 = .ok (.invokestatic 135, 3) := by decide +kernel
theorem dX10_least_4 : decode cX10_least 4 = .ok (.ifCond .ne 5, 3) := by decide +kernel
theorem dX10_least_7 : decode cX10_least 7 = .ok (.iconst (-1), 1) := by decide +kernel
theorem dX10_least_8 : decode cX10_least 8 = .ok (.ireturn, 1) := by decide +kernel
theorem dX10_least_9 : decode cX10_least 9 = .ok (.iload_n 2, 1) := by decide +kernel
theorem dX10_least_10 : decode cX10_least 10 = .ok (.invokestatic 161, 3) := by decide +kernel
theorem dX10_least_13 : decode cX10_least 13 = .ok (.ifCond .eq 10, 3) := by decide +kernel
theorem dX10_least_16 : decode cX10_least 16 = .ok (.iload_n 3, 1) := by decide +kernel
theorem dX10_least_17 : decode cX10_least 17 = .ok (.invokestatic 161, 3) := by decide +kernel
theorem dX10_least_20 : decode cX10_least 20 = .ok (.ifCond .ne 6, 3) := by decide +kernel
theorem dX10_least_23 : decode cX10_least 23 = .ok (.bipush (-2), 2) := by decide +kernel
theorem dX10_least_25 : decode cX10_least 25 = .ok (.ireturn, 1) := by decide +kernel
theorem dX10_least_26 : decode cX10_least 26 = .ok (.aload_n 0, 1) := by decide +kernel
theorem dX10_least_27 : decode cX10_least 27 = .ok (.invokevirtual 287, 3) := by decide +kernel
theorem dX10_least_30 : decode cX10_least 30 = .ok (.aload_n 0, 1) := by decide +kernel
theorem dX10_least_31 : decode cX10_least 31 = .ok (.iconst 0, 1) := by decide +kernel
theorem dX10_least_32 : decode cX10_least 32 = .ok (.iconst 0, 1) := by decide +kernel
theorem dX10_least_33 : decode cX10_least 33 = .ok (.iload_n 2, 1) := by decide +kernel
theorem dX10_least_34 : decode cX10_least 34 = .ok (.iload_n 3, 1) := by decide +kernel
theorem dX10_least_35 : decode cX10_least 35 = .ok (.invokevirtual 245, 3) := by decide +kernel
theorem dX10_least_38 : decode cX10_least 38 = .ok (.iload_n 1, 1) := by decide +kernel
theorem dX10_least_39 : decode cX10_least 39 = .ok (.iadd, 1) := by decide +kernel
theorem dX10_least_40 : decode cX10_least 40 = .ok (.istore 4, 2) := by decide +kernel
theorem dX10_least_42 : decode cX10_least 42 = .ok (.aload_n 0, 1) := by decide +kernel
theorem dX10_least_43 : decode cX10_least 43 = .ok (.getfield 103, 3) := by decide +kernel
theorem dX10_least_46 : decode cX10_least 46 = .ok (.iload 4, 2) := by decide +kernel
theorem dX10_least_48 : decode cX10_least 48 = .ok (.iaload, 1) := by decide +kernel
theorem dX10_least_49 : decode cX10_least 49 = .ok (.bipush (-9), 2) := by decide +kernel
theorem dX10_least_51 : decode cX10_least 51 = .ok (.if_icmp .ne 8, 3) := by decide +kernel
theorem dX10_least_54 : decode cX10_least 54 = .ok (.bipush (-9), 2) := by decide +kernel
theorem dX10_least_56 : decode cX10_least 56 = .ok (.goto 10, 3) := by decide +kernel
theorem dX10_least_59 : decode cX10_least 59 = .ok (.aload_n 0, 1) := by decide +kernel
theorem dX10_least_60 : decode cX10_least 60 = .ok (.getfield 97, 3) := by decide +kernel
theorem dX10_least_63 : decode cX10_least 63 = .ok (.iload 4, 2) := by decide +kernel
theorem dX10_least_65 : decode cX10_least 65 = .ok (.iaload, 1) := by decide +kernel
theorem dX10_least_66 : decode cX10_least 66 = .ok (.ireturn, 1) := by decide +kernel
theorem dX10_parses_0 : decode cX10_parses 0 = .ok (.aload_n 0, 1) := by decide +kernel
theorem dX10_parses_1 : decode cX10_parses 1 = .ok (.invokevirtual 290, 3) := by decide +kernel
theorem dX10_parses_4 : decode cX10_parses 4 = .ok (.aload_n 0, 1) := by decide +kernel
theorem dX10_parses_5 : decode cX10_parses 5 = .ok (.getfield 93, 3) := by decide +kernel
theorem dX10_parses_8 : decode cX10_parses 8 = .ok (.aload_n 0, 1) := by decide +kernel
theorem dX10_parses_9 : decode cX10_parses 9 = .ok (.iconst 0, 1) := by decide +kernel
theorem dX10_parses_10 : decode cX10_parses 10 = .ok (.iconst 0, 1) := by decide +kernel
theorem dX10_parses_11 : decode cX10_parses 11 = .ok (.aload_n 0, 1) := by decide +kernel
theorem dX10_parses_12 : decode cX10_parses 12 = .ok (.getfield 218, 3) := by decide +kernel
theorem dX10_parses_15 : decode cX10_parses 15 = .ok (.aload_n 0, 1) := by decide +kernel
theorem dX10_parses_16 : decode cX10_parses 16 = .ok (.getfield 221, 3) := by decide +kernel
theorem dX10_parses_19 : decode cX10_parses 19 = .ok (.invokevirtual 245, 3) := by decide +kernel
theorem dX10_parses_22 : decode cX10_parses 22 = .ok (.laload, 1) := by decide +kernel
theorem dX10_parses_23 : decode cX10_parses 23 = .ok (.lreturn, 1) := by decide +kernel
theorem dX10_best_0 : decode cX10_best 0 = .ok (.aload_n 0, 1) := by decide +kernel
theorem dX10_best_1 : decode cX10_best 1 = .ok (.invokevirtual 290, 3) := by decide +kernel
theorem dX10_best_4 : decode cX10_best 4 = .ok (.aload_n 0, 1) := by decide +kernel
theorem dX10_best_5 : decode cX10_best 5 = .ok (.iconst 0, 1) := by decide +kernel
theorem dX10_best_6 : decode cX10_best 6 = .ok (.iconst 0, 1) := by decide +kernel
theorem dX10_best_7 : decode cX10_best 7 = .ok (.aload_n 0, 1) := by decide +kernel
theorem dX10_best_8 : decode cX10_best 8 = .ok (.getfield 218, 3) := by decide +kernel
theorem dX10_best_11 : decode cX10_best 11 = .ok (.aload_n 0, 1) := by decide +kernel
theorem dX10_best_12 : decode cX10_best 12 = .ok (.getfield 221, 3) := by decide +kernel
theorem dX10_best_15 : decode cX10_best 15 = .ok (.invokevirtual 245, 3) := by decide +kernel
theorem dX10_best_18 : decode cX10_best 18 = .ok (.istore_n 1, 1) := by decide +kernel
theorem dX10_best_19 : decode cX10_best 19 = .ok (.aload_n 0, 1) := by decide +kernel
theorem dX10_best_20 : decode cX10_best 20 = .ok (.getfield 103, 3) := by decide +kernel
theorem dX10_best_23 : decode cX10_best 23 = .ok (.iload_n 1, 1) := by decide +kernel
theorem dX10_best_24 : decode cX10_best 24 = .ok (.iaload, 1) := by decide +kernel
theorem dX10_best_25 : decode cX10_best 25 = .ok (.bipush (-9), 2) := by decide +kernel
theorem dX10_best_27 : decode cX10_best 27 = .ok (.if_icmp .ne 8, 3) := by decide +kernel
theorem dX10_best_30 : decode cX10_best 30 = .ok (.bipush (-9), 2) := by decide +kernel
theorem dX10_best_32 : decode cX10_best 32 = .ok (.goto 9, 3) := by decide +kernel
theorem dX10_best_35 : decode cX10_best 35 = .ok (.aload_n 0, 1) := by decide +kernel
theorem dX10_best_36 : decode cX10_best 36 = .ok (.getfield 97, 3) := by decide +kernel
theorem dX10_best_39 : decode cX10_best 39 = .ok (.iload_n 1, 1) := by decide +kernel
theorem dX10_best_40 : decode cX10_best 40 = .ok (.iaload, 1) := by decide +kernel
theorem dX10_best_41 : decode cX10_best 41 = .ok (.ireturn, 1) := by decide +kernel
theorem dX10_bestStep_0 : decode cX10_bestStep 0 = .ok (.aload_n 0, 1) := by decide +kernel
theorem dX10_bestStep_1 : decode cX10_bestStep 1 = .ok (.invokevirtual 290, 3) := by decide +kernel
theorem dX10_bestStep_4 : decode cX10_bestStep 4 = .ok (.aload_n 0, 1) := by decide +kernel
theorem dX10_bestStep_5 : decode cX10_bestStep 5 = .ok (.iconst 0, 1) := by decide +kernel
theorem dX10_bestStep_6 : decode cX10_bestStep 6 = .ok (.iconst 0, 1) := by decide +kernel
theorem dX10_bestStep_7 : decode cX10_bestStep 7 = .ok (.aload_n 0, 1) := by decide +kernel
theorem dX10_bestStep_8 : decode cX10_bestStep 8 = .ok (.getfield 218, 3) := by decide +kernel
theorem dX10_bestStep_11 : decode cX10_bestStep 11 = .ok (.aload_n 0, 1) := by decide +kernel
theorem dX10_bestStep_12 : decode cX10_bestStep 12 = .ok (.getfield 221, 3) := by decide +kernel
theorem dX10_bestStep_15 : decode cX10_bestStep 15 = .ok (.invokevirtual 245, 3) := by decide +kernel
theorem dX10_bestStep_18 : decode cX10_bestStep 18 = .ok (.istore_n 2, 1) := by decide +kernel
theorem dX10_bestStep_19 : decode cX10_bestStep 19 = .ok (.aload_n 0, 1) := by decide +kernel
theorem dX10_bestStep_20 : decode cX10_bestStep 20 = .ok (.getfield 103, 3) := by decide +kernel
theorem dX10_bestStep_23 : decode cX10_bestStep 23 = .ok (.iload_n 2, 1) := by decide +kernel
theorem dX10_bestStep_24 : decode cX10_bestStep 24 = .ok (.iaload, 1) := by decide +kernel
theorem dX10_bestStep_25 : decode cX10_bestStep 25 = .ok (.bipush (-9), 2) := by decide +kernel
theorem dX10_bestStep_27 : decode cX10_bestStep 27 = .ok (.if_icmp .eq 21, 3) := by decide +kernel
theorem dX10_bestStep_30 : decode cX10_bestStep 30 = .ok (.iload_n 1, 1) := by decide +kernel
theorem dX10_bestStep_31 : decode cX10_bestStep 31 = .ok (.i2l, 1) := by decide +kernel
theorem dX10_bestStep_32 : decode cX10_bestStep 32 = .ok (.lconst 0, 1) := by decide +kernel
theorem dX10_bestStep_33 : decode cX10_bestStep 33 = .ok (.aload_n 0, 1) := by decide +kernel
theorem dX10_bestStep_34 : decode cX10_bestStep 34 = .ok (.getfield 100, 3) := by decide +kernel
theorem dX10_bestStep_37 : decode cX10_bestStep 37 = .ok (.iload_n 2, 1) := by decide +kernel
theorem dX10_bestStep_38 : decode cX10_bestStep 38 = .ok (.iaload, 1) := by decide +kernel
theorem dX10_bestStep_39 : decode cX10_bestStep 39 = .ok (.iconst 1, 1) := by decide +kernel
theorem dX10_bestStep_40 : decode cX10_bestStep 40 = .ok (.isub, 1) := by decide +kernel
theorem dX10_bestStep_41 : decode cX10_bestStep 41 = .ok (.i2l, 1) := by decide +kernel
theorem dX10_bestStep_42 : decode cX10_bestStep 42 = .ok (.invokestatic 124, 3) := by decide +kernel
theorem dX10_bestStep_45 : decode cX10_bestStep 45 = .ok (.ifCond .ne 6, 3) := by decide +kernel
theorem dX10_bestStep_48 : decode cX10_bestStep 48 = .ok (.bipush (-9), 2) := by decide +kernel
theorem dX10_bestStep_50 : decode cX10_bestStep 50 = .ok (.ireturn, 1) := by decide +kernel
theorem dX10_bestStep_51 : decode cX10_bestStep 51 = .ok (.aload_n 0, 1) := by decide +kernel
theorem dX10_bestStep_52 : decode cX10_bestStep 52 = .ok (.iconst 0, 1) := by decide +kernel
theorem dX10_bestStep_53 : decode cX10_bestStep 53 = .ok (.putfield 190, 3) := by decide +kernel
theorem dX10_bestStep_56 : decode cX10_bestStep 56 = .ok (.aload_n 0, 1) := by decide +kernel
theorem dX10_bestStep_57 : decode cX10_bestStep 57 = .ok (.iconst 0, 1) := by decide +kernel
theorem dX10_bestStep_58 : decode cX10_bestStep 58 = .ok (.iconst 0, 1) := by decide +kernel
theorem dX10_bestStep_59 : decode cX10_bestStep 59 = .ok (.iconst 0, 1) := by decide +kernel
theorem dX10_bestStep_60 : decode cX10_bestStep 60 = .ok (.iconst 0, 1) := by decide +kernel
theorem dX10_bestStep_61 : decode cX10_bestStep 61 = .ok (.iconst 0, 1) := by decide +kernel
theorem dX10_bestStep_62 : decode cX10_bestStep 62 = .ok (.invokevirtual 194, 3) := by decide +kernel
theorem dX10_bestStep_65 : decode cX10_bestStep 65 = .ok (.aload_n 0, 1) := by decide +kernel
theorem dX10_bestStep_66 : decode cX10_bestStep 66 = .ok (.getfield 83, 3) := by decide +kernel
theorem dX10_bestStep_69 : decode cX10_bestStep 69 = .ok (.iconst 0, 1) := by decide +kernel
theorem dX10_bestStep_70 : decode cX10_bestStep 70 = .ok (.aload_n 0, 1) := by decide +kernel
theorem dX10_bestStep_71 : decode cX10_bestStep 71 = .ok (.getfield 218, 3) := by decide +kernel
theorem dX10_bestStep_74 : decode cX10_bestStep 74 = .ok (.iastore, 1) := by decide +kernel
theorem dX10_bestStep_75 : decode cX10_bestStep 75 = .ok (.aload_n 0, 1) := by decide +kernel
theorem dX10_bestStep_76 : decode cX10_bestStep 76 = .ok (.getfield 86, 3) := by decide +kernel
theorem dX10_bestStep_79 : decode cX10_bestStep 79 = .ok (.iconst 0, 1) := by decide +kernel
theorem dX10_bestStep_80 : decode cX10_bestStep 80 = .ok (.aload_n 0, 1) := by decide +kernel
theorem dX10_bestStep_81 : decode cX10_bestStep 81 = .ok (.getfield 221, 3) := by decide +kernel
theorem dX10_bestStep_84 : decode cX10_bestStep 84 = .ok (.iastore, 1) := by decide +kernel
theorem dX10_bestStep_85 : decode cX10_bestStep 85 = .ok (.aload_n 0, 1) := by decide +kernel
theorem dX10_bestStep_86 : decode cX10_bestStep 86 = .ok (.iconst 1, 1) := by decide +kernel
theorem dX10_bestStep_87 : decode cX10_bestStep 87 = .ok (.putfield 190, 3) := by decide +kernel
theorem dX10_bestStep_90 : decode cX10_bestStep 90 = .ok (.bipush (-9), 2) := by decide +kernel
theorem dX10_bestStep_92 : decode cX10_bestStep 92 = .ok (.istore_n 3, 1) := by decide +kernel
theorem dX10_bestStep_93 : decode cX10_bestStep 93 = .ok (.iconst 0, 1) := by decide +kernel
theorem dX10_bestStep_94 : decode cX10_bestStep 94 = .ok (.istore 4, 2) := by decide +kernel
theorem dX10_bestStep_96 : decode cX10_bestStep 96 = .ok (.iload 4, 2) := by decide +kernel
theorem dX10_bestStep_98 : decode cX10_bestStep 98 = .ok (.iload_n 1, 1) := by decide +kernel
theorem dX10_bestStep_99 : decode cX10_bestStep 99 = .ok (.if_icmp .gt 117, 3) := by decide +kernel
theorem dX10_bestStep_102 : decode cX10_bestStep 102 = .ok (.aload_n 0, 1) := by decide +kernel
theorem dX10_bestStep_103 : decode cX10_bestStep 103 = .ok (.dup, 1) := by decide +kernel
theorem dX10_bestStep_104 : decode cX10_bestStep 104 = .ok (.getfield 190, 3) := by decide +kernel
theorem dX10_bestStep_107 : decode cX10_bestStep 107 = .ok (.iconst 1, 1) := by decide +kernel
theorem dX10_bestStep_108 : decode cX10_bestStep 108 = .ok (.isub, 1) := by decide +kernel
theorem dX10_bestStep_109 : decode cX10_bestStep 109 = .ok (.putfield 190, 3) := by decide +kernel
theorem dX10_bestStep_112 : decode cX10_bestStep 112 = .ok (.aload_n 0, 1) := by decide +kernel
theorem dX10_bestStep_113 : decode cX10_bestStep 113 = .ok (.getfield 77, 3) := by decide +kernel
theorem dX10_bestStep_116 : decode cX10_bestStep 116 = .ok (.aload_n 0, 1) := by decide +kernel
theorem dX10_bestStep_117 : decode cX10_bestStep 117 = .ok (.getfield 190, 3) := by decide +kernel
theorem dX10_bestStep_120 : decode cX10_bestStep 120 = .ok (.iaload, 1) := by decide +kernel
theorem dX10_bestStep_121 : decode cX10_bestStep 121 = .ok (.istore 5, 2) := by decide +kernel
theorem dX10_bestStep_123 : decode cX10_bestStep 123 = .ok (.aload_n 0, 1) := by decide +kernel
theorem dX10_bestStep_124 : decode cX10_bestStep 124 = .ok (.getfield 80, 3) := by decide +kernel
theorem dX10_bestStep_127 : decode cX10_bestStep 127 = .ok (.aload_n 0, 1) := by decide +kernel
theorem dX10_bestStep_128 : decode cX10_bestStep 128 = .ok (.getfield 190, 3) := by decide +kernel
theorem dX10_bestStep_131 : decode cX10_bestStep 131 = .ok (.iaload, 1) := by decide +kernel
theorem dX10_bestStep_132 : decode cX10_bestStep 132 = .ok (.istore 6, 2) := by decide +kernel
theorem dX10_bestStep_134 : decode cX10_bestStep 134 = .ok (.aload_n 0, 1) := by decide +kernel
theorem dX10_bestStep_135 : decode cX10_bestStep 135 = .ok (.getfield 83, 3) := by decide +kernel
theorem dX10_bestStep_138 : decode cX10_bestStep 138 = .ok (.aload_n 0, 1) := by decide +kernel
theorem dX10_bestStep_139 : decode cX10_bestStep 139 = .ok (.getfield 190, 3) := by decide +kernel
theorem dX10_bestStep_142 : decode cX10_bestStep 142 = .ok (.iaload, 1) := by decide +kernel
theorem dX10_bestStep_143 : decode cX10_bestStep 143 = .ok (.istore 7, 2) := by decide +kernel
theorem dX10_bestStep_145 : decode cX10_bestStep 145 = .ok (.aload_n 0, 1) := by decide +kernel
theorem dX10_bestStep_146 : decode cX10_bestStep 146 = .ok (.getfield 86, 3) := by decide +kernel
theorem dX10_bestStep_149 : decode cX10_bestStep 149 = .ok (.aload_n 0, 1) := by decide +kernel
theorem dX10_bestStep_150 : decode cX10_bestStep 150 = .ok (.getfield 190, 3) := by decide +kernel
theorem dX10_bestStep_153 : decode cX10_bestStep 153 = .ok (.iaload, 1) := by decide +kernel
theorem dX10_bestStep_154 : decode cX10_bestStep 154 = .ok (.istore 8, 2) := by decide +kernel
theorem dX10_bestStep_156 : decode cX10_bestStep 156 = .ok (.aload_n 0, 1) := by decide +kernel
theorem dX10_bestStep_157 : decode cX10_bestStep 157 = .ok (.getfield 103, 3) := by decide +kernel
theorem dX10_bestStep_160 : decode cX10_bestStep 160 = .ok (.aload_n 0, 1) := by decide +kernel
theorem dX10_bestStep_161 : decode cX10_bestStep 161 = .ok (.iload 5, 2) := by decide +kernel
theorem dX10_bestStep_163 : decode cX10_bestStep 163 = .ok (.iload 6, 2) := by decide +kernel
theorem dX10_bestStep_165 : decode cX10_bestStep 165 = .ok (.iload 7, 2) := by decide +kernel
theorem dX10_bestStep_167 : decode cX10_bestStep 167 = .ok (.iload 8, 2) := by decide +kernel
theorem dX10_bestStep_169 : decode cX10_bestStep 169 = .ok (.invokevirtual 245, 3) := by decide +kernel
theorem dX10_bestStep_172 : decode cX10_bestStep 172 = .ok (.aload_n 0, 1) := by decide +kernel
theorem dX10_bestStep_173 : decode cX10_bestStep 173 = .ok (.getfield 68, 3) := by decide +kernel
theorem dX10_bestStep_176 : decode cX10_bestStep 176 = .ok (.aload_n 0, 1) := by decide +kernel
theorem dX10_bestStep_177 : decode cX10_bestStep 177 = .ok (.getfield 190, 3) := by decide +kernel
theorem dX10_bestStep_180 : decode cX10_bestStep 180 = .ok (.iaload, 1) := by decide +kernel
theorem dX10_bestStep_181 : decode cX10_bestStep 181 = .ok (.iadd, 1) := by decide +kernel
theorem dX10_bestStep_182 : decode cX10_bestStep 182 = .ok (.iaload, 1) := by decide +kernel
theorem dX10_bestStep_183 : decode cX10_bestStep 183 = .ok (.istore_n 3, 1) := by decide +kernel
theorem dX10_bestStep_184 : decode cX10_bestStep 184 = .ok (.aload_n 0, 1) := by decide +kernel
theorem dX10_bestStep_185 : decode cX10_bestStep 185 = .ok (.iload_n 3, 1) := by decide +kernel
theorem dX10_bestStep_186 : decode cX10_bestStep 186 = .ok (.iload 7, 2) := by decide +kernel
theorem dX10_bestStep_188 : decode cX10_bestStep 188 = .ok (.iload 8, 2) := by decide +kernel
theorem dX10_bestStep_190 : decode cX10_bestStep 190 = .ok (.invokevirtual 186, 3) := by decide +kernel
theorem dX10_bestStep_193 : decode cX10_bestStep 193 = .ok (.istore 9, 2) := by decide +kernel
theorem dX10_bestStep_195 : decode cX10_bestStep 195 = .ok (.aload_n 0, 1) := by decide +kernel
theorem dX10_bestStep_196 : decode cX10_bestStep 196 = .ok (.iload_n 3, 1) := by decide +kernel
theorem dX10_bestStep_197 : decode cX10_bestStep 197 = .ok (.iconst 0, 1) := by decide +kernel
theorem dX10_bestStep_198 : decode cX10_bestStep 198 = .ok (.iconst 0, 1) := by decide +kernel
theorem dX10_bestStep_199 : decode cX10_bestStep 199 = .ok (.iload 5, 2) := by decide +kernel
theorem dX10_bestStep_201 : decode cX10_bestStep 201 = .ok (.iload 6, 2) := by decide +kernel
theorem dX10_bestStep_203 : decode cX10_bestStep 203 = .ok (.iload 7, 2) := by decide +kernel
theorem dX10_bestStep_205 : decode cX10_bestStep 205 = .ok (.iload 8, 2) := by decide +kernel
theorem dX10_bestStep_207 : decode cX10_bestStep 207 = .ok (.invokevirtual 207, 3) := by decide +kernel
theorem dX10_bestStep_210 : decode cX10_bestStep 210 = .ok (.iinc 4 1, 3) := by decide +kernel
theorem dX10_bestStep_213 : decode cX10_bestStep 213 = .ok (.goto (-117), 3) := by decide +kernel
theorem dX10_bestStep_216 : decode cX10_bestStep 216 = .ok (.iload_n 3, 1) := by decide +kernel
theorem dX10_bestStep_217 : decode cX10_bestStep 217 = .ok (.ireturn, 1) := by decide +kernel
theorem dX10_stands_0 : decode cX10_stands 0 = .ok (.iload_n 1, 1) := by decide +kernel
theorem dX10_stands_1 : decode cX10_stands 1 = .ok (.invokestatic 135, 3) := by decide +kernel
theorem dX10_stands_4 : decode cX10_stands 4 = .ok (.ifCond .eq 11, 3) := by decide +kernel
theorem dX10_stands_7 : decode cX10_stands 7 = .ok (.aload_n 0, 1) := by decide +kernel
theorem dX10_stands_8 : decode cX10_stands 8 = .ok (.iload_n 2, 1) := by decide +kernel
theorem dX10_stands_9 : decode cX10_stands 9 = .ok (.invokevirtual 226, 3) := by decide +kernel
theorem dX10_stands_12 : decode cX10_stands 12 = .ok (.ifCond .ne 7, 3) := by decide +kernel
theorem dX10_stands_15 : decode cX10_stands 15 = .ok (.ldc2_w 283, 3) := by decide +kernel
theorem dX10_stands_18 : decode cX10_stands 18 = .ok (.lreturn, 1) := by decide +kernel
theorem dX10_stands_19 : decode cX10_stands 19 = .ok (.iload_n 3, 1) := by decide +kernel
theorem dX10_stands_20 : decode cX10_stands 20 = .ok (.i2l, 1) := by decide +kernel
theorem dX10_stands_21 : decode cX10_stands 21 = .ok (.lconst 1, 1) := by decide +kernel
theorem dX10_stands_22 : decode cX10_stands 22 = .ok (.aload_n 0, 1) := by decide +kernel
theorem dX10_stands_23 : decode cX10_stands 23 = .ok (.getfield 218, 3) := by decide +kernel
theorem dX10_stands_26 : decode cX10_stands 26 = .ok (.iload_n 2, 1) := by decide +kernel
theorem dX10_stands_27 : decode cX10_stands 27 = .ok (.bipush 9, 2) := by decide +kernel
theorem dX10_stands_29 : decode cX10_stands 29 = .ok (.irem, 1) := by decide +kernel
theorem dX10_stands_30 : decode cX10_stands 30 = .ok (.isub, 1) := by decide +kernel
theorem dX10_stands_31 : decode cX10_stands 31 = .ok (.i2l, 1) := by decide +kernel
theorem dX10_stands_32 : decode cX10_stands 32 = .ok (.invokestatic 124, 3) := by decide +kernel
theorem dX10_stands_35 : decode cX10_stands 35 = .ok (.ifCond .eq 23, 3) := by decide +kernel
theorem dX10_stands_38 : decode cX10_stands 38 = .ok (.iload 4, 2) := by decide +kernel
theorem dX10_stands_40 : decode cX10_stands 40 = .ok (.i2l, 1) := by decide +kernel
theorem dX10_stands_41 : decode cX10_stands 41 = .ok (.lconst 1, 1) := by decide +kernel
theorem dX10_stands_42 : decode cX10_stands 42 = .ok (.aload_n 0, 1) := by decide +kernel
theorem dX10_stands_43 : decode cX10_stands 43 = .ok (.getfield 221, 3) := by decide +kernel
theorem dX10_stands_46 : decode cX10_stands 46 = .ok (.iload_n 2, 1) := by decide +kernel
theorem dX10_stands_47 : decode cX10_stands 47 = .ok (.bipush 9, 2) := by decide +kernel
theorem dX10_stands_49 : decode cX10_stands 49 = .ok (.idiv, 1) := by decide +kernel
theorem dX10_stands_50 : decode cX10_stands 50 = .ok (.isub, 1) := by decide +kernel
theorem dX10_stands_51 : decode cX10_stands 51 = .ok (.i2l, 1) := by decide +kernel
theorem dX10_stands_52 : decode cX10_stands 52 = .ok (.invokestatic 124, 3) := by decide +kernel
theorem dX10_stands_55 : decode cX10_stands 55 = .ok (.ifCond .ne 7, 3) := by decide +kernel
theorem dX10_stands_58 : decode cX10_stands 58 = .ok (.ldc2_w 285, 3) := by decide +kernel
theorem dX10_stands_61 : decode cX10_stands 61 = .ok (.lreturn, 1) := by decide +kernel
theorem dX10_stands_62 : decode cX10_stands 62 = .ok (.aload_n 0, 1) := by decide +kernel
theorem dX10_stands_63 : decode cX10_stands 63 = .ok (.invokevirtual 290, 3) := by decide +kernel
theorem dX10_stands_66 : decode cX10_stands 66 = .ok (.aload_n 0, 1) := by decide +kernel
theorem dX10_stands_67 : decode cX10_stands 67 = .ok (.getfield 93, 3) := by decide +kernel
theorem dX10_stands_70 : decode cX10_stands 70 = .ok (.aload_n 0, 1) := by decide +kernel
theorem dX10_stands_71 : decode cX10_stands 71 = .ok (.iload_n 2, 1) := by decide +kernel
theorem dX10_stands_72 : decode cX10_stands 72 = .ok (.bipush 9, 2) := by decide +kernel
theorem dX10_stands_74 : decode cX10_stands 74 = .ok (.irem, 1) := by decide +kernel
theorem dX10_stands_75 : decode cX10_stands 75 = .ok (.iload_n 2, 1) := by decide +kernel
theorem dX10_stands_76 : decode cX10_stands 76 = .ok (.bipush 9, 2) := by decide +kernel
theorem dX10_stands_78 : decode cX10_stands 78 = .ok (.idiv, 1) := by decide +kernel
theorem dX10_stands_79 : decode cX10_stands 79 = .ok (.iload_n 3, 1) := by decide +kernel
theorem dX10_stands_80 : decode cX10_stands 80 = .ok (.iload 4, 2) := by decide +kernel
theorem dX10_stands_82 : decode cX10_stands 82 = .ok (.invokevirtual 245, 3) := by decide +kernel
theorem dX10_stands_85 : decode cX10_stands 85 = .ok (.iload_n 1, 1) := by decide +kernel
theorem dX10_stands_86 : decode cX10_stands 86 = .ok (.iadd, 1) := by decide +kernel
theorem dX10_stands_87 : decode cX10_stands 87 = .ok (.laload, 1) := by decide +kernel
theorem dX10_stands_88 : decode cX10_stands 88 = .ok (.lreturn, 1) := by decide +kernel
theorem dX10_count__0 : decode cX10_count_ 0 = .ok (.iload_n 1, 1) := by decide +kernel
theorem dX10_count__1 : decode cX10_count_ 1 = .ok (.tableswitch 69 0 5 #[39, 44, 49, 54, 59, 64], 39) := by decide +kernel
theorem dX10_count__40 : decode cX10_count_ 40 = .ok (.aload_n 0, 1) := by decide +kernel
theorem dX10_count__41 : decode cX10_count_ 41 = .ok (.getfield 128, 3) := by decide +kernel
theorem dX10_count__44 : decode cX10_count_ 44 = .ok (.ireturn, 1) := by decide +kernel
theorem dX10_count__45 : decode cX10_count_ 45 = .ok (.aload_n 0, 1) := by decide +kernel
theorem dX10_count__46 : decode cX10_count_ 46 = .ok (.getfield 151, 3) := by decide +kernel
theorem dX10_count__49 : decode cX10_count_ 49 = .ok (.ireturn, 1) := by decide +kernel
theorem dX10_count__50 : decode cX10_count_ 50 = .ok (.aload_n 0, 1) := by decide +kernel
theorem dX10_count__51 : decode cX10_count_ 51 = .ok (.getfield 218, 3) := by decide +kernel
theorem dX10_count__54 : decode cX10_count_ 54 = .ok (.ireturn, 1) := by decide +kernel
theorem dX10_count__55 : decode cX10_count_ 55 = .ok (.aload_n 0, 1) := by decide +kernel
theorem dX10_count__56 : decode cX10_count_ 56 = .ok (.getfield 221, 3) := by decide +kernel
theorem dX10_count__59 : decode cX10_count_ 59 = .ok (.ireturn, 1) := by decide +kernel
theorem dX10_count__60 : decode cX10_count_ 60 = .ok (.aload_n 0, 1) := by decide +kernel
theorem dX10_count__61 : decode cX10_count_ 61 = .ok (.getfield 164, 3) := by decide +kernel
theorem dX10_count__64 : decode cX10_count_ 64 = .ok (.ireturn, 1) := by decide +kernel
theorem dX10_count__65 : decode cX10_count_ 65 = .ok (.aload_n 0, 1) := by decide +kernel
theorem dX10_count__66 : decode cX10_count_ 66 = .ok (.getfield 167, 3) := by decide +kernel
theorem dX10_count__69 : decode cX10_count_ 69 = .ok (.ireturn, 1) := by decide +kernel
theorem dX10_count__70 : decode cX10_count_ 70 = .ok (.bipush (-2), 2) := by decide +kernel
theorem dX10_count__72 : decode cX10_count_ 72 = .ok (.ireturn, 1) := by decide +kernel
theorem dJ9_min_f86c9_0 : decode cJ9_min_f86c9 0 = .ok (.lload_n 0, 1) := by decide +kernel
theorem dJ9_min_f86c9_1 : decode cJ9_min_f86c9 1 = .ok (.lload_n 2, 1) := by decide +kernel
theorem dJ9_min_f86c9_2 : decode cJ9_min_f86c9 2 = .ok (.lcmp, 1) := by decide +kernel
theorem dJ9_min_f86c9_3 : decode cJ9_min_f86c9 3 = .ok (.ifCond .gt 7, 3) := by decide +kernel
theorem dJ9_min_f86c9_6 : decode cJ9_min_f86c9 6 = .ok (.lload_n 0, 1) := by decide +kernel
theorem dJ9_min_f86c9_7 : decode cJ9_min_f86c9 7 = .ok (.goto 4, 3) := by decide +kernel
theorem dJ9_min_f86c9_10 : decode cJ9_min_f86c9 10 = .ok (.lload_n 2, 1) := by decide +kernel
theorem dJ9_min_f86c9_11 : decode cJ9_min_f86c9 11 = .ok (.lreturn, 1) := by decide +kernel
theorem dJ7_rangeCheck_23922_0 : decode cJ7_rangeCheck_23922 0 = .ok (.iload_n 1, 1) := by decide +kernel
theorem dJ7_rangeCheck_23922_1 : decode cJ7_rangeCheck_23922 1 = .ok (.iload_n 2, 1) := by decide +kernel
theorem dJ7_rangeCheck_23922_2 : decode cJ7_rangeCheck_23922 2 = .ok (.if_icmp .le 44, 3) := by decide +kernel
theorem dJ7_rangeCheck_23922_5 : decode cJ7_rangeCheck_23922 5 = .ok (.new 43, 3) := by decide +kernel
theorem dJ7_rangeCheck_23922_8 : decode cJ7_rangeCheck_23922 8 = .ok (.dup, 1) := by decide +kernel
theorem dJ7_rangeCheck_23922_9 : decode cJ7_rangeCheck_23922 9 = .ok (.new 45, 3) := by decide +kernel
theorem dJ7_rangeCheck_23922_12 : decode cJ7_rangeCheck_23922 12 = .ok (.dup, 1) := by decide +kernel
theorem dJ7_rangeCheck_23922_13 : decode cJ7_rangeCheck_23922 13 = .ok (.invokespecial 47, 3) := by decide +kernel
theorem dJ7_rangeCheck_23922_16 : decode cJ7_rangeCheck_23922 16 = .ok (.ldc 48, 2) := by decide +kernel
theorem dJ7_rangeCheck_23922_18 : decode cJ7_rangeCheck_23922 18 = .ok (.invokevirtual 50, 3) := by decide +kernel
theorem dJ7_rangeCheck_23922_21 : decode cJ7_rangeCheck_23922 21 = .ok (.iload_n 1, 1) := by decide +kernel
theorem dJ7_rangeCheck_23922_22 : decode cJ7_rangeCheck_23922 22 = .ok (.invokevirtual 54, 3) := by decide +kernel
theorem dJ7_rangeCheck_23922_25 : decode cJ7_rangeCheck_23922 25 = .ok (.ldc 57, 2) := by decide +kernel
theorem dJ7_rangeCheck_23922_27 : decode cJ7_rangeCheck_23922 27 = .ok (.invokevirtual 50, 3) := by decide +kernel
theorem dJ7_rangeCheck_23922_30 : decode cJ7_rangeCheck_23922 30 = .ok (.iload_n 2, 1) := by decide +kernel
theorem dJ7_rangeCheck_23922_31 : decode cJ7_rangeCheck_23922 31 = .ok (.invokevirtual 54, 3) := by decide +kernel
theorem dJ7_rangeCheck_23922_34 : decode cJ7_rangeCheck_23922 34 = .ok (.ldc 59, 2) := by decide +kernel
theorem dJ7_rangeCheck_23922_36 : decode cJ7_rangeCheck_23922 36 = .ok (.invokevirtual 50, 3) := by decide +kernel
theorem dJ7_rangeCheck_23922_39 : decode cJ7_rangeCheck_23922 39 = .ok (.invokevirtual 61, 3) := by decide +kernel
theorem dJ7_rangeCheck_23922_42 : decode cJ7_rangeCheck_23922 42 = .ok (.invokespecial 65, 3) := by decide +kernel
theorem dJ7_rangeCheck_23922_45 : decode cJ7_rangeCheck_23922 45 = .ok (.athrow, 1) := by decide +kernel
theorem dJ7_rangeCheck_23922_46 : decode cJ7_rangeCheck_23922 46 = .ok (.iload_n 1, 1) := by decide +kernel
theorem dJ7_rangeCheck_23922_47 : decode cJ7_rangeCheck_23922 47 = .ok (.ifCond .ge 12, 3) := by decide +kernel
theorem dJ7_rangeCheck_23922_50 : decode cJ7_rangeCheck_23922 50 = .ok (.new 68, 3) := by decide +kernel
theorem dJ7_rangeCheck_23922_53 : decode cJ7_rangeCheck_23922 53 = .ok (.dup, 1) := by decide +kernel
theorem dJ7_rangeCheck_23922_54 : decode cJ7_rangeCheck_23922 54 = .ok (.iload_n 1, 1) := by decide +kernel
theorem dJ7_rangeCheck_23922_55 : decode cJ7_rangeCheck_23922 55 = .ok (.invokespecial 70, 3) := by decide +kernel
theorem dJ7_rangeCheck_23922_58 : decode cJ7_rangeCheck_23922 58 = .ok (.athrow, 1) := by decide +kernel
theorem dJ7_rangeCheck_23922_59 : decode cJ7_rangeCheck_23922 59 = .ok (.iload_n 2, 1) := by decide +kernel
theorem dJ7_rangeCheck_23922_60 : decode cJ7_rangeCheck_23922 60 = .ok (.iload_n 0, 1) := by decide +kernel
theorem dJ7_rangeCheck_23922_61 : decode cJ7_rangeCheck_23922 61 = .ok (.if_icmp .le 12, 3) := by decide +kernel
theorem dJ7_rangeCheck_23922_64 : decode cJ7_rangeCheck_23922 64 = .ok (.new 68, 3) := by decide +kernel
theorem dJ7_rangeCheck_23922_67 : decode cJ7_rangeCheck_23922 67 = .ok (.dup, 1) := by decide +kernel
theorem dJ7_rangeCheck_23922_68 : decode cJ7_rangeCheck_23922 68 = .ok (.iload_n 2, 1) := by decide +kernel
theorem dJ7_rangeCheck_23922_69 : decode cJ7_rangeCheck_23922 69 = .ok (.invokespecial 70, 3) := by decide +kernel
theorem dJ7_rangeCheck_23922_72 : decode cJ7_rangeCheck_23922 72 = .ok (.athrow, 1) := by decide +kernel
theorem dJ7_rangeCheck_23922_73 : decode cJ7_rangeCheck_23922 73 = .ok (.return_, 1) := by decide +kernel
theorem dJ7_fill_d0a16_0 : decode cJ7_fill_d0a16 0 = .ok (.iconst 0, 1) := by decide +kernel
theorem dJ7_fill_d0a16_1 : decode cJ7_fill_d0a16 1 = .ok (.istore_n 3, 1) := by decide +kernel
theorem dJ7_fill_d0a16_2 : decode cJ7_fill_d0a16 2 = .ok (.aload_n 0, 1) := by decide +kernel
theorem dJ7_fill_d0a16_3 : decode cJ7_fill_d0a16 3 = .ok (.arraylength, 1) := by decide +kernel
theorem dJ7_fill_d0a16_4 : decode cJ7_fill_d0a16 4 = .ok (.istore 4, 2) := by decide +kernel
theorem dJ7_fill_d0a16_6 : decode cJ7_fill_d0a16 6 = .ok (.iload_n 3, 1) := by decide +kernel
theorem dJ7_fill_d0a16_7 : decode cJ7_fill_d0a16 7 = .ok (.iload 4, 2) := by decide +kernel
theorem dJ7_fill_d0a16_9 : decode cJ7_fill_d0a16 9 = .ok (.if_icmp .ge 13, 3) := by decide +kernel
theorem dJ7_fill_d0a16_12 : decode cJ7_fill_d0a16 12 = .ok (.aload_n 0, 1) := by decide +kernel
theorem dJ7_fill_d0a16_13 : decode cJ7_fill_d0a16 13 = .ok (.iload_n 3, 1) := by decide +kernel
theorem dJ7_fill_d0a16_14 : decode cJ7_fill_d0a16 14 = .ok (.lload_n 1, 1) := by decide +kernel
theorem dJ7_fill_d0a16_15 : decode cJ7_fill_d0a16 15 = .ok (.lastore, 1) := by decide +kernel
theorem dJ7_fill_d0a16_16 : decode cJ7_fill_d0a16 16 = .ok (.iinc 3 1, 3) := by decide +kernel
theorem dJ7_fill_d0a16_19 : decode cJ7_fill_d0a16 19 = .ok (.goto (-13), 3) := by decide +kernel
theorem dJ7_fill_d0a16_22 : decode cJ7_fill_d0a16 22 = .ok (.return_, 1) := by decide +kernel
theorem dJ7_fill_53178_0 : decode cJ7_fill_53178 0 = .ok (.iconst 0, 1) := by decide +kernel
theorem dJ7_fill_53178_1 : decode cJ7_fill_53178 1 = .ok (.istore_n 2, 1) := by decide +kernel
theorem dJ7_fill_53178_2 : decode cJ7_fill_53178 2 = .ok (.aload_n 0, 1) := by decide +kernel
theorem dJ7_fill_53178_3 : decode cJ7_fill_53178 3 = .ok (.arraylength, 1) := by decide +kernel
theorem dJ7_fill_53178_4 : decode cJ7_fill_53178 4 = .ok (.istore_n 3, 1) := by decide +kernel
theorem dJ7_fill_53178_5 : decode cJ7_fill_53178 5 = .ok (.iload_n 2, 1) := by decide +kernel
theorem dJ7_fill_53178_6 : decode cJ7_fill_53178 6 = .ok (.iload_n 3, 1) := by decide +kernel
theorem dJ7_fill_53178_7 : decode cJ7_fill_53178 7 = .ok (.if_icmp .ge 13, 3) := by decide +kernel
theorem dJ7_fill_53178_10 : decode cJ7_fill_53178 10 = .ok (.aload_n 0, 1) := by decide +kernel
theorem dJ7_fill_53178_11 : decode cJ7_fill_53178 11 = .ok (.iload_n 2, 1) := by decide +kernel
theorem dJ7_fill_53178_12 : decode cJ7_fill_53178 12 = .ok (.iload_n 1, 1) := by decide +kernel
theorem dJ7_fill_53178_13 : decode cJ7_fill_53178 13 = .ok (.iastore, 1) := by decide +kernel
theorem dJ7_fill_53178_14 : decode cJ7_fill_53178 14 = .ok (.iinc 2 1, 3) := by decide +kernel
theorem dJ7_fill_53178_17 : decode cJ7_fill_53178 17 = .ok (.goto (-12), 3) := by decide +kernel
theorem dJ7_fill_53178_20 : decode cJ7_fill_53178 20 = .ok (.return_, 1) := by decide +kernel
theorem dJ7_fill_031fb_0 : decode cJ7_fill_031fb 0 = .ok (.iconst 0, 1) := by decide +kernel
theorem dJ7_fill_031fb_1 : decode cJ7_fill_031fb 1 = .ok (.istore_n 2, 1) := by decide +kernel
theorem dJ7_fill_031fb_2 : decode cJ7_fill_031fb 2 = .ok (.aload_n 0, 1) := by decide +kernel
theorem dJ7_fill_031fb_3 : decode cJ7_fill_031fb 3 = .ok (.arraylength, 1) := by decide +kernel
theorem dJ7_fill_031fb_4 : decode cJ7_fill_031fb 4 = .ok (.istore_n 3, 1) := by decide +kernel
theorem dJ7_fill_031fb_5 : decode cJ7_fill_031fb 5 = .ok (.iload_n 2, 1) := by decide +kernel
theorem dJ7_fill_031fb_6 : decode cJ7_fill_031fb 6 = .ok (.iload_n 3, 1) := by decide +kernel
theorem dJ7_fill_031fb_7 : decode cJ7_fill_031fb 7 = .ok (.if_icmp .ge 13, 3) := by decide +kernel
theorem dJ7_fill_031fb_10 : decode cJ7_fill_031fb 10 = .ok (.aload_n 0, 1) := by decide +kernel
theorem dJ7_fill_031fb_11 : decode cJ7_fill_031fb 11 = .ok (.iload_n 2, 1) := by decide +kernel
theorem dJ7_fill_031fb_12 : decode cJ7_fill_031fb 12 = .ok (.iload_n 1, 1) := by decide +kernel
theorem dJ7_fill_031fb_13 : decode cJ7_fill_031fb 13 = .ok (.bastore, 1) := by decide +kernel
theorem dJ7_fill_031fb_14 : decode cJ7_fill_031fb 14 = .ok (.iinc 2 1, 3) := by decide +kernel
theorem dJ7_fill_031fb_17 : decode cJ7_fill_031fb 17 = .ok (.goto (-12), 3) := by decide +kernel
theorem dJ7_fill_031fb_20 : decode cJ7_fill_031fb 20 = .ok (.return_, 1) := by decide +kernel
theorem dJ7_fill_eb02e_0 : decode cJ7_fill_eb02e 0 = .ok (.aload_n 0, 1) := by decide +kernel
theorem dJ7_fill_eb02e_1 : decode cJ7_fill_eb02e 1 = .ok (.arraylength, 1) := by decide +kernel
theorem dJ7_fill_eb02e_2 : decode cJ7_fill_eb02e 2 = .ok (.iload_n 1, 1) := by decide +kernel
theorem dJ7_fill_eb02e_3 : decode cJ7_fill_eb02e 3 = .ok (.iload_n 2, 1) := by decide +kernel
theorem dJ7_fill_eb02e_4 : decode cJ7_fill_eb02e 4 = .ok (.invokestatic 13, 3) := by decide +kernel
theorem dJ7_fill_eb02e_7 : decode cJ7_fill_eb02e 7 = .ok (.iload_n 1, 1) := by decide +kernel
theorem dJ7_fill_eb02e_8 : decode cJ7_fill_eb02e 8 = .ok (.istore 4, 2) := by decide +kernel
theorem dJ7_fill_eb02e_10 : decode cJ7_fill_eb02e 10 = .ok (.iload 4, 2) := by decide +kernel
theorem dJ7_fill_eb02e_12 : decode cJ7_fill_eb02e 12 = .ok (.iload_n 2, 1) := by decide +kernel
theorem dJ7_fill_eb02e_13 : decode cJ7_fill_eb02e 13 = .ok (.if_icmp .ge 14, 3) := by decide +kernel
theorem dJ7_fill_eb02e_16 : decode cJ7_fill_eb02e 16 = .ok (.aload_n 0, 1) := by decide +kernel
theorem dJ7_fill_eb02e_17 : decode cJ7_fill_eb02e 17 = .ok (.iload 4, 2) := by decide +kernel
theorem dJ7_fill_eb02e_19 : decode cJ7_fill_eb02e 19 = .ok (.iload_n 3, 1) := by decide +kernel
theorem dJ7_fill_eb02e_20 : decode cJ7_fill_eb02e 20 = .ok (.bastore, 1) := by decide +kernel
theorem dJ7_fill_eb02e_21 : decode cJ7_fill_eb02e 21 = .ok (.iinc 4 1, 3) := by decide +kernel
theorem dJ7_fill_eb02e_24 : decode cJ7_fill_eb02e 24 = .ok (.goto (-14), 3) := by decide +kernel
theorem dJ7_fill_eb02e_27 : decode cJ7_fill_eb02e 27 = .ok (.return_, 1) := by decide +kernel
theorem dL_law_0 : decode cL_law 0 = .ok (.new 7, 3) := by decide +kernel
theorem dL_law_3 : decode cL_law 3 = .ok (.dup, 1) := by decide +kernel
theorem dL_law_4 : decode cL_law 4 = .ok (.invokespecial 9, 3) := by decide +kernel
theorem dL_law_7 : decode cL_law 7 = .ok (.astore_n 1, 1) := by decide +kernel
theorem dL_law_8 : decode cL_law 8 = .ok (.new 10, 3) := by decide +kernel
theorem dL_law_11 : decode cL_law 11 = .ok (.dup, 1) := by decide +kernel
theorem dL_law_12 : decode cL_law 12 = .ok (.invokespecial 12, 3) := by decide +kernel
theorem dL_law_15 : decode cL_law 15 = .ok (.astore_n 2, 1) := by decide +kernel
theorem dL_law_16 : decode cL_law 16 = .ok (.iconst 0, 1) := by decide +kernel
theorem dL_law_17 : decode cL_law 17 = .ok (.istore_n 3, 1) := by decide +kernel
theorem dL_law_18 : decode cL_law 18 = .ok (.iload_n 3, 1) := by decide +kernel
theorem dL_law_19 : decode cL_law 19 = .ok (.aload_n 0, 1) := by decide +kernel
theorem dL_law_20 : decode cL_law 20 = .ok (.arraylength, 1) := by decide +kernel
theorem dL_law_21 : decode cL_law 21 = .ok (.bipush 6, 2) := by decide +kernel
theorem dL_law_23 : decode cL_law 23 = .ok (.isub, 1) := by decide +kernel
theorem dL_law_24 : decode cL_law 24 = .ok (.if_icmp .gt 1021, 3) := by decide +kernel
theorem dL_law_27 : decode cL_law 27 = .ok (.aload_n 0, 1) := by decide +kernel
theorem dL_law_28 : decode cL_law 28 = .ok (.iload_n 3, 1) := by decide +kernel
theorem dL_law_29 : decode cL_law 29 = .ok (.iaload, 1) := by decide +kernel
theorem dL_law_30 : decode cL_law 30 = .ok (.bipush 31, 2) := by decide +kernel
theorem dL_law_32 : decode cL_law 32 = .ok (.iand, 1) := by decide +kernel
theorem dL_law_33 : decode cL_law 33 = .ok (.tableswitch 1006 0 23 #[111, 154, 213, 272, 351, 420, 433, 466, 509, 588, 631, 664, 687, 700, 713, 726, 770, 813, 846, 879, 893, 906, 929, 983], 111) := by decide +kernel
theorem dL_law_144 : decode cL_law 144 = .ok (.aload_n 1, 1) := by decide +kernel
theorem dL_law_145 : decode cL_law 145 = .ok (.aload_n 0, 1) := by decide +kernel
theorem dL_law_146 : decode cL_law 146 = .ok (.iload_n 3, 1) := by decide +kernel
theorem dL_law_147 : decode cL_law 147 = .ok (.iconst 1, 1) := by decide +kernel
theorem dL_law_148 : decode cL_law 148 = .ok (.iadd, 1) := by decide +kernel
theorem dL_law_149 : decode cL_law 149 = .ok (.iaload, 1) := by decide +kernel
theorem dL_law_150 : decode cL_law 150 = .ok (.aload_n 0, 1) := by decide +kernel
theorem dL_law_151 : decode cL_law 151 = .ok (.iload_n 3, 1) := by decide +kernel
theorem dL_law_152 : decode cL_law 152 = .ok (.iconst 2, 1) := by decide +kernel
theorem dL_law_153 : decode cL_law 153 = .ok (.iadd, 1) := by decide +kernel
theorem dL_law_154 : decode cL_law 154 = .ok (.iaload, 1) := by decide +kernel
theorem dL_law_155 : decode cL_law 155 = .ok (.aload_n 0, 1) := by decide +kernel
theorem dL_law_156 : decode cL_law 156 = .ok (.iload_n 3, 1) := by decide +kernel
theorem dL_law_157 : decode cL_law 157 = .ok (.iconst 3, 1) := by decide +kernel
theorem dL_law_158 : decode cL_law 158 = .ok (.iadd, 1) := by decide +kernel
theorem dL_law_159 : decode cL_law 159 = .ok (.iaload, 1) := by decide +kernel
theorem dL_law_160 : decode cL_law 160 = .ok (.invokevirtual 13, 3) := by decide +kernel
theorem dL_law_163 : decode cL_law 163 = .ok (.aload_n 2, 1) := by decide +kernel
theorem dL_law_164 : decode cL_law 164 = .ok (.aload_n 0, 1) := by decide +kernel
theorem dL_law_165 : decode cL_law 165 = .ok (.iload_n 3, 1) := by decide +kernel
theorem dL_law_166 : decode cL_law 166 = .ok (.iconst 1, 1) := by decide +kernel
theorem dL_law_167 : decode cL_law 167 = .ok (.iadd, 1) := by decide +kernel
theorem dL_law_168 : decode cL_law 168 = .ok (.iaload, 1) := by decide +kernel
theorem dL_law_169 : decode cL_law 169 = .ok (.aload_n 0, 1) := by decide +kernel
theorem dL_law_170 : decode cL_law 170 = .ok (.iload_n 3, 1) := by decide +kernel
theorem dL_law_171 : decode cL_law 171 = .ok (.iconst 2, 1) := by decide +kernel
theorem dL_law_172 : decode cL_law 172 = .ok (.iadd, 1) := by decide +kernel
theorem dL_law_173 : decode cL_law 173 = .ok (.iaload, 1) := by decide +kernel
theorem dL_law_174 : decode cL_law 174 = .ok (.aload_n 0, 1) := by decide +kernel
theorem dL_law_175 : decode cL_law 175 = .ok (.iload_n 3, 1) := by decide +kernel
theorem dL_law_176 : decode cL_law 176 = .ok (.iconst 3, 1) := by decide +kernel
theorem dL_law_177 : decode cL_law 177 = .ok (.iadd, 1) := by decide +kernel
theorem dL_law_178 : decode cL_law 178 = .ok (.iaload, 1) := by decide +kernel
theorem dL_law_179 : decode cL_law 179 = .ok (.invokevirtual 17, 3) := by decide +kernel
theorem dL_law_182 : decode cL_law 182 = .ok (.if_icmp .eq 857, 3) := by decide +kernel
theorem dL_law_185 : decode cL_law 185 = .ok (.iconst 0, 1) := by decide +kernel
theorem dL_law_186 : decode cL_law 186 = .ok (.ireturn, 1) := by decide +kernel
theorem dL_law_187 : decode cL_law 187 = .ok (.aload_n 1, 1) := by decide +kernel
theorem dL_law_188 : decode cL_law 188 = .ok (.aload_n 0, 1) := by decide +kernel
theorem dL_law_189 : decode cL_law 189 = .ok (.iload_n 3, 1) := by decide +kernel
theorem dL_law_190 : decode cL_law 190 = .ok (.iconst 1, 1) := by decide +kernel
theorem dL_law_191 : decode cL_law 191 = .ok (.iadd, 1) := by decide +kernel
theorem dL_law_192 : decode cL_law 192 = .ok (.iaload, 1) := by decide +kernel
theorem dL_law_193 : decode cL_law 193 = .ok (.aload_n 0, 1) := by decide +kernel
theorem dL_law_194 : decode cL_law 194 = .ok (.iload_n 3, 1) := by decide +kernel
theorem dL_law_195 : decode cL_law 195 = .ok (.iconst 2, 1) := by decide +kernel
theorem dL_law_196 : decode cL_law 196 = .ok (.iadd, 1) := by decide +kernel
theorem dL_law_197 : decode cL_law 197 = .ok (.iaload, 1) := by decide +kernel
theorem dL_law_198 : decode cL_law 198 = .ok (.aload_n 0, 1) := by decide +kernel
theorem dL_law_199 : decode cL_law 199 = .ok (.iload_n 3, 1) := by decide +kernel
theorem dL_law_200 : decode cL_law 200 = .ok (.iconst 3, 1) := by decide +kernel
theorem dL_law_201 : decode cL_law 201 = .ok (.iadd, 1) := by decide +kernel
theorem dL_law_202 : decode cL_law 202 = .ok (.iaload, 1) := by decide +kernel
theorem dL_law_203 : decode cL_law 203 = .ok (.ifCond .eq 7, 3) := by decide +kernel
theorem dL_law_206 : decode cL_law 206 = .ok (.iconst 1, 1) := by decide +kernel
theorem dL_law_207 : decode cL_law 207 = .ok (.goto 4, 3) := by decide +kernel
theorem dL_law_210 : decode cL_law 210 = .ok (.iconst 0, 1) := by decide +kernel
theorem dL_law_211 : decode cL_law 211 = .ok (.invokevirtual 18, 3) := by decide +kernel
theorem dL_law_214 : decode cL_law 214 = .ok (.aload_n 2, 1) := by decide +kernel
theorem dL_law_215 : decode cL_law 215 = .ok (.aload_n 0, 1) := by decide +kernel
theorem dL_law_216 : decode cL_law 216 = .ok (.iload_n 3, 1) := by decide +kernel
theorem dL_law_217 : decode cL_law 217 = .ok (.iconst 1, 1) := by decide +kernel
theorem dL_law_218 : decode cL_law 218 = .ok (.iadd, 1) := by decide +kernel
theorem dL_law_219 : decode cL_law 219 = .ok (.iaload, 1) := by decide +kernel
theorem dL_law_220 : decode cL_law 220 = .ok (.aload_n 0, 1) := by decide +kernel
theorem dL_law_221 : decode cL_law 221 = .ok (.iload_n 3, 1) := by decide +kernel
theorem dL_law_222 : decode cL_law 222 = .ok (.iconst 2, 1) := by decide +kernel
theorem dL_law_223 : decode cL_law 223 = .ok (.iadd, 1) := by decide +kernel
theorem dL_law_224 : decode cL_law 224 = .ok (.iaload, 1) := by decide +kernel
theorem dL_law_225 : decode cL_law 225 = .ok (.aload_n 0, 1) := by decide +kernel
theorem dL_law_226 : decode cL_law 226 = .ok (.iload_n 3, 1) := by decide +kernel
theorem dL_law_227 : decode cL_law 227 = .ok (.iconst 3, 1) := by decide +kernel
theorem dL_law_228 : decode cL_law 228 = .ok (.iadd, 1) := by decide +kernel
theorem dL_law_229 : decode cL_law 229 = .ok (.iaload, 1) := by decide +kernel
theorem dL_law_230 : decode cL_law 230 = .ok (.ifCond .eq 7, 3) := by decide +kernel
theorem dL_law_233 : decode cL_law 233 = .ok (.iconst 1, 1) := by decide +kernel
theorem dL_law_234 : decode cL_law 234 = .ok (.goto 4, 3) := by decide +kernel
theorem dL_law_237 : decode cL_law 237 = .ok (.iconst 0, 1) := by decide +kernel
theorem dL_law_238 : decode cL_law 238 = .ok (.invokevirtual 22, 3) := by decide +kernel
theorem dL_law_241 : decode cL_law 241 = .ok (.if_icmp .eq 798, 3) := by decide +kernel
theorem dL_law_244 : decode cL_law 244 = .ok (.iconst 0, 1) := by decide +kernel
theorem dL_law_245 : decode cL_law 245 = .ok (.ireturn, 1) := by decide +kernel
theorem dL_law_246 : decode cL_law 246 = .ok (.aload_n 1, 1) := by decide +kernel
theorem dL_law_247 : decode cL_law 247 = .ok (.aload_n 0, 1) := by decide +kernel
theorem dL_law_248 : decode cL_law 248 = .ok (.iload_n 3, 1) := by decide +kernel
theorem dL_law_249 : decode cL_law 249 = .ok (.iconst 1, 1) := by decide +kernel
theorem dL_law_250 : decode cL_law 250 = .ok (.iadd, 1) := by decide +kernel
theorem dL_law_251 : decode cL_law 251 = .ok (.iaload, 1) := by decide +kernel
theorem dL_law_252 : decode cL_law 252 = .ok (.aload_n 0, 1) := by decide +kernel
theorem dL_law_253 : decode cL_law 253 = .ok (.iload_n 3, 1) := by decide +kernel
theorem dL_law_254 : decode cL_law 254 = .ok (.iconst 2, 1) := by decide +kernel
theorem dL_law_255 : decode cL_law 255 = .ok (.iadd, 1) := by decide +kernel
theorem dL_law_256 : decode cL_law 256 = .ok (.iaload, 1) := by decide +kernel
theorem dL_law_257 : decode cL_law 257 = .ok (.ifCond .eq 7, 3) := by decide +kernel
theorem dL_law_260 : decode cL_law 260 = .ok (.iconst 1, 1) := by decide +kernel
theorem dL_law_261 : decode cL_law 261 = .ok (.goto 4, 3) := by decide +kernel
theorem dL_law_264 : decode cL_law 264 = .ok (.iconst 0, 1) := by decide +kernel
theorem dL_law_265 : decode cL_law 265 = .ok (.aload_n 0, 1) := by decide +kernel
theorem dL_law_266 : decode cL_law 266 = .ok (.iload_n 3, 1) := by decide +kernel
theorem dL_law_267 : decode cL_law 267 = .ok (.iconst 3, 1) := by decide +kernel
theorem dL_law_268 : decode cL_law 268 = .ok (.iadd, 1) := by decide +kernel
theorem dL_law_269 : decode cL_law 269 = .ok (.iaload, 1) := by decide +kernel
theorem dL_law_270 : decode cL_law 270 = .ok (.invokevirtual 23, 3) := by decide +kernel
theorem dL_law_273 : decode cL_law 273 = .ok (.aload_n 2, 1) := by decide +kernel
theorem dL_law_274 : decode cL_law 274 = .ok (.aload_n 0, 1) := by decide +kernel
theorem dL_law_275 : decode cL_law 275 = .ok (.iload_n 3, 1) := by decide +kernel
theorem dL_law_276 : decode cL_law 276 = .ok (.iconst 1, 1) := by decide +kernel
theorem dL_law_277 : decode cL_law 277 = .ok (.iadd, 1) := by decide +kernel
theorem dL_law_278 : decode cL_law 278 = .ok (.iaload, 1) := by decide +kernel
theorem dL_law_279 : decode cL_law 279 = .ok (.aload_n 0, 1) := by decide +kernel
theorem dL_law_280 : decode cL_law 280 = .ok (.iload_n 3, 1) := by decide +kernel
theorem dL_law_281 : decode cL_law 281 = .ok (.iconst 2, 1) := by decide +kernel
theorem dL_law_282 : decode cL_law 282 = .ok (.iadd, 1) := by decide +kernel
theorem dL_law_283 : decode cL_law 283 = .ok (.iaload, 1) := by decide +kernel
theorem dL_law_284 : decode cL_law 284 = .ok (.ifCond .eq 7, 3) := by decide +kernel
theorem dL_law_287 : decode cL_law 287 = .ok (.iconst 1, 1) := by decide +kernel
theorem dL_law_288 : decode cL_law 288 = .ok (.goto 4, 3) := by decide +kernel
theorem dL_law_291 : decode cL_law 291 = .ok (.iconst 0, 1) := by decide +kernel
theorem dL_law_292 : decode cL_law 292 = .ok (.aload_n 0, 1) := by decide +kernel
theorem dL_law_293 : decode cL_law 293 = .ok (.iload_n 3, 1) := by decide +kernel
theorem dL_law_294 : decode cL_law 294 = .ok (.iconst 3, 1) := by decide +kernel
theorem dL_law_295 : decode cL_law 295 = .ok (.iadd, 1) := by decide +kernel
theorem dL_law_296 : decode cL_law 296 = .ok (.iaload, 1) := by decide +kernel
theorem dL_law_297 : decode cL_law 297 = .ok (.invokevirtual 27, 3) := by decide +kernel
theorem dL_law_300 : decode cL_law 300 = .ok (.if_icmp .eq 739, 3) := by decide +kernel
theorem dL_law_303 : decode cL_law 303 = .ok (.iconst 0, 1) := by decide +kernel
theorem dL_law_304 : decode cL_law 304 = .ok (.ireturn, 1) := by decide +kernel
theorem dL_law_305 : decode cL_law 305 = .ok (.aload_n 1, 1) := by decide +kernel
theorem dL_law_306 : decode cL_law 306 = .ok (.aload_n 0, 1) := by decide +kernel
theorem dL_law_307 : decode cL_law 307 = .ok (.iload_n 3, 1) := by decide +kernel
theorem dL_law_308 : decode cL_law 308 = .ok (.iconst 1, 1) := by decide +kernel
theorem dL_law_309 : decode cL_law 309 = .ok (.iadd, 1) := by decide +kernel
theorem dL_law_310 : decode cL_law 310 = .ok (.iaload, 1) := by decide +kernel
theorem dL_law_311 : decode cL_law 311 = .ok (.aload_n 0, 1) := by decide +kernel
theorem dL_law_312 : decode cL_law 312 = .ok (.iload_n 3, 1) := by decide +kernel
theorem dL_law_313 : decode cL_law 313 = .ok (.iconst 2, 1) := by decide +kernel
theorem dL_law_314 : decode cL_law 314 = .ok (.iadd, 1) := by decide +kernel
theorem dL_law_315 : decode cL_law 315 = .ok (.iaload, 1) := by decide +kernel
theorem dL_law_316 : decode cL_law 316 = .ok (.aload_n 0, 1) := by decide +kernel
theorem dL_law_317 : decode cL_law 317 = .ok (.iload_n 3, 1) := by decide +kernel
theorem dL_law_318 : decode cL_law 318 = .ok (.iconst 3, 1) := by decide +kernel
theorem dL_law_319 : decode cL_law 319 = .ok (.iadd, 1) := by decide +kernel
theorem dL_law_320 : decode cL_law 320 = .ok (.iaload, 1) := by decide +kernel
theorem dL_law_321 : decode cL_law 321 = .ok (.aload_n 0, 1) := by decide +kernel
theorem dL_law_322 : decode cL_law 322 = .ok (.iload_n 3, 1) := by decide +kernel
theorem dL_law_323 : decode cL_law 323 = .ok (.iconst 4, 1) := by decide +kernel
theorem dL_law_324 : decode cL_law 324 = .ok (.iadd, 1) := by decide +kernel
theorem dL_law_325 : decode cL_law 325 = .ok (.iaload, 1) := by decide +kernel
theorem dL_law_326 : decode cL_law 326 = .ok (.ifCond .eq 7, 3) := by decide +kernel
theorem dL_law_329 : decode cL_law 329 = .ok (.iconst 1, 1) := by decide +kernel
theorem dL_law_330 : decode cL_law 330 = .ok (.goto 4, 3) := by decide +kernel
theorem dL_law_333 : decode cL_law 333 = .ok (.iconst 0, 1) := by decide +kernel
theorem dL_law_334 : decode cL_law 334 = .ok (.aload_n 0, 1) := by decide +kernel
theorem dL_law_335 : decode cL_law 335 = .ok (.iload_n 3, 1) := by decide +kernel
theorem dL_law_336 : decode cL_law 336 = .ok (.iconst 5, 1) := by decide +kernel
theorem dL_law_337 : decode cL_law 337 = .ok (.iadd, 1) := by decide +kernel
theorem dL_law_338 : decode cL_law 338 = .ok (.iaload, 1) := by decide +kernel
theorem dL_law_339 : decode cL_law 339 = .ok (.invokevirtual 28, 3) := by decide +kernel
theorem dL_law_342 : decode cL_law 342 = .ok (.aload_n 2, 1) := by decide +kernel
theorem dL_law_343 : decode cL_law 343 = .ok (.aload_n 0, 1) := by decide +kernel
theorem dL_law_344 : decode cL_law 344 = .ok (.iload_n 3, 1) := by decide +kernel
theorem dL_law_345 : decode cL_law 345 = .ok (.iconst 1, 1) := by decide +kernel
theorem dL_law_346 : decode cL_law 346 = .ok (.iadd, 1) := by decide +kernel
theorem dL_law_347 : decode cL_law 347 = .ok (.iaload, 1) := by decide +kernel
theorem dL_law_348 : decode cL_law 348 = .ok (.aload_n 0, 1) := by decide +kernel
theorem dL_law_349 : decode cL_law 349 = .ok (.iload_n 3, 1) := by decide +kernel
theorem dL_law_350 : decode cL_law 350 = .ok (.iconst 2, 1) := by decide +kernel
theorem dL_law_351 : decode cL_law 351 = .ok (.iadd, 1) := by decide +kernel
theorem dL_law_352 : decode cL_law 352 = .ok (.iaload, 1) := by decide +kernel
theorem dL_law_353 : decode cL_law 353 = .ok (.aload_n 0, 1) := by decide +kernel
theorem dL_law_354 : decode cL_law 354 = .ok (.iload_n 3, 1) := by decide +kernel
theorem dL_law_355 : decode cL_law 355 = .ok (.iconst 3, 1) := by decide +kernel
theorem dL_law_356 : decode cL_law 356 = .ok (.iadd, 1) := by decide +kernel
theorem dL_law_357 : decode cL_law 357 = .ok (.iaload, 1) := by decide +kernel
theorem dL_law_358 : decode cL_law 358 = .ok (.aload_n 0, 1) := by decide +kernel
theorem dL_law_359 : decode cL_law 359 = .ok (.iload_n 3, 1) := by decide +kernel
theorem dL_law_360 : decode cL_law 360 = .ok (.iconst 4, 1) := by decide +kernel
theorem dL_law_361 : decode cL_law 361 = .ok (.iadd, 1) := by decide +kernel
theorem dL_law_362 : decode cL_law 362 = .ok (.iaload, 1) := by decide +kernel
theorem dL_law_363 : decode cL_law 363 = .ok (.ifCond .eq 7, 3) := by decide +kernel
theorem dL_law_366 : decode cL_law 366 = .ok (.iconst 1, 1) := by decide +kernel
theorem dL_law_367 : decode cL_law 367 = .ok (.goto 4, 3) := by decide +kernel
theorem dL_law_370 : decode cL_law 370 = .ok (.iconst 0, 1) := by decide +kernel
theorem dL_law_371 : decode cL_law 371 = .ok (.aload_n 0, 1) := by decide +kernel
theorem dL_law_372 : decode cL_law 372 = .ok (.iload_n 3, 1) := by decide +kernel
theorem dL_law_373 : decode cL_law 373 = .ok (.iconst 5, 1) := by decide +kernel
theorem dL_law_374 : decode cL_law 374 = .ok (.iadd, 1) := by decide +kernel
theorem dL_law_375 : decode cL_law 375 = .ok (.iaload, 1) := by decide +kernel
theorem dL_law_376 : decode cL_law 376 = .ok (.invokevirtual 32, 3) := by decide +kernel
theorem dL_law_379 : decode cL_law 379 = .ok (.if_icmp .eq 660, 3) := by decide +kernel
theorem dL_law_382 : decode cL_law 382 = .ok (.iconst 0, 1) := by decide +kernel
theorem dL_law_383 : decode cL_law 383 = .ok (.ireturn, 1) := by decide +kernel
theorem dL_law_384 : decode cL_law 384 = .ok (.aload_n 1, 1) := by decide +kernel
theorem dL_law_385 : decode cL_law 385 = .ok (.aload_n 0, 1) := by decide +kernel
theorem dL_law_386 : decode cL_law 386 = .ok (.iload_n 3, 1) := by decide +kernel
theorem dL_law_387 : decode cL_law 387 = .ok (.iconst 1, 1) := by decide +kernel
theorem dL_law_388 : decode cL_law 388 = .ok (.iadd, 1) := by decide +kernel
theorem dL_law_389 : decode cL_law 389 = .ok (.iaload, 1) := by decide +kernel
theorem dL_law_390 : decode cL_law 390 = .ok (.aload_n 0, 1) := by decide +kernel
theorem dL_law_391 : decode cL_law 391 = .ok (.iload_n 3, 1) := by decide +kernel
theorem dL_law_392 : decode cL_law 392 = .ok (.iconst 2, 1) := by decide +kernel
theorem dL_law_393 : decode cL_law 393 = .ok (.iadd, 1) := by decide +kernel
theorem dL_law_394 : decode cL_law 394 = .ok (.iaload, 1) := by decide +kernel
theorem dL_law_395 : decode cL_law 395 = .ok (.ifCond .eq 7, 3) := by decide +kernel
theorem dL_law_398 : decode cL_law 398 = .ok (.iconst 1, 1) := by decide +kernel
theorem dL_law_399 : decode cL_law 399 = .ok (.goto 4, 3) := by decide +kernel
theorem dL_law_402 : decode cL_law 402 = .ok (.iconst 0, 1) := by decide +kernel
theorem dL_law_403 : decode cL_law 403 = .ok (.aload_n 0, 1) := by decide +kernel
theorem dL_law_404 : decode cL_law 404 = .ok (.iload_n 3, 1) := by decide +kernel
theorem dL_law_405 : decode cL_law 405 = .ok (.iconst 3, 1) := by decide +kernel
theorem dL_law_406 : decode cL_law 406 = .ok (.iadd, 1) := by decide +kernel
theorem dL_law_407 : decode cL_law 407 = .ok (.iaload, 1) := by decide +kernel
theorem dL_law_408 : decode cL_law 408 = .ok (.aload_n 0, 1) := by decide +kernel
theorem dL_law_409 : decode cL_law 409 = .ok (.iload_n 3, 1) := by decide +kernel
theorem dL_law_410 : decode cL_law 410 = .ok (.iconst 4, 1) := by decide +kernel
theorem dL_law_411 : decode cL_law 411 = .ok (.iadd, 1) := by decide +kernel
theorem dL_law_412 : decode cL_law 412 = .ok (.iaload, 1) := by decide +kernel
theorem dL_law_413 : decode cL_law 413 = .ok (.invokevirtual 33, 3) := by decide +kernel
theorem dL_law_416 : decode cL_law 416 = .ok (.aload_n 2, 1) := by decide +kernel
theorem dL_law_417 : decode cL_law 417 = .ok (.aload_n 0, 1) := by decide +kernel
theorem dL_law_418 : decode cL_law 418 = .ok (.iload_n 3, 1) := by decide +kernel
theorem dL_law_419 : decode cL_law 419 = .ok (.iconst 1, 1) := by decide +kernel
theorem dL_law_420 : decode cL_law 420 = .ok (.iadd, 1) := by decide +kernel
theorem dL_law_421 : decode cL_law 421 = .ok (.iaload, 1) := by decide +kernel
theorem dL_law_422 : decode cL_law 422 = .ok (.aload_n 0, 1) := by decide +kernel
theorem dL_law_423 : decode cL_law 423 = .ok (.iload_n 3, 1) := by decide +kernel
theorem dL_law_424 : decode cL_law 424 = .ok (.iconst 2, 1) := by decide +kernel
theorem dL_law_425 : decode cL_law 425 = .ok (.iadd, 1) := by decide +kernel
theorem dL_law_426 : decode cL_law 426 = .ok (.iaload, 1) := by decide +kernel
theorem dL_law_427 : decode cL_law 427 = .ok (.ifCond .eq 7, 3) := by decide +kernel
theorem dL_law_430 : decode cL_law 430 = .ok (.iconst 1, 1) := by decide +kernel
theorem dL_law_431 : decode cL_law 431 = .ok (.goto 4, 3) := by decide +kernel
theorem dL_law_434 : decode cL_law 434 = .ok (.iconst 0, 1) := by decide +kernel
theorem dL_law_435 : decode cL_law 435 = .ok (.aload_n 0, 1) := by decide +kernel
theorem dL_law_436 : decode cL_law 436 = .ok (.iload_n 3, 1) := by decide +kernel
theorem dL_law_437 : decode cL_law 437 = .ok (.iconst 3, 1) := by decide +kernel
theorem dL_law_438 : decode cL_law 438 = .ok (.iadd, 1) := by decide +kernel
theorem dL_law_439 : decode cL_law 439 = .ok (.iaload, 1) := by decide +kernel
theorem dL_law_440 : decode cL_law 440 = .ok (.aload_n 0, 1) := by decide +kernel
theorem dL_law_441 : decode cL_law 441 = .ok (.iload_n 3, 1) := by decide +kernel
theorem dL_law_442 : decode cL_law 442 = .ok (.iconst 4, 1) := by decide +kernel
theorem dL_law_443 : decode cL_law 443 = .ok (.iadd, 1) := by decide +kernel
theorem dL_law_444 : decode cL_law 444 = .ok (.iaload, 1) := by decide +kernel
theorem dL_law_445 : decode cL_law 445 = .ok (.invokevirtual 37, 3) := by decide +kernel
theorem dL_law_448 : decode cL_law 448 = .ok (.if_icmp .eq 591, 3) := by decide +kernel
theorem dL_law_451 : decode cL_law 451 = .ok (.iconst 0, 1) := by decide +kernel
theorem dL_law_452 : decode cL_law 452 = .ok (.ireturn, 1) := by decide +kernel
theorem dL_law_453 : decode cL_law 453 = .ok (.aload_n 1, 1) := by decide +kernel
theorem dL_law_454 : decode cL_law 454 = .ok (.invokevirtual 38, 3) := by decide +kernel
theorem dL_law_457 : decode cL_law 457 = .ok (.aload_n 2, 1) := by decide +kernel
theorem dL_law_458 : decode cL_law 458 = .ok (.invokevirtual 42, 3) := by decide +kernel
theorem dL_law_461 : decode cL_law 461 = .ok (.if_icmp .eq 578, 3) := by decide +kernel
theorem dL_law_464 : decode cL_law 464 = .ok (.iconst 0, 1) := by decide +kernel
theorem dL_law_465 : decode cL_law 465 = .ok (.ireturn, 1) := by decide +kernel
theorem dL_law_466 : decode cL_law 466 = .ok (.aload_n 1, 1) := by decide +kernel
theorem dL_law_467 : decode cL_law 467 = .ok (.aload_n 0, 1) := by decide +kernel
theorem dL_law_468 : decode cL_law 468 = .ok (.iload_n 3, 1) := by decide +kernel
theorem dL_law_469 : decode cL_law 469 = .ok (.iconst 1, 1) := by decide +kernel
theorem dL_law_470 : decode cL_law 470 = .ok (.iadd, 1) := by decide +kernel
theorem dL_law_471 : decode cL_law 471 = .ok (.iaload, 1) := by decide +kernel
theorem dL_law_472 : decode cL_law 472 = .ok (.aload_n 0, 1) := by decide +kernel
theorem dL_law_473 : decode cL_law 473 = .ok (.iload_n 3, 1) := by decide +kernel
theorem dL_law_474 : decode cL_law 474 = .ok (.iconst 2, 1) := by decide +kernel
theorem dL_law_475 : decode cL_law 475 = .ok (.iadd, 1) := by decide +kernel
theorem dL_law_476 : decode cL_law 476 = .ok (.iaload, 1) := by decide +kernel
theorem dL_law_477 : decode cL_law 477 = .ok (.invokevirtual 43, 3) := by decide +kernel
theorem dL_law_480 : decode cL_law 480 = .ok (.aload_n 2, 1) := by decide +kernel
theorem dL_law_481 : decode cL_law 481 = .ok (.aload_n 0, 1) := by decide +kernel
theorem dL_law_482 : decode cL_law 482 = .ok (.iload_n 3, 1) := by decide +kernel
theorem dL_law_483 : decode cL_law 483 = .ok (.iconst 1, 1) := by decide +kernel
theorem dL_law_484 : decode cL_law 484 = .ok (.iadd, 1) := by decide +kernel
theorem dL_law_485 : decode cL_law 485 = .ok (.iaload, 1) := by decide +kernel
theorem dL_law_486 : decode cL_law 486 = .ok (.aload_n 0, 1) := by decide +kernel
theorem dL_law_487 : decode cL_law 487 = .ok (.iload_n 3, 1) := by decide +kernel
theorem dL_law_488 : decode cL_law 488 = .ok (.iconst 2, 1) := by decide +kernel
theorem dL_law_489 : decode cL_law 489 = .ok (.iadd, 1) := by decide +kernel
theorem dL_law_490 : decode cL_law 490 = .ok (.iaload, 1) := by decide +kernel
theorem dL_law_491 : decode cL_law 491 = .ok (.invokevirtual 47, 3) := by decide +kernel
theorem dL_law_494 : decode cL_law 494 = .ok (.if_icmp .eq 545, 3) := by decide +kernel
theorem dL_law_497 : decode cL_law 497 = .ok (.iconst 0, 1) := by decide +kernel
theorem dL_law_498 : decode cL_law 498 = .ok (.ireturn, 1) := by decide +kernel
theorem dL_law_499 : decode cL_law 499 = .ok (.aload_n 1, 1) := by decide +kernel
theorem dL_law_500 : decode cL_law 500 = .ok (.aload_n 0, 1) := by decide +kernel
theorem dL_law_501 : decode cL_law 501 = .ok (.iload_n 3, 1) := by decide +kernel
theorem dL_law_502 : decode cL_law 502 = .ok (.iconst 1, 1) := by decide +kernel
theorem dL_law_503 : decode cL_law 503 = .ok (.iadd, 1) := by decide +kernel
theorem dL_law_504 : decode cL_law 504 = .ok (.iaload, 1) := by decide +kernel
theorem dL_law_505 : decode cL_law 505 = .ok (.aload_n 0, 1) := by decide +kernel
theorem dL_law_506 : decode cL_law 506 = .ok (.iload_n 3, 1) := by decide +kernel
theorem dL_law_507 : decode cL_law 507 = .ok (.iconst 2, 1) := by decide +kernel
theorem dL_law_508 : decode cL_law 508 = .ok (.iadd, 1) := by decide +kernel
theorem dL_law_509 : decode cL_law 509 = .ok (.iaload, 1) := by decide +kernel
theorem dL_law_510 : decode cL_law 510 = .ok (.aload_n 0, 1) := by decide +kernel
theorem dL_law_511 : decode cL_law 511 = .ok (.iload_n 3, 1) := by decide +kernel
theorem dL_law_512 : decode cL_law 512 = .ok (.iconst 3, 1) := by decide +kernel
theorem dL_law_513 : decode cL_law 513 = .ok (.iadd, 1) := by decide +kernel
theorem dL_law_514 : decode cL_law 514 = .ok (.iaload, 1) := by decide +kernel
theorem dL_law_515 : decode cL_law 515 = .ok (.invokevirtual 48, 3) := by decide +kernel
theorem dL_law_518 : decode cL_law 518 = .ok (.aload_n 2, 1) := by decide +kernel
theorem dL_law_519 : decode cL_law 519 = .ok (.aload_n 0, 1) := by decide +kernel
theorem dL_law_520 : decode cL_law 520 = .ok (.iload_n 3, 1) := by decide +kernel
theorem dL_law_521 : decode cL_law 521 = .ok (.iconst 1, 1) := by decide +kernel
theorem dL_law_522 : decode cL_law 522 = .ok (.iadd, 1) := by decide +kernel
theorem dL_law_523 : decode cL_law 523 = .ok (.iaload, 1) := by decide +kernel
theorem dL_law_524 : decode cL_law 524 = .ok (.aload_n 0, 1) := by decide +kernel
theorem dL_law_525 : decode cL_law 525 = .ok (.iload_n 3, 1) := by decide +kernel
theorem dL_law_526 : decode cL_law 526 = .ok (.iconst 2, 1) := by decide +kernel
theorem dL_law_527 : decode cL_law 527 = .ok (.iadd, 1) := by decide +kernel
theorem dL_law_528 : decode cL_law 528 = .ok (.iaload, 1) := by decide +kernel
theorem dL_law_529 : decode cL_law 529 = .ok (.aload_n 0, 1) := by decide +kernel
theorem dL_law_530 : decode cL_law 530 = .ok (.iload_n 3, 1) := by decide +kernel
theorem dL_law_531 : decode cL_law 531 = .ok (.iconst 3, 1) := by decide +kernel
theorem dL_law_532 : decode cL_law 532 = .ok (.iadd, 1) := by decide +kernel
theorem dL_law_533 : decode cL_law 533 = .ok (.iaload, 1) := by decide +kernel
theorem dL_law_534 : decode cL_law 534 = .ok (.invokevirtual 51, 3) := by decide +kernel
theorem dL_law_537 : decode cL_law 537 = .ok (.if_icmp .eq 502, 3) := by decide +kernel
theorem dL_law_540 : decode cL_law 540 = .ok (.iconst 0, 1) := by decide +kernel
theorem dL_law_541 : decode cL_law 541 = .ok (.ireturn, 1) := by decide +kernel
theorem dL_law_542 : decode cL_law 542 = .ok (.aload_n 1, 1) := by decide +kernel
theorem dL_law_543 : decode cL_law 543 = .ok (.aload_n 0, 1) := by decide +kernel
theorem dL_law_544 : decode cL_law 544 = .ok (.iload_n 3, 1) := by decide +kernel
theorem dL_law_545 : decode cL_law 545 = .ok (.iconst 1, 1) := by decide +kernel
theorem dL_law_546 : decode cL_law 546 = .ok (.iadd, 1) := by decide +kernel
theorem dL_law_547 : decode cL_law 547 = .ok (.iaload, 1) := by decide +kernel
theorem dL_law_548 : decode cL_law 548 = .ok (.aload_n 0, 1) := by decide +kernel
theorem dL_law_549 : decode cL_law 549 = .ok (.iload_n 3, 1) := by decide +kernel
theorem dL_law_550 : decode cL_law 550 = .ok (.iconst 2, 1) := by decide +kernel
theorem dL_law_551 : decode cL_law 551 = .ok (.iadd, 1) := by decide +kernel
theorem dL_law_552 : decode cL_law 552 = .ok (.iaload, 1) := by decide +kernel
theorem dL_law_553 : decode cL_law 553 = .ok (.aload_n 0, 1) := by decide +kernel
theorem dL_law_554 : decode cL_law 554 = .ok (.iload_n 3, 1) := by decide +kernel
theorem dL_law_555 : decode cL_law 555 = .ok (.iconst 3, 1) := by decide +kernel
theorem dL_law_556 : decode cL_law 556 = .ok (.iadd, 1) := by decide +kernel
theorem dL_law_557 : decode cL_law 557 = .ok (.iaload, 1) := by decide +kernel
theorem dL_law_558 : decode cL_law 558 = .ok (.aload_n 0, 1) := by decide +kernel
theorem dL_law_559 : decode cL_law 559 = .ok (.iload_n 3, 1) := by decide +kernel
theorem dL_law_560 : decode cL_law 560 = .ok (.iconst 4, 1) := by decide +kernel
theorem dL_law_561 : decode cL_law 561 = .ok (.iadd, 1) := by decide +kernel
theorem dL_law_562 : decode cL_law 562 = .ok (.iaload, 1) := by decide +kernel
theorem dL_law_563 : decode cL_law 563 = .ok (.aload_n 0, 1) := by decide +kernel
theorem dL_law_564 : decode cL_law 564 = .ok (.iload_n 3, 1) := by decide +kernel
theorem dL_law_565 : decode cL_law 565 = .ok (.iconst 5, 1) := by decide +kernel
theorem dL_law_566 : decode cL_law 566 = .ok (.iadd, 1) := by decide +kernel
theorem dL_law_567 : decode cL_law 567 = .ok (.iaload, 1) := by decide +kernel
theorem dL_law_568 : decode cL_law 568 = .ok (.ifCond .eq 7, 3) := by decide +kernel
theorem dL_law_571 : decode cL_law 571 = .ok (.iconst 1, 1) := by decide +kernel
theorem dL_law_572 : decode cL_law 572 = .ok (.goto 4, 3) := by decide +kernel
theorem dL_law_575 : decode cL_law 575 = .ok (.iconst 0, 1) := by decide +kernel
theorem dL_law_576 : decode cL_law 576 = .ok (.invokevirtual 52, 3) := by decide +kernel
theorem dL_law_579 : decode cL_law 579 = .ok (.aload_n 2, 1) := by decide +kernel
theorem dL_law_580 : decode cL_law 580 = .ok (.aload_n 0, 1) := by decide +kernel
theorem dL_law_581 : decode cL_law 581 = .ok (.iload_n 3, 1) := by decide +kernel
theorem dL_law_582 : decode cL_law 582 = .ok (.iconst 1, 1) := by decide +kernel
theorem dL_law_583 : decode cL_law 583 = .ok (.iadd, 1) := by decide +kernel
theorem dL_law_584 : decode cL_law 584 = .ok (.iaload, 1) := by decide +kernel
theorem dL_law_585 : decode cL_law 585 = .ok (.aload_n 0, 1) := by decide +kernel
theorem dL_law_586 : decode cL_law 586 = .ok (.iload_n 3, 1) := by decide +kernel
theorem dL_law_587 : decode cL_law 587 = .ok (.iconst 2, 1) := by decide +kernel
theorem dL_law_588 : decode cL_law 588 = .ok (.iadd, 1) := by decide +kernel
theorem dL_law_589 : decode cL_law 589 = .ok (.iaload, 1) := by decide +kernel
theorem dL_law_590 : decode cL_law 590 = .ok (.aload_n 0, 1) := by decide +kernel
theorem dL_law_591 : decode cL_law 591 = .ok (.iload_n 3, 1) := by decide +kernel
theorem dL_law_592 : decode cL_law 592 = .ok (.iconst 3, 1) := by decide +kernel
theorem dL_law_593 : decode cL_law 593 = .ok (.iadd, 1) := by decide +kernel
theorem dL_law_594 : decode cL_law 594 = .ok (.iaload, 1) := by decide +kernel
theorem dL_law_595 : decode cL_law 595 = .ok (.aload_n 0, 1) := by decide +kernel
theorem dL_law_596 : decode cL_law 596 = .ok (.iload_n 3, 1) := by decide +kernel
theorem dL_law_597 : decode cL_law 597 = .ok (.iconst 4, 1) := by decide +kernel
theorem dL_law_598 : decode cL_law 598 = .ok (.iadd, 1) := by decide +kernel
theorem dL_law_599 : decode cL_law 599 = .ok (.iaload, 1) := by decide +kernel
theorem dL_law_600 : decode cL_law 600 = .ok (.aload_n 0, 1) := by decide +kernel
theorem dL_law_601 : decode cL_law 601 = .ok (.iload_n 3, 1) := by decide +kernel
theorem dL_law_602 : decode cL_law 602 = .ok (.iconst 5, 1) := by decide +kernel
theorem dL_law_603 : decode cL_law 603 = .ok (.iadd, 1) := by decide +kernel
theorem dL_law_604 : decode cL_law 604 = .ok (.iaload, 1) := by decide +kernel
theorem dL_law_605 : decode cL_law 605 = .ok (.ifCond .eq 7, 3) := by decide +kernel
theorem dL_law_608 : decode cL_law 608 = .ok (.iconst 1, 1) := by decide +kernel
theorem dL_law_609 : decode cL_law 609 = .ok (.goto 4, 3) := by decide +kernel
theorem dL_law_612 : decode cL_law 612 = .ok (.iconst 0, 1) := by decide +kernel
theorem dL_law_613 : decode cL_law 613 = .ok (.invokevirtual 56, 3) := by decide +kernel
theorem dL_law_616 : decode cL_law 616 = .ok (.if_icmp .eq 423, 3) := by decide +kernel
theorem dL_law_619 : decode cL_law 619 = .ok (.iconst 0, 1) := by decide +kernel
theorem dL_law_620 : decode cL_law 620 = .ok (.ireturn, 1) := by decide +kernel
theorem dL_law_621 : decode cL_law 621 = .ok (.aload_n 1, 1) := by decide +kernel
theorem dL_law_622 : decode cL_law 622 = .ok (.aload_n 0, 1) := by decide +kernel
theorem dL_law_623 : decode cL_law 623 = .ok (.iload_n 3, 1) := by decide +kernel
theorem dL_law_624 : decode cL_law 624 = .ok (.iconst 1, 1) := by decide +kernel
theorem dL_law_625 : decode cL_law 625 = .ok (.iadd, 1) := by decide +kernel
theorem dL_law_626 : decode cL_law 626 = .ok (.iaload, 1) := by decide +kernel
theorem dL_law_627 : decode cL_law 627 = .ok (.aload_n 0, 1) := by decide +kernel
theorem dL_law_628 : decode cL_law 628 = .ok (.iload_n 3, 1) := by decide +kernel
theorem dL_law_629 : decode cL_law 629 = .ok (.iconst 2, 1) := by decide +kernel
theorem dL_law_630 : decode cL_law 630 = .ok (.iadd, 1) := by decide +kernel
theorem dL_law_631 : decode cL_law 631 = .ok (.iaload, 1) := by decide +kernel
theorem dL_law_632 : decode cL_law 632 = .ok (.aload_n 0, 1) := by decide +kernel
theorem dL_law_633 : decode cL_law 633 = .ok (.iload_n 3, 1) := by decide +kernel
theorem dL_law_634 : decode cL_law 634 = .ok (.iconst 3, 1) := by decide +kernel
theorem dL_law_635 : decode cL_law 635 = .ok (.iadd, 1) := by decide +kernel
theorem dL_law_636 : decode cL_law 636 = .ok (.iaload, 1) := by decide +kernel
theorem dL_law_637 : decode cL_law 637 = .ok (.invokevirtual 57, 3) := by decide +kernel
theorem dL_law_640 : decode cL_law 640 = .ok (.aload_n 2, 1) := by decide +kernel
theorem dL_law_641 : decode cL_law 641 = .ok (.aload_n 0, 1) := by decide +kernel
theorem dL_law_642 : decode cL_law 642 = .ok (.iload_n 3, 1) := by decide +kernel
theorem dL_law_643 : decode cL_law 643 = .ok (.iconst 1, 1) := by decide +kernel
theorem dL_law_644 : decode cL_law 644 = .ok (.iadd, 1) := by decide +kernel
theorem dL_law_645 : decode cL_law 645 = .ok (.iaload, 1) := by decide +kernel
theorem dL_law_646 : decode cL_law 646 = .ok (.aload_n 0, 1) := by decide +kernel
theorem dL_law_647 : decode cL_law 647 = .ok (.iload_n 3, 1) := by decide +kernel
theorem dL_law_648 : decode cL_law 648 = .ok (.iconst 2, 1) := by decide +kernel
theorem dL_law_649 : decode cL_law 649 = .ok (.iadd, 1) := by decide +kernel
theorem dL_law_650 : decode cL_law 650 = .ok (.iaload, 1) := by decide +kernel
theorem dL_law_651 : decode cL_law 651 = .ok (.aload_n 0, 1) := by decide +kernel
theorem dL_law_652 : decode cL_law 652 = .ok (.iload_n 3, 1) := by decide +kernel
theorem dL_law_653 : decode cL_law 653 = .ok (.iconst 3, 1) := by decide +kernel
theorem dL_law_654 : decode cL_law 654 = .ok (.iadd, 1) := by decide +kernel
theorem dL_law_655 : decode cL_law 655 = .ok (.iaload, 1) := by decide +kernel
theorem dL_law_656 : decode cL_law 656 = .ok (.invokevirtual 60, 3) := by decide +kernel
theorem dL_law_659 : decode cL_law 659 = .ok (.if_icmp .eq 380, 3) := by decide +kernel
theorem dL_law_662 : decode cL_law 662 = .ok (.iconst 0, 1) := by decide +kernel
theorem dL_law_663 : decode cL_law 663 = .ok (.ireturn, 1) := by decide +kernel
theorem dL_law_664 : decode cL_law 664 = .ok (.aload_n 1, 1) := by decide +kernel
theorem dL_law_665 : decode cL_law 665 = .ok (.aload_n 0, 1) := by decide +kernel
theorem dL_law_666 : decode cL_law 666 = .ok (.iload_n 3, 1) := by decide +kernel
theorem dL_law_667 : decode cL_law 667 = .ok (.iconst 1, 1) := by decide +kernel
theorem dL_law_668 : decode cL_law 668 = .ok (.iadd, 1) := by decide +kernel
theorem dL_law_669 : decode cL_law 669 = .ok (.iaload, 1) := by decide +kernel
theorem dL_law_670 : decode cL_law 670 = .ok (.aload_n 0, 1) := by decide +kernel
theorem dL_law_671 : decode cL_law 671 = .ok (.iload_n 3, 1) := by decide +kernel
theorem dL_law_672 : decode cL_law 672 = .ok (.iconst 2, 1) := by decide +kernel
theorem dL_law_673 : decode cL_law 673 = .ok (.iadd, 1) := by decide +kernel
theorem dL_law_674 : decode cL_law 674 = .ok (.iaload, 1) := by decide +kernel
theorem dL_law_675 : decode cL_law 675 = .ok (.invokevirtual 61, 3) := by decide +kernel
theorem dL_law_678 : decode cL_law 678 = .ok (.aload_n 2, 1) := by decide +kernel
theorem dL_law_679 : decode cL_law 679 = .ok (.aload_n 0, 1) := by decide +kernel
theorem dL_law_680 : decode cL_law 680 = .ok (.iload_n 3, 1) := by decide +kernel
theorem dL_law_681 : decode cL_law 681 = .ok (.iconst 1, 1) := by decide +kernel
theorem dL_law_682 : decode cL_law 682 = .ok (.iadd, 1) := by decide +kernel
theorem dL_law_683 : decode cL_law 683 = .ok (.iaload, 1) := by decide +kernel
theorem dL_law_684 : decode cL_law 684 = .ok (.aload_n 0, 1) := by decide +kernel
theorem dL_law_685 : decode cL_law 685 = .ok (.iload_n 3, 1) := by decide +kernel
theorem dL_law_686 : decode cL_law 686 = .ok (.iconst 2, 1) := by decide +kernel
theorem dL_law_687 : decode cL_law 687 = .ok (.iadd, 1) := by decide +kernel
theorem dL_law_688 : decode cL_law 688 = .ok (.iaload, 1) := by decide +kernel
theorem dL_law_689 : decode cL_law 689 = .ok (.invokevirtual 64, 3) := by decide +kernel
theorem dL_law_692 : decode cL_law 692 = .ok (.if_icmp .eq 347, 3) := by decide +kernel
theorem dL_law_695 : decode cL_law 695 = .ok (.iconst 0, 1) := by decide +kernel
theorem dL_law_696 : decode cL_law 696 = .ok (.ireturn, 1) := by decide +kernel
theorem dL_law_697 : decode cL_law 697 = .ok (.aload_n 1, 1) := by decide +kernel
theorem dL_law_698 : decode cL_law 698 = .ok (.aload_n 0, 1) := by decide +kernel
theorem dL_law_699 : decode cL_law 699 = .ok (.iload_n 3, 1) := by decide +kernel
theorem dL_law_700 : decode cL_law 700 = .ok (.iconst 1, 1) := by decide +kernel
theorem dL_law_701 : decode cL_law 701 = .ok (.iadd, 1) := by decide +kernel
theorem dL_law_702 : decode cL_law 702 = .ok (.iaload, 1) := by decide +kernel
theorem dL_law_703 : decode cL_law 703 = .ok (.invokevirtual 65, 3) := by decide +kernel
theorem dL_law_706 : decode cL_law 706 = .ok (.aload_n 2, 1) := by decide +kernel
theorem dL_law_707 : decode cL_law 707 = .ok (.aload_n 0, 1) := by decide +kernel
theorem dL_law_708 : decode cL_law 708 = .ok (.iload_n 3, 1) := by decide +kernel
theorem dL_law_709 : decode cL_law 709 = .ok (.iconst 1, 1) := by decide +kernel
theorem dL_law_710 : decode cL_law 710 = .ok (.iadd, 1) := by decide +kernel
theorem dL_law_711 : decode cL_law 711 = .ok (.iaload, 1) := by decide +kernel
theorem dL_law_712 : decode cL_law 712 = .ok (.invokevirtual 69, 3) := by decide +kernel
theorem dL_law_715 : decode cL_law 715 = .ok (.if_icmp .eq 324, 3) := by decide +kernel
theorem dL_law_718 : decode cL_law 718 = .ok (.iconst 0, 1) := by decide +kernel
theorem dL_law_719 : decode cL_law 719 = .ok (.ireturn, 1) := by decide +kernel
theorem dL_law_720 : decode cL_law 720 = .ok (.aload_n 1, 1) := by decide +kernel
theorem dL_law_721 : decode cL_law 721 = .ok (.invokevirtual 70, 3) := by decide +kernel
theorem dL_law_724 : decode cL_law 724 = .ok (.aload_n 2, 1) := by decide +kernel
theorem dL_law_725 : decode cL_law 725 = .ok (.invokevirtual 73, 3) := by decide +kernel
theorem dL_law_728 : decode cL_law 728 = .ok (.if_icmp .eq 311, 3) := by decide +kernel
theorem dL_law_731 : decode cL_law 731 = .ok (.iconst 0, 1) := by decide +kernel
theorem dL_law_732 : decode cL_law 732 = .ok (.ireturn, 1) := by decide +kernel
theorem dL_law_733 : decode cL_law 733 = .ok (.aload_n 1, 1) := by decide +kernel
theorem dL_law_734 : decode cL_law 734 = .ok (.invokevirtual 74, 3) := by decide +kernel
theorem dL_law_737 : decode cL_law 737 = .ok (.aload_n 2, 1) := by decide +kernel
theorem dL_law_738 : decode cL_law 738 = .ok (.invokevirtual 77, 3) := by decide +kernel
theorem dL_law_741 : decode cL_law 741 = .ok (.if_icmp .eq 298, 3) := by decide +kernel
theorem dL_law_744 : decode cL_law 744 = .ok (.iconst 0, 1) := by decide +kernel
theorem dL_law_745 : decode cL_law 745 = .ok (.ireturn, 1) := by decide +kernel
theorem dL_law_746 : decode cL_law 746 = .ok (.aload_n 1, 1) := by decide +kernel
theorem dL_law_747 : decode cL_law 747 = .ok (.invokevirtual 78, 3) := by decide +kernel
theorem dL_law_750 : decode cL_law 750 = .ok (.aload_n 2, 1) := by decide +kernel
theorem dL_law_751 : decode cL_law 751 = .ok (.invokevirtual 81, 3) := by decide +kernel
theorem dL_law_754 : decode cL_law 754 = .ok (.if_icmp .eq 285, 3) := by decide +kernel
theorem dL_law_757 : decode cL_law 757 = .ok (.iconst 0, 1) := by decide +kernel
theorem dL_law_758 : decode cL_law 758 = .ok (.ireturn, 1) := by decide +kernel
theorem dL_law_759 : decode cL_law 759 = .ok (.aload_n 1, 1) := by decide +kernel
theorem dL_law_760 : decode cL_law 760 = .ok (.aload_n 0, 1) := by decide +kernel
theorem dL_law_761 : decode cL_law 761 = .ok (.iload_n 3, 1) := by decide +kernel
theorem dL_law_762 : decode cL_law 762 = .ok (.iconst 1, 1) := by decide +kernel
theorem dL_law_763 : decode cL_law 763 = .ok (.iadd, 1) := by decide +kernel
theorem dL_law_764 : decode cL_law 764 = .ok (.iaload, 1) := by decide +kernel
theorem dL_law_765 : decode cL_law 765 = .ok (.aload_n 0, 1) := by decide +kernel
theorem dL_law_766 : decode cL_law 766 = .ok (.iload_n 3, 1) := by decide +kernel
theorem dL_law_767 : decode cL_law 767 = .ok (.iconst 2, 1) := by decide +kernel
theorem dL_law_768 : decode cL_law 768 = .ok (.iadd, 1) := by decide +kernel
theorem dL_law_769 : decode cL_law 769 = .ok (.iaload, 1) := by decide +kernel
theorem dL_law_770 : decode cL_law 770 = .ok (.aload_n 0, 1) := by decide +kernel
theorem dL_law_771 : decode cL_law 771 = .ok (.iload_n 3, 1) := by decide +kernel
theorem dL_law_772 : decode cL_law 772 = .ok (.iconst 3, 1) := by decide +kernel
theorem dL_law_773 : decode cL_law 773 = .ok (.iadd, 1) := by decide +kernel
theorem dL_law_774 : decode cL_law 774 = .ok (.iaload, 1) := by decide +kernel
theorem dL_law_775 : decode cL_law 775 = .ok (.invokevirtual 82, 3) := by decide +kernel
theorem dL_law_778 : decode cL_law 778 = .ok (.aload_n 2, 1) := by decide +kernel
theorem dL_law_779 : decode cL_law 779 = .ok (.aload_n 0, 1) := by decide +kernel
theorem dL_law_780 : decode cL_law 780 = .ok (.iload_n 3, 1) := by decide +kernel
theorem dL_law_781 : decode cL_law 781 = .ok (.iconst 1, 1) := by decide +kernel
theorem dL_law_782 : decode cL_law 782 = .ok (.iadd, 1) := by decide +kernel
theorem dL_law_783 : decode cL_law 783 = .ok (.iaload, 1) := by decide +kernel
theorem dL_law_784 : decode cL_law 784 = .ok (.aload_n 0, 1) := by decide +kernel
theorem dL_law_785 : decode cL_law 785 = .ok (.iload_n 3, 1) := by decide +kernel
theorem dL_law_786 : decode cL_law 786 = .ok (.iconst 2, 1) := by decide +kernel
theorem dL_law_787 : decode cL_law 787 = .ok (.iadd, 1) := by decide +kernel
theorem dL_law_788 : decode cL_law 788 = .ok (.iaload, 1) := by decide +kernel
theorem dL_law_789 : decode cL_law 789 = .ok (.aload_n 0, 1) := by decide +kernel
theorem dL_law_790 : decode cL_law 790 = .ok (.iload_n 3, 1) := by decide +kernel
theorem dL_law_791 : decode cL_law 791 = .ok (.iconst 3, 1) := by decide +kernel
theorem dL_law_792 : decode cL_law 792 = .ok (.iadd, 1) := by decide +kernel
theorem dL_law_793 : decode cL_law 793 = .ok (.iaload, 1) := by decide +kernel
theorem dL_law_794 : decode cL_law 794 = .ok (.invokevirtual 86, 3) := by decide +kernel
theorem dL_law_797 : decode cL_law 797 = .ok (.lcmp, 1) := by decide +kernel
theorem dL_law_798 : decode cL_law 798 = .ok (.ifCond .eq 241, 3) := by decide +kernel
theorem dL_law_801 : decode cL_law 801 = .ok (.iconst 0, 1) := by decide +kernel
theorem dL_law_802 : decode cL_law 802 = .ok (.ireturn, 1) := by decide +kernel
theorem dL_law_803 : decode cL_law 803 = .ok (.aload_n 1, 1) := by decide +kernel
theorem dL_law_804 : decode cL_law 804 = .ok (.aload_n 0, 1) := by decide +kernel
theorem dL_law_805 : decode cL_law 805 = .ok (.iload_n 3, 1) := by decide +kernel
theorem dL_law_806 : decode cL_law 806 = .ok (.iconst 1, 1) := by decide +kernel
theorem dL_law_807 : decode cL_law 807 = .ok (.iadd, 1) := by decide +kernel
theorem dL_law_808 : decode cL_law 808 = .ok (.iaload, 1) := by decide +kernel
theorem dL_law_809 : decode cL_law 809 = .ok (.aload_n 0, 1) := by decide +kernel
theorem dL_law_810 : decode cL_law 810 = .ok (.iload_n 3, 1) := by decide +kernel
theorem dL_law_811 : decode cL_law 811 = .ok (.iconst 2, 1) := by decide +kernel
theorem dL_law_812 : decode cL_law 812 = .ok (.iadd, 1) := by decide +kernel
theorem dL_law_813 : decode cL_law 813 = .ok (.iaload, 1) := by decide +kernel
theorem dL_law_814 : decode cL_law 814 = .ok (.aload_n 0, 1) := by decide +kernel
theorem dL_law_815 : decode cL_law 815 = .ok (.iload_n 3, 1) := by decide +kernel
theorem dL_law_816 : decode cL_law 816 = .ok (.iconst 3, 1) := by decide +kernel
theorem dL_law_817 : decode cL_law 817 = .ok (.iadd, 1) := by decide +kernel
theorem dL_law_818 : decode cL_law 818 = .ok (.iaload, 1) := by decide +kernel
theorem dL_law_819 : decode cL_law 819 = .ok (.invokevirtual 87, 3) := by decide +kernel
theorem dL_law_822 : decode cL_law 822 = .ok (.aload_n 2, 1) := by decide +kernel
theorem dL_law_823 : decode cL_law 823 = .ok (.aload_n 0, 1) := by decide +kernel
theorem dL_law_824 : decode cL_law 824 = .ok (.iload_n 3, 1) := by decide +kernel
theorem dL_law_825 : decode cL_law 825 = .ok (.iconst 1, 1) := by decide +kernel
theorem dL_law_826 : decode cL_law 826 = .ok (.iadd, 1) := by decide +kernel
theorem dL_law_827 : decode cL_law 827 = .ok (.iaload, 1) := by decide +kernel
theorem dL_law_828 : decode cL_law 828 = .ok (.aload_n 0, 1) := by decide +kernel
theorem dL_law_829 : decode cL_law 829 = .ok (.iload_n 3, 1) := by decide +kernel
theorem dL_law_830 : decode cL_law 830 = .ok (.iconst 2, 1) := by decide +kernel
theorem dL_law_831 : decode cL_law 831 = .ok (.iadd, 1) := by decide +kernel
theorem dL_law_832 : decode cL_law 832 = .ok (.iaload, 1) := by decide +kernel
theorem dL_law_833 : decode cL_law 833 = .ok (.aload_n 0, 1) := by decide +kernel
theorem dL_law_834 : decode cL_law 834 = .ok (.iload_n 3, 1) := by decide +kernel
theorem dL_law_835 : decode cL_law 835 = .ok (.iconst 3, 1) := by decide +kernel
theorem dL_law_836 : decode cL_law 836 = .ok (.iadd, 1) := by decide +kernel
theorem dL_law_837 : decode cL_law 837 = .ok (.iaload, 1) := by decide +kernel
theorem dL_law_838 : decode cL_law 838 = .ok (.invokevirtual 90, 3) := by decide +kernel
theorem dL_law_841 : decode cL_law 841 = .ok (.if_icmp .eq 198, 3) := by decide +kernel
theorem dL_law_844 : decode cL_law 844 = .ok (.iconst 0, 1) := by decide +kernel
theorem dL_law_845 : decode cL_law 845 = .ok (.ireturn, 1) := by decide +kernel
theorem dL_law_846 : decode cL_law 846 = .ok (.aload_n 1, 1) := by decide +kernel
theorem dL_law_847 : decode cL_law 847 = .ok (.aload_n 0, 1) := by decide +kernel
theorem dL_law_848 : decode cL_law 848 = .ok (.iload_n 3, 1) := by decide +kernel
theorem dL_law_849 : decode cL_law 849 = .ok (.iconst 1, 1) := by decide +kernel
theorem dL_law_850 : decode cL_law 850 = .ok (.iadd, 1) := by decide +kernel
theorem dL_law_851 : decode cL_law 851 = .ok (.iaload, 1) := by decide +kernel
theorem dL_law_852 : decode cL_law 852 = .ok (.aload_n 0, 1) := by decide +kernel
theorem dL_law_853 : decode cL_law 853 = .ok (.iload_n 3, 1) := by decide +kernel
theorem dL_law_854 : decode cL_law 854 = .ok (.iconst 2, 1) := by decide +kernel
theorem dL_law_855 : decode cL_law 855 = .ok (.iadd, 1) := by decide +kernel
theorem dL_law_856 : decode cL_law 856 = .ok (.iaload, 1) := by decide +kernel
theorem dL_law_857 : decode cL_law 857 = .ok (.invokevirtual 91, 3) := by decide +kernel
theorem dL_law_860 : decode cL_law 860 = .ok (.aload_n 2, 1) := by decide +kernel
theorem dL_law_861 : decode cL_law 861 = .ok (.aload_n 0, 1) := by decide +kernel
theorem dL_law_862 : decode cL_law 862 = .ok (.iload_n 3, 1) := by decide +kernel
theorem dL_law_863 : decode cL_law 863 = .ok (.iconst 1, 1) := by decide +kernel
theorem dL_law_864 : decode cL_law 864 = .ok (.iadd, 1) := by decide +kernel
theorem dL_law_865 : decode cL_law 865 = .ok (.iaload, 1) := by decide +kernel
theorem dL_law_866 : decode cL_law 866 = .ok (.aload_n 0, 1) := by decide +kernel
theorem dL_law_867 : decode cL_law 867 = .ok (.iload_n 3, 1) := by decide +kernel
theorem dL_law_868 : decode cL_law 868 = .ok (.iconst 2, 1) := by decide +kernel
theorem dL_law_869 : decode cL_law 869 = .ok (.iadd, 1) := by decide +kernel
theorem dL_law_870 : decode cL_law 870 = .ok (.iaload, 1) := by decide +kernel
theorem dL_law_871 : decode cL_law 871 = .ok (.invokevirtual 94, 3) := by decide +kernel
theorem dL_law_874 : decode cL_law 874 = .ok (.if_icmp .eq 165, 3) := by decide +kernel
theorem dL_law_877 : decode cL_law 877 = .ok (.iconst 0, 1) := by decide +kernel
theorem dL_law_878 : decode cL_law 878 = .ok (.ireturn, 1) := by decide +kernel
theorem dL_law_879 : decode cL_law 879 = .ok (.aload_n 1, 1) := by decide +kernel
theorem dL_law_880 : decode cL_law 880 = .ok (.aload_n 0, 1) := by decide +kernel
theorem dL_law_881 : decode cL_law 881 = .ok (.iload_n 3, 1) := by decide +kernel
theorem dL_law_882 : decode cL_law 882 = .ok (.iconst 1, 1) := by decide +kernel
theorem dL_law_883 : decode cL_law 883 = .ok (.iadd, 1) := by decide +kernel
theorem dL_law_884 : decode cL_law 884 = .ok (.iaload, 1) := by decide +kernel
theorem dL_law_885 : decode cL_law 885 = .ok (.aload_n 0, 1) := by decide +kernel
theorem dL_law_886 : decode cL_law 886 = .ok (.iload_n 3, 1) := by decide +kernel
theorem dL_law_887 : decode cL_law 887 = .ok (.iconst 2, 1) := by decide +kernel
theorem dL_law_888 : decode cL_law 888 = .ok (.iadd, 1) := by decide +kernel
theorem dL_law_889 : decode cL_law 889 = .ok (.iaload, 1) := by decide +kernel
theorem dL_law_890 : decode cL_law 890 = .ok (.invokevirtual 95, 3) := by decide +kernel
theorem dL_law_893 : decode cL_law 893 = .ok (.aload_n 2, 1) := by decide +kernel
theorem dL_law_894 : decode cL_law 894 = .ok (.aload_n 0, 1) := by decide +kernel
theorem dL_law_895 : decode cL_law 895 = .ok (.iload_n 3, 1) := by decide +kernel
theorem dL_law_896 : decode cL_law 896 = .ok (.iconst 1, 1) := by decide +kernel
theorem dL_law_897 : decode cL_law 897 = .ok (.iadd, 1) := by decide +kernel
theorem dL_law_898 : decode cL_law 898 = .ok (.iaload, 1) := by decide +kernel
theorem dL_law_899 : decode cL_law 899 = .ok (.aload_n 0, 1) := by decide +kernel
theorem dL_law_900 : decode cL_law 900 = .ok (.iload_n 3, 1) := by decide +kernel
theorem dL_law_901 : decode cL_law 901 = .ok (.iconst 2, 1) := by decide +kernel
theorem dL_law_902 : decode cL_law 902 = .ok (.iadd, 1) := by decide +kernel
theorem dL_law_903 : decode cL_law 903 = .ok (.iaload, 1) := by decide +kernel
theorem dL_law_904 : decode cL_law 904 = .ok (.invokevirtual 98, 3) := by decide +kernel
theorem dL_law_907 : decode cL_law 907 = .ok (.if_icmp .eq 132, 3) := by decide +kernel
theorem dL_law_910 : decode cL_law 910 = .ok (.iconst 0, 1) := by decide +kernel
theorem dL_law_911 : decode cL_law 911 = .ok (.ireturn, 1) := by decide +kernel
theorem dL_law_912 : decode cL_law 912 = .ok (.aload_n 1, 1) := by decide +kernel
theorem dL_law_913 : decode cL_law 913 = .ok (.invokevirtual 99, 3) := by decide +kernel
theorem dL_law_916 : decode cL_law 916 = .ok (.aload_n 2, 1) := by decide +kernel
theorem dL_law_917 : decode cL_law 917 = .ok (.invokevirtual 103, 3) := by decide +kernel
theorem dL_law_920 : decode cL_law 920 = .ok (.lcmp, 1) := by decide +kernel
theorem dL_law_921 : decode cL_law 921 = .ok (.ifCond .eq 118, 3) := by decide +kernel
theorem dL_law_924 : decode cL_law 924 = .ok (.iconst 0, 1) := by decide +kernel
theorem dL_law_925 : decode cL_law 925 = .ok (.ireturn, 1) := by decide +kernel
theorem dL_law_926 : decode cL_law 926 = .ok (.aload_n 1, 1) := by decide +kernel
theorem dL_law_927 : decode cL_law 927 = .ok (.invokevirtual 104, 3) := by decide +kernel
theorem dL_law_930 : decode cL_law 930 = .ok (.aload_n 2, 1) := by decide +kernel
theorem dL_law_931 : decode cL_law 931 = .ok (.invokevirtual 107, 3) := by decide +kernel
theorem dL_law_934 : decode cL_law 934 = .ok (.if_icmp .eq 105, 3) := by decide +kernel
theorem dL_law_937 : decode cL_law 937 = .ok (.iconst 0, 1) := by decide +kernel
theorem dL_law_938 : decode cL_law 938 = .ok (.ireturn, 1) := by decide +kernel
theorem dL_law_939 : decode cL_law 939 = .ok (.aload_n 1, 1) := by decide +kernel
theorem dL_law_940 : decode cL_law 940 = .ok (.aload_n 0, 1) := by decide +kernel
theorem dL_law_941 : decode cL_law 941 = .ok (.iload_n 3, 1) := by decide +kernel
theorem dL_law_942 : decode cL_law 942 = .ok (.iconst 1, 1) := by decide +kernel
theorem dL_law_943 : decode cL_law 943 = .ok (.iadd, 1) := by decide +kernel
theorem dL_law_944 : decode cL_law 944 = .ok (.iaload, 1) := by decide +kernel
theorem dL_law_945 : decode cL_law 945 = .ok (.invokevirtual 108, 3) := by decide +kernel
theorem dL_law_948 : decode cL_law 948 = .ok (.aload_n 2, 1) := by decide +kernel
theorem dL_law_949 : decode cL_law 949 = .ok (.aload_n 0, 1) := by decide +kernel
theorem dL_law_950 : decode cL_law 950 = .ok (.iload_n 3, 1) := by decide +kernel
theorem dL_law_951 : decode cL_law 951 = .ok (.iconst 1, 1) := by decide +kernel
theorem dL_law_952 : decode cL_law 952 = .ok (.iadd, 1) := by decide +kernel
theorem dL_law_953 : decode cL_law 953 = .ok (.iaload, 1) := by decide +kernel
theorem dL_law_954 : decode cL_law 954 = .ok (.invokevirtual 111, 3) := by decide +kernel
theorem dL_law_957 : decode cL_law 957 = .ok (.if_icmp .eq 82, 3) := by decide +kernel
theorem dL_law_960 : decode cL_law 960 = .ok (.iconst 0, 1) := by decide +kernel
theorem dL_law_961 : decode cL_law 961 = .ok (.ireturn, 1) := by decide +kernel
theorem dL_law_962 : decode cL_law 962 = .ok (.aload_n 1, 1) := by decide +kernel
theorem dL_law_963 : decode cL_law 963 = .ok (.aload_n 0, 1) := by decide +kernel
theorem dL_law_964 : decode cL_law 964 = .ok (.iload_n 3, 1) := by decide +kernel
theorem dL_law_965 : decode cL_law 965 = .ok (.iconst 1, 1) := by decide +kernel
theorem dL_law_966 : decode cL_law 966 = .ok (.iadd, 1) := by decide +kernel
theorem dL_law_967 : decode cL_law 967 = .ok (.iaload, 1) := by decide +kernel
theorem dL_law_968 : decode cL_law 968 = .ok (.aload_n 0, 1) := by decide +kernel
theorem dL_law_969 : decode cL_law 969 = .ok (.iload_n 3, 1) := by decide +kernel
theorem dL_law_970 : decode cL_law 970 = .ok (.iconst 2, 1) := by decide +kernel
theorem dL_law_971 : decode cL_law 971 = .ok (.iadd, 1) := by decide +kernel
theorem dL_law_972 : decode cL_law 972 = .ok (.iaload, 1) := by decide +kernel
theorem dL_law_973 : decode cL_law 973 = .ok (.aload_n 0, 1) := by decide +kernel
theorem dL_law_974 : decode cL_law 974 = .ok (.iload_n 3, 1) := by decide +kernel
theorem dL_law_975 : decode cL_law 975 = .ok (.iconst 3, 1) := by decide +kernel
theorem dL_law_976 : decode cL_law 976 = .ok (.iadd, 1) := by decide +kernel
theorem dL_law_977 : decode cL_law 977 = .ok (.iaload, 1) := by decide +kernel
theorem dL_law_978 : decode cL_law 978 = .ok (.aload_n 0, 1) := by decide +kernel
theorem dL_law_979 : decode cL_law 979 = .ok (.iload_n 3, 1) := by decide +kernel
theorem dL_law_980 : decode cL_law 980 = .ok (.iconst 4, 1) := by decide +kernel
theorem dL_law_981 : decode cL_law 981 = .ok (.iadd, 1) := by decide +kernel
theorem dL_law_982 : decode cL_law 982 = .ok (.iaload, 1) := by decide +kernel
theorem dL_law_983 : decode cL_law 983 = .ok (.invokevirtual 112, 3) := by decide +kernel
theorem dL_law_986 : decode cL_law 986 = .ok (.aload_n 2, 1) := by decide +kernel
theorem dL_law_987 : decode cL_law 987 = .ok (.aload_n 0, 1) := by decide +kernel
theorem dL_law_988 : decode cL_law 988 = .ok (.iload_n 3, 1) := by decide +kernel
theorem dL_law_989 : decode cL_law 989 = .ok (.iconst 1, 1) := by decide +kernel
theorem dL_law_990 : decode cL_law 990 = .ok (.iadd, 1) := by decide +kernel
theorem dL_law_991 : decode cL_law 991 = .ok (.iaload, 1) := by decide +kernel
theorem dL_law_992 : decode cL_law 992 = .ok (.aload_n 0, 1) := by decide +kernel
theorem dL_law_993 : decode cL_law 993 = .ok (.iload_n 3, 1) := by decide +kernel
theorem dL_law_994 : decode cL_law 994 = .ok (.iconst 2, 1) := by decide +kernel
theorem dL_law_995 : decode cL_law 995 = .ok (.iadd, 1) := by decide +kernel
theorem dL_law_996 : decode cL_law 996 = .ok (.iaload, 1) := by decide +kernel
theorem dL_law_997 : decode cL_law 997 = .ok (.aload_n 0, 1) := by decide +kernel
theorem dL_law_998 : decode cL_law 998 = .ok (.iload_n 3, 1) := by decide +kernel
theorem dL_law_999 : decode cL_law 999 = .ok (.iconst 3, 1) := by decide +kernel
theorem dL_law_1000 : decode cL_law 1000 = .ok (.iadd, 1) := by decide +kernel
theorem dL_law_1001 : decode cL_law 1001 = .ok (.iaload, 1) := by decide +kernel
theorem dL_law_1002 : decode cL_law 1002 = .ok (.aload_n 0, 1) := by decide +kernel
theorem dL_law_1003 : decode cL_law 1003 = .ok (.iload_n 3, 1) := by decide +kernel
theorem dL_law_1004 : decode cL_law 1004 = .ok (.iconst 4, 1) := by decide +kernel
theorem dL_law_1005 : decode cL_law 1005 = .ok (.iadd, 1) := by decide +kernel
theorem dL_law_1006 : decode cL_law 1006 = .ok (.iaload, 1) := by decide +kernel
theorem dL_law_1007 : decode cL_law 1007 = .ok (.invokevirtual 116, 3) := by decide +kernel
theorem dL_law_1010 : decode cL_law 1010 = .ok (.lcmp, 1) := by decide +kernel
theorem dL_law_1011 : decode cL_law 1011 = .ok (.ifCond .eq 28, 3) := by decide +kernel
theorem dL_law_1014 : decode cL_law 1014 = .ok (.iconst 0, 1) := by decide +kernel
theorem dL_law_1015 : decode cL_law 1015 = .ok (.ireturn, 1) := by decide +kernel
theorem dL_law_1016 : decode cL_law 1016 = .ok (.aload_n 1, 1) := by decide +kernel
theorem dL_law_1017 : decode cL_law 1017 = .ok (.aload_n 0, 1) := by decide +kernel
theorem dL_law_1018 : decode cL_law 1018 = .ok (.iload_n 3, 1) := by decide +kernel
theorem dL_law_1019 : decode cL_law 1019 = .ok (.iconst 1, 1) := by decide +kernel
theorem dL_law_1020 : decode cL_law 1020 = .ok (.iadd, 1) := by decide +kernel
theorem dL_law_1021 : decode cL_law 1021 = .ok (.iaload, 1) := by decide +kernel
theorem dL_law_1022 : decode cL_law 1022 = .ok (.invokevirtual 117, 3) := by decide +kernel
theorem dL_law_1025 : decode cL_law 1025 = .ok (.aload_n 2, 1) := by decide +kernel
theorem dL_law_1026 : decode cL_law 1026 = .ok (.aload_n 0, 1) := by decide +kernel
theorem dL_law_1027 : decode cL_law 1027 = .ok (.iload_n 3, 1) := by decide +kernel
theorem dL_law_1028 : decode cL_law 1028 = .ok (.iconst 1, 1) := by decide +kernel
theorem dL_law_1029 : decode cL_law 1029 = .ok (.iadd, 1) := by decide +kernel
theorem dL_law_1030 : decode cL_law 1030 = .ok (.iaload, 1) := by decide +kernel
theorem dL_law_1031 : decode cL_law 1031 = .ok (.invokevirtual 120, 3) := by decide +kernel
theorem dL_law_1034 : decode cL_law 1034 = .ok (.if_icmp .eq 5, 3) := by decide +kernel
theorem dL_law_1037 : decode cL_law 1037 = .ok (.iconst 0, 1) := by decide +kernel
theorem dL_law_1038 : decode cL_law 1038 = .ok (.ireturn, 1) := by decide +kernel
theorem dL_law_1039 : decode cL_law 1039 = .ok (.iinc 3 6, 3) := by decide +kernel
theorem dL_law_1042 : decode cL_law 1042 = .ok (.goto (-1024), 3) := by decide +kernel
theorem dL_law_1045 : decode cL_law 1045 = .ok (.iconst 1, 1) := by decide +kernel
theorem dL_law_1046 : decode cL_law 1046 = .ok (.ireturn, 1) := by decide +kernel
