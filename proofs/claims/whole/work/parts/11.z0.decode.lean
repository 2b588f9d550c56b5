theorem dX0_init_0 : decode cX0_init 0 = .ok (.aload_n 0, 1) := by decide +kernel
theorem dX0_init_1 : decode cX0_init 1 = .ok (.invokespecial 3, 3) := by decide +kernel
theorem dX0_init_4 : decode cX0_init 4 = .ok (.aload_n 0, 1) := by decide +kernel
theorem dX0_init_5 : decode cX0_init 5 = .ok (.bipush 81, 2) := by decide +kernel
theorem dX0_init_7 : decode cX0_init 7 = .ok (.newarray .byte, 2) := by decide +kernel
theorem dX0_init_9 : decode cX0_init 9 = .ok (.putfield 9, 3) := by decide +kernel
theorem dX0_init_12 : decode cX0_init 12 = .ok (.aload_n 0, 1) := by decide +kernel
theorem dX0_init_13 : decode cX0_init 13 = .ok (.iconst 1, 1) := by decide +kernel
theorem dX0_init_14 : decode cX0_init 14 = .ok (.putfield 15, 3) := by decide +kernel
theorem dX0_init_17 : decode cX0_init 17 = .ok (.aload_n 0, 1) := by decide +kernel
theorem dX0_init_18 : decode cX0_init 18 = .ok (.iconst 1, 1) := by decide +kernel
theorem dX0_init_19 : decode cX0_init 19 = .ok (.putfield 19, 3) := by decide +kernel
theorem dX0_init_22 : decode cX0_init 22 = .ok (.return_, 1) := by decide +kernel
theorem dX0_begin_0 : decode cX0_begin 0 = .ok (.aload_n 0, 1) := by decide +kernel
theorem dX0_begin_1 : decode cX0_begin 1 = .ok (.iload_n 1, 1) := by decide +kernel
theorem dX0_begin_2 : decode cX0_begin 2 = .ok (.putfield 15, 3) := by decide +kernel
theorem dX0_begin_5 : decode cX0_begin 5 = .ok (.aload_n 0, 1) := by decide +kernel
theorem dX0_begin_6 : decode cX0_begin 6 = .ok (.iload_n 2, 1) := by decide +kernel
theorem dX0_begin_7 : decode cX0_begin 7 = .ok (.putfield 19, 3) := by decide +kernel
theorem dX0_begin_10 : decode cX0_begin 10 = .ok (.aload_n 0, 1) := by decide +kernel
theorem dX0_begin_11 : decode cX0_begin 11 = .ok (.getfield 9, 3) := by decide +kernel
theorem dX0_begin_14 : decode cX0_begin 14 = .ok (.iconst 0, 1) := by decide +kernel
theorem dX0_begin_15 : decode cX0_begin 15 = .ok (.invokestatic 22, 3) := by decide +kernel
theorem dX0_begin_18 : decode cX0_begin 18 = .ok (.return_, 1) := by decide +kernel
theorem dX0_has_0 : decode cX0_has 0 = .ok (.iload_n 1, 1) := by decide +kernel
theorem dX0_has_1 : decode cX0_has 1 = .ok (.ifCond .lt 35, 3) := by decide +kernel
theorem dX0_has_4 : decode cX0_has 4 = .ok (.iload_n 1, 1) := by decide +kernel
theorem dX0_has_5 : decode cX0_has 5 = .ok (.bipush 81, 2) := by decide +kernel
theorem dX0_has_7 : decode cX0_has 7 = .ok (.if_icmp .ge 29, 3) := by decide +kernel
theorem dX0_has_10 : decode cX0_has 10 = .ok (.iload_n 1, 1) := by decide +kernel
theorem dX0_has_11 : decode cX0_has 11 = .ok (.bipush 9, 2) := by decide +kernel
theorem dX0_has_13 : decode cX0_has 13 = .ok (.irem, 1) := by decide +kernel
theorem dX0_has_14 : decode cX0_has 14 = .ok (.aload_n 0, 1) := by decide +kernel
theorem dX0_has_15 : decode cX0_has 15 = .ok (.getfield 15, 3) := by decide +kernel
theorem dX0_has_18 : decode cX0_has 18 = .ok (.if_icmp .ge 18, 3) := by decide +kernel
theorem dX0_has_21 : decode cX0_has 21 = .ok (.iload_n 1, 1) := by decide +kernel
theorem dX0_has_22 : decode cX0_has 22 = .ok (.bipush 9, 2) := by decide +kernel
theorem dX0_has_24 : decode cX0_has 24 = .ok (.idiv, 1) := by decide +kernel
theorem dX0_has_25 : decode cX0_has 25 = .ok (.aload_n 0, 1) := by decide +kernel
theorem dX0_has_26 : decode cX0_has 26 = .ok (.getfield 19, 3) := by decide +kernel
theorem dX0_has_29 : decode cX0_has 29 = .ok (.if_icmp .ge 7, 3) := by decide +kernel
theorem dX0_has_32 : decode cX0_has 32 = .ok (.iconst 1, 1) := by decide +kernel
theorem dX0_has_33 : decode cX0_has 33 = .ok (.goto 4, 3) := by decide +kernel
theorem dX0_has_36 : decode cX0_has 36 = .ok (.iconst 0, 1) := by decide +kernel
theorem dX0_has_37 : decode cX0_has 37 = .ok (.ireturn, 1) := by decide +kernel
theorem dX0_set_0 : decode cX0_set 0 = .ok (.iload_n 1, 1) := by decide +kernel
theorem dX0_set_1 : decode cX0_set 1 = .ok (.bipush 9, 2) := by decide +kernel
theorem dX0_set_3 : decode cX0_set 3 = .ok (.iload_n 2, 1) := by decide +kernel
theorem dX0_set_4 : decode cX0_set 4 = .ok (.imul, 1) := by decide +kernel
theorem dX0_set_5 : decode cX0_set 5 = .ok (.iadd, 1) := by decide +kernel
theorem dX0_set_6 : decode cX0_set 6 = .ok (.istore 4, 2) := by decide +kernel
theorem dX0_set_8 : decode cX0_set 8 = .ok (.aload_n 0, 1) := by decide +kernel
theorem dX0_set_9 : decode cX0_set 9 = .ok (.iload 4, 2) := by decide +kernel
theorem dX0_set_11 : decode cX0_set 11 = .ok (.invokevirtual 28, 3) := by decide +kernel
theorem dX0_set_14 : decode cX0_set 14 = .ok (.ifCond .eq 12, 3) := by decide +kernel
theorem dX0_set_17 : decode cX0_set 17 = .ok (.aload_n 0, 1) := by decide +kernel
theorem dX0_set_18 : decode cX0_set 18 = .ok (.getfield 9, 3) := by decide +kernel
theorem dX0_set_21 : decode cX0_set 21 = .ok (.iload 4, 2) := by decide +kernel
theorem dX0_set_23 : decode cX0_set 23 = .ok (.iload_n 3, 1) := by decide +kernel
theorem dX0_set_24 : decode cX0_set 24 = .ok (.i2b, 1) := by decide +kernel
theorem dX0_set_25 : decode cX0_set 25 = .ok (.bastore, 1) := by decide +kernel
theorem dX0_set_26 : decode cX0_set 26 = .ok (.return_, 1) := by decide +kernel
theorem dX0_soleLetter_0 : decode cX0_soleLetter 0 = .ok (.iload_n 1, 1) := by decide +kernel
theorem dX0_soleLetter_1 : decode cX0_soleLetter 1 = .ok (.bipush 9, 2) := by decide +kernel
theorem dX0_soleLetter_3 : decode cX0_soleLetter 3 = .ok (.iload_n 2, 1) := by decide +kernel
theorem dX0_soleLetter_4 : decode cX0_soleLetter 4 = .ok (.imul, 1) := by decide +kernel
theorem dX0_soleLetter_5 : decode cX0_soleLetter 5 = .ok (.iadd, 1) := by decide +kernel
theorem dX0_soleLetter_6 : decode cX0_soleLetter 6 = .ok (.istore 5, 2) := by decide +kernel
theorem dX0_soleLetter_8 : decode cX0_soleLetter 8 = .ok (.aload_n 0, 1) := by decide +kernel
theorem dX0_soleLetter_9 : decode cX0_soleLetter 9 = .ok (.iload 5, 2) := by decide +kernel
theorem dX0_soleLetter_11 : decode cX0_soleLetter 11 = .ok (.invokevirtual 28, 3) := by decide +kernel
theorem dX0_soleLetter_14 : decode cX0_soleLetter 14 = .ok (.ifCond .eq 24, 3) := by decide +kernel
theorem dX0_soleLetter_17 : decode cX0_soleLetter 17 = .ok (.aload_n 0, 1) := by decide +kernel
theorem dX0_soleLetter_18 : decode cX0_soleLetter 18 = .ok (.iload 5, 2) := by decide +kernel
theorem dX0_soleLetter_20 : decode cX0_soleLetter 20 = .ok (.iload_n 3, 1) := by decide +kernel
theorem dX0_soleLetter_21 : decode cX0_soleLetter 21 = .ok (.iconst 1, 1) := by decide +kernel
theorem dX0_soleLetter_22 : decode cX0_soleLetter 22 = .ok (.isub, 1) := by decide +kernel
theorem dX0_soleLetter_23 : decode cX0_soleLetter 23 = .ok (.iadd, 1) := by decide +kernel
theorem dX0_soleLetter_24 : decode cX0_soleLetter 24 = .ok (.bipush 9, 2) := by decide +kernel
theorem dX0_soleLetter_26 : decode cX0_soleLetter 26 = .ok (.iload 4, 2) := by decide +kernel
theorem dX0_soleLetter_28 : decode cX0_soleLetter 28 = .ok (.iconst 1, 1) := by decide +kernel
theorem dX0_soleLetter_29 : decode cX0_soleLetter 29 = .ok (.isub, 1) := by decide +kernel
theorem dX0_soleLetter_30 : decode cX0_soleLetter 30 = .ok (.imul, 1) := by decide +kernel
theorem dX0_soleLetter_31 : decode cX0_soleLetter 31 = .ok (.iadd, 1) := by decide +kernel
theorem dX0_soleLetter_32 : decode cX0_soleLetter 32 = .ok (.invokevirtual 28, 3) := by decide +kernel
theorem dX0_soleLetter_35 : decode cX0_soleLetter 35 = .ok (.ifCond .ne 6, 3) := by decide +kernel
theorem dX0_soleLetter_38 : decode cX0_soleLetter 38 = .ok (.bipush (-9), 2) := by decide +kernel
theorem dX0_soleLetter_40 : decode cX0_soleLetter 40 = .ok (.ireturn, 1) := by decide +kernel
theorem dX0_soleLetter_41 : decode cX0_soleLetter 41 = .ok (.aload_n 0, 1) := by decide +kernel
theorem dX0_soleLetter_42 : decode cX0_soleLetter 42 = .ok (.getfield 9, 3) := by decide +kernel
theorem dX0_soleLetter_45 : decode cX0_soleLetter 45 = .ok (.iload 5, 2) := by decide +kernel
theorem dX0_soleLetter_47 : decode cX0_soleLetter 47 = .ok (.baload, 1) := by decide +kernel
theorem dX0_soleLetter_48 : decode cX0_soleLetter 48 = .ok (.istore 6, 2) := by decide +kernel
theorem dX0_soleLetter_50 : decode cX0_soleLetter 50 = .ok (.iconst 0, 1) := by decide +kernel
theorem dX0_soleLetter_51 : decode cX0_soleLetter 51 = .ok (.istore 7, 2) := by decide +kernel
theorem dX0_soleLetter_53 : decode cX0_soleLetter 53 = .ok (.iload 7, 2) := by decide +kernel
theorem dX0_soleLetter_55 : decode cX0_soleLetter 55 = .ok (.iload 4, 2) := by decide +kernel
theorem dX0_soleLetter_57 : decode cX0_soleLetter 57 = .ok (.if_icmp .ge 52, 3) := by decide +kernel
theorem dX0_soleLetter_60 : decode cX0_soleLetter 60 = .ok (.iload 5, 2) := by decide +kernel
theorem dX0_soleLetter_62 : decode cX0_soleLetter 62 = .ok (.bipush 9, 2) := by decide +kernel
theorem dX0_soleLetter_64 : decode cX0_soleLetter 64 = .ok (.iload 7, 2) := by decide +kernel
theorem dX0_soleLetter_66 : decode cX0_soleLetter 66 = .ok (.imul, 1) := by decide +kernel
theorem dX0_soleLetter_67 : decode cX0_soleLetter 67 = .ok (.iadd, 1) := by decide +kernel
theorem dX0_soleLetter_68 : decode cX0_soleLetter 68 = .ok (.istore 8, 2) := by decide +kernel
theorem dX0_soleLetter_70 : decode cX0_soleLetter 70 = .ok (.iconst 0, 1) := by decide +kernel
theorem dX0_soleLetter_71 : decode cX0_soleLetter 71 = .ok (.istore 9, 2) := by decide +kernel
theorem dX0_soleLetter_73 : decode cX0_soleLetter 73 = .ok (.iload 9, 2) := by decide +kernel
theorem dX0_soleLetter_75 : decode cX0_soleLetter 75 = .ok (.iload_n 3, 1) := by decide +kernel
theorem dX0_soleLetter_76 : decode cX0_soleLetter 76 = .ok (.if_icmp .ge 27, 3) := by decide +kernel
theorem dX0_soleLetter_79 : decode cX0_soleLetter 79 = .ok (.aload_n 0, 1) := by decide +kernel
theorem dX0_soleLetter_80 : decode cX0_soleLetter 80 = .ok (.getfield 9, 3) := by decide +kernel
theorem dX0_soleLetter_83 : decode cX0_soleLetter 83 = .ok (.iload 8, 2) := by decide +kernel
theorem dX0_soleLetter_85 : decode cX0_soleLetter 85 = .ok (.iload 9, 2) := by decide +kernel
theorem dX0_soleLetter_87 : decode cX0_soleLetter 87 = .ok (.iadd, 1) := by decide +kernel
theorem dX0_soleLetter_88 : decode cX0_soleLetter 88 = .ok (.baload, 1) := by decide +kernel
theorem dX0_soleLetter_89 : decode cX0_soleLetter 89 = .ok (.iload 6, 2) := by decide +kernel
theorem dX0_soleLetter_91 : decode cX0_soleLetter 91 = .ok (.if_icmp .eq 6, 3) := by decide +kernel
theorem dX0_soleLetter_94 : decode cX0_soleLetter 94 = .ok (.bipush (-9), 2) := by decide +kernel
theorem dX0_soleLetter_96 : decode cX0_soleLetter 96 = .ok (.ireturn, 1) := by decide +kernel
theorem dX0_soleLetter_97 : decode cX0_soleLetter 97 = .ok (.iinc 9 1, 3) := by decide +kernel
theorem dX0_soleLetter_100 : decode cX0_soleLetter 100 = .ok (.goto (-27), 3) := by decide +kernel
theorem dX0_soleLetter_103 : decode cX0_soleLetter 103 = .ok (.iinc 7 1, 3) := by decide +kernel
theorem dX0_soleLetter_106 : decode cX0_soleLetter 106 = .ok (.goto (-53), 3) := by decide +kernel
theorem dX0_soleLetter_109 : decode cX0_soleLetter 109 = .ok (.iload 6, 2) := by decide +kernel
theorem dX0_soleLetter_111 : decode cX0_soleLetter 111 = .ok (.ireturn, 1) := by decide +kernel
theorem dX1_init_0 : decode cX1_init 0 = .ok (.aload_n 0, 1) := by decide +kernel
theorem dX1_init_1 : decode cX1_init 1 = .ok (.invokespecial 3, 3) := by decide +kernel
theorem dX1_init_4 : decode cX1_init 4 = .ok (.aload_n 0, 1) := by decide +kernel
theorem dX1_init_5 : decode cX1_init 5 = .ok (.new 9, 3) := by decide +kernel
theorem dX1_init_8 : decode cX1_init 8 = .ok (.dup, 1) := by decide +kernel
theorem dX1_init_9 : decode cX1_init 9 = .ok (.invokespecial 11, 3) := by decide +kernel
theorem dX1_init_12 : decode cX1_init 12 = .ok (.putfield 12, 3) := by decide +kernel
theorem dX1_init_15 : decode cX1_init 15 = .ok (.aload_n 0, 1) := by decide +kernel
theorem dX1_init_16 : decode cX1_init 16 = .ok (.iconst 0, 1) := by decide +kernel
theorem dX1_init_17 : decode cX1_init 17 = .ok (.putfield 18, 3) := by decide +kernel
theorem dX1_init_20 : decode cX1_init 20 = .ok (.aload_n 0, 1) := by decide +kernel
theorem dX1_init_21 : decode cX1_init 21 = .ok (.aload_n 1, 1) := by decide +kernel
theorem dX1_init_22 : decode cX1_init 22 = .ok (.putfield 22, 3) := by decide +kernel
theorem dX1_init_25 : decode cX1_init 25 = .ok (.aload_n 0, 1) := by decide +kernel
theorem dX1_init_26 : decode cX1_init 26 = .ok (.aload_n 2, 1) := by decide +kernel
theorem dX1_init_27 : decode cX1_init 27 = .ok (.putfield 26, 3) := by decide +kernel
theorem dX1_init_30 : decode cX1_init 30 = .ok (.aload_n 0, 1) := by decide +kernel
theorem dX1_init_31 : decode cX1_init 31 = .ok (.aload_n 3, 1) := by decide +kernel
theorem dX1_init_32 : decode cX1_init 32 = .ok (.putfield 30, 3) := by decide +kernel
theorem dX1_init_35 : decode cX1_init 35 = .ok (.aload_n 0, 1) := by decide +kernel
theorem dX1_init_36 : decode cX1_init 36 = .ok (.iload 4, 2) := by decide +kernel
theorem dX1_init_38 : decode cX1_init 38 = .ok (.putfield 34, 3) := by decide +kernel
theorem dX1_init_41 : decode cX1_init 41 = .ok (.aload_n 0, 1) := by decide +kernel
theorem dX1_init_42 : decode cX1_init 42 = .ok (.iload 4, 2) := by decide +kernel
theorem dX1_init_44 : decode cX1_init 44 = .ok (.ifCond .eq 8, 3) := by decide +kernel
theorem dX1_init_47 : decode cX1_init 47 = .ok (.bipush 45, 2) := by decide +kernel
theorem dX1_init_49 : decode cX1_init 49 = .ok (.goto 5, 3) := by decide +kernel
theorem dX1_init_52 : decode cX1_init 52 = .ok (.bipush 20, 2) := by decide +kernel
theorem dX1_init_54 : decode cX1_init 54 = .ok (.putfield 37, 3) := by decide +kernel
theorem dX1_init_57 : decode cX1_init 57 = .ok (.aload_n 0, 1) := by decide +kernel
theorem dX1_init_58 : decode cX1_init 58 = .ok (.aload_n 0, 1) := by decide +kernel
theorem dX1_init_59 : decode cX1_init 59 = .ok (.getfield 37, 3) := by decide +kernel
theorem dX1_init_62 : decode cX1_init 62 = .ok (.newarray .int, 2) := by decide +kernel
theorem dX1_init_64 : decode cX1_init 64 = .ok (.putfield 41, 3) := by decide +kernel
theorem dX1_init_67 : decode cX1_init 67 = .ok (.aload_n 0, 1) := by decide +kernel
theorem dX1_init_68 : decode cX1_init 68 = .ok (.aload_n 0, 1) := by decide +kernel
theorem dX1_init_69 : decode cX1_init 69 = .ok (.getfield 37, 3) := by decide +kernel
theorem dX1_init_72 : decode cX1_init 72 = .ok (.newarray .int, 2) := by decide +kernel
theorem dX1_init_74 : decode cX1_init 74 = .ok (.putfield 45, 3) := by decide +kernel
theorem dX1_init_77 : decode cX1_init 77 = .ok (.iload 4, 2) := by decide +kernel
theorem dX1_init_79 : decode cX1_init 79 = .ok (.ifCond .eq 8, 3) := by decide +kernel
theorem dX1_init_82 : decode cX1_init 82 = .ok (.bipush 9, 2) := by decide +kernel
theorem dX1_init_84 : decode cX1_init 84 = .ok (.goto 5, 3) := by decide +kernel
theorem dX1_init_87 : decode cX1_init 87 = .ok (.bipush 20, 2) := by decide +kernel
theorem dX1_init_89 : decode cX1_init 89 = .ok (.istore 5, 2) := by decide +kernel
theorem dX1_init_91 : decode cX1_init 91 = .ok (.iconst 0, 1) := by decide +kernel
theorem dX1_init_92 : decode cX1_init 92 = .ok (.istore 6, 2) := by decide +kernel
theorem dX1_init_94 : decode cX1_init 94 = .ok (.iconst 1, 1) := by decide +kernel
theorem dX1_init_95 : decode cX1_init 95 = .ok (.istore 7, 2) := by decide +kernel
theorem dX1_init_97 : decode cX1_init 97 = .ok (.iload 7, 2) := by decide +kernel
theorem dX1_init_99 : decode cX1_init 99 = .ok (.iload 5, 2) := by decide +kernel
theorem dX1_init_101 : decode cX1_init 101 = .ok (.if_icmp .gt 73, 3) := by decide +kernel
theorem dX1_init_104 : decode cX1_init 104 = .ok (.iload 4, 2) := by decide +kernel
theorem dX1_init_106 : decode cX1_init 106 = .ok (.ifCond .eq 13, 3) := by decide +kernel
theorem dX1_init_109 : decode cX1_init 109 = .ok (.bipush 9, 2) := by decide +kernel
theorem dX1_init_111 : decode cX1_init 111 = .ok (.iload 7, 2) := by decide +kernel
theorem dX1_init_113 : decode cX1_init 113 = .ok (.isub, 1) := by decide +kernel
theorem dX1_init_114 : decode cX1_init 114 = .ok (.iconst 1, 1) := by decide +kernel
theorem dX1_init_115 : decode cX1_init 115 = .ok (.iadd, 1) := by decide +kernel
theorem dX1_init_116 : decode cX1_init 116 = .ok (.goto 4, 3) := by decide +kernel
theorem dX1_init_119 : decode cX1_init 119 = .ok (.iconst 1, 1) := by decide +kernel
theorem dX1_init_120 : decode cX1_init 120 = .ok (.istore 8, 2) := by decide +kernel
theorem dX1_init_122 : decode cX1_init 122 = .ok (.iconst 0, 1) := by decide +kernel
theorem dX1_init_123 : decode cX1_init 123 = .ok (.istore 9, 2) := by decide +kernel
theorem dX1_init_125 : decode cX1_init 125 = .ok (.iload 9, 2) := by decide +kernel
theorem dX1_init_127 : decode cX1_init 127 = .ok (.iload 8, 2) := by decide +kernel
theorem dX1_init_129 : decode cX1_init 129 = .ok (.if_icmp .ge 39, 3) := by decide +kernel
theorem dX1_init_132 : decode cX1_init 132 = .ok (.iload 6, 2) := by decide +kernel
theorem dX1_init_134 : decode cX1_init 134 = .ok (.aload_n 0, 1) := by decide +kernel
theorem dX1_init_135 : decode cX1_init 135 = .ok (.getfield 37, 3) := by decide +kernel
theorem dX1_init_138 : decode cX1_init 138 = .ok (.if_icmp .ge 30, 3) := by decide +kernel
theorem dX1_init_141 : decode cX1_init 141 = .ok (.aload_n 0, 1) := by decide +kernel
theorem dX1_init_142 : decode cX1_init 142 = .ok (.getfield 41, 3) := by decide +kernel
theorem dX1_init_145 : decode cX1_init 145 = .ok (.iload 6, 2) := by decide +kernel
theorem dX1_init_147 : decode cX1_init 147 = .ok (.iload 9, 2) := by decide +kernel
theorem dX1_init_149 : decode cX1_init 149 = .ok (.iastore, 1) := by decide +kernel
theorem dX1_init_150 : decode cX1_init 150 = .ok (.aload_n 0, 1) := by decide +kernel
theorem dX1_init_151 : decode cX1_init 151 = .ok (.getfield 45, 3) := by decide +kernel
theorem dX1_init_154 : decode cX1_init 154 = .ok (.iload 6, 2) := by decide +kernel
theorem dX1_init_156 : decode cX1_init 156 = .ok (.iload 7, 2) := by decide +kernel
theorem dX1_init_158 : decode cX1_init 158 = .ok (.iastore, 1) := by decide +kernel
theorem dX1_init_159 : decode cX1_init 159 = .ok (.iinc 6 1, 3) := by decide +kernel
theorem dX1_init_162 : decode cX1_init 162 = .ok (.iinc 9 1, 3) := by decide +kernel
theorem dX1_init_165 : decode cX1_init 165 = .ok (.goto (-40), 3) := by decide +kernel
theorem dX1_init_168 : decode cX1_init 168 = .ok (.iinc 7 1, 3) := by decide +kernel
theorem dX1_init_171 : decode cX1_init 171 = .ok (.goto (-74), 3) := by decide +kernel
theorem dX1_init_174 : decode cX1_init 174 = .ok (.aload_n 0, 1) := by decide +kernel
theorem dX1_init_175 : decode cX1_init 175 = .ok (.aload_n 0, 1) := by decide +kernel
theorem dX1_init_176 : decode cX1_init 176 = .ok (.getfield 37, 3) := by decide +kernel
theorem dX1_init_179 : decode cX1_init 179 = .ok (.aload_n 0, 1) := by decide +kernel
theorem dX1_init_180 : decode cX1_init 180 = .ok (.getfield 37, 3) := by decide +kernel
theorem dX1_init_183 : decode cX1_init 183 = .ok (.imul, 1) := by decide +kernel
theorem dX1_init_184 : decode cX1_init 184 = .ok (.newarray .int, 2) := by decide +kernel
theorem dX1_init_186 : decode cX1_init 186 = .ok (.putfield 48, 3) := by decide +kernel
theorem dX1_init_189 : decode cX1_init 189 = .ok (.aload_n 0, 1) := by decide +kernel
theorem dX1_init_190 : decode cX1_init 190 = .ok (.aload_n 0, 1) := by decide +kernel
theorem dX1_init_191 : decode cX1_init 191 = .ok (.getfield 37, 3) := by decide +kernel
theorem dX1_init_194 : decode cX1_init 194 = .ok (.aload_n 0, 1) := by decide +kernel
theorem dX1_init_195 : decode cX1_init 195 = .ok (.getfield 37, 3) := by decide +kernel
theorem dX1_init_198 : decode cX1_init 198 = .ok (.imul, 1) := by decide +kernel
theorem dX1_init_199 : decode cX1_init 199 = .ok (.newarray .int, 2) := by decide +kernel
theorem dX1_init_201 : decode cX1_init 201 = .ok (.putfield 51, 3) := by decide +kernel
theorem dX1_init_204 : decode cX1_init 204 = .ok (.aload_n 0, 1) := by decide +kernel
theorem dX1_init_205 : decode cX1_init 205 = .ok (.aload_n 0, 1) := by decide +kernel
theorem dX1_init_206 : decode cX1_init 206 = .ok (.getfield 37, 3) := by decide +kernel
theorem dX1_init_209 : decode cX1_init 209 = .ok (.aload_n 0, 1) := by decide +kernel
theorem dX1_init_210 : decode cX1_init 210 = .ok (.getfield 37, 3) := by decide +kernel
theorem dX1_init_213 : decode cX1_init 213 = .ok (.imul, 1) := by decide +kernel
theorem dX1_init_214 : decode cX1_init 214 = .ok (.bipush 8, 2) := by decide +kernel
theorem dX1_init_216 : decode cX1_init 216 = .ok (.imul, 1) := by decide +kernel
theorem dX1_init_217 : decode cX1_init 217 = .ok (.newarray .long, 2) := by decide +kernel
theorem dX1_init_219 : decode cX1_init 219 = .ok (.putfield 54, 3) := by decide +kernel
theorem dX1_init_222 : decode cX1_init 222 = .ok (.aload_n 0, 1) := by decide +kernel
theorem dX1_init_223 : decode cX1_init 223 = .ok (.aload_n 0, 1) := by decide +kernel
theorem dX1_init_224 : decode cX1_init 224 = .ok (.getfield 37, 3) := by decide +kernel
theorem dX1_init_227 : decode cX1_init 227 = .ok (.aload_n 0, 1) := by decide +kernel
theorem dX1_init_228 : decode cX1_init 228 = .ok (.getfield 37, 3) := by decide +kernel
theorem dX1_init_231 : decode cX1_init 231 = .ok (.imul, 1) := by decide +kernel
theorem dX1_init_232 : decode cX1_init 232 = .ok (.bipush 8, 2) := by decide +kernel
theorem dX1_init_234 : decode cX1_init 234 = .ok (.imul, 1) := by decide +kernel
theorem dX1_init_235 : decode cX1_init 235 = .ok (.newarray .long, 2) := by decide +kernel
theorem dX1_init_237 : decode cX1_init 237 = .ok (.putfield 58, 3) := by decide +kernel
theorem dX1_init_240 : decode cX1_init 240 = .ok (.aload_n 0, 1) := by decide +kernel
theorem dX1_init_241 : decode cX1_init 241 = .ok (.aload_n 0, 1) := by decide +kernel
theorem dX1_init_242 : decode cX1_init 242 = .ok (.getfield 37, 3) := by decide +kernel
theorem dX1_init_245 : decode cX1_init 245 = .ok (.aload_n 0, 1) := by decide +kernel
theorem dX1_init_246 : decode cX1_init 246 = .ok (.getfield 37, 3) := by decide +kernel
theorem dX1_init_249 : decode cX1_init 249 = .ok (.imul, 1) := by decide +kernel
theorem dX1_init_250 : decode cX1_init 250 = .ok (.bipush 8, 2) := by decide +kernel
theorem dX1_init_252 : decode cX1_init 252 = .ok (.imul, 1) := by decide +kernel
theorem dX1_init_253 : decode cX1_init 253 = .ok (.newarray .byte, 2) := by decide +kernel
theorem dX1_init_255 : decode cX1_init 255 = .ok (.putfield 61, 3) := by decide +kernel
theorem dX1_init_258 : decode cX1_init 258 = .ok (.return_, 1) := by decide +kernel
theorem dX1_settle_0 : decode cX1_settle 0 = .ok (.aload_n 0, 1) := by decide +kernel
theorem dX1_settle_1 : decode cX1_settle 1 = .ok (.getfield 18, 3) := by decide +kernel
theorem dX1_settle_4 : decode cX1_settle 4 = .ok (.ifCond .eq 24, 3) := by decide +kernel
theorem dX1_settle_7 : decode cX1_settle 7 = .ok (.aload_n 0, 1) := by decide +kernel
theorem dX1_settle_8 : decode cX1_settle 8 = .ok (.getfield 48, 3) := by decide +kernel
theorem dX1_settle_11 : decode cX1_settle 11 = .ok (.iconst 0, 1) := by decide +kernel
theorem dX1_settle_12 : decode cX1_settle 12 = .ok (.invokestatic 65, 3) := by decide +kernel
theorem dX1_settle_15 : decode cX1_settle 15 = .ok (.aload_n 0, 1) := by decide +kernel
theorem dX1_settle_16 : decode cX1_settle 16 = .ok (.getfield 51, 3) := by decide +kernel
theorem dX1_settle_19 : decode cX1_settle 19 = .ok (.iconst 0, 1) := by decide +kernel
theorem dX1_settle_20 : decode cX1_settle 20 = .ok (.invokestatic 65, 3) := by decide +kernel
theorem dX1_settle_23 : decode cX1_settle 23 = .ok (.aload_n 0, 1) := by decide +kernel
theorem dX1_settle_24 : decode cX1_settle 24 = .ok (.iconst 0, 1) := by decide +kernel
theorem dX1_settle_25 : decode cX1_settle 25 = .ok (.putfield 18, 3) := by decide +kernel
theorem dX1_settle_28 : decode cX1_settle 28 = .ok (.aload_n 0, 1) := by decide +kernel
theorem dX1_settle_29 : decode cX1_settle 29 = .ok (.iload_n 2, 1) := by decide +kernel
theorem dX1_settle_30 : decode cX1_settle 30 = .ok (.iload 4, 2) := by decide +kernel
theorem dX1_settle_32 : decode cX1_settle 32 = .ok (.invokevirtual 71, 3) := by decide +kernel
theorem dX1_settle_35 : decode cX1_settle 35 = .ok (.aload_n 0, 1) := by decide +kernel
theorem dX1_settle_36 : decode cX1_settle 36 = .ok (.getfield 37, 3) := by decide +kernel
theorem dX1_settle_39 : decode cX1_settle 39 = .ok (.imul, 1) := by decide +kernel
theorem dX1_settle_40 : decode cX1_settle 40 = .ok (.aload_n 0, 1) := by decide +kernel
theorem dX1_settle_41 : decode cX1_settle 41 = .ok (.iload_n 3, 1) := by decide +kernel
theorem dX1_settle_42 : decode cX1_settle 42 = .ok (.iload 5, 2) := by decide +kernel
theorem dX1_settle_44 : decode cX1_settle 44 = .ok (.invokevirtual 71, 3) := by decide +kernel
theorem dX1_settle_47 : decode cX1_settle 47 = .ok (.iadd, 1) := by decide +kernel
theorem dX1_settle_48 : decode cX1_settle 48 = .ok (.istore 6, 2) := by decide +kernel
theorem dX1_settle_50 : decode cX1_settle 50 = .ok (.iload 6, 2) := by decide +kernel
theorem dX1_settle_52 : decode cX1_settle 52 = .ok (.ifCond .lt 20, 3) := by decide +kernel
theorem dX1_settle_55 : decode cX1_settle 55 = .ok (.iload 6, 2) := by decide +kernel
theorem dX1_settle_57 : decode cX1_settle 57 = .ok (.aload_n 0, 1) := by decide +kernel
theorem dX1_settle_58 : decode cX1_settle 58 = .ok (.getfield 51, 3) := by decide +kernel
theorem dX1_settle_61 : decode cX1_settle 61 = .ok (.arraylength, 1) := by decide +kernel
theorem dX1_settle_62 : decode cX1_settle 62 = .ok (.if_icmp .ge 10, 3) := by decide +kernel
theorem dX1_settle_65 : decode cX1_settle 65 = .ok (.iload_n 1, 1) := by decide +kernel
theorem dX1_settle_66 : decode cX1_settle 66 = .ok (.invokestatic 75, 3) := by decide +kernel
theorem dX1_settle_69 : decode cX1_settle 69 = .ok (.ifCond .ne 6, 3) := by decide +kernel
theorem dX1_settle_72 : decode cX1_settle 72 = .ok (.bipush (-9), 2) := by decide +kernel
theorem dX1_settle_74 : decode cX1_settle 74 = .ok (.ireturn, 1) := by decide +kernel
theorem dX1_settle_75 : decode cX1_settle 75 = .ok (.aload_n 0, 1) := by decide +kernel
theorem dX1_settle_76 : decode cX1_settle 76 = .ok (.getfield 48, 3) := by decide +kernel
theorem dX1_settle_79 : decode cX1_settle 79 = .ok (.iload 6, 2) := by decide +kernel
theorem dX1_settle_81 : decode cX1_settle 81 = .ok (.dup2, 1) := by decide +kernel
theorem dX1_settle_82 : decode cX1_settle 82 = .ok (.iaload, 1) := by decide +kernel
theorem dX1_settle_83 : decode cX1_settle 83 = .ok (.iconst 1, 1) := by decide +kernel
theorem dX1_settle_84 : decode cX1_settle 84 = .ok (.iload_n 1, 1) := by decide +kernel
theorem dX1_settle_85 : decode cX1_settle 85 = .ok (.ishl, 1) := by decide +kernel
theorem dX1_settle_86 : decode cX1_settle 86 = .ok (.ior, 1) := by decide +kernel
theorem dX1_settle_87 : decode cX1_settle 87 = .ok (.iastore, 1) := by decide +kernel
theorem dX1_settle_88 : decode cX1_settle 88 = .ok (.aload_n 0, 1) := by decide +kernel
theorem dX1_settle_89 : decode cX1_settle 89 = .ok (.getfield 51, 3) := by decide +kernel
theorem dX1_settle_92 : decode cX1_settle 92 = .ok (.iload 6, 2) := by decide +kernel
theorem dX1_settle_94 : decode cX1_settle 94 = .ok (.iaload, 1) := by decide +kernel
theorem dX1_settle_95 : decode cX1_settle 95 = .ok (.iload_n 1, 1) := by decide +kernel
theorem dX1_settle_96 : decode cX1_settle 96 = .ok (.ishr, 1) := by decide +kernel
theorem dX1_settle_97 : decode cX1_settle 97 = .ok (.iconst 1, 1) := by decide +kernel
theorem dX1_settle_98 : decode cX1_settle 98 = .ok (.iand, 1) := by decide +kernel
theorem dX1_settle_99 : decode cX1_settle 99 = .ok (.ifCond .ne 46, 3) := by decide +kernel
theorem dX1_settle_102 : decode cX1_settle 102 = .ok (.iload 6, 2) := by decide +kernel
theorem dX1_settle_104 : decode cX1_settle 104 = .ok (.istore 7, 2) := by decide +kernel
theorem dX1_settle_106 : decode cX1_settle 106 = .ok (.iload 7, 2) := by decide +kernel
theorem dX1_settle_108 : decode cX1_settle 108 = .ok (.ifCond .lt 15, 3) := by decide +kernel
theorem dX1_settle_111 : decode cX1_settle 111 = .ok (.aload_n 0, 1) := by decide +kernel
theorem dX1_settle_112 : decode cX1_settle 112 = .ok (.iload 7, 2) := by decide +kernel
theorem dX1_settle_114 : decode cX1_settle 114 = .ok (.invokevirtual 79, 3) := by decide +kernel
theorem dX1_settle_117 : decode cX1_settle 117 = .ok (.iinc 7 (-1), 3) := by decide +kernel
theorem dX1_settle_120 : decode cX1_settle 120 = .ok (.goto (-14), 3) := by decide +kernel
theorem dX1_settle_123 : decode cX1_settle 123 = .ok (.iconst 0, 1) := by decide +kernel
theorem dX1_settle_124 : decode cX1_settle 124 = .ok (.istore 7, 2) := by decide +kernel
theorem dX1_settle_126 : decode cX1_settle 126 = .ok (.iload 7, 2) := by decide +kernel
theorem dX1_settle_128 : decode cX1_settle 128 = .ok (.iload 6, 2) := by decide +kernel
theorem dX1_settle_130 : decode cX1_settle 130 = .ok (.if_icmp .gt 15, 3) := by decide +kernel
theorem dX1_settle_133 : decode cX1_settle 133 = .ok (.aload_n 0, 1) := by decide +kernel
theorem dX1_settle_134 : decode cX1_settle 134 = .ok (.iload 7, 2) := by decide +kernel
theorem dX1_settle_136 : decode cX1_settle 136 = .ok (.invokevirtual 83, 3) := by decide +kernel
theorem dX1_settle_139 : decode cX1_settle 139 = .ok (.iinc 7 1, 3) := by decide +kernel
theorem dX1_settle_142 : decode cX1_settle 142 = .ok (.goto (-16), 3) := by decide +kernel
theorem dX1_settle_145 : decode cX1_settle 145 = .ok (.iload 6, 2) := by decide +kernel
theorem dX1_settle_147 : decode cX1_settle 147 = .ok (.bipush 8, 2) := by decide +kernel
theorem dX1_settle_149 : decode cX1_settle 149 = .ok (.imul, 1) := by decide +kernel
theorem dX1_settle_150 : decode cX1_settle 150 = .ok (.iload_n 1, 1) := by decide +kernel
theorem dX1_settle_151 : decode cX1_settle 151 = .ok (.iadd, 1) := by decide +kernel
theorem dX1_settle_152 : decode cX1_settle 152 = .ok (.ireturn, 1) := by decide +kernel
theorem dX1_waysOf_0 : decode cX1_waysOf 0 = .ok (.iload_n 1, 1) := by decide +kernel
theorem dX1_waysOf_1 : decode cX1_waysOf 1 = .ok (.ifCond .lt 21, 3) := by decide +kernel
theorem dX1_waysOf_4 : decode cX1_waysOf 4 = .ok (.iload_n 1, 1) := by decide +kernel
theorem dX1_waysOf_5 : decode cX1_waysOf 5 = .ok (.aload_n 0, 1) := by decide +kernel
theorem dX1_waysOf_6 : decode cX1_waysOf 6 = .ok (.getfield 54, 3) := by decide +kernel
theorem dX1_waysOf_9 : decode cX1_waysOf 9 = .ok (.arraylength, 1) := by decide +kernel
theorem dX1_waysOf_10 : decode cX1_waysOf 10 = .ok (.if_icmp .ge 12, 3) := by decide +kernel
theorem dX1_waysOf_13 : decode cX1_waysOf 13 = .ok (.aload_n 0, 1) := by decide +kernel
theorem dX1_waysOf_14 : decode cX1_waysOf 14 = .ok (.getfield 54, 3) := by decide +kernel
theorem dX1_waysOf_17 : decode cX1_waysOf 17 = .ok (.iload_n 1, 1) := by decide +kernel
theorem dX1_waysOf_18 : decode cX1_waysOf 18 = .ok (.laload, 1) := by decide +kernel
theorem dX1_waysOf_19 : decode cX1_waysOf 19 = .ok (.goto 4, 3) := by decide +kernel
theorem dX1_waysOf_22 : decode cX1_waysOf 22 = .ok (.lconst 0, 1) := by decide +kernel
theorem dX1_waysOf_23 : decode cX1_waysOf 23 = .ok (.lreturn, 1) := by decide +kernel
theorem dX1_costOf_0 : decode cX1_costOf 0 = .ok (.aload_n 0, 1) := by decide +kernel
theorem dX1_costOf_1 : decode cX1_costOf 1 = .ok (.iload_n 1, 1) := by decide +kernel
theorem dX1_costOf_2 : decode cX1_costOf 2 = .ok (.invokevirtual 86, 3) := by decide +kernel
theorem dX1_costOf_5 : decode cX1_costOf 5 = .ok (.lstore_n 2, 1) := by decide +kernel
theorem dX1_costOf_6 : decode cX1_costOf 6 = .ok (.lload_n 2, 1) := by decide +kernel
theorem dX1_costOf_7 : decode cX1_costOf 7 = .ok (.lconst 0, 1) := by decide +kernel
theorem dX1_costOf_8 : decode cX1_costOf 8 = .ok (.lcmp, 1) := by decide +kernel
theorem dX1_costOf_9 : decode cX1_costOf 9 = .ok (.ifCond .ge 8, 3) := by decide +kernel
theorem dX1_costOf_12 : decode cX1_costOf 12 = .ok (.bipush (-9), 2) := by decide +kernel
theorem dX1_costOf_14 : decode cX1_costOf 14 = .ok (.goto 9, 3) := by decide +kernel
theorem dX1_costOf_17 : decode cX1_costOf 17 = .ok (.lload_n 2, 1) := by decide +kernel
theorem dX1_costOf_18 : decode cX1_costOf 18 = .ok (.ldc2_w 90, 3) := by decide +kernel
theorem dX1_costOf_21 : decode cX1_costOf 21 = .ok (.ldiv, 1) := by decide +kernel
theorem dX1_costOf_22 : decode cX1_costOf 22 = .ok (.l2i, 1) := by decide +kernel
theorem dX1_costOf_23 : decode cX1_costOf 23 = .ok (.ireturn, 1) := by decide +kernel
theorem dX1_stepsOf_0 : decode cX1_stepsOf 0 = .ok (.aload_n 0, 1) := by decide +kernel
theorem dX1_stepsOf_1 : decode cX1_stepsOf 1 = .ok (.iload_n 1, 1) := by decide +kernel
theorem dX1_stepsOf_2 : decode cX1_stepsOf 2 = .ok (.invokevirtual 86, 3) := by decide +kernel
theorem dX1_stepsOf_5 : decode cX1_stepsOf 5 = .ok (.lstore_n 2, 1) := by decide +kernel
theorem dX1_stepsOf_6 : decode cX1_stepsOf 6 = .ok (.lload_n 2, 1) := by decide +kernel
theorem dX1_stepsOf_7 : decode cX1_stepsOf 7 = .ok (.lconst 0, 1) := by decide +kernel
theorem dX1_stepsOf_8 : decode cX1_stepsOf 8 = .ok (.lcmp, 1) := by decide +kernel
theorem dX1_stepsOf_9 : decode cX1_stepsOf 9 = .ok (.ifCond .ge 7, 3) := by decide +kernel
theorem dX1_stepsOf_12 : decode cX1_stepsOf 12 = .ok (.iconst 0, 1) := by decide +kernel
theorem dX1_stepsOf_13 : decode cX1_stepsOf 13 = .ok (.goto 9, 3) := by decide +kernel
theorem dX1_stepsOf_16 : decode cX1_stepsOf 16 = .ok (.lload_n 2, 1) := by decide +kernel
theorem dX1_stepsOf_17 : decode cX1_stepsOf 17 = .ok (.ldc2_w 90, 3) := by decide +kernel
theorem dX1_stepsOf_20 : decode cX1_stepsOf 20 = .ok (.lrem, 1) := by decide +kernel
theorem dX1_stepsOf_21 : decode cX1_stepsOf 21 = .ok (.l2i, 1) := by decide +kernel
theorem dX1_stepsOf_22 : decode cX1_stepsOf 22 = .ok (.ireturn, 1) := by decide +kernel
theorem dX1_pickOf_0 : decode cX1_pickOf 0 = .ok (.iload_n 1, 1) := by decide +kernel
theorem dX1_pickOf_1 : decode cX1_pickOf 1 = .ok (.ifCond .lt 21, 3) := by decide +kernel
theorem dX1_pickOf_4 : decode cX1_pickOf 4 = .ok (.iload_n 1, 1) := by decide +kernel
theorem dX1_pickOf_5 : decode cX1_pickOf 5 = .ok (.aload_n 0, 1) := by decide +kernel
theorem dX1_pickOf_6 : decode cX1_pickOf 6 = .ok (.getfield 61, 3) := by decide +kernel
theorem dX1_pickOf_9 : decode cX1_pickOf 9 = .ok (.arraylength, 1) := by decide +kernel
theorem dX1_pickOf_10 : decode cX1_pickOf 10 = .ok (.if_icmp .ge 12, 3) := by decide +kernel
theorem dX1_pickOf_13 : decode cX1_pickOf 13 = .ok (.aload_n 0, 1) := by decide +kernel
theorem dX1_pickOf_14 : decode cX1_pickOf 14 = .ok (.getfield 61, 3) := by decide +kernel
theorem dX1_pickOf_17 : decode cX1_pickOf 17 = .ok (.iload_n 1, 1) := by decide +kernel
theorem dX1_pickOf_18 : decode cX1_pickOf 18 = .ok (.baload, 1) := by decide +kernel
theorem dX1_pickOf_19 : decode cX1_pickOf 19 = .ok (.goto 5, 3) := by decide +kernel
theorem dX1_pickOf_22 : decode cX1_pickOf 22 = .ok (.bipush (-9), 2) := by decide +kernel
theorem dX1_pickOf_24 : decode cX1_pickOf 24 = .ok (.ireturn, 1) := by decide +kernel
theorem dX1_weightOf_0 : decode cX1_weightOf 0 = .ok (.iload_n 1, 1) := by decide +kernel
theorem dX1_weightOf_1 : decode cX1_weightOf 1 = .ok (.ifCond .lt 21, 3) := by decide +kernel
theorem dX1_weightOf_4 : decode cX1_weightOf 4 = .ok (.iload_n 1, 1) := by decide +kernel
theorem dX1_weightOf_5 : decode cX1_weightOf 5 = .ok (.aload_n 0, 1) := by decide +kernel
theorem dX1_weightOf_6 : decode cX1_weightOf 6 = .ok (.getfield 58, 3) := by decide +kernel
theorem dX1_weightOf_9 : decode cX1_weightOf 9 = .ok (.arraylength, 1) := by decide +kernel
theorem dX1_weightOf_10 : decode cX1_weightOf 10 = .ok (.if_icmp .ge 12, 3) := by decide +kernel
theorem dX1_weightOf_13 : decode cX1_weightOf 13 = .ok (.aload_n 0, 1) := by decide +kernel
theorem dX1_weightOf_14 : decode cX1_weightOf 14 = .ok (.getfield 58, 3) := by decide +kernel
theorem dX1_weightOf_17 : decode cX1_weightOf 17 = .ok (.iload_n 1, 1) := by decide +kernel
theorem dX1_weightOf_18 : decode cX1_weightOf 18 = .ok (.laload, 1) := by decide +kernel
theorem dX1_weightOf_19 : decode cX1_weightOf 19 = .ok (.goto 6, 3) := by decide +kernel
theorem dX1_weightOf_22 : decode cX1_weightOf 22 = .ok (.ldc2_w 92, 3) := by decide +kernel
theorem dX1_weightOf_25 : decode cX1_weightOf 25 = .ok (.lreturn, 1) := by decide +kernel
theorem dX1_spanOf_0 : decode cX1_spanOf 0 = .ok (.aload_n 0, 1) := by decide +kernel
theorem dX1_spanOf_1 : decode cX1_spanOf 1 = .ok (.getfield 34, 3) := by decide +kernel
theorem dX1_spanOf_4 : decode cX1_spanOf 4 = .ok (.ifCond .eq 18, 3) := by decide +kernel
theorem dX1_spanOf_7 : decode cX1_spanOf 7 = .ok (.iload_n 2, 1) := by decide +kernel
theorem dX1_spanOf_8 : decode cX1_spanOf 8 = .ok (.iconst 1, 1) := by decide +kernel
theorem dX1_spanOf_9 : decode cX1_spanOf 9 = .ok (.isub, 1) := by decide +kernel
theorem dX1_spanOf_10 : decode cX1_spanOf 10 = .ok (.bipush 20, 2) := by decide +kernel
theorem dX1_spanOf_12 : decode cX1_spanOf 12 = .ok (.iload_n 2, 1) := by decide +kernel
theorem dX1_spanOf_13 : decode cX1_spanOf 13 = .ok (.isub, 1) := by decide +kernel
theorem dX1_spanOf_14 : decode cX1_spanOf 14 = .ok (.imul, 1) := by decide +kernel
theorem dX1_spanOf_15 : decode cX1_spanOf 15 = .ok (.iconst 2, 1) := by decide +kernel
theorem dX1_spanOf_16 : decode cX1_spanOf 16 = .ok (.idiv, 1) := by decide +kernel
theorem dX1_spanOf_17 : decode cX1_spanOf 17 = .ok (.iload_n 1, 1) := by decide +kernel
theorem dX1_spanOf_18 : decode cX1_spanOf 18 = .ok (.iadd, 1) := by decide +kernel
theorem dX1_spanOf_19 : decode cX1_spanOf 19 = .ok (.goto 6, 3) := by decide +kernel
theorem dX1_spanOf_22 : decode cX1_spanOf 22 = .ok (.iload_n 2, 1) := by decide +kernel
theorem dX1_spanOf_23 : decode cX1_spanOf 23 = .ok (.iconst 1, 1) := by decide +kernel
theorem dX1_spanOf_24 : decode cX1_spanOf 24 = .ok (.isub, 1) := by decide +kernel
theorem dX1_spanOf_25 : decode cX1_spanOf 25 = .ok (.ireturn, 1) := by decide +kernel
theorem dX1_cellOfPart_0 : decode cX1_cellOfPart 0 = .ok (.iload_n 1, 1) := by decide +kernel
theorem dX1_cellOfPart_1 : decode cX1_cellOfPart 1 = .ok (.aload_n 0, 1) := by decide +kernel
theorem dX1_cellOfPart_2 : decode cX1_cellOfPart 2 = .ok (.getfield 37, 3) := by decide +kernel
theorem dX1_cellOfPart_5 : decode cX1_cellOfPart 5 = .ok (.idiv, 1) := by decide +kernel
theorem dX1_cellOfPart_6 : decode cX1_cellOfPart 6 = .ok (.istore 4, 2) := by decide +kernel
theorem dX1_cellOfPart_8 : decode cX1_cellOfPart 8 = .ok (.iload_n 1, 1) := by decide +kernel
theorem dX1_cellOfPart_9 : decode cX1_cellOfPart 9 = .ok (.aload_n 0, 1) := by decide +kernel
theorem dX1_cellOfPart_10 : decode cX1_cellOfPart 10 = .ok (.getfield 37, 3) := by decide +kernel
theorem dX1_cellOfPart_13 : decode cX1_cellOfPart 13 = .ok (.irem, 1) := by decide +kernel
theorem dX1_cellOfPart_14 : decode cX1_cellOfPart 14 = .ok (.istore 5, 2) := by decide +kernel
theorem dX1_cellOfPart_16 : decode cX1_cellOfPart 16 = .ok (.iload_n 2, 1) := by decide +kernel
theorem dX1_cellOfPart_17 : decode cX1_cellOfPart 17 = .ok (.ifCond .eq 38, 3) := by decide +kernel
theorem dX1_cellOfPart_20 : decode cX1_cellOfPart 20 = .ok (.aload_n 0, 1) := by decide +kernel
theorem dX1_cellOfPart_21 : decode cX1_cellOfPart 21 = .ok (.aload_n 0, 1) := by decide +kernel
theorem dX1_cellOfPart_22 : decode cX1_cellOfPart 22 = .ok (.getfield 41, 3) := by decide +kernel
theorem dX1_cellOfPart_25 : decode cX1_cellOfPart 25 = .ok (.iload 5, 2) := by decide +kernel
theorem dX1_cellOfPart_27 : decode cX1_cellOfPart 27 = .ok (.iaload, 1) := by decide +kernel
theorem dX1_cellOfPart_28 : decode cX1_cellOfPart 28 = .ok (.aload_n 0, 1) := by decide +kernel
theorem dX1_cellOfPart_29 : decode cX1_cellOfPart 29 = .ok (.getfield 26, 3) := by decide +kernel
theorem dX1_cellOfPart_32 : decode cX1_cellOfPart 32 = .ok (.getfield 94, 3) := by decide +kernel
theorem dX1_cellOfPart_35 : decode cX1_cellOfPart 35 = .ok (.iload_n 3, 1) := by decide +kernel
theorem dX1_cellOfPart_36 : decode cX1_cellOfPart 36 = .ok (.iaload, 1) := by decide +kernel
theorem dX1_cellOfPart_37 : decode cX1_cellOfPart 37 = .ok (.iadd, 1) := by decide +kernel
theorem dX1_cellOfPart_38 : decode cX1_cellOfPart 38 = .ok (.aload_n 0, 1) := by decide +kernel
theorem dX1_cellOfPart_39 : decode cX1_cellOfPart 39 = .ok (.getfield 26, 3) := by decide +kernel
theorem dX1_cellOfPart_42 : decode cX1_cellOfPart 42 = .ok (.getfield 99, 3) := by decide +kernel
theorem dX1_cellOfPart_45 : decode cX1_cellOfPart 45 = .ok (.iload_n 3, 1) := by decide +kernel
theorem dX1_cellOfPart_46 : decode cX1_cellOfPart 46 = .ok (.iaload, 1) := by decide +kernel
theorem dX1_cellOfPart_47 : decode cX1_cellOfPart 47 = .ok (.invokevirtual 71, 3) := by decide +kernel
theorem dX1_cellOfPart_50 : decode cX1_cellOfPart 50 = .ok (.istore 5, 2) := by decide +kernel
theorem dX1_cellOfPart_52 : decode cX1_cellOfPart 52 = .ok (.goto 35, 3) := by decide +kernel
theorem dX1_cellOfPart_55 : decode cX1_cellOfPart 55 = .ok (.aload_n 0, 1) := by decide +kernel
theorem dX1_cellOfPart_56 : decode cX1_cellOfPart 56 = .ok (.aload_n 0, 1) := by decide +kernel
theorem dX1_cellOfPart_57 : decode cX1_cellOfPart 57 = .ok (.getfield 41, 3) := by decide +kernel
theorem dX1_cellOfPart_60 : decode cX1_cellOfPart 60 = .ok (.iload 4, 2) := by decide +kernel
theorem dX1_cellOfPart_62 : decode cX1_cellOfPart 62 = .ok (.iaload, 1) := by decide +kernel
theorem dX1_cellOfPart_63 : decode cX1_cellOfPart 63 = .ok (.aload_n 0, 1) := by decide +kernel
theorem dX1_cellOfPart_64 : decode cX1_cellOfPart 64 = .ok (.getfield 26, 3) := by decide +kernel
theorem dX1_cellOfPart_67 : decode cX1_cellOfPart 67 = .ok (.getfield 94, 3) := by decide +kernel
theorem dX1_cellOfPart_70 : decode cX1_cellOfPart 70 = .ok (.iload_n 3, 1) := by decide +kernel
theorem dX1_cellOfPart_71 : decode cX1_cellOfPart 71 = .ok (.iaload, 1) := by decide +kernel
theorem dX1_cellOfPart_72 : decode cX1_cellOfPart 72 = .ok (.iadd, 1) := by decide +kernel
theorem dX1_cellOfPart_73 : decode cX1_cellOfPart 73 = .ok (.aload_n 0, 1) := by decide +kernel
theorem dX1_cellOfPart_74 : decode cX1_cellOfPart 74 = .ok (.getfield 26, 3) := by decide +kernel
theorem dX1_cellOfPart_77 : decode cX1_cellOfPart 77 = .ok (.getfield 99, 3) := by decide +kernel
theorem dX1_cellOfPart_80 : decode cX1_cellOfPart 80 = .ok (.iload_n 3, 1) := by decide +kernel
theorem dX1_cellOfPart_81 : decode cX1_cellOfPart 81 = .ok (.iaload, 1) := by decide +kernel
theorem dX1_cellOfPart_82 : decode cX1_cellOfPart 82 = .ok (.invokevirtual 71, 3) := by decide +kernel
theorem dX1_cellOfPart_85 : decode cX1_cellOfPart 85 = .ok (.istore 4, 2) := by decide +kernel
theorem dX1_cellOfPart_87 : decode cX1_cellOfPart 87 = .ok (.iload 4, 2) := by decide +kernel
theorem dX1_cellOfPart_89 : decode cX1_cellOfPart 89 = .ok (.aload_n 0, 1) := by decide +kernel
theorem dX1_cellOfPart_90 : decode cX1_cellOfPart 90 = .ok (.getfield 37, 3) := by decide +kernel
theorem dX1_cellOfPart_93 : decode cX1_cellOfPart 93 = .ok (.imul, 1) := by decide +kernel
theorem dX1_cellOfPart_94 : decode cX1_cellOfPart 94 = .ok (.iload 5, 2) := by decide +kernel
theorem dX1_cellOfPart_96 : decode cX1_cellOfPart 96 = .ok (.iadd, 1) := by decide +kernel
theorem dX1_cellOfPart_97 : decode cX1_cellOfPart 97 = .ok (.ireturn, 1) := by decide +kernel
theorem dX1_askBelow_0 : decode cX1_askBelow 0 = .ok (.aload_n 0, 1) := by decide +kernel
theorem dX1_askBelow_1 : decode cX1_askBelow 1 = .ok (.getfield 45, 3) := by decide +kernel
theorem dX1_askBelow_4 : decode cX1_askBelow 4 = .ok (.iload_n 1, 1) := by decide +kernel
theorem dX1_askBelow_5 : decode cX1_askBelow 5 = .ok (.aload_n 0, 1) := by decide +kernel
theorem dX1_askBelow_6 : decode cX1_askBelow 6 = .ok (.getfield 37, 3) := by decide +kernel
theorem dX1_askBelow_9 : decode cX1_askBelow 9 = .ok (.idiv, 1) := by decide +kernel
theorem dX1_askBelow_10 : decode cX1_askBelow 10 = .ok (.iaload, 1) := by decide +kernel
theorem dX1_askBelow_11 : decode cX1_askBelow 11 = .ok (.istore_n 2, 1) := by decide +kernel
theorem dX1_askBelow_12 : decode cX1_askBelow 12 = .ok (.aload_n 0, 1) := by decide +kernel
theorem dX1_askBelow_13 : decode cX1_askBelow 13 = .ok (.getfield 45, 3) := by decide +kernel
theorem dX1_askBelow_16 : decode cX1_askBelow 16 = .ok (.iload_n 1, 1) := by decide +kernel
theorem dX1_askBelow_17 : decode cX1_askBelow 17 = .ok (.aload_n 0, 1) := by decide +kernel
theorem dX1_askBelow_18 : decode cX1_askBelow 18 = .ok (.getfield 37, 3) := by decide +kernel
theorem dX1_askBelow_21 : decode cX1_askBelow 21 = .ok (.irem, 1) := by decide +kernel
theorem dX1_askBelow_22 : decode cX1_askBelow 22 = .ok (.iaload, 1) := by decide +kernel
theorem dX1_askBelow_23 : decode cX1_askBelow 23 = .ok (.istore_n 3, 1) := by decide +kernel
theorem dX1_askBelow_24 : decode cX1_askBelow 24 = .ok (.aload_n 0, 1) := by decide +kernel
theorem dX1_askBelow_25 : decode cX1_askBelow 25 = .ok (.getfield 51, 3) := by decide +kernel
theorem dX1_askBelow_28 : decode cX1_askBelow 28 = .ok (.iload_n 1, 1) := by decide +kernel
theorem dX1_askBelow_29 : decode cX1_askBelow 29 = .ok (.iaload, 1) := by decide +kernel
theorem dX1_askBelow_30 : decode cX1_askBelow 30 = .ok (.istore 4, 2) := by decide +kernel
theorem dX1_askBelow_32 : decode cX1_askBelow 32 = .ok (.iconst 0, 1) := by decide +kernel
theorem dX1_askBelow_33 : decode cX1_askBelow 33 = .ok (.istore 5, 2) := by decide +kernel
theorem dX1_askBelow_35 : decode cX1_askBelow 35 = .ok (.iload 5, 2) := by decide +kernel
theorem dX1_askBelow_37 : decode cX1_askBelow 37 = .ok (.bipush 8, 2) := by decide +kernel
theorem dX1_askBelow_39 : decode cX1_askBelow 39 = .ok (.if_icmp .ge 113, 3) := by decide +kernel
theorem dX1_askBelow_42 : decode cX1_askBelow 42 = .ok (.aload_n 0, 1) := by decide +kernel
theorem dX1_askBelow_43 : decode cX1_askBelow 43 = .ok (.getfield 48, 3) := by decide +kernel
theorem dX1_askBelow_46 : decode cX1_askBelow 46 = .ok (.iload_n 1, 1) := by decide +kernel
theorem dX1_askBelow_47 : decode cX1_askBelow 47 = .ok (.iaload, 1) := by decide +kernel
theorem dX1_askBelow_48 : decode cX1_askBelow 48 = .ok (.iload 4, 2) := by decide +kernel
theorem dX1_askBelow_50 : decode cX1_askBelow 50 = .ok (.iconst (-1), 1) := by decide +kernel
theorem dX1_askBelow_51 : decode cX1_askBelow 51 = .ok (.ixor, 1) := by decide +kernel
theorem dX1_askBelow_52 : decode cX1_askBelow 52 = .ok (.iand, 1) := by decide +kernel
theorem dX1_askBelow_53 : decode cX1_askBelow 53 = .ok (.ifCond .eq 99, 3) := by decide +kernel
theorem dX1_askBelow_56 : decode cX1_askBelow 56 = .ok (.aload_n 0, 1) := by decide +kernel
theorem dX1_askBelow_57 : decode cX1_askBelow 57 = .ok (.getfield 48, 3) := by decide +kernel
theorem dX1_askBelow_60 : decode cX1_askBelow 60 = .ok (.iload_n 1, 1) := by decide +kernel
theorem dX1_askBelow_61 : decode cX1_askBelow 61 = .ok (.iaload, 1) := by decide +kernel
theorem dX1_askBelow_62 : decode cX1_askBelow 62 = .ok (.iload 4, 2) := by decide +kernel
theorem dX1_askBelow_64 : decode cX1_askBelow 64 = .ok (.iconst (-1), 1) := by decide +kernel
theorem dX1_askBelow_65 : decode cX1_askBelow 65 = .ok (.ixor, 1) := by decide +kernel
theorem dX1_askBelow_66 : decode cX1_askBelow 66 = .ok (.iand, 1) := by decide +kernel
theorem dX1_askBelow_67 : decode cX1_askBelow 67 = .ok (.istore 6, 2) := by decide +kernel
theorem dX1_askBelow_69 : decode cX1_askBelow 69 = .ok (.iload 4, 2) := by decide +kernel
theorem dX1_askBelow_71 : decode cX1_askBelow 71 = .ok (.iload 6, 2) := by decide +kernel
theorem dX1_askBelow_73 : decode cX1_askBelow 73 = .ok (.ior, 1) := by decide +kernel
theorem dX1_askBelow_74 : decode cX1_askBelow 74 = .ok (.istore 4, 2) := by decide +kernel
theorem dX1_askBelow_76 : decode cX1_askBelow 76 = .ok (.iconst 0, 1) := by decide +kernel
theorem dX1_askBelow_77 : decode cX1_askBelow 77 = .ok (.istore 7, 2) := by decide +kernel
theorem dX1_askBelow_79 : decode cX1_askBelow 79 = .ok (.iload 7, 2) := by decide +kernel
theorem dX1_askBelow_81 : decode cX1_askBelow 81 = .ok (.aload_n 0, 1) := by decide +kernel
theorem dX1_askBelow_82 : decode cX1_askBelow 82 = .ok (.getfield 22, 3) := by decide +kernel
theorem dX1_askBelow_85 : decode cX1_askBelow 85 = .ok (.getfield 100, 3) := by decide +kernel
theorem dX1_askBelow_88 : decode cX1_askBelow 88 = .ok (.if_icmp .ge 58, 3) := by decide +kernel
theorem dX1_askBelow_91 : decode cX1_askBelow 91 = .ok (.aload_n 0, 1) := by decide +kernel
theorem dX1_askBelow_92 : decode cX1_askBelow 92 = .ok (.getfield 22, 3) := by decide +kernel
theorem dX1_askBelow_95 : decode cX1_askBelow 95 = .ok (.getfield 105, 3) := by decide +kernel
theorem dX1_askBelow_98 : decode cX1_askBelow 98 = .ok (.iload 7, 2) := by decide +kernel
theorem dX1_askBelow_100 : decode cX1_askBelow 100 = .ok (.aaload, 1) := by decide +kernel
theorem dX1_askBelow_101 : decode cX1_askBelow 101 = .ok (.astore 8, 2) := by decide +kernel
theorem dX1_askBelow_103 : decode cX1_askBelow 103 = .ok (.iload 6, 2) := by decide +kernel
theorem dX1_askBelow_105 : decode cX1_askBelow 105 = .ok (.aload 8, 2) := by decide +kernel
theorem dX1_askBelow_107 : decode cX1_askBelow 107 = .ok (.getfield 109, 3) := by decide +kernel
theorem dX1_askBelow_110 : decode cX1_askBelow 110 = .ok (.ishr, 1) := by decide +kernel
theorem dX1_askBelow_111 : decode cX1_askBelow 111 = .ok (.iconst 1, 1) := by decide +kernel
theorem dX1_askBelow_112 : decode cX1_askBelow 112 = .ok (.iand, 1) := by decide +kernel
theorem dX1_askBelow_113 : decode cX1_askBelow 113 = .ok (.ifCond .eq 27, 3) := by decide +kernel
theorem dX1_askBelow_116 : decode cX1_askBelow 116 = .ok (.aload_n 0, 1) := by decide +kernel
theorem dX1_askBelow_117 : decode cX1_askBelow 117 = .ok (.getfield 26, 3) := by decide +kernel
theorem dX1_askBelow_120 : decode cX1_askBelow 120 = .ok (.aload 8, 2) := by decide +kernel
theorem dX1_askBelow_122 : decode cX1_askBelow 122 = .ok (.iload_n 2, 1) := by decide +kernel
theorem dX1_askBelow_123 : decode cX1_askBelow 123 = .ok (.iload_n 3, 1) := by decide +kernel
theorem dX1_askBelow_124 : decode cX1_askBelow 124 = .ok (.invokevirtual 114, 3) := by decide +kernel
theorem dX1_askBelow_127 : decode cX1_askBelow 127 = .ok (.ifCond .eq 13, 3) := by decide +kernel
theorem dX1_askBelow_130 : decode cX1_askBelow 130 = .ok (.aload_n 0, 1) := by decide +kernel
theorem dX1_askBelow_131 : decode cX1_askBelow 131 = .ok (.iload_n 1, 1) := by decide +kernel
theorem dX1_askBelow_132 : decode cX1_askBelow 132 = .ok (.aload 8, 2) := by decide +kernel
theorem dX1_askBelow_134 : decode cX1_askBelow 134 = .ok (.invokevirtual 118, 3) := by decide +kernel
theorem dX1_askBelow_137 : decode cX1_askBelow 137 = .ok (.invokevirtual 122, 3) := by decide +kernel
theorem dX1_askBelow_140 : decode cX1_askBelow 140 = .ok (.iinc 7 1, 3) := by decide +kernel
theorem dX1_askBelow_143 : decode cX1_askBelow 143 = .ok (.goto (-64), 3) := by decide +kernel
theorem dX1_askBelow_146 : decode cX1_askBelow 146 = .ok (.iinc 5 1, 3) := by decide +kernel
theorem dX1_askBelow_149 : decode cX1_askBelow 149 = .ok (.goto (-114), 3) := by decide +kernel
theorem dX1_askBelow_152 : decode cX1_askBelow 152 = .ok (.return_, 1) := by decide +kernel
theorem dX1_askParts_0 : decode cX1_askParts 0 = .ok (.iconst 0, 1) := by decide +kernel
theorem dX1_askParts_1 : decode cX1_askParts 1 = .ok (.istore_n 3, 1) := by decide +kernel
theorem dX1_askParts_2 : decode cX1_askParts 2 = .ok (.iload_n 3, 1) := by decide +kernel
theorem dX1_askParts_3 : decode cX1_askParts 3 = .ok (.aload_n 0, 1) := by decide +kernel
theorem dX1_askParts_4 : decode cX1_askParts 4 = .ok (.getfield 26, 3) := by decide +kernel
theorem dX1_askParts_7 : decode cX1_askParts 7 = .ok (.getfield 126, 3) := by decide +kernel
theorem dX1_askParts_10 : decode cX1_askParts 10 = .ok (.if_icmp .ge 50, 3) := by decide +kernel
theorem dX1_askParts_13 : decode cX1_askParts 13 = .ok (.aload_n 0, 1) := by decide +kernel
theorem dX1_askParts_14 : decode cX1_askParts 14 = .ok (.iload_n 1, 1) := by decide +kernel
theorem dX1_askParts_15 : decode cX1_askParts 15 = .ok (.iload_n 2, 1) := by decide +kernel
theorem dX1_askParts_16 : decode cX1_askParts 16 = .ok (.iload_n 3, 1) := by decide +kernel
theorem dX1_askParts_17 : decode cX1_askParts 17 = .ok (.invokevirtual 127, 3) := by decide +kernel
theorem dX1_askParts_20 : decode cX1_askParts 20 = .ok (.istore 4, 2) := by decide +kernel
theorem dX1_askParts_22 : decode cX1_askParts 22 = .ok (.iload 4, 2) := by decide +kernel
theorem dX1_askParts_24 : decode cX1_askParts 24 = .ok (.ifCond .lt 30, 3) := by decide +kernel
theorem dX1_askParts_27 : decode cX1_askParts 27 = .ok (.iload 4, 2) := by decide +kernel
theorem dX1_askParts_29 : decode cX1_askParts 29 = .ok (.iload_n 1, 1) := by decide +kernel
theorem dX1_askParts_30 : decode cX1_askParts 30 = .ok (.if_icmp .gt 24, 3) := by decide +kernel
theorem dX1_askParts_33 : decode cX1_askParts 33 = .ok (.aload_n 0, 1) := by decide +kernel
theorem dX1_askParts_34 : decode cX1_askParts 34 = .ok (.getfield 48, 3) := by decide +kernel
theorem dX1_askParts_37 : decode cX1_askParts 37 = .ok (.iload 4, 2) := by decide +kernel
theorem dX1_askParts_39 : decode cX1_askParts 39 = .ok (.dup2, 1) := by decide +kernel
theorem dX1_askParts_40 : decode cX1_askParts 40 = .ok (.iaload, 1) := by decide +kernel
theorem dX1_askParts_41 : decode cX1_askParts 41 = .ok (.iconst 1, 1) := by decide +kernel
theorem dX1_askParts_42 : decode cX1_askParts 42 = .ok (.aload_n 0, 1) := by decide +kernel
theorem dX1_askParts_43 : decode cX1_askParts 43 = .ok (.getfield 26, 3) := by decide +kernel
theorem dX1_askParts_46 : decode cX1_askParts 46 = .ok (.getfield 131, 3) := by decide +kernel
theorem dX1_askParts_49 : decode cX1_askParts 49 = .ok (.iload_n 3, 1) := by decide +kernel
theorem dX1_askParts_50 : decode cX1_askParts 50 = .ok (.iaload, 1) := by decide +kernel
theorem dX1_askParts_51 : decode cX1_askParts 51 = .ok (.ishl, 1) := by decide +kernel
theorem dX1_askParts_52 : decode cX1_askParts 52 = .ok (.ior, 1) := by decide +kernel
theorem dX1_askParts_53 : decode cX1_askParts 53 = .ok (.iastore, 1) := by decide +kernel
theorem dX1_askParts_54 : decode cX1_askParts 54 = .ok (.iinc 3 1, 3) := by decide +kernel
theorem dX1_askParts_57 : decode cX1_askParts 57 = .ok (.goto (-55), 3) := by decide +kernel
theorem dX1_askParts_60 : decode cX1_askParts 60 = .ok (.return_, 1) := by decide +kernel
theorem dX1_settleCell_0 : decode cX1_settleCell 0 = .ok (.aload_n 0, 1) := by decide +kernel
theorem dX1_settleCell_1 : decode cX1_settleCell 1 = .ok (.getfield 48, 3) := by decide +kernel
theorem dX1_settleCell_4 : decode cX1_settleCell 4 = .ok (.iload_n 1, 1) := by decide +kernel
theorem dX1_settleCell_5 : decode cX1_settleCell 5 = .ok (.iaload, 1) := by decide +kernel
theorem dX1_settleCell_6 : decode cX1_settleCell 6 = .ok (.aload_n 0, 1) := by decide +kernel
theorem dX1_settleCell_7 : decode cX1_settleCell 7 = .ok (.getfield 51, 3) := by decide +kernel
theorem dX1_settleCell_10 : decode cX1_settleCell 10 = .ok (.iload_n 1, 1) := by decide +kernel
theorem dX1_settleCell_11 : decode cX1_settleCell 11 = .ok (.iaload, 1) := by decide +kernel
theorem dX1_settleCell_12 : decode cX1_settleCell 12 = .ok (.iconst (-1), 1) := by decide +kernel
theorem dX1_settleCell_13 : decode cX1_settleCell 13 = .ok (.ixor, 1) := by decide +kernel
theorem dX1_settleCell_14 : decode cX1_settleCell 14 = .ok (.iand, 1) := by decide +kernel
theorem dX1_settleCell_15 : decode cX1_settleCell 15 = .ok (.istore_n 2, 1) := by decide +kernel
theorem dX1_settleCell_16 : decode cX1_settleCell 16 = .ok (.iload_n 2, 1) := by decide +kernel
theorem dX1_settleCell_17 : decode cX1_settleCell 17 = .ok (.ifCond .ne 4, 3) := by decide +kernel
theorem dX1_settleCell_20 : decode cX1_settleCell 20 = .ok (.return_, 1) := by decide +kernel
theorem dX1_settleCell_21 : decode cX1_settleCell 21 = .ok (.aload_n 0, 1) := by decide +kernel
theorem dX1_settleCell_22 : decode cX1_settleCell 22 = .ok (.getfield 45, 3) := by decide +kernel
theorem dX1_settleCell_25 : decode cX1_settleCell 25 = .ok (.iload_n 1, 1) := by decide +kernel
theorem dX1_settleCell_26 : decode cX1_settleCell 26 = .ok (.aload_n 0, 1) := by decide +kernel
theorem dX1_settleCell_27 : decode cX1_settleCell 27 = .ok (.getfield 37, 3) := by decide +kernel
theorem dX1_settleCell_30 : decode cX1_settleCell 30 = .ok (.idiv, 1) := by decide +kernel
theorem dX1_settleCell_31 : decode cX1_settleCell 31 = .ok (.iaload, 1) := by decide +kernel
theorem dX1_settleCell_32 : decode cX1_settleCell 32 = .ok (.istore_n 3, 1) := by decide +kernel
theorem dX1_settleCell_33 : decode cX1_settleCell 33 = .ok (.aload_n 0, 1) := by decide +kernel
theorem dX1_settleCell_34 : decode cX1_settleCell 34 = .ok (.getfield 45, 3) := by decide +kernel
theorem dX1_settleCell_37 : decode cX1_settleCell 37 = .ok (.iload_n 1, 1) := by decide +kernel
theorem dX1_settleCell_38 : decode cX1_settleCell 38 = .ok (.aload_n 0, 1) := by decide +kernel
theorem dX1_settleCell_39 : decode cX1_settleCell 39 = .ok (.getfield 37, 3) := by decide +kernel
theorem dX1_settleCell_42 : decode cX1_settleCell 42 = .ok (.irem, 1) := by decide +kernel
theorem dX1_settleCell_43 : decode cX1_settleCell 43 = .ok (.iaload, 1) := by decide +kernel
theorem dX1_settleCell_44 : decode cX1_settleCell 44 = .ok (.istore 4, 2) := by decide +kernel
theorem dX1_settleCell_46 : decode cX1_settleCell 46 = .ok (.aload_n 0, 1) := by decide +kernel
theorem dX1_settleCell_47 : decode cX1_settleCell 47 = .ok (.getfield 34, 3) := by decide +kernel
theorem dX1_settleCell_50 : decode cX1_settleCell 50 = .ok (.ifCond .eq 38, 3) := by decide +kernel
theorem dX1_settleCell_53 : decode cX1_settleCell 53 = .ok (.aload_n 0, 1) := by decide +kernel
theorem dX1_settleCell_54 : decode cX1_settleCell 54 = .ok (.getfield 30, 3) := by decide +kernel
theorem dX1_settleCell_57 : decode cX1_settleCell 57 = .ok (.aload_n 0, 1) := by decide +kernel
theorem dX1_settleCell_58 : decode cX1_settleCell 58 = .ok (.getfield 41, 3) := by decide +kernel
theorem dX1_settleCell_61 : decode cX1_settleCell 61 = .ok (.iload_n 1, 1) := by decide +kernel
theorem dX1_settleCell_62 : decode cX1_settleCell 62 = .ok (.aload_n 0, 1) := by decide +kernel
theorem dX1_settleCell_63 : decode cX1_settleCell 63 = .ok (.getfield 37, 3) := by decide +kernel
theorem dX1_settleCell_66 : decode cX1_settleCell 66 = .ok (.idiv, 1) := by decide +kernel
theorem dX1_settleCell_67 : decode cX1_settleCell 67 = .ok (.iaload, 1) := by decide +kernel
theorem dX1_settleCell_68 : decode cX1_settleCell 68 = .ok (.aload_n 0, 1) := by decide +kernel
theorem dX1_settleCell_69 : decode cX1_settleCell 69 = .ok (.getfield 41, 3) := by decide +kernel
theorem dX1_settleCell_72 : decode cX1_settleCell 72 = .ok (.iload_n 1, 1) := by decide +kernel
theorem dX1_settleCell_73 : decode cX1_settleCell 73 = .ok (.aload_n 0, 1) := by decide +kernel
theorem dX1_settleCell_74 : decode cX1_settleCell 74 = .ok (.getfield 37, 3) := by decide +kernel
theorem dX1_settleCell_77 : decode cX1_settleCell 77 = .ok (.irem, 1) := by decide +kernel
theorem dX1_settleCell_78 : decode cX1_settleCell 78 = .ok (.iaload, 1) := by decide +kernel
theorem dX1_settleCell_79 : decode cX1_settleCell 79 = .ok (.iload_n 3, 1) := by decide +kernel
theorem dX1_settleCell_80 : decode cX1_settleCell 80 = .ok (.iload 4, 2) := by decide +kernel
theorem dX1_settleCell_82 : decode cX1_settleCell 82 = .ok (.invokevirtual 133, 3) := by decide +kernel
theorem dX1_settleCell_85 : decode cX1_settleCell 85 = .ok (.goto 5, 3) := by decide +kernel
theorem dX1_settleCell_88 : decode cX1_settleCell 88 = .ok (.bipush (-9), 2) := by decide +kernel
theorem dX1_settleCell_90 : decode cX1_settleCell 90 = .ok (.istore 5, 2) := by decide +kernel
theorem dX1_settleCell_92 : decode cX1_settleCell 92 = .ok (.aload_n 0, 1) := by decide +kernel
theorem dX1_settleCell_93 : decode cX1_settleCell 93 = .ok (.getfield 12, 3) := by decide +kernel
theorem dX1_settleCell_96 : decode cX1_settleCell 96 = .ok (.invokevirtual 139, 3) := by decide +kernel
theorem dX1_settleCell_99 : decode cX1_settleCell 99 = .ok (.iconst 0, 1) := by decide +kernel
theorem dX1_settleCell_100 : decode cX1_settleCell 100 = .ok (.istore 6, 2) := by decide +kernel
theorem dX1_settleCell_102 : decode cX1_settleCell 102 = .ok (.iload 6, 2) := by decide +kernel
theorem dX1_settleCell_104 : decode cX1_settleCell 104 = .ok (.aload_n 0, 1) := by decide +kernel
theorem dX1_settleCell_105 : decode cX1_settleCell 105 = .ok (.getfield 22, 3) := by decide +kernel
theorem dX1_settleCell_108 : decode cX1_settleCell 108 = .ok (.getfield 100, 3) := by decide +kernel
theorem dX1_settleCell_111 : decode cX1_settleCell 111 = .ok (.if_icmp .ge 166, 3) := by decide +kernel
theorem dX1_settleCell_114 : decode cX1_settleCell 114 = .ok (.aload_n 0, 1) := by decide +kernel
theorem dX1_settleCell_115 : decode cX1_settleCell 115 = .ok (.getfield 22, 3) := by decide +kernel
theorem dX1_settleCell_118 : decode cX1_settleCell 118 = .ok (.getfield 105, 3) := by decide +kernel
theorem dX1_settleCell_121 : decode cX1_settleCell 121 = .ok (.iload 6, 2) := by decide +kernel
theorem dX1_settleCell_123 : decode cX1_settleCell 123 = .ok (.aaload, 1) := by decide +kernel
theorem dX1_settleCell_124 : decode cX1_settleCell 124 = .ok (.astore 7, 2) := by decide +kernel
theorem dX1_settleCell_126 : decode cX1_settleCell 126 = .ok (.iload_n 2, 1) := by decide +kernel
theorem dX1_settleCell_127 : decode cX1_settleCell 127 = .ok (.aload 7, 2) := by decide +kernel
theorem dX1_settleCell_129 : decode cX1_settleCell 129 = .ok (.getfield 109, 3) := by decide +kernel
theorem dX1_settleCell_132 : decode cX1_settleCell 132 = .ok (.ishr, 1) := by decide +kernel
theorem dX1_settleCell_133 : decode cX1_settleCell 133 = .ok (.iconst 1, 1) := by decide +kernel
theorem dX1_settleCell_134 : decode cX1_settleCell 134 = .ok (.iand, 1) := by decide +kernel
theorem dX1_settleCell_135 : decode cX1_settleCell 135 = .ok (.ifCond .eq 136, 3) := by decide +kernel
theorem dX1_settleCell_138 : decode cX1_settleCell 138 = .ok (.aload_n 0, 1) := by decide +kernel
theorem dX1_settleCell_139 : decode cX1_settleCell 139 = .ok (.getfield 26, 3) := by decide +kernel
theorem dX1_settleCell_142 : decode cX1_settleCell 142 = .ok (.aload 7, 2) := by decide +kernel
theorem dX1_settleCell_144 : decode cX1_settleCell 144 = .ok (.iload_n 3, 1) := by decide +kernel
theorem dX1_settleCell_145 : decode cX1_settleCell 145 = .ok (.iload 4, 2) := by decide +kernel
theorem dX1_settleCell_147 : decode cX1_settleCell 147 = .ok (.invokevirtual 114, 3) := by decide +kernel
theorem dX1_settleCell_150 : decode cX1_settleCell 150 = .ok (.ifCond .ne 6, 3) := by decide +kernel
theorem dX1_settleCell_153 : decode cX1_settleCell 153 = .ok (.goto 118, 3) := by decide +kernel
theorem dX1_settleCell_156 : decode cX1_settleCell 156 = .ok (.aload 7, 2) := by decide +kernel
theorem dX1_settleCell_158 : decode cX1_settleCell 158 = .ok (.getfield 141, 3) := by decide +kernel
theorem dX1_settleCell_161 : decode cX1_settleCell 161 = .ok (.ifCond .ne 43, 3) := by decide +kernel
theorem dX1_settleCell_164 : decode cX1_settleCell 164 = .ok (.aload_n 0, 1) := by decide +kernel
theorem dX1_settleCell_165 : decode cX1_settleCell 165 = .ok (.getfield 34, 3) := by decide +kernel
theorem dX1_settleCell_168 : decode cX1_settleCell 168 = .ok (.ifCond .eq 13, 3) := by decide +kernel
theorem dX1_settleCell_171 : decode cX1_settleCell 171 = .ok (.aload 7, 2) := by decide +kernel
theorem dX1_settleCell_173 : decode cX1_settleCell 173 = .ok (.getfield 144, 3) := by decide +kernel
theorem dX1_settleCell_176 : decode cX1_settleCell 176 = .ok (.iload 5, 2) := by decide +kernel
theorem dX1_settleCell_178 : decode cX1_settleCell 178 = .ok (.if_icmp .ne 93, 3) := by decide +kernel
theorem dX1_settleCell_181 : decode cX1_settleCell 181 = .ok (.aload_n 0, 1) := by decide +kernel
theorem dX1_settleCell_182 : decode cX1_settleCell 182 = .ok (.getfield 12, 3) := by decide +kernel
theorem dX1_settleCell_185 : decode cX1_settleCell 185 = .ok (.aload 7, 2) := by decide +kernel
theorem dX1_settleCell_187 : decode cX1_settleCell 187 = .ok (.getfield 109, 3) := by decide +kernel
theorem dX1_settleCell_190 : decode cX1_settleCell 190 = .ok (.iload 6, 2) := by decide +kernel
theorem dX1_settleCell_192 : decode cX1_settleCell 192 = .ok (.lconst 1, 1) := by decide +kernel
theorem dX1_settleCell_193 : decode cX1_settleCell 193 = .ok (.aload 7, 2) := by decide +kernel
theorem dX1_settleCell_195 : decode cX1_settleCell 195 = .ok (.invokevirtual 147, 3) := by decide +kernel
theorem dX1_settleCell_198 : decode cX1_settleCell 198 = .ok (.invokevirtual 151, 3) := by decide +kernel
theorem dX1_settleCell_201 : decode cX1_settleCell 201 = .ok (.goto 70, 3) := by decide +kernel
theorem dX1_settleCell_204 : decode cX1_settleCell 204 = .ok (.aload_n 0, 1) := by decide +kernel
theorem dX1_settleCell_205 : decode cX1_settleCell 205 = .ok (.getfield 26, 3) := by decide +kernel
theorem dX1_settleCell_208 : decode cX1_settleCell 208 = .ok (.getfield 126, 3) := by decide +kernel
theorem dX1_settleCell_211 : decode cX1_settleCell 211 = .ok (.iconst 1, 1) := by decide +kernel
theorem dX1_settleCell_212 : decode cX1_settleCell 212 = .ok (.if_icmp .ne 50, 3) := by decide +kernel
theorem dX1_settleCell_215 : decode cX1_settleCell 215 = .ok (.iload_n 2, 1) := by decide +kernel
theorem dX1_settleCell_216 : decode cX1_settleCell 216 = .ok (.aload_n 0, 1) := by decide +kernel
theorem dX1_settleCell_217 : decode cX1_settleCell 217 = .ok (.getfield 26, 3) := by decide +kernel
theorem dX1_settleCell_220 : decode cX1_settleCell 220 = .ok (.getfield 131, 3) := by decide +kernel
theorem dX1_settleCell_223 : decode cX1_settleCell 223 = .ok (.iconst 0, 1) := by decide +kernel
theorem dX1_settleCell_224 : decode cX1_settleCell 224 = .ok (.iaload, 1) := by decide +kernel
theorem dX1_settleCell_225 : decode cX1_settleCell 225 = .ok (.ishr, 1) := by decide +kernel
theorem dX1_settleCell_226 : decode cX1_settleCell 226 = .ok (.iconst 1, 1) := by decide +kernel
theorem dX1_settleCell_227 : decode cX1_settleCell 227 = .ok (.iand, 1) := by decide +kernel
theorem dX1_settleCell_228 : decode cX1_settleCell 228 = .ok (.ifCond .eq 34, 3) := by decide +kernel
theorem dX1_settleCell_231 : decode cX1_settleCell 231 = .ok (.aload_n 0, 1) := by decide +kernel
theorem dX1_settleCell_232 : decode cX1_settleCell 232 = .ok (.getfield 12, 3) := by decide +kernel
theorem dX1_settleCell_235 : decode cX1_settleCell 235 = .ok (.aload 7, 2) := by decide +kernel
theorem dX1_settleCell_237 : decode cX1_settleCell 237 = .ok (.getfield 109, 3) := by decide +kernel
theorem dX1_settleCell_240 : decode cX1_settleCell 240 = .ok (.iload 6, 2) := by decide +kernel
theorem dX1_settleCell_242 : decode cX1_settleCell 242 = .ok (.aload_n 0, 1) := by decide +kernel
theorem dX1_settleCell_243 : decode cX1_settleCell 243 = .ok (.getfield 26, 3) := by decide +kernel
theorem dX1_settleCell_246 : decode cX1_settleCell 246 = .ok (.getfield 131, 3) := by decide +kernel
theorem dX1_settleCell_249 : decode cX1_settleCell 249 = .ok (.iconst 0, 1) := by decide +kernel
theorem dX1_settleCell_250 : decode cX1_settleCell 250 = .ok (.iaload, 1) := by decide +kernel
theorem dX1_settleCell_251 : decode cX1_settleCell 251 = .ok (.aload 7, 2) := by decide +kernel
theorem dX1_settleCell_253 : decode cX1_settleCell 253 = .ok (.invokevirtual 147, 3) := by decide +kernel
theorem dX1_settleCell_256 : decode cX1_settleCell 256 = .ok (.invokevirtual 155, 3) := by decide +kernel
theorem dX1_settleCell_259 : decode cX1_settleCell 259 = .ok (.goto 12, 3) := by decide +kernel
theorem dX1_settleCell_262 : decode cX1_settleCell 262 = .ok (.aload_n 0, 1) := by decide +kernel
theorem dX1_settleCell_263 : decode cX1_settleCell 263 = .ok (.iload_n 1, 1) := by decide +kernel
theorem dX1_settleCell_264 : decode cX1_settleCell 264 = .ok (.iload 6, 2) := by decide +kernel
theorem dX1_settleCell_266 : decode cX1_settleCell 266 = .ok (.aload 7, 2) := by decide +kernel
theorem dX1_settleCell_268 : decode cX1_settleCell 268 = .ok (.invokevirtual 159, 3) := by decide +kernel
theorem dX1_settleCell_271 : decode cX1_settleCell 271 = .ok (.iinc 6 1, 3) := by decide +kernel
theorem dX1_settleCell_274 : decode cX1_settleCell 274 = .ok (.goto (-172), 3) := by decide +kernel
theorem dX1_settleCell_277 : decode cX1_settleCell 277 = .ok (.aload_n 0, 1) := by decide +kernel
theorem dX1_settleCell_278 : decode cX1_settleCell 278 = .ok (.getfield 12, 3) := by decide +kernel
theorem dX1_settleCell_281 : decode cX1_settleCell 281 = .ok (.invokevirtual 163, 3) := by decide +kernel
theorem dX1_settleCell_284 : decode cX1_settleCell 284 = .ok (.aload_n 0, 1) := by decide +kernel
theorem dX1_settleCell_285 : decode cX1_settleCell 285 = .ok (.iload_n 1, 1) := by decide +kernel
theorem dX1_settleCell_286 : decode cX1_settleCell 286 = .ok (.iload_n 2, 1) := by decide +kernel
theorem dX1_settleCell_287 : decode cX1_settleCell 287 = .ok (.invokevirtual 166, 3) := by decide +kernel
theorem dX1_settleCell_290 : decode cX1_settleCell 290 = .ok (.return_, 1) := by decide +kernel
theorem dX1_gainOfParts_0 : decode cX1_gainOfParts 0 = .ok (.aload_n 3, 1) := by decide +kernel
theorem dX1_gainOfParts_1 : decode cX1_gainOfParts 1 = .ok (.invokevirtual 118, 3) := by decide +kernel
theorem dX1_gainOfParts_4 : decode cX1_gainOfParts 4 = .ok (.istore 4, 2) := by decide +kernel
theorem dX1_gainOfParts_6 : decode cX1_gainOfParts 6 = .ok (.iconst 0, 1) := by decide +kernel
theorem dX1_gainOfParts_7 : decode cX1_gainOfParts 7 = .ok (.istore 5, 2) := by decide +kernel
theorem dX1_gainOfParts_9 : decode cX1_gainOfParts 9 = .ok (.lconst 1, 1) := by decide +kernel
theorem dX1_gainOfParts_10 : decode cX1_gainOfParts 10 = .ok (.lstore 6, 2) := by decide +kernel
theorem dX1_gainOfParts_12 : decode cX1_gainOfParts 12 = .ok (.aload_n 3, 1) := by decide +kernel
theorem dX1_gainOfParts_13 : decode cX1_gainOfParts 13 = .ok (.invokevirtual 147, 3) := by decide +kernel
theorem dX1_gainOfParts_16 : decode cX1_gainOfParts 16 = .ok (.lstore 8, 2) := by decide +kernel
theorem dX1_gainOfParts_18 : decode cX1_gainOfParts 18 = .ok (.iconst 0, 1) := by decide +kernel
theorem dX1_gainOfParts_19 : decode cX1_gainOfParts 19 = .ok (.istore 10, 2) := by decide +kernel
theorem dX1_gainOfParts_21 : decode cX1_gainOfParts 21 = .ok (.iload 10, 2) := by decide +kernel
theorem dX1_gainOfParts_23 : decode cX1_gainOfParts 23 = .ok (.aload_n 0, 1) := by decide +kernel
theorem dX1_gainOfParts_24 : decode cX1_gainOfParts 24 = .ok (.getfield 26, 3) := by decide +kernel
theorem dX1_gainOfParts_27 : decode cX1_gainOfParts 27 = .ok (.getfield 126, 3) := by decide +kernel
theorem dX1_gainOfParts_30 : decode cX1_gainOfParts 30 = .ok (.if_icmp .ge 85, 3) := by decide +kernel
theorem dX1_gainOfParts_33 : decode cX1_gainOfParts 33 = .ok (.aload_n 0, 1) := by decide +kernel
theorem dX1_gainOfParts_34 : decode cX1_gainOfParts 34 = .ok (.iload_n 1, 1) := by decide +kernel
theorem dX1_gainOfParts_35 : decode cX1_gainOfParts 35 = .ok (.iload 4, 2) := by decide +kernel
theorem dX1_gainOfParts_37 : decode cX1_gainOfParts 37 = .ok (.iload 10, 2) := by decide +kernel
theorem dX1_gainOfParts_39 : decode cX1_gainOfParts 39 = .ok (.invokevirtual 127, 3) := by decide +kernel
theorem dX1_gainOfParts_42 : decode cX1_gainOfParts 42 = .ok (.bipush 8, 2) := by decide +kernel
theorem dX1_gainOfParts_44 : decode cX1_gainOfParts 44 = .ok (.imul, 1) := by decide +kernel
theorem dX1_gainOfParts_45 : decode cX1_gainOfParts 45 = .ok (.aload_n 0, 1) := by decide +kernel
theorem dX1_gainOfParts_46 : decode cX1_gainOfParts 46 = .ok (.getfield 26, 3) := by decide +kernel
theorem dX1_gainOfParts_49 : decode cX1_gainOfParts 49 = .ok (.getfield 131, 3) := by decide +kernel
theorem dX1_gainOfParts_52 : decode cX1_gainOfParts 52 = .ok (.iload 10, 2) := by decide +kernel
theorem dX1_gainOfParts_54 : decode cX1_gainOfParts 54 = .ok (.iaload, 1) := by decide +kernel
theorem dX1_gainOfParts_55 : decode cX1_gainOfParts 55 = .ok (.iadd, 1) := by decide +kernel
theorem dX1_gainOfParts_56 : decode cX1_gainOfParts 56 = .ok (.istore 11, 2) := by decide +kernel
theorem dX1_gainOfParts_58 : decode cX1_gainOfParts 58 = .ok (.aload_n 0, 1) := by decide +kernel
theorem dX1_gainOfParts_59 : decode cX1_gainOfParts 59 = .ok (.iload 11, 2) := by decide +kernel
theorem dX1_gainOfParts_61 : decode cX1_gainOfParts 61 = .ok (.invokevirtual 170, 3) := by decide +kernel
theorem dX1_gainOfParts_64 : decode cX1_gainOfParts 64 = .ok (.lstore 12, 2) := by decide +kernel
theorem dX1_gainOfParts_66 : decode cX1_gainOfParts 66 = .ok (.lload 12, 2) := by decide +kernel
theorem dX1_gainOfParts_68 : decode cX1_gainOfParts 68 = .ok (.lconst 0, 1) := by decide +kernel
theorem dX1_gainOfParts_69 : decode cX1_gainOfParts 69 = .ok (.lcmp, 1) := by decide +kernel
theorem dX1_gainOfParts_70 : decode cX1_gainOfParts 70 = .ok (.ifCond .ne 4, 3) := by decide +kernel
theorem dX1_gainOfParts_73 : decode cX1_gainOfParts 73 = .ok (.return_, 1) := by decide +kernel
theorem dX1_gainOfParts_74 : decode cX1_gainOfParts 74 = .ok (.lload 12, 2) := by decide +kernel
theorem dX1_gainOfParts_76 : decode cX1_gainOfParts 76 = .ok (.ldc2_w 173, 3) := by decide +kernel
theorem dX1_gainOfParts_79 : decode cX1_gainOfParts 79 = .ok (.lcmp, 1) := by decide +kernel
theorem dX1_gainOfParts_80 : decode cX1_gainOfParts 80 = .ok (.ifCond .ne 9, 3) := by decide +kernel
theorem dX1_gainOfParts_83 : decode cX1_gainOfParts 83 = .ok (.iconst 1, 1) := by decide +kernel
theorem dX1_gainOfParts_84 : decode cX1_gainOfParts 84 = .ok (.istore 5, 2) := by decide +kernel
theorem dX1_gainOfParts_86 : decode cX1_gainOfParts 86 = .ok (.goto 12, 3) := by decide +kernel
theorem dX1_gainOfParts_89 : decode cX1_gainOfParts 89 = .ok (.lload 6, 2) := by decide +kernel
theorem dX1_gainOfParts_91 : decode cX1_gainOfParts 91 = .ok (.lload 12, 2) := by decide +kernel
theorem dX1_gainOfParts_93 : decode cX1_gainOfParts 93 = .ok (.invokestatic 175, 3) := by decide +kernel
theorem dX1_gainOfParts_96 : decode cX1_gainOfParts 96 = .ok (.lstore 6, 2) := by decide +kernel
theorem dX1_gainOfParts_98 : decode cX1_gainOfParts 98 = .ok (.lload 8, 2) := by decide +kernel
theorem dX1_gainOfParts_100 : decode cX1_gainOfParts 100 = .ok (.aload_n 0, 1) := by decide +kernel
theorem dX1_gainOfParts_101 : decode cX1_gainOfParts 101 = .ok (.iload 11, 2) := by decide +kernel
theorem dX1_gainOfParts_103 : decode cX1_gainOfParts 103 = .ok (.invokevirtual 86, 3) := by decide +kernel
theorem dX1_gainOfParts_106 : decode cX1_gainOfParts 106 = .ok (.ladd, 1) := by decide +kernel
theorem dX1_gainOfParts_107 : decode cX1_gainOfParts 107 = .ok (.lstore 8, 2) := by decide +kernel
theorem dX1_gainOfParts_109 : decode cX1_gainOfParts 109 = .ok (.iinc 10 1, 3) := by decide +kernel
theorem dX1_gainOfParts_112 : decode cX1_gainOfParts 112 = .ok (.goto (-91), 3) := by decide +kernel
theorem dX1_gainOfParts_115 : decode cX1_gainOfParts 115 = .ok (.aload_n 0, 1) := by decide +kernel
theorem dX1_gainOfParts_116 : decode cX1_gainOfParts 116 = .ok (.getfield 12, 3) := by decide +kernel
theorem dX1_gainOfParts_119 : decode cX1_gainOfParts 119 = .ok (.aload_n 3, 1) := by decide +kernel
theorem dX1_gainOfParts_120 : decode cX1_gainOfParts 120 = .ok (.getfield 109, 3) := by decide +kernel
theorem dX1_gainOfParts_123 : decode cX1_gainOfParts 123 = .ok (.iload_n 2, 1) := by decide +kernel
theorem dX1_gainOfParts_124 : decode cX1_gainOfParts 124 = .ok (.iload 5, 2) := by decide +kernel
theorem dX1_gainOfParts_126 : decode cX1_gainOfParts 126 = .ok (.ifCond .eq 9, 3) := by decide +kernel
theorem dX1_gainOfParts_129 : decode cX1_gainOfParts 129 = .ok (.ldc2_w 173, 3) := by decide +kernel
theorem dX1_gainOfParts_132 : decode cX1_gainOfParts 132 = .ok (.goto 5, 3) := by decide +kernel
theorem dX1_gainOfParts_135 : decode cX1_gainOfParts 135 = .ok (.lload 6, 2) := by decide +kernel
theorem dX1_gainOfParts_137 : decode cX1_gainOfParts 137 = .ok (.lload 8, 2) := by decide +kernel
theorem dX1_gainOfParts_139 : decode cX1_gainOfParts 139 = .ok (.invokevirtual 151, 3) := by decide +kernel
theorem dX1_gainOfParts_142 : decode cX1_gainOfParts 142 = .ok (.return_, 1) := by decide +kernel
theorem dX1_keep_0 : decode cX1_keep 0 = .ok (.iconst 0, 1) := by decide +kernel
theorem dX1_keep_1 : decode cX1_keep 1 = .ok (.istore_n 3, 1) := by decide +kernel
theorem dX1_keep_2 : decode cX1_keep 2 = .ok (.iload_n 3, 1) := by decide +kernel
theorem dX1_keep_3 : decode cX1_keep 3 = .ok (.bipush 8, 2) := by decide +kernel
theorem dX1_keep_5 : decode cX1_keep 5 = .ok (.if_icmp .ge 73, 3) := by decide +kernel
theorem dX1_keep_8 : decode cX1_keep 8 = .ok (.iload_n 2, 1) := by decide +kernel
theorem dX1_keep_9 : decode cX1_keep 9 = .ok (.iload_n 3, 1) := by decide +kernel
theorem dX1_keep_10 : decode cX1_keep 10 = .ok (.ishr, 1) := by decide +kernel
theorem dX1_keep_11 : decode cX1_keep 11 = .ok (.iconst 1, 1) := by decide +kernel
theorem dX1_keep_12 : decode cX1_keep 12 = .ok (.iand, 1) := by decide +kernel
theorem dX1_keep_13 : decode cX1_keep 13 = .ok (.ifCond .eq 59, 3) := by decide +kernel
theorem dX1_keep_16 : decode cX1_keep 16 = .ok (.iload_n 1, 1) := by decide +kernel
theorem dX1_keep_17 : decode cX1_keep 17 = .ok (.bipush 8, 2) := by decide +kernel
theorem dX1_keep_19 : decode cX1_keep 19 = .ok (.imul, 1) := by decide +kernel
theorem dX1_keep_20 : decode cX1_keep 20 = .ok (.iload_n 3, 1) := by decide +kernel
theorem dX1_keep_21 : decode cX1_keep 21 = .ok (.iadd, 1) := by decide +kernel
theorem dX1_keep_22 : decode cX1_keep 22 = .ok (.istore 4, 2) := by decide +kernel
theorem dX1_keep_24 : decode cX1_keep 24 = .ok (.aload_n 0, 1) := by decide +kernel
theorem dX1_keep_25 : decode cX1_keep 25 = .ok (.getfield 54, 3) := by decide +kernel
theorem dX1_keep_28 : decode cX1_keep 28 = .ok (.iload 4, 2) := by decide +kernel
theorem dX1_keep_30 : decode cX1_keep 30 = .ok (.aload_n 0, 1) := by decide +kernel
theorem dX1_keep_31 : decode cX1_keep 31 = .ok (.getfield 12, 3) := by decide +kernel
theorem dX1_keep_34 : decode cX1_keep 34 = .ok (.iload_n 3, 1) := by decide +kernel
theorem dX1_keep_35 : decode cX1_keep 35 = .ok (.invokevirtual 179, 3) := by decide +kernel
theorem dX1_keep_38 : decode cX1_keep 38 = .ok (.lastore, 1) := by decide +kernel
theorem dX1_keep_39 : decode cX1_keep 39 = .ok (.aload_n 0, 1) := by decide +kernel
theorem dX1_keep_40 : decode cX1_keep 40 = .ok (.getfield 58, 3) := by decide +kernel
theorem dX1_keep_43 : decode cX1_keep 43 = .ok (.iload 4, 2) := by decide +kernel
theorem dX1_keep_45 : decode cX1_keep 45 = .ok (.aload_n 0, 1) := by decide +kernel
theorem dX1_keep_46 : decode cX1_keep 46 = .ok (.getfield 12, 3) := by decide +kernel
theorem dX1_keep_49 : decode cX1_keep 49 = .ok (.getfield 180, 3) := by decide +kernel
theorem dX1_keep_52 : decode cX1_keep 52 = .ok (.iload_n 3, 1) := by decide +kernel
theorem dX1_keep_53 : decode cX1_keep 53 = .ok (.laload, 1) := by decide +kernel
theorem dX1_keep_54 : decode cX1_keep 54 = .ok (.lastore, 1) := by decide +kernel
theorem dX1_keep_55 : decode cX1_keep 55 = .ok (.aload_n 0, 1) := by decide +kernel
theorem dX1_keep_56 : decode cX1_keep 56 = .ok (.getfield 61, 3) := by decide +kernel
theorem dX1_keep_59 : decode cX1_keep 59 = .ok (.iload 4, 2) := by decide +kernel
theorem dX1_keep_61 : decode cX1_keep 61 = .ok (.aload_n 0, 1) := by decide +kernel
theorem dX1_keep_62 : decode cX1_keep 62 = .ok (.getfield 12, 3) := by decide +kernel
theorem dX1_keep_65 : decode cX1_keep 65 = .ok (.getfield 182, 3) := by decide +kernel
theorem dX1_keep_68 : decode cX1_keep 68 = .ok (.iload_n 3, 1) := by decide +kernel
theorem dX1_keep_69 : decode cX1_keep 69 = .ok (.iaload, 1) := by decide +kernel
theorem dX1_keep_70 : decode cX1_keep 70 = .ok (.i2b, 1) := by decide +kernel
theorem dX1_keep_71 : decode cX1_keep 71 = .ok (.bastore, 1) := by decide +kernel
theorem dX1_keep_72 : decode cX1_keep 72 = .ok (.iinc 3 1, 3) := by decide +kernel
theorem dX1_keep_75 : decode cX1_keep 75 = .ok (.goto (-73), 3) := by decide +kernel
theorem dX1_keep_78 : decode cX1_keep 78 = .ok (.aload_n 0, 1) := by decide +kernel
theorem dX1_keep_79 : decode cX1_keep 79 = .ok (.getfield 51, 3) := by decide +kernel
theorem dX1_keep_82 : decode cX1_keep 82 = .ok (.iload_n 1, 1) := by decide +kernel
theorem dX1_keep_83 : decode cX1_keep 83 = .ok (.dup2, 1) := by decide +kernel
theorem dX1_keep_84 : decode cX1_keep 84 = .ok (.iaload, 1) := by decide +kernel
theorem dX1_keep_85 : decode cX1_keep 85 = .ok (.iload_n 2, 1) := by decide +kernel
theorem dX1_keep_86 : decode cX1_keep 86 = .ok (.ior, 1) := by decide +kernel
theorem dX1_keep_87 : decode cX1_keep 87 = .ok (.iastore, 1) := by decide +kernel
theorem dX1_keep_88 : decode cX1_keep 88 = .ok (.return_, 1) := by decide +kernel
theorem dX1_times_0 : decode cX1_times 0 = .ok (.lload_n 2, 1) := by decide +kernel
theorem dX1_times_1 : decode cX1_times 1 = .ok (.lconst 0, 1) := by decide +kernel
theorem dX1_times_2 : decode cX1_times 2 = .ok (.lcmp, 1) := by decide +kernel
theorem dX1_times_3 : decode cX1_times 3 = .ok (.ifCond .le 19, 3) := by decide +kernel
theorem dX1_times_6 : decode cX1_times 6 = .ok (.lload_n 0, 1) := by decide +kernel
theorem dX1_times_7 : decode cX1_times 7 = .ok (.ldc2_w 185, 3) := by decide +kernel
theorem dX1_times_10 : decode cX1_times 10 = .ok (.lload_n 2, 1) := by decide +kernel
theorem dX1_times_11 : decode cX1_times 11 = .ok (.ldiv, 1) := by decide +kernel
theorem dX1_times_12 : decode cX1_times 12 = .ok (.lcmp, 1) := by decide +kernel
theorem dX1_times_13 : decode cX1_times 13 = .ok (.ifCond .le 9, 3) := by decide +kernel
theorem dX1_times_16 : decode cX1_times 16 = .ok (.ldc2_w 185, 3) := by decide +kernel
theorem dX1_times_19 : decode cX1_times 19 = .ok (.goto 6, 3) := by decide +kernel
theorem dX1_times_22 : decode cX1_times 22 = .ok (.lload_n 0, 1) := by decide +kernel
theorem dX1_times_23 : decode cX1_times 23 = .ok (.lload_n 2, 1) := by decide +kernel
theorem dX1_times_24 : decode cX1_times 24 = .ok (.lmul, 1) := by decide +kernel
theorem dX1_times_25 : decode cX1_times 25 = .ok (.lreturn, 1) := by decide +kernel
theorem dX2_init_0 : decode cX2_init 0 = .ok (.aload_n 0, 1) := by decide +kernel
theorem dX2_init_1 : decode cX2_init 1 = .ok (.invokespecial 3, 3) := by decide +kernel
theorem dX2_init_4 : decode cX2_init 4 = .ok (.aload_n 0, 1) := by decide +kernel
theorem dX2_init_5 : decode cX2_init 5 = .ok (.sipush 400, 3) := by decide +kernel
theorem dX2_init_8 : decode cX2_init 8 = .ok (.newarray .byte, 2) := by decide +kernel
theorem dX2_init_10 : decode cX2_init 10 = .ok (.putfield 9, 3) := by decide +kernel
theorem dX2_init_13 : decode cX2_init 13 = .ok (.aload_n 0, 1) := by decide +kernel
theorem dX2_init_14 : decode cX2_init 14 = .ok (.sipush 8000, 3) := by decide +kernel
theorem dX2_init_17 : decode cX2_init 17 = .ok (.newarray .byte, 2) := by decide +kernel
theorem dX2_init_19 : decode cX2_init 19 = .ok (.putfield 15, 3) := by decide +kernel
theorem dX2_init_22 : decode cX2_init 22 = .ok (.aload_n 0, 1) := by decide +kernel
theorem dX2_init_23 : decode cX2_init 23 = .ok (.iconst 0, 1) := by decide +kernel
theorem dX2_init_24 : decode cX2_init 24 = .ok (.putfield 18, 3) := by decide +kernel
theorem dX2_init_27 : decode cX2_init 27 = .ok (.aload_n 0, 1) := by decide +kernel
theorem dX2_init_28 : decode cX2_init 28 = .ok (.iconst 0, 1) := by decide +kernel
theorem dX2_init_29 : decode cX2_init 29 = .ok (.putfield 22, 3) := by decide +kernel
theorem dX2_init_32 : decode cX2_init 32 = .ok (.aload_n 0, 1) := by decide +kernel
theorem dX2_init_33 : decode cX2_init 33 = .ok (.iconst 0, 1) := by decide +kernel
theorem dX2_init_34 : decode cX2_init 34 = .ok (.putfield 25, 3) := by decide +kernel
theorem dX2_init_37 : decode cX2_init 37 = .ok (.aload_n 0, 1) := by decide +kernel
theorem dX2_init_38 : decode cX2_init 38 = .ok (.iconst 0, 1) := by decide +kernel
theorem dX2_init_39 : decode cX2_init 39 = .ok (.putfield 28, 3) := by decide +kernel
theorem dX2_init_42 : decode cX2_init 42 = .ok (.return_, 1) := by decide +kernel
theorem dX2_empty_0 : decode cX2_empty 0 = .ok (.aload_n 0, 1) := by decide +kernel
theorem dX2_empty_1 : decode cX2_empty 1 = .ok (.iconst 0, 1) := by decide +kernel
theorem dX2_empty_2 : decode cX2_empty 2 = .ok (.iconst 0, 1) := by decide +kernel
theorem dX2_empty_3 : decode cX2_empty 3 = .ok (.invokevirtual 31, 3) := by decide +kernel
theorem dX2_empty_6 : decode cX2_empty 6 = .ok (.return_, 1) := by decide +kernel
theorem dX2_begin_0 : decode cX2_begin 0 = .ok (.aload_n 0, 1) := by decide +kernel
theorem dX2_begin_1 : decode cX2_begin 1 = .ok (.iload_n 1, 1) := by decide +kernel
theorem dX2_begin_2 : decode cX2_begin 2 = .ok (.putfield 18, 3) := by decide +kernel
theorem dX2_begin_5 : decode cX2_begin 5 = .ok (.aload_n 0, 1) := by decide +kernel
theorem dX2_begin_6 : decode cX2_begin 6 = .ok (.iload_n 2, 1) := by decide +kernel
theorem dX2_begin_7 : decode cX2_begin 7 = .ok (.putfield 22, 3) := by decide +kernel
theorem dX2_begin_10 : decode cX2_begin 10 = .ok (.aload_n 0, 1) := by decide +kernel
theorem dX2_begin_11 : decode cX2_begin 11 = .ok (.iconst 0, 1) := by decide +kernel
theorem dX2_begin_12 : decode cX2_begin 12 = .ok (.putfield 25, 3) := by decide +kernel
theorem dX2_begin_15 : decode cX2_begin 15 = .ok (.aload_n 0, 1) := by decide +kernel
theorem dX2_begin_16 : decode cX2_begin 16 = .ok (.iconst 0, 1) := by decide +kernel
theorem dX2_begin_17 : decode cX2_begin 17 = .ok (.putfield 28, 3) := by decide +kernel
theorem dX2_begin_20 : decode cX2_begin 20 = .ok (.return_, 1) := by decide +kernel
theorem dX2_add_0 : decode cX2_add 0 = .ok (.aload_n 0, 1) := by decide +kernel
theorem dX2_add_1 : decode cX2_add 1 = .ok (.getfield 25, 3) := by decide +kernel
theorem dX2_add_4 : decode cX2_add 4 = .ok (.sipush 8000, 3) := by decide +kernel
theorem dX2_add_7 : decode cX2_add 7 = .ok (.if_icmp .ge 34, 3) := by decide +kernel
theorem dX2_add_10 : decode cX2_add 10 = .ok (.aload_n 0, 1) := by decide +kernel
theorem dX2_add_11 : decode cX2_add 11 = .ok (.getfield 15, 3) := by decide +kernel
theorem dX2_add_14 : decode cX2_add 14 = .ok (.aload_n 0, 1) := by decide +kernel
theorem dX2_add_15 : decode cX2_add 15 = .ok (.getfield 25, 3) := by decide +kernel
theorem dX2_add_18 : decode cX2_add 18 = .ok (.iload_n 1, 1) := by decide +kernel
theorem dX2_add_19 : decode cX2_add 19 = .ok (.i2b, 1) := by decide +kernel
theorem dX2_add_20 : decode cX2_add 20 = .ok (.bastore, 1) := by decide +kernel
theorem dX2_add_21 : decode cX2_add 21 = .ok (.aload_n 0, 1) := by decide +kernel
theorem dX2_add_22 : decode cX2_add 22 = .ok (.dup, 1) := by decide +kernel
theorem dX2_add_23 : decode cX2_add 23 = .ok (.getfield 25, 3) := by decide +kernel
theorem dX2_add_26 : decode cX2_add 26 = .ok (.iconst 1, 1) := by decide +kernel
theorem dX2_add_27 : decode cX2_add 27 = .ok (.iadd, 1) := by decide +kernel
theorem dX2_add_28 : decode cX2_add 28 = .ok (.putfield 25, 3) := by decide +kernel
theorem dX2_add_31 : decode cX2_add 31 = .ok (.aload_n 0, 1) := by decide +kernel
theorem dX2_add_32 : decode cX2_add 32 = .ok (.dup, 1) := by decide +kernel
theorem dX2_add_33 : decode cX2_add 33 = .ok (.getfield 28, 3) := by decide +kernel
theorem dX2_add_36 : decode cX2_add 36 = .ok (.iload_n 2, 1) := by decide +kernel
theorem dX2_add_37 : decode cX2_add 37 = .ok (.iadd, 1) := by decide +kernel
theorem dX2_add_38 : decode cX2_add 38 = .ok (.putfield 28, 3) := by decide +kernel
theorem dX2_add_41 : decode cX2_add 41 = .ok (.return_, 1) := by decide +kernel
theorem dX2_letterOf_0 : decode cX2_letterOf 0 = .ok (.iload_n 1, 1) := by decide +kernel
theorem dX2_letterOf_1 : decode cX2_letterOf 1 = .ok (.bipush 20, 2) := by decide +kernel
theorem dX2_letterOf_3 : decode cX2_letterOf 3 = .ok (.iload_n 2, 1) := by decide +kernel
theorem dX2_letterOf_4 : decode cX2_letterOf 4 = .ok (.imul, 1) := by decide +kernel
theorem dX2_letterOf_5 : decode cX2_letterOf 5 = .ok (.iadd, 1) := by decide +kernel
theorem dX2_letterOf_6 : decode cX2_letterOf 6 = .ok (.istore_n 3, 1) := by decide +kernel
theorem dX2_letterOf_7 : decode cX2_letterOf 7 = .ok (.iload_n 3, 1) := by decide +kernel
theorem dX2_letterOf_8 : decode cX2_letterOf 8 = .ok (.ifCond .lt 19, 3) := by decide +kernel
theorem dX2_letterOf_11 : decode cX2_letterOf 11 = .ok (.iload_n 3, 1) := by decide +kernel
theorem dX2_letterOf_12 : decode cX2_letterOf 12 = .ok (.sipush 400, 3) := by decide +kernel
theorem dX2_letterOf_15 : decode cX2_letterOf 15 = .ok (.if_icmp .ge 12, 3) := by decide +kernel
theorem dX2_letterOf_18 : decode cX2_letterOf 18 = .ok (.aload_n 0, 1) := by decide +kernel
theorem dX2_letterOf_19 : decode cX2_letterOf 19 = .ok (.getfield 9, 3) := by decide +kernel
theorem dX2_letterOf_22 : decode cX2_letterOf 22 = .ok (.iload_n 3, 1) := by decide +kernel
theorem dX2_letterOf_23 : decode cX2_letterOf 23 = .ok (.baload, 1) := by decide +kernel
theorem dX2_letterOf_24 : decode cX2_letterOf 24 = .ok (.goto 5, 3) := by decide +kernel
theorem dX2_letterOf_27 : decode cX2_letterOf 27 = .ok (.bipush (-9), 2) := by decide +kernel
theorem dX2_letterOf_29 : decode cX2_letterOf 29 = .ok (.ireturn, 1) := by decide +kernel
theorem dX2_paint_0 : decode cX2_paint 0 = .ok (.iload_n 2, 1) := by decide +kernel
theorem dX2_paint_1 : decode cX2_paint 1 = .ok (.istore 6, 2) := by decide +kernel
theorem dX2_paint_3 : decode cX2_paint 3 = .ok (.iload 6, 2) := by decide +kernel
theorem dX2_paint_5 : decode cX2_paint 5 = .ok (.iload_n 2, 1) := by decide +kernel
theorem dX2_paint_6 : decode cX2_paint 6 = .ok (.iload 4, 2) := by decide +kernel
theorem dX2_paint_8 : decode cX2_paint 8 = .ok (.iadd, 1) := by decide +kernel
theorem dX2_paint_9 : decode cX2_paint 9 = .ok (.if_icmp .ge 49, 3) := by decide +kernel
theorem dX2_paint_12 : decode cX2_paint 12 = .ok (.iload_n 1, 1) := by decide +kernel
theorem dX2_paint_13 : decode cX2_paint 13 = .ok (.bipush 20, 2) := by decide +kernel
theorem dX2_paint_15 : decode cX2_paint 15 = .ok (.iload 6, 2) := by decide +kernel
theorem dX2_paint_17 : decode cX2_paint 17 = .ok (.imul, 1) := by decide +kernel
theorem dX2_paint_18 : decode cX2_paint 18 = .ok (.iadd, 1) := by decide +kernel
theorem dX2_paint_19 : decode cX2_paint 19 = .ok (.istore 7, 2) := by decide +kernel
theorem dX2_paint_21 : decode cX2_paint 21 = .ok (.iload 7, 2) := by decide +kernel
theorem dX2_paint_23 : decode cX2_paint 23 = .ok (.ifCond .lt 29, 3) := by decide +kernel
theorem dX2_paint_26 : decode cX2_paint 26 = .ok (.iload 7, 2) := by decide +kernel
theorem dX2_paint_28 : decode cX2_paint 28 = .ok (.iload_n 3, 1) := by decide +kernel
theorem dX2_paint_29 : decode cX2_paint 29 = .ok (.iadd, 1) := by decide +kernel
theorem dX2_paint_30 : decode cX2_paint 30 = .ok (.sipush 400, 3) := by decide +kernel
theorem dX2_paint_33 : decode cX2_paint 33 = .ok (.if_icmp .gt 19, 3) := by decide +kernel
theorem dX2_paint_36 : decode cX2_paint 36 = .ok (.aload_n 0, 1) := by decide +kernel
theorem dX2_paint_37 : decode cX2_paint 37 = .ok (.getfield 9, 3) := by decide +kernel
theorem dX2_paint_40 : decode cX2_paint 40 = .ok (.iload 7, 2) := by decide +kernel
theorem dX2_paint_42 : decode cX2_paint 42 = .ok (.iload 7, 2) := by decide +kernel
theorem dX2_paint_44 : decode cX2_paint 44 = .ok (.iload_n 3, 1) := by decide +kernel
theorem dX2_paint_45 : decode cX2_paint 45 = .ok (.iadd, 1) := by decide +kernel
theorem dX2_paint_46 : decode cX2_paint 46 = .ok (.iload 5, 2) := by decide +kernel
theorem dX2_paint_48 : decode cX2_paint 48 = .ok (.i2b, 1) := by decide +kernel
theorem dX2_paint_49 : decode cX2_paint 49 = .ok (.invokestatic 35, 3) := by decide +kernel
theorem dX2_paint_52 : decode cX2_paint 52 = .ok (.iinc 6 1, 3) := by decide +kernel
theorem dX2_paint_55 : decode cX2_paint 55 = .ok (.goto (-52), 3) := by decide +kernel
theorem dX2_paint_58 : decode cX2_paint 58 = .ok (.return_, 1) := by decide +kernel
theorem dX3_init_0 : decode cX3_init 0 = .ok (.aload_n 0, 1) := by decide +kernel
theorem dX3_init_1 : decode cX3_init 1 = .ok (.invokespecial 3, 3) := by decide +kernel
theorem dX3_init_4 : decode cX3_init 4 = .ok (.aload_n 0, 1) := by decide +kernel
theorem dX3_init_5 : decode cX3_init 5 = .ok (.bipush 40, 2) := by decide +kernel
theorem dX3_init_7 : decode cX3_init 7 = .ok (.anewarray 9, 3) := by decide +kernel
theorem dX3_init_10 : decode cX3_init 10 = .ok (.putfield 11, 3) := by decide +kernel
theorem dX3_init_13 : decode cX3_init 13 = .ok (.aload_n 0, 1) := by decide +kernel
theorem dX3_init_14 : decode cX3_init 14 = .ok (.new 17, 3) := by decide +kernel
theorem dX3_init_17 : decode cX3_init 17 = .ok (.dup, 1) := by decide +kernel
theorem dX3_init_18 : decode cX3_init 18 = .ok (.invokespecial 19, 3) := by decide +kernel
theorem dX3_init_21 : decode cX3_init 21 = .ok (.putfield 20, 3) := by decide +kernel
theorem dX3_init_24 : decode cX3_init 24 = .ok (.aload_n 0, 1) := by decide +kernel
theorem dX3_init_25 : decode cX3_init 25 = .ok (.iconst 0, 1) := by decide +kernel
theorem dX3_init_26 : decode cX3_init 26 = .ok (.putfield 24, 3) := by decide +kernel
theorem dX3_init_29 : decode cX3_init 29 = .ok (.iconst 0, 1) := by decide +kernel
theorem dX3_init_30 : decode cX3_init 30 = .ok (.istore_n 1, 1) := by decide +kernel
theorem dX3_init_31 : decode cX3_init 31 = .ok (.iload_n 1, 1) := by decide +kernel
theorem dX3_init_32 : decode cX3_init 32 = .ok (.bipush 40, 2) := by decide +kernel
theorem dX3_init_34 : decode cX3_init 34 = .ok (.if_icmp .ge 22, 3) := by decide +kernel
theorem dX3_init_37 : decode cX3_init 37 = .ok (.aload_n 0, 1) := by decide +kernel
theorem dX3_init_38 : decode cX3_init 38 = .ok (.getfield 11, 3) := by decide +kernel
theorem dX3_init_41 : decode cX3_init 41 = .ok (.iload_n 1, 1) := by decide +kernel
theorem dX3_init_42 : decode cX3_init 42 = .ok (.new 9, 3) := by decide +kernel
theorem dX3_init_45 : decode cX3_init 45 = .ok (.dup, 1) := by decide +kernel
theorem dX3_init_46 : decode cX3_init 46 = .ok (.invokespecial 28, 3) := by decide +kernel
theorem dX3_init_49 : decode cX3_init 49 = .ok (.aastore, 1) := by decide +kernel
theorem dX3_init_50 : decode cX3_init 50 = .ok (.iinc 1 1, 3) := by decide +kernel
theorem dX3_init_53 : decode cX3_init 53 = .ok (.goto (-22), 3) := by decide +kernel
theorem dX3_init_56 : decode cX3_init 56 = .ok (.return_, 1) := by decide +kernel
theorem dX3_isFull_0 : decode cX3_isFull 0 = .ok (.aload_n 0, 1) := by decide +kernel
theorem dX3_isFull_1 : decode cX3_isFull 1 = .ok (.getfield 24, 3) := by decide +kernel
theorem dX3_isFull_4 : decode cX3_isFull 4 = .ok (.bipush 40, 2) := by decide +kernel
theorem dX3_isFull_6 : decode cX3_isFull 6 = .ok (.if_icmp .lt 7, 3) := by decide +kernel
theorem dX3_isFull_9 : decode cX3_isFull 9 = .ok (.iconst 1, 1) := by decide +kernel
theorem dX3_isFull_10 : decode cX3_isFull 10 = .ok (.goto 4, 3) := by decide +kernel
theorem dX3_isFull_13 : decode cX3_isFull 13 = .ok (.iconst 0, 1) := by decide +kernel
theorem dX3_isFull_14 : decode cX3_isFull 14 = .ok (.ireturn, 1) := by decide +kernel
theorem dX3_has_0 : decode cX3_has 0 = .ok (.iload_n 1, 1) := by decide +kernel
theorem dX3_has_1 : decode cX3_has 1 = .ok (.ifCond .lt 15, 3) := by decide +kernel
theorem dX3_has_4 : decode cX3_has 4 = .ok (.iload_n 1, 1) := by decide +kernel
theorem dX3_has_5 : decode cX3_has 5 = .ok (.aload_n 0, 1) := by decide +kernel
theorem dX3_has_6 : decode cX3_has 6 = .ok (.getfield 24, 3) := by decide +kernel
theorem dX3_has_9 : decode cX3_has 9 = .ok (.if_icmp .ge 7, 3) := by decide +kernel
theorem dX3_has_12 : decode cX3_has 12 = .ok (.iconst 1, 1) := by decide +kernel
theorem dX3_has_13 : decode cX3_has 13 = .ok (.goto 4, 3) := by decide +kernel
theorem dX3_has_16 : decode cX3_has 16 = .ok (.iconst 0, 1) := by decide +kernel
theorem dX3_has_17 : decode cX3_has 17 = .ok (.ireturn, 1) := by decide +kernel
theorem dX3_empty_0 : decode cX3_empty 0 = .ok (.aload_n 0, 1) := by decide +kernel
theorem dX3_empty_1 : decode cX3_empty 1 = .ok (.iconst 0, 1) := by decide +kernel
theorem dX3_empty_2 : decode cX3_empty 2 = .ok (.putfield 24, 3) := by decide +kernel
theorem dX3_empty_5 : decode cX3_empty 5 = .ok (.aload_n 0, 1) := by decide +kernel
theorem dX3_empty_6 : decode cX3_empty 6 = .ok (.getfield 20, 3) := by decide +kernel
theorem dX3_empty_9 : decode cX3_empty 9 = .ok (.invokevirtual 29, 3) := by decide +kernel
theorem dX3_empty_12 : decode cX3_empty 12 = .ok (.return_, 1) := by decide +kernel
theorem dX3_addFill_0 : decode cX3_addFill 0 = .ok (.aload_n 0, 1) := by decide +kernel
theorem dX3_addFill_1 : decode cX3_addFill 1 = .ok (.invokevirtual 32, 3) := by decide +kernel
theorem dX3_addFill_4 : decode cX3_addFill 4 = .ok (.ifCond .eq 6, 3) := by decide +kernel
theorem dX3_addFill_7 : decode cX3_addFill 7 = .ok (.bipush (-4), 2) := by decide +kernel
theorem dX3_addFill_9 : decode cX3_addFill 9 = .ok (.ireturn, 1) := by decide +kernel
theorem dX3_addFill_10 : decode cX3_addFill 10 = .ok (.aload_n 0, 1) := by decide +kernel
theorem dX3_addFill_11 : decode cX3_addFill 11 = .ok (.getfield 11, 3) := by decide +kernel
theorem dX3_addFill_14 : decode cX3_addFill 14 = .ok (.aload_n 0, 1) := by decide +kernel
theorem dX3_addFill_15 : decode cX3_addFill 15 = .ok (.getfield 24, 3) := by decide +kernel
theorem dX3_addFill_18 : decode cX3_addFill 18 = .ok (.aaload, 1) := by decide +kernel
theorem dX3_addFill_19 : decode cX3_addFill 19 = .ok (.iload_n 1, 1) := by decide +kernel
theorem dX3_addFill_20 : decode cX3_addFill 20 = .ok (.iconst 0, 1) := by decide +kernel
theorem dX3_addFill_21 : decode cX3_addFill 21 = .ok (.iload_n 3, 1) := by decide +kernel
theorem dX3_addFill_22 : decode cX3_addFill 22 = .ok (.invokevirtual 36, 3) := by decide +kernel
theorem dX3_addFill_25 : decode cX3_addFill 25 = .ok (.aload_n 0, 1) := by decide +kernel
theorem dX3_addFill_26 : decode cX3_addFill 26 = .ok (.getfield 11, 3) := by decide +kernel
theorem dX3_addFill_29 : decode cX3_addFill 29 = .ok (.aload_n 0, 1) := by decide +kernel
theorem dX3_addFill_30 : decode cX3_addFill 30 = .ok (.getfield 24, 3) := by decide +kernel
theorem dX3_addFill_33 : decode cX3_addFill 33 = .ok (.aaload, 1) := by decide +kernel
theorem dX3_addFill_34 : decode cX3_addFill 34 = .ok (.iload_n 2, 1) := by decide +kernel
theorem dX3_addFill_35 : decode cX3_addFill 35 = .ok (.putfield 40, 3) := by decide +kernel
theorem dX3_addFill_38 : decode cX3_addFill 38 = .ok (.aload_n 0, 1) := by decide +kernel
theorem dX3_addFill_39 : decode cX3_addFill 39 = .ok (.dup, 1) := by decide +kernel
theorem dX3_addFill_40 : decode cX3_addFill 40 = .ok (.getfield 24, 3) := by decide +kernel
theorem dX3_addFill_43 : decode cX3_addFill 43 = .ok (.dup_x1, 1) := by decide +kernel
theorem dX3_addFill_44 : decode cX3_addFill 44 = .ok (.iconst 1, 1) := by decide +kernel
theorem dX3_addFill_45 : decode cX3_addFill 45 = .ok (.iadd, 1) := by decide +kernel
theorem dX3_addFill_46 : decode cX3_addFill 46 = .ok (.putfield 24, 3) := by decide +kernel
theorem dX3_addFill_49 : decode cX3_addFill 49 = .ok (.ireturn, 1) := by decide +kernel
theorem dX3_addSplit_0 : decode cX3_addSplit 0 = .ok (.aload_n 0, 1) := by decide +kernel
theorem dX3_addSplit_1 : decode cX3_addSplit 1 = .ok (.invokevirtual 32, 3) := by decide +kernel
theorem dX3_addSplit_4 : decode cX3_addSplit 4 = .ok (.ifCond .eq 6, 3) := by decide +kernel
theorem dX3_addSplit_7 : decode cX3_addSplit 7 = .ok (.bipush (-4), 2) := by decide +kernel
theorem dX3_addSplit_9 : decode cX3_addSplit 9 = .ok (.ireturn, 1) := by decide +kernel
theorem dX3_addSplit_10 : decode cX3_addSplit 10 = .ok (.aload_n 0, 1) := by decide +kernel
theorem dX3_addSplit_11 : decode cX3_addSplit 11 = .ok (.getfield 11, 3) := by decide +kernel
theorem dX3_addSplit_14 : decode cX3_addSplit 14 = .ok (.aload_n 0, 1) := by decide +kernel
theorem dX3_addSplit_15 : decode cX3_addSplit 15 = .ok (.getfield 24, 3) := by decide +kernel
theorem dX3_addSplit_18 : decode cX3_addSplit 18 = .ok (.aaload, 1) := by decide +kernel
theorem dX3_addSplit_19 : decode cX3_addSplit 19 = .ok (.iload_n 1, 1) := by decide +kernel
theorem dX3_addSplit_20 : decode cX3_addSplit 20 = .ok (.iload_n 2, 1) := by decide +kernel
theorem dX3_addSplit_21 : decode cX3_addSplit 21 = .ok (.ifCond .eq 7, 3) := by decide +kernel
theorem dX3_addSplit_24 : decode cX3_addSplit 24 = .ok (.iconst 2, 1) := by decide +kernel
theorem dX3_addSplit_25 : decode cX3_addSplit 25 = .ok (.goto 4, 3) := by decide +kernel
theorem dX3_addSplit_28 : decode cX3_addSplit 28 = .ok (.iconst 1, 1) := by decide +kernel
theorem dX3_addSplit_29 : decode cX3_addSplit 29 = .ok (.iload_n 3, 1) := by decide +kernel
theorem dX3_addSplit_30 : decode cX3_addSplit 30 = .ok (.invokevirtual 36, 3) := by decide +kernel
theorem dX3_addSplit_33 : decode cX3_addSplit 33 = .ok (.aload_n 0, 1) := by decide +kernel
theorem dX3_addSplit_34 : decode cX3_addSplit 34 = .ok (.getfield 11, 3) := by decide +kernel
theorem dX3_addSplit_37 : decode cX3_addSplit 37 = .ok (.aload_n 0, 1) := by decide +kernel
theorem dX3_addSplit_38 : decode cX3_addSplit 38 = .ok (.getfield 24, 3) := by decide +kernel
theorem dX3_addSplit_41 : decode cX3_addSplit 41 = .ok (.aaload, 1) := by decide +kernel
theorem dX3_addSplit_42 : decode cX3_addSplit 42 = .ok (.getfield 43, 3) := by decide +kernel
theorem dX3_addSplit_45 : decode cX3_addSplit 45 = .ok (.aload_n 0, 1) := by decide +kernel
theorem dX3_addSplit_46 : decode cX3_addSplit 46 = .ok (.getfield 20, 3) := by decide +kernel
theorem dX3_addSplit_49 : decode cX3_addSplit 49 = .ok (.invokevirtual 46, 3) := by decide +kernel
theorem dX3_addSplit_52 : decode cX3_addSplit 52 = .ok (.aload_n 0, 1) := by decide +kernel
theorem dX3_addSplit_53 : decode cX3_addSplit 53 = .ok (.getfield 20, 3) := by decide +kernel
theorem dX3_addSplit_56 : decode cX3_addSplit 56 = .ok (.invokevirtual 29, 3) := by decide +kernel
theorem dX3_addSplit_59 : decode cX3_addSplit 59 = .ok (.aload_n 0, 1) := by decide +kernel
theorem dX3_addSplit_60 : decode cX3_addSplit 60 = .ok (.dup, 1) := by decide +kernel
theorem dX3_addSplit_61 : decode cX3_addSplit 61 = .ok (.getfield 24, 3) := by decide +kernel
theorem dX3_addSplit_64 : decode cX3_addSplit 64 = .ok (.dup_x1, 1) := by decide +kernel
theorem dX3_addSplit_65 : decode cX3_addSplit 65 = .ok (.iconst 1, 1) := by decide +kernel
theorem dX3_addSplit_66 : decode cX3_addSplit 66 = .ok (.iadd, 1) := by decide +kernel
theorem dX3_addSplit_67 : decode cX3_addSplit 67 = .ok (.putfield 24, 3) := by decide +kernel
theorem dX3_addSplit_70 : decode cX3_addSplit 70 = .ok (.ireturn, 1) := by decide +kernel
theorem dX3_addRepeat_0 : decode cX3_addRepeat 0 = .ok (.aload_n 0, 1) := by decide +kernel
theorem dX3_addRepeat_1 : decode cX3_addRepeat 1 = .ok (.invokevirtual 32, 3) := by decide +kernel
theorem dX3_addRepeat_4 : decode cX3_addRepeat 4 = .ok (.ifCond .eq 6, 3) := by decide +kernel
theorem dX3_addRepeat_7 : decode cX3_addRepeat 7 = .ok (.bipush (-4), 2) := by decide +kernel
theorem dX3_addRepeat_9 : decode cX3_addRepeat 9 = .ok (.ireturn, 1) := by decide +kernel
theorem dX3_addRepeat_10 : decode cX3_addRepeat 10 = .ok (.aload_n 0, 1) := by decide +kernel
theorem dX3_addRepeat_11 : decode cX3_addRepeat 11 = .ok (.getfield 11, 3) := by decide +kernel
theorem dX3_addRepeat_14 : decode cX3_addRepeat 14 = .ok (.aload_n 0, 1) := by decide +kernel
theorem dX3_addRepeat_15 : decode cX3_addRepeat 15 = .ok (.getfield 24, 3) := by decide +kernel
theorem dX3_addRepeat_18 : decode cX3_addRepeat 18 = .ok (.aaload, 1) := by decide +kernel
theorem dX3_addRepeat_19 : decode cX3_addRepeat 19 = .ok (.iload_n 1, 1) := by decide +kernel
theorem dX3_addRepeat_20 : decode cX3_addRepeat 20 = .ok (.iload 4, 2) := by decide +kernel
theorem dX3_addRepeat_22 : decode cX3_addRepeat 22 = .ok (.ifCond .eq 7, 3) := by decide +kernel
theorem dX3_addRepeat_25 : decode cX3_addRepeat 25 = .ok (.iconst 4, 1) := by decide +kernel
theorem dX3_addRepeat_26 : decode cX3_addRepeat 26 = .ok (.goto 4, 3) := by decide +kernel
theorem dX3_addRepeat_29 : decode cX3_addRepeat 29 = .ok (.iconst 3, 1) := by decide +kernel
theorem dX3_addRepeat_30 : decode cX3_addRepeat 30 = .ok (.iload 5, 2) := by decide +kernel
theorem dX3_addRepeat_32 : decode cX3_addRepeat 32 = .ok (.invokevirtual 36, 3) := by decide +kernel
theorem dX3_addRepeat_35 : decode cX3_addRepeat 35 = .ok (.aload_n 0, 1) := by decide +kernel
theorem dX3_addRepeat_36 : decode cX3_addRepeat 36 = .ok (.getfield 11, 3) := by decide +kernel
theorem dX3_addRepeat_39 : decode cX3_addRepeat 39 = .ok (.aload_n 0, 1) := by decide +kernel
theorem dX3_addRepeat_40 : decode cX3_addRepeat 40 = .ok (.getfield 24, 3) := by decide +kernel
theorem dX3_addRepeat_43 : decode cX3_addRepeat 43 = .ok (.aaload, 1) := by decide +kernel
theorem dX3_addRepeat_44 : decode cX3_addRepeat 44 = .ok (.getfield 43, 3) := by decide +kernel
theorem dX3_addRepeat_47 : decode cX3_addRepeat 47 = .ok (.iload_n 2, 1) := by decide +kernel
theorem dX3_addRepeat_48 : decode cX3_addRepeat 48 = .ok (.iload_n 3, 1) := by decide +kernel
theorem dX3_addRepeat_49 : decode cX3_addRepeat 49 = .ok (.iconst 0, 1) := by decide +kernel
theorem dX3_addRepeat_50 : decode cX3_addRepeat 50 = .ok (.invokevirtual 50, 3) := by decide +kernel
theorem dX3_addRepeat_53 : decode cX3_addRepeat 53 = .ok (.aload_n 0, 1) := by decide +kernel
theorem dX3_addRepeat_54 : decode cX3_addRepeat 54 = .ok (.dup, 1) := by decide +kernel
theorem dX3_addRepeat_55 : decode cX3_addRepeat 55 = .ok (.getfield 24, 3) := by decide +kernel
theorem dX3_addRepeat_58 : decode cX3_addRepeat 58 = .ok (.dup_x1, 1) := by decide +kernel
theorem dX3_addRepeat_59 : decode cX3_addRepeat 59 = .ok (.iconst 1, 1) := by decide +kernel
theorem dX3_addRepeat_60 : decode cX3_addRepeat 60 = .ok (.iadd, 1) := by decide +kernel
theorem dX3_addRepeat_61 : decode cX3_addRepeat 61 = .ok (.putfield 24, 3) := by decide +kernel
theorem dX3_addRepeat_64 : decode cX3_addRepeat 64 = .ok (.ireturn, 1) := by decide +kernel
theorem dX4_init_0 : decode cX4_init 0 = .ok (.aload_n 0, 1) := by decide +kernel
theorem dX4_init_1 : decode cX4_init 1 = .ok (.invokespecial 3, 3) := by decide +kernel
theorem dX4_init_4 : decode cX4_init 4 = .ok (.aload_n 0, 1) := by decide +kernel
theorem dX4_init_5 : decode cX4_init 5 = .ok (.bipush 8, 2) := by decide +kernel
theorem dX4_init_7 : decode cX4_init 7 = .ok (.newarray .long, 2) := by decide +kernel
theorem dX4_init_9 : decode cX4_init 9 = .ok (.putfield 9, 3) := by decide +kernel
theorem dX4_init_12 : decode cX4_init 12 = .ok (.aload_n 0, 1) := by decide +kernel
theorem dX4_init_13 : decode cX4_init 13 = .ok (.bipush 8, 2) := by decide +kernel
theorem dX4_init_15 : decode cX4_init 15 = .ok (.newarray .long, 2) := by decide +kernel
theorem dX4_init_17 : decode cX4_init 17 = .ok (.putfield 15, 3) := by decide +kernel
theorem dX4_init_20 : decode cX4_init 20 = .ok (.aload_n 0, 1) := by decide +kernel
theorem dX4_init_21 : decode cX4_init 21 = .ok (.bipush 8, 2) := by decide +kernel
theorem dX4_init_23 : decode cX4_init 23 = .ok (.newarray .long, 2) := by decide +kernel
theorem dX4_init_25 : decode cX4_init 25 = .ok (.putfield 18, 3) := by decide +kernel
theorem dX4_init_28 : decode cX4_init 28 = .ok (.aload_n 0, 1) := by decide +kernel
theorem dX4_init_29 : decode cX4_init 29 = .ok (.bipush 8, 2) := by decide +kernel
theorem dX4_init_31 : decode cX4_init 31 = .ok (.newarray .long, 2) := by decide +kernel
theorem dX4_init_33 : decode cX4_init 33 = .ok (.putfield 21, 3) := by decide +kernel
theorem dX4_init_36 : decode cX4_init 36 = .ok (.aload_n 0, 1) := by decide +kernel
theorem dX4_init_37 : decode cX4_init 37 = .ok (.bipush 8, 2) := by decide +kernel
theorem dX4_init_39 : decode cX4_init 39 = .ok (.newarray .int, 2) := by decide +kernel
theorem dX4_init_41 : decode cX4_init 41 = .ok (.putfield 24, 3) := by decide +kernel
theorem dX4_init_44 : decode cX4_init 44 = .ok (.aload_n 0, 1) := by decide +kernel
theorem dX4_init_45 : decode cX4_init 45 = .ok (.bipush 40, 2) := by decide +kernel
theorem dX4_init_47 : decode cX4_init 47 = .ok (.newarray .int, 2) := by decide +kernel
theorem dX4_init_49 : decode cX4_init 49 = .ok (.putfield 28, 3) := by decide +kernel
theorem dX4_init_52 : decode cX4_init 52 = .ok (.aload_n 0, 1) := by decide +kernel
theorem dX4_init_53 : decode cX4_init 53 = .ok (.bipush 40, 2) := by decide +kernel
theorem dX4_init_55 : decode cX4_init 55 = .ok (.newarray .int, 2) := by decide +kernel
theorem dX4_init_57 : decode cX4_init 57 = .ok (.putfield 31, 3) := by decide +kernel
theorem dX4_init_60 : decode cX4_init 60 = .ok (.aload_n 0, 1) := by decide +kernel
theorem dX4_init_61 : decode cX4_init 61 = .ok (.bipush 40, 2) := by decide +kernel
theorem dX4_init_63 : decode cX4_init 63 = .ok (.newarray .int, 2) := by decide +kernel
theorem dX4_init_65 : decode cX4_init 65 = .ok (.putfield 34, 3) := by decide +kernel
theorem dX4_init_68 : decode cX4_init 68 = .ok (.aload_n 0, 1) := by decide +kernel
theorem dX4_init_69 : decode cX4_init 69 = .ok (.bipush 40, 2) := by decide +kernel
theorem dX4_init_71 : decode cX4_init 71 = .ok (.newarray .long, 2) := by decide +kernel
theorem dX4_init_73 : decode cX4_init 73 = .ok (.putfield 37, 3) := by decide +kernel
theorem dX4_init_76 : decode cX4_init 76 = .ok (.aload_n 0, 1) := by decide +kernel
theorem dX4_init_77 : decode cX4_init 77 = .ok (.iconst 0, 1) := by decide +kernel
theorem dX4_init_78 : decode cX4_init 78 = .ok (.putfield 40, 3) := by decide +kernel
theorem dX4_init_81 : decode cX4_init 81 = .ok (.aload_n 0, 1) := by decide +kernel
theorem dX4_init_82 : decode cX4_init 82 = .ok (.iconst 0, 1) := by decide +kernel
theorem dX4_init_83 : decode cX4_init 83 = .ok (.putfield 44, 3) := by decide +kernel
theorem dX4_init_86 : decode cX4_init 86 = .ok (.return_, 1) := by decide +kernel
theorem dX4_begin_0 : decode cX4_begin 0 = .ok (.aload_n 0, 1) := by decide +kernel
theorem dX4_begin_1 : decode cX4_begin 1 = .ok (.getfield 9, 3) := by decide +kernel
theorem dX4_begin_4 : decode cX4_begin 4 = .ok (.lconst 0, 1) := by decide +kernel
theorem dX4_begin_5 : decode cX4_begin 5 = .ok (.invokestatic 47, 3) := by decide +kernel
theorem dX4_begin_8 : decode cX4_begin 8 = .ok (.aload_n 0, 1) := by decide +kernel
theorem dX4_begin_9 : decode cX4_begin 9 = .ok (.getfield 21, 3) := by decide +kernel
theorem dX4_begin_12 : decode cX4_begin 12 = .ok (.ldc2_w 53, 3) := by decide +kernel
theorem dX4_begin_15 : decode cX4_begin 15 = .ok (.invokestatic 47, 3) := by decide +kernel
theorem dX4_begin_18 : decode cX4_begin 18 = .ok (.aload_n 0, 1) := by decide +kernel
theorem dX4_begin_19 : decode cX4_begin 19 = .ok (.getfield 24, 3) := by decide +kernel
theorem dX4_begin_22 : decode cX4_begin 22 = .ok (.bipush (-9), 2) := by decide +kernel
theorem dX4_begin_24 : decode cX4_begin 24 = .ok (.invokestatic 55, 3) := by decide +kernel
theorem dX4_begin_27 : decode cX4_begin 27 = .ok (.aload_n 0, 1) := by decide +kernel
theorem dX4_begin_28 : decode cX4_begin 28 = .ok (.iconst 0, 1) := by decide +kernel
theorem dX4_begin_29 : decode cX4_begin 29 = .ok (.putfield 40, 3) := by decide +kernel
theorem dX4_begin_32 : decode cX4_begin 32 = .ok (.aload_n 0, 1) := by decide +kernel
theorem dX4_begin_33 : decode cX4_begin 33 = .ok (.iconst 0, 1) := by decide +kernel
theorem dX4_begin_34 : decode cX4_begin 34 = .ok (.putfield 44, 3) := by decide +kernel
theorem dX4_begin_37 : decode cX4_begin 37 = .ok (.return_, 1) := by decide +kernel
theorem dX4_gain_0 : decode cX4_gain 0 = .ok (.lload_n 3, 1) := by decide +kernel
theorem dX4_gain_1 : decode cX4_gain 1 = .ok (.ldc2_w 58, 3) := by decide +kernel
theorem dX4_gain_4 : decode cX4_gain 4 = .ok (.lcmp, 1) := by decide +kernel
theorem dX4_gain_5 : decode cX4_gain 5 = .ok (.ifCond .ne 18, 3) := by decide +kernel
theorem dX4_gain_8 : decode cX4_gain 8 = .ok (.aload_n 0, 1) := by decide +kernel
theorem dX4_gain_9 : decode cX4_gain 9 = .ok (.dup, 1) := by decide +kernel
theorem dX4_gain_10 : decode cX4_gain 10 = .ok (.getfield 44, 3) := by decide +kernel
theorem dX4_gain_13 : decode cX4_gain 13 = .ok (.iconst 1, 1) := by decide +kernel
theorem dX4_gain_14 : decode cX4_gain 14 = .ok (.iload_n 1, 1) := by decide +kernel
theorem dX4_gain_15 : decode cX4_gain 15 = .ok (.ishl, 1) := by decide +kernel
theorem dX4_gain_16 : decode cX4_gain 16 = .ok (.ior, 1) := by decide +kernel
theorem dX4_gain_17 : decode cX4_gain 17 = .ok (.putfield 44, 3) := by decide +kernel
theorem dX4_gain_20 : decode cX4_gain 20 = .ok (.goto 19, 3) := by decide +kernel
theorem dX4_gain_23 : decode cX4_gain 23 = .ok (.aload_n 0, 1) := by decide +kernel
theorem dX4_gain_24 : decode cX4_gain 24 = .ok (.getfield 9, 3) := by decide +kernel
theorem dX4_gain_27 : decode cX4_gain 27 = .ok (.iload_n 1, 1) := by decide +kernel
theorem dX4_gain_28 : decode cX4_gain 28 = .ok (.aload_n 0, 1) := by decide +kernel
theorem dX4_gain_29 : decode cX4_gain 29 = .ok (.getfield 9, 3) := by decide +kernel
theorem dX4_gain_32 : decode cX4_gain 32 = .ok (.iload_n 1, 1) := by decide +kernel
theorem dX4_gain_33 : decode cX4_gain 33 = .ok (.laload, 1) := by decide +kernel
theorem dX4_gain_34 : decode cX4_gain 34 = .ok (.lload_n 3, 1) := by decide +kernel
theorem dX4_gain_35 : decode cX4_gain 35 = .ok (.invokestatic 60, 3) := by decide +kernel
theorem dX4_gain_38 : decode cX4_gain 38 = .ok (.lastore, 1) := by decide +kernel
theorem dX4_gain_39 : decode cX4_gain 39 = .ok (.aload_n 0, 1) := by decide +kernel
theorem dX4_gain_40 : decode cX4_gain 40 = .ok (.getfield 21, 3) := by decide +kernel
theorem dX4_gain_43 : decode cX4_gain 43 = .ok (.iload_n 1, 1) := by decide +kernel
theorem dX4_gain_44 : decode cX4_gain 44 = .ok (.laload, 1) := by decide +kernel
theorem dX4_gain_45 : decode cX4_gain 45 = .ok (.lconst 0, 1) := by decide +kernel
theorem dX4_gain_46 : decode cX4_gain 46 = .ok (.lcmp, 1) := by decide +kernel
theorem dX4_gain_47 : decode cX4_gain 47 = .ok (.ifCond .lt 15, 3) := by decide +kernel
theorem dX4_gain_50 : decode cX4_gain 50 = .ok (.lload 5, 2) := by decide +kernel
theorem dX4_gain_52 : decode cX4_gain 52 = .ok (.aload_n 0, 1) := by decide +kernel
theorem dX4_gain_53 : decode cX4_gain 53 = .ok (.getfield 21, 3) := by decide +kernel
theorem dX4_gain_56 : decode cX4_gain 56 = .ok (.iload_n 1, 1) := by decide +kernel
theorem dX4_gain_57 : decode cX4_gain 57 = .ok (.laload, 1) := by decide +kernel
theorem dX4_gain_58 : decode cX4_gain 58 = .ok (.lcmp, 1) := by decide +kernel
theorem dX4_gain_59 : decode cX4_gain 59 = .ok (.ifCond .ge 18, 3) := by decide +kernel
theorem dX4_gain_62 : decode cX4_gain 62 = .ok (.aload_n 0, 1) := by decide +kernel
theorem dX4_gain_63 : decode cX4_gain 63 = .ok (.getfield 21, 3) := by decide +kernel
theorem dX4_gain_66 : decode cX4_gain 66 = .ok (.iload_n 1, 1) := by decide +kernel
theorem dX4_gain_67 : decode cX4_gain 67 = .ok (.lload 5, 2) := by decide +kernel
theorem dX4_gain_69 : decode cX4_gain 69 = .ok (.lastore, 1) := by decide +kernel
theorem dX4_gain_70 : decode cX4_gain 70 = .ok (.aload_n 0, 1) := by decide +kernel
theorem dX4_gain_71 : decode cX4_gain 71 = .ok (.getfield 24, 3) := by decide +kernel
theorem dX4_gain_74 : decode cX4_gain 74 = .ok (.iload_n 1, 1) := by decide +kernel
theorem dX4_gain_75 : decode cX4_gain 75 = .ok (.iload_n 2, 1) := by decide +kernel
theorem dX4_gain_76 : decode cX4_gain 76 = .ok (.iastore, 1) := by decide +kernel
theorem dX4_gain_77 : decode cX4_gain 77 = .ok (.return_, 1) := by decide +kernel
theorem dX4_tie_0 : decode cX4_tie 0 = .ok (.aload_n 0, 1) := by decide +kernel
theorem dX4_tie_1 : decode cX4_tie 1 = .ok (.getfield 40, 3) := by decide +kernel
theorem dX4_tie_4 : decode cX4_tie 4 = .ok (.bipush 40, 2) := by decide +kernel
theorem dX4_tie_6 : decode cX4_tie 6 = .ok (.if_icmp .lt 4, 3) := by decide +kernel
theorem dX4_tie_9 : decode cX4_tie 9 = .ok (.return_, 1) := by decide +kernel
theorem dX4_tie_10 : decode cX4_tie 10 = .ok (.aload_n 0, 1) := by decide +kernel
theorem dX4_tie_11 : decode cX4_tie 11 = .ok (.getfield 28, 3) := by decide +kernel
theorem dX4_tie_14 : decode cX4_tie 14 = .ok (.aload_n 0, 1) := by decide +kernel
theorem dX4_tie_15 : decode cX4_tie 15 = .ok (.getfield 40, 3) := by decide +kernel
theorem dX4_tie_18 : decode cX4_tie 18 = .ok (.iload_n 1, 1) := by decide +kernel
theorem dX4_tie_19 : decode cX4_tie 19 = .ok (.iastore, 1) := by decide +kernel
theorem dX4_tie_20 : decode cX4_tie 20 = .ok (.aload_n 0, 1) := by decide +kernel
theorem dX4_tie_21 : decode cX4_tie 21 = .ok (.getfield 31, 3) := by decide +kernel
theorem dX4_tie_24 : decode cX4_tie 24 = .ok (.aload_n 0, 1) := by decide +kernel
theorem dX4_tie_25 : decode cX4_tie 25 = .ok (.getfield 40, 3) := by decide +kernel
theorem dX4_tie_28 : decode cX4_tie 28 = .ok (.iload_n 2, 1) := by decide +kernel
theorem dX4_tie_29 : decode cX4_tie 29 = .ok (.iastore, 1) := by decide +kernel
theorem dX4_tie_30 : decode cX4_tie 30 = .ok (.aload_n 0, 1) := by decide +kernel
theorem dX4_tie_31 : decode cX4_tie 31 = .ok (.getfield 34, 3) := by decide +kernel
theorem dX4_tie_34 : decode cX4_tie 34 = .ok (.aload_n 0, 1) := by decide +kernel
theorem dX4_tie_35 : decode cX4_tie 35 = .ok (.getfield 40, 3) := by decide +kernel
theorem dX4_tie_38 : decode cX4_tie 38 = .ok (.iload_n 3, 1) := by decide +kernel
theorem dX4_tie_39 : decode cX4_tie 39 = .ok (.iastore, 1) := by decide +kernel
theorem dX4_tie_40 : decode cX4_tie 40 = .ok (.aload_n 0, 1) := by decide +kernel
theorem dX4_tie_41 : decode cX4_tie 41 = .ok (.getfield 37, 3) := by decide +kernel
theorem dX4_tie_44 : decode cX4_tie 44 = .ok (.aload_n 0, 1) := by decide +kernel
theorem dX4_tie_45 : decode cX4_tie 45 = .ok (.getfield 40, 3) := by decide +kernel
theorem dX4_tie_48 : decode cX4_tie 48 = .ok (.lload 4, 2) := by decide +kernel
theorem dX4_tie_50 : decode cX4_tie 50 = .ok (.lastore, 1) := by decide +kernel
theorem dX4_tie_51 : decode cX4_tie 51 = .ok (.aload_n 0, 1) := by decide +kernel
theorem dX4_tie_52 : decode cX4_tie 52 = .ok (.dup, 1) := by decide +kernel
theorem dX4_tie_53 : decode cX4_tie 53 = .ok (.getfield 40, 3) := by decide +kernel
theorem dX4_tie_56 : decode cX4_tie 56 = .ok (.iconst 1, 1) := by decide +kernel
theorem dX4_tie_57 : decode cX4_tie 57 = .ok (.iadd, 1) := by decide +kernel
theorem dX4_tie_58 : decode cX4_tie 58 = .ok (.putfield 40, 3) := by decide +kernel
theorem dX4_tie_61 : decode cX4_tie 61 = .ok (.return_, 1) := by decide +kernel
theorem dX4_waysOf_0 : decode cX4_waysOf 0 = .ok (.aload_n 0, 1) := by decide +kernel
theorem dX4_waysOf_1 : decode cX4_waysOf 1 = .ok (.getfield 44, 3) := by decide +kernel
theorem dX4_waysOf_4 : decode cX4_waysOf 4 = .ok (.iload_n 1, 1) := by decide +kernel
theorem dX4_waysOf_5 : decode cX4_waysOf 5 = .ok (.ishr, 1) := by decide +kernel
theorem dX4_waysOf_6 : decode cX4_waysOf 6 = .ok (.iconst 1, 1) := by decide +kernel
theorem dX4_waysOf_7 : decode cX4_waysOf 7 = .ok (.iand, 1) := by decide +kernel
theorem dX4_waysOf_8 : decode cX4_waysOf 8 = .ok (.ifCond .eq 9, 3) := by decide +kernel
theorem dX4_waysOf_11 : decode cX4_waysOf 11 = .ok (.ldc2_w 58, 3) := by decide +kernel
theorem dX4_waysOf_14 : decode cX4_waysOf 14 = .ok (.goto 9, 3) := by decide +kernel
theorem dX4_waysOf_17 : decode cX4_waysOf 17 = .ok (.aload_n 0, 1) := by decide +kernel
theorem dX4_waysOf_18 : decode cX4_waysOf 18 = .ok (.getfield 15, 3) := by decide +kernel
theorem dX4_waysOf_21 : decode cX4_waysOf 21 = .ok (.iload_n 1, 1) := by decide +kernel
theorem dX4_waysOf_22 : decode cX4_waysOf 22 = .ok (.laload, 1) := by decide +kernel
theorem dX4_waysOf_23 : decode cX4_waysOf 23 = .ok (.lreturn, 1) := by decide +kernel
theorem dX4_settle_0 : decode cX4_settle 0 = .ok (.aload_n 0, 1) := by decide +kernel
theorem dX4_settle_1 : decode cX4_settle 1 = .ok (.getfield 9, 3) := by decide +kernel
theorem dX4_settle_4 : decode cX4_settle 4 = .ok (.iconst 0, 1) := by decide +kernel
theorem dX4_settle_5 : decode cX4_settle 5 = .ok (.aload_n 0, 1) := by decide +kernel
theorem dX4_settle_6 : decode cX4_settle 6 = .ok (.getfield 15, 3) := by decide +kernel
theorem dX4_settle_9 : decode cX4_settle 9 = .ok (.iconst 0, 1) := by decide +kernel
theorem dX4_settle_10 : decode cX4_settle 10 = .ok (.bipush 8, 2) := by decide +kernel
theorem dX4_settle_12 : decode cX4_settle 12 = .ok (.invokestatic 64, 3) := by decide +kernel
theorem dX4_settle_15 : decode cX4_settle 15 = .ok (.aload_n 0, 1) := by decide +kernel
theorem dX4_settle_16 : decode cX4_settle 16 = .ok (.getfield 40, 3) := by decide +kernel
theorem dX4_settle_19 : decode cX4_settle 19 = .ok (.ifCond .le 19, 3) := by decide +kernel
theorem dX4_settle_22 : decode cX4_settle 22 = .ok (.aload_n 0, 1) := by decide +kernel
theorem dX4_settle_23 : decode cX4_settle 23 = .ok (.invokevirtual 70, 3) := by decide +kernel
theorem dX4_settle_26 : decode cX4_settle 26 = .ok (.aload_n 0, 1) := by decide +kernel
theorem dX4_settle_27 : decode cX4_settle 27 = .ok (.invokevirtual 73, 3) := by decide +kernel
theorem dX4_settle_30 : decode cX4_settle 30 = .ok (.aload_n 0, 1) := by decide +kernel
theorem dX4_settle_31 : decode cX4_settle 31 = .ok (.invokevirtual 76, 3) := by decide +kernel
theorem dX4_settle_34 : decode cX4_settle 34 = .ok (.aload_n 0, 1) := by decide +kernel
theorem dX4_settle_35 : decode cX4_settle 35 = .ok (.invokevirtual 79, 3) := by decide +kernel
theorem dX4_settle_38 : decode cX4_settle 38 = .ok (.return_, 1) := by decide +kernel
theorem dX4_findEndless_0 : decode cX4_findEndless 0 = .ok (.iconst 0, 1) := by decide +kernel
theorem dX4_findEndless_1 : decode cX4_findEndless 1 = .ok (.istore_n 1, 1) := by decide +kernel
theorem dX4_findEndless_2 : decode cX4_findEndless 2 = .ok (.iconst 0, 1) := by decide +kernel
theorem dX4_findEndless_3 : decode cX4_findEndless 3 = .ok (.istore_n 2, 1) := by decide +kernel
theorem dX4_findEndless_4 : decode cX4_findEndless 4 = .ok (.iload_n 2, 1) := by decide +kernel
theorem dX4_findEndless_5 : decode cX4_findEndless 5 = .ok (.bipush 8, 2) := by decide +kernel
theorem dX4_findEndless_7 : decode cX4_findEndless 7 = .ok (.if_icmp .ge 26, 3) := by decide +kernel
theorem dX4_findEndless_10 : decode cX4_findEndless 10 = .ok (.aload_n 0, 1) := by decide +kernel
theorem dX4_findEndless_11 : decode cX4_findEndless 11 = .ok (.getfield 21, 3) := by decide +kernel
theorem dX4_findEndless_14 : decode cX4_findEndless 14 = .ok (.iload_n 2, 1) := by decide +kernel
theorem dX4_findEndless_15 : decode cX4_findEndless 15 = .ok (.laload, 1) := by decide +kernel
theorem dX4_findEndless_16 : decode cX4_findEndless 16 = .ok (.lconst 0, 1) := by decide +kernel
theorem dX4_findEndless_17 : decode cX4_findEndless 17 = .ok (.lcmp, 1) := by decide +kernel
theorem dX4_findEndless_18 : decode cX4_findEndless 18 = .ok (.ifCond .lt 9, 3) := by decide +kernel
theorem dX4_findEndless_21 : decode cX4_findEndless 21 = .ok (.iload_n 1, 1) := by decide +kernel
theorem dX4_findEndless_22 : decode cX4_findEndless 22 = .ok (.iconst 1, 1) := by decide +kernel
theorem dX4_findEndless_23 : decode cX4_findEndless 23 = .ok (.iload_n 2, 1) := by decide +kernel
theorem dX4_findEndless_24 : decode cX4_findEndless 24 = .ok (.ishl, 1) := by decide +kernel
theorem dX4_findEndless_25 : decode cX4_findEndless 25 = .ok (.ior, 1) := by decide +kernel
theorem dX4_findEndless_26 : decode cX4_findEndless 26 = .ok (.istore_n 1, 1) := by decide +kernel
theorem dX4_findEndless_27 : decode cX4_findEndless 27 = .ok (.iinc 2 1, 3) := by decide +kernel
theorem dX4_findEndless_30 : decode cX4_findEndless 30 = .ok (.goto (-26), 3) := by decide +kernel
theorem dX4_findEndless_33 : decode cX4_findEndless 33 = .ok (.iconst 0, 1) := by decide +kernel
theorem dX4_findEndless_34 : decode cX4_findEndless 34 = .ok (.istore_n 2, 1) := by decide +kernel
theorem dX4_findEndless_35 : decode cX4_findEndless 35 = .ok (.iload_n 2, 1) := by decide +kernel
theorem dX4_findEndless_36 : decode cX4_findEndless 36 = .ok (.bipush 8, 2) := by decide +kernel
theorem dX4_findEndless_38 : decode cX4_findEndless 38 = .ok (.if_icmp .ge 17, 3) := by decide +kernel
theorem dX4_findEndless_41 : decode cX4_findEndless 41 = .ok (.iload_n 1, 1) := by decide +kernel
theorem dX4_findEndless_42 : decode cX4_findEndless 42 = .ok (.aload_n 0, 1) := by decide +kernel
theorem dX4_findEndless_43 : decode cX4_findEndless 43 = .ok (.iload_n 1, 1) := by decide +kernel
theorem dX4_findEndless_44 : decode cX4_findEndless 44 = .ok (.invokevirtual 82, 3) := by decide +kernel
theorem dX4_findEndless_47 : decode cX4_findEndless 47 = .ok (.ior, 1) := by decide +kernel
theorem dX4_findEndless_48 : decode cX4_findEndless 48 = .ok (.istore_n 1, 1) := by decide +kernel
theorem dX4_findEndless_49 : decode cX4_findEndless 49 = .ok (.iinc 2 1, 3) := by decide +kernel
theorem dX4_findEndless_52 : decode cX4_findEndless 52 = .ok (.goto (-17), 3) := by decide +kernel
theorem dX4_findEndless_55 : decode cX4_findEndless 55 = .ok (.iload_n 1, 1) := by decide +kernel
theorem dX4_findEndless_56 : decode cX4_findEndless 56 = .ok (.istore_n 2, 1) := by decide +kernel
theorem dX4_findEndless_57 : decode cX4_findEndless 57 = .ok (.iconst 0, 1) := by decide +kernel
theorem dX4_findEndless_58 : decode cX4_findEndless 58 = .ok (.istore_n 3, 1) := by decide +kernel
theorem dX4_findEndless_59 : decode cX4_findEndless 59 = .ok (.iload_n 3, 1) := by decide +kernel
theorem dX4_findEndless_60 : decode cX4_findEndless 60 = .ok (.bipush 8, 2) := by decide +kernel
theorem dX4_findEndless_62 : decode cX4_findEndless 62 = .ok (.if_icmp .ge 15, 3) := by decide +kernel
theorem dX4_findEndless_65 : decode cX4_findEndless 65 = .ok (.aload_n 0, 1) := by decide +kernel
theorem dX4_findEndless_66 : decode cX4_findEndless 66 = .ok (.iload_n 2, 1) := by decide +kernel
theorem dX4_findEndless_67 : decode cX4_findEndless 67 = .ok (.invokevirtual 82, 3) := by decide +kernel
theorem dX4_findEndless_70 : decode cX4_findEndless 70 = .ok (.istore_n 2, 1) := by decide +kernel
theorem dX4_findEndless_71 : decode cX4_findEndless 71 = .ok (.iinc 3 1, 3) := by decide +kernel
theorem dX4_findEndless_74 : decode cX4_findEndless 74 = .ok (.goto (-15), 3) := by decide +kernel
theorem dX4_findEndless_77 : decode cX4_findEndless 77 = .ok (.aload_n 0, 1) := by decide +kernel
theorem dX4_findEndless_78 : decode cX4_findEndless 78 = .ok (.dup, 1) := by decide +kernel
theorem dX4_findEndless_79 : decode cX4_findEndless 79 = .ok (.getfield 44, 3) := by decide +kernel
theorem dX4_findEndless_82 : decode cX4_findEndless 82 = .ok (.iload_n 2, 1) := by decide +kernel
theorem dX4_findEndless_83 : decode cX4_findEndless 83 = .ok (.ior, 1) := by decide +kernel
theorem dX4_findEndless_84 : decode cX4_findEndless 84 = .ok (.putfield 44, 3) := by decide +kernel
theorem dX4_findEndless_87 : decode cX4_findEndless 87 = .ok (.iconst 0, 1) := by decide +kernel
theorem dX4_findEndless_88 : decode cX4_findEndless 88 = .ok (.istore_n 3, 1) := by decide +kernel
theorem dX4_findEndless_89 : decode cX4_findEndless 89 = .ok (.iload_n 3, 1) := by decide +kernel
theorem dX4_findEndless_90 : decode cX4_findEndless 90 = .ok (.bipush 8, 2) := by decide +kernel
theorem dX4_findEndless_92 : decode cX4_findEndless 92 = .ok (.if_icmp .ge 26, 3) := by decide +kernel
theorem dX4_findEndless_95 : decode cX4_findEndless 95 = .ok (.aload_n 0, 1) := by decide +kernel
theorem dX4_findEndless_96 : decode cX4_findEndless 96 = .ok (.dup, 1) := by decide +kernel
theorem dX4_findEndless_97 : decode cX4_findEndless 97 = .ok (.getfield 44, 3) := by decide +kernel
theorem dX4_findEndless_100 : decode cX4_findEndless 100 = .ok (.aload_n 0, 1) := by decide +kernel
theorem dX4_findEndless_101 : decode cX4_findEndless 101 = .ok (.aload_n 0, 1) := by decide +kernel
theorem dX4_findEndless_102 : decode cX4_findEndless 102 = .ok (.getfield 44, 3) := by decide +kernel
theorem dX4_findEndless_105 : decode cX4_findEndless 105 = .ok (.invokevirtual 82, 3) := by decide +kernel
theorem dX4_findEndless_108 : decode cX4_findEndless 108 = .ok (.ior, 1) := by decide +kernel
theorem dX4_findEndless_109 : decode cX4_findEndless 109 = .ok (.putfield 44, 3) := by decide +kernel
theorem dX4_findEndless_112 : decode cX4_findEndless 112 = .ok (.iinc 3 1, 3) := by decide +kernel
theorem dX4_findEndless_115 : decode cX4_findEndless 115 = .ok (.goto (-26), 3) := by decide +kernel
theorem dX4_findEndless_118 : decode cX4_findEndless 118 = .ok (.return_, 1) := by decide +kernel
theorem dX4_tiedTo_0 : decode cX4_tiedTo 0 = .ok (.iconst 0, 1) := by decide +kernel
theorem dX4_tiedTo_1 : decode cX4_tiedTo 1 = .ok (.istore_n 2, 1) := by decide +kernel
theorem dX4_tiedTo_2 : decode cX4_tiedTo 2 = .ok (.iconst 0, 1) := by decide +kernel
theorem dX4_tiedTo_3 : decode cX4_tiedTo 3 = .ok (.istore_n 3, 1) := by decide +kernel
theorem dX4_tiedTo_4 : decode cX4_tiedTo 4 = .ok (.iload_n 3, 1) := by decide +kernel
theorem dX4_tiedTo_5 : decode cX4_tiedTo 5 = .ok (.aload_n 0, 1) := by decide +kernel
theorem dX4_tiedTo_6 : decode cX4_tiedTo 6 = .ok (.getfield 40, 3) := by decide +kernel
theorem dX4_tiedTo_9 : decode cX4_tiedTo 9 = .ok (.if_icmp .ge 33, 3) := by decide +kernel
theorem dX4_tiedTo_12 : decode cX4_tiedTo 12 = .ok (.iload_n 1, 1) := by decide +kernel
theorem dX4_tiedTo_13 : decode cX4_tiedTo 13 = .ok (.aload_n 0, 1) := by decide +kernel
theorem dX4_tiedTo_14 : decode cX4_tiedTo 14 = .ok (.getfield 34, 3) := by decide +kernel
theorem dX4_tiedTo_17 : decode cX4_tiedTo 17 = .ok (.iload_n 3, 1) := by decide +kernel
theorem dX4_tiedTo_18 : decode cX4_tiedTo 18 = .ok (.iaload, 1) := by decide +kernel
theorem dX4_tiedTo_19 : decode cX4_tiedTo 19 = .ok (.ishr, 1) := by decide +kernel
theorem dX4_tiedTo_20 : decode cX4_tiedTo 20 = .ok (.iconst 1, 1) := by decide +kernel
theorem dX4_tiedTo_21 : decode cX4_tiedTo 21 = .ok (.iand, 1) := by decide +kernel
theorem dX4_tiedTo_22 : decode cX4_tiedTo 22 = .ok (.ifCond .eq 14, 3) := by decide +kernel
theorem dX4_tiedTo_25 : decode cX4_tiedTo 25 = .ok (.iload_n 2, 1) := by decide +kernel
theorem dX4_tiedTo_26 : decode cX4_tiedTo 26 = .ok (.iconst 1, 1) := by decide +kernel
theorem dX4_tiedTo_27 : decode cX4_tiedTo 27 = .ok (.aload_n 0, 1) := by decide +kernel
theorem dX4_tiedTo_28 : decode cX4_tiedTo 28 = .ok (.getfield 28, 3) := by decide +kernel
theorem dX4_tiedTo_31 : decode cX4_tiedTo 31 = .ok (.iload_n 3, 1) := by decide +kernel
theorem dX4_tiedTo_32 : decode cX4_tiedTo 32 = .ok (.iaload, 1) := by decide +kernel
theorem dX4_tiedTo_33 : decode cX4_tiedTo 33 = .ok (.ishl, 1) := by decide +kernel
theorem dX4_tiedTo_34 : decode cX4_tiedTo 34 = .ok (.ior, 1) := by decide +kernel
theorem dX4_tiedTo_35 : decode cX4_tiedTo 35 = .ok (.istore_n 2, 1) := by decide +kernel
theorem dX4_tiedTo_36 : decode cX4_tiedTo 36 = .ok (.iinc 3 1, 3) := by decide +kernel
theorem dX4_tiedTo_39 : decode cX4_tiedTo 39 = .ok (.goto (-35), 3) := by decide +kernel
theorem dX4_tiedTo_42 : decode cX4_tiedTo 42 = .ok (.iload_n 2, 1) := by decide +kernel
theorem dX4_tiedTo_43 : decode cX4_tiedTo 43 = .ok (.ireturn, 1) := by decide +kernel
theorem dX4_sumTies_0 : decode cX4_sumTies 0 = .ok (.iconst 0, 1) := by decide +kernel
theorem dX4_sumTies_1 : decode cX4_sumTies 1 = .ok (.istore_n 1, 1) := by decide +kernel
theorem dX4_sumTies_2 : decode cX4_sumTies 2 = .ok (.iload_n 1, 1) := by decide +kernel
theorem dX4_sumTies_3 : decode cX4_sumTies 3 = .ok (.bipush 8, 2) := by decide +kernel
theorem dX4_sumTies_5 : decode cX4_sumTies 5 = .ok (.if_icmp .ge 88, 3) := by decide +kernel
theorem dX4_sumTies_8 : decode cX4_sumTies 8 = .ok (.aload_n 0, 1) := by decide +kernel
theorem dX4_sumTies_9 : decode cX4_sumTies 9 = .ok (.getfield 15, 3) := by decide +kernel
theorem dX4_sumTies_12 : decode cX4_sumTies 12 = .ok (.iconst 0, 1) := by decide +kernel
theorem dX4_sumTies_13 : decode cX4_sumTies 13 = .ok (.aload_n 0, 1) := by decide +kernel
theorem dX4_sumTies_14 : decode cX4_sumTies 14 = .ok (.getfield 18, 3) := by decide +kernel
theorem dX4_sumTies_17 : decode cX4_sumTies 17 = .ok (.iconst 0, 1) := by decide +kernel
theorem dX4_sumTies_18 : decode cX4_sumTies 18 = .ok (.bipush 8, 2) := by decide +kernel
theorem dX4_sumTies_20 : decode cX4_sumTies 20 = .ok (.invokestatic 64, 3) := by decide +kernel
theorem dX4_sumTies_23 : decode cX4_sumTies 23 = .ok (.aload_n 0, 1) := by decide +kernel
theorem dX4_sumTies_24 : decode cX4_sumTies 24 = .ok (.getfield 9, 3) := by decide +kernel
theorem dX4_sumTies_27 : decode cX4_sumTies 27 = .ok (.iconst 0, 1) := by decide +kernel
theorem dX4_sumTies_28 : decode cX4_sumTies 28 = .ok (.aload_n 0, 1) := by decide +kernel
theorem dX4_sumTies_29 : decode cX4_sumTies 29 = .ok (.getfield 15, 3) := by decide +kernel
theorem dX4_sumTies_32 : decode cX4_sumTies 32 = .ok (.iconst 0, 1) := by decide +kernel
theorem dX4_sumTies_33 : decode cX4_sumTies 33 = .ok (.bipush 8, 2) := by decide +kernel
theorem dX4_sumTies_35 : decode cX4_sumTies 35 = .ok (.invokestatic 64, 3) := by decide +kernel
theorem dX4_sumTies_38 : decode cX4_sumTies 38 = .ok (.iconst 0, 1) := by decide +kernel
theorem dX4_sumTies_39 : decode cX4_sumTies 39 = .ok (.istore_n 2, 1) := by decide +kernel
theorem dX4_sumTies_40 : decode cX4_sumTies 40 = .ok (.iload_n 2, 1) := by decide +kernel
theorem dX4_sumTies_41 : decode cX4_sumTies 41 = .ok (.aload_n 0, 1) := by decide +kernel
theorem dX4_sumTies_42 : decode cX4_sumTies 42 = .ok (.getfield 40, 3) := by decide +kernel
theorem dX4_sumTies_45 : decode cX4_sumTies 45 = .ok (.if_icmp .ge 42, 3) := by decide +kernel
theorem dX4_sumTies_48 : decode cX4_sumTies 48 = .ok (.aload_n 0, 1) := by decide +kernel
theorem dX4_sumTies_49 : decode cX4_sumTies 49 = .ok (.getfield 28, 3) := by decide +kernel
theorem dX4_sumTies_52 : decode cX4_sumTies 52 = .ok (.iload_n 2, 1) := by decide +kernel
theorem dX4_sumTies_53 : decode cX4_sumTies 53 = .ok (.iaload, 1) := by decide +kernel
theorem dX4_sumTies_54 : decode cX4_sumTies 54 = .ok (.istore_n 3, 1) := by decide +kernel
theorem dX4_sumTies_55 : decode cX4_sumTies 55 = .ok (.aload_n 0, 1) := by decide +kernel
theorem dX4_sumTies_56 : decode cX4_sumTies 56 = .ok (.getfield 15, 3) := by decide +kernel
theorem dX4_sumTies_59 : decode cX4_sumTies 59 = .ok (.iload_n 3, 1) := by decide +kernel
theorem dX4_sumTies_60 : decode cX4_sumTies 60 = .ok (.aload_n 0, 1) := by decide +kernel
theorem dX4_sumTies_61 : decode cX4_sumTies 61 = .ok (.getfield 15, 3) := by decide +kernel
theorem dX4_sumTies_64 : decode cX4_sumTies 64 = .ok (.iload_n 3, 1) := by decide +kernel
theorem dX4_sumTies_65 : decode cX4_sumTies 65 = .ok (.laload, 1) := by decide +kernel
theorem dX4_sumTies_66 : decode cX4_sumTies 66 = .ok (.aload_n 0, 1) := by decide +kernel
theorem dX4_sumTies_67 : decode cX4_sumTies 67 = .ok (.getfield 18, 3) := by decide +kernel
theorem dX4_sumTies_70 : decode cX4_sumTies 70 = .ok (.aload_n 0, 1) := by decide +kernel
theorem dX4_sumTies_71 : decode cX4_sumTies 71 = .ok (.getfield 34, 3) := by decide +kernel
theorem dX4_sumTies_74 : decode cX4_sumTies 74 = .ok (.iload_n 2, 1) := by decide +kernel
theorem dX4_sumTies_75 : decode cX4_sumTies 75 = .ok (.iaload, 1) := by decide +kernel
theorem dX4_sumTies_76 : decode cX4_sumTies 76 = .ok (.laload, 1) := by decide +kernel
theorem dX4_sumTies_77 : decode cX4_sumTies 77 = .ok (.invokestatic 60, 3) := by decide +kernel
theorem dX4_sumTies_80 : decode cX4_sumTies 80 = .ok (.lastore, 1) := by decide +kernel
theorem dX4_sumTies_81 : decode cX4_sumTies 81 = .ok (.iinc 2 1, 3) := by decide +kernel
theorem dX4_sumTies_84 : decode cX4_sumTies 84 = .ok (.goto (-44), 3) := by decide +kernel
theorem dX4_sumTies_87 : decode cX4_sumTies 87 = .ok (.iinc 1 1, 3) := by decide +kernel
theorem dX4_sumTies_90 : decode cX4_sumTies 90 = .ok (.goto (-88), 3) := by decide +kernel
theorem dX4_sumTies_93 : decode cX4_sumTies 93 = .ok (.return_, 1) := by decide +kernel
theorem dX4_lightenByTies_0 : decode cX4_lightenByTies 0 = .ok (.iconst 0, 1) := by decide +kernel
theorem dX4_lightenByTies_1 : decode cX4_lightenByTies 1 = .ok (.istore_n 1, 1) := by decide +kernel
theorem dX4_lightenByTies_2 : decode cX4_lightenByTies 2 = .ok (.iload_n 1, 1) := by decide +kernel
theorem dX4_lightenByTies_3 : decode cX4_lightenByTies 3 = .ok (.bipush 8, 2) := by decide +kernel
theorem dX4_lightenByTies_5 : decode cX4_lightenByTies 5 = .ok (.if_icmp .ge 105, 3) := by decide +kernel
theorem dX4_lightenByTies_8 : decode cX4_lightenByTies 8 = .ok (.iconst 0, 1) := by decide +kernel
theorem dX4_lightenByTies_9 : decode cX4_lightenByTies 9 = .ok (.istore_n 2, 1) := by decide +kernel
theorem dX4_lightenByTies_10 : decode cX4_lightenByTies 10 = .ok (.iload_n 2, 1) := by decide +kernel
theorem dX4_lightenByTies_11 : decode cX4_lightenByTies 11 = .ok (.aload_n 0, 1) := by decide +kernel
theorem dX4_lightenByTies_12 : decode cX4_lightenByTies 12 = .ok (.getfield 40, 3) := by decide +kernel
theorem dX4_lightenByTies_15 : decode cX4_lightenByTies 15 = .ok (.if_icmp .ge 89, 3) := by decide +kernel
theorem dX4_lightenByTies_18 : decode cX4_lightenByTies 18 = .ok (.aload_n 0, 1) := by decide +kernel
theorem dX4_lightenByTies_19 : decode cX4_lightenByTies 19 = .ok (.getfield 28, 3) := by decide +kernel
theorem dX4_lightenByTies_22 : decode cX4_lightenByTies 22 = .ok (.iload_n 2, 1) := by decide +kernel
theorem dX4_lightenByTies_23 : decode cX4_lightenByTies 23 = .ok (.iaload, 1) := by decide +kernel
theorem dX4_lightenByTies_24 : decode cX4_lightenByTies 24 = .ok (.istore_n 3, 1) := by decide +kernel
theorem dX4_lightenByTies_25 : decode cX4_lightenByTies 25 = .ok (.aload_n 0, 1) := by decide +kernel
theorem dX4_lightenByTies_26 : decode cX4_lightenByTies 26 = .ok (.getfield 21, 3) := by decide +kernel
theorem dX4_lightenByTies_29 : decode cX4_lightenByTies 29 = .ok (.aload_n 0, 1) := by decide +kernel
theorem dX4_lightenByTies_30 : decode cX4_lightenByTies 30 = .ok (.getfield 34, 3) := by decide +kernel
theorem dX4_lightenByTies_33 : decode cX4_lightenByTies 33 = .ok (.iload_n 2, 1) := by decide +kernel
theorem dX4_lightenByTies_34 : decode cX4_lightenByTies 34 = .ok (.iaload, 1) := by decide +kernel
theorem dX4_lightenByTies_35 : decode cX4_lightenByTies 35 = .ok (.laload, 1) := by decide +kernel
theorem dX4_lightenByTies_36 : decode cX4_lightenByTies 36 = .ok (.lstore 4, 2) := by decide +kernel
theorem dX4_lightenByTies_38 : decode cX4_lightenByTies 38 = .ok (.lload 4, 2) := by decide +kernel
theorem dX4_lightenByTies_40 : decode cX4_lightenByTies 40 = .ok (.lconst 0, 1) := by decide +kernel
theorem dX4_lightenByTies_41 : decode cX4_lightenByTies 41 = .ok (.lcmp, 1) := by decide +kernel
theorem dX4_lightenByTies_42 : decode cX4_lightenByTies 42 = .ok (.ifCond .lt 56, 3) := by decide +kernel
theorem dX4_lightenByTies_45 : decode cX4_lightenByTies 45 = .ok (.aload_n 0, 1) := by decide +kernel
theorem dX4_lightenByTies_46 : decode cX4_lightenByTies 46 = .ok (.getfield 21, 3) := by decide +kernel
theorem dX4_lightenByTies_49 : decode cX4_lightenByTies 49 = .ok (.iload_n 3, 1) := by decide +kernel
theorem dX4_lightenByTies_50 : decode cX4_lightenByTies 50 = .ok (.laload, 1) := by decide +kernel
theorem dX4_lightenByTies_51 : decode cX4_lightenByTies 51 = .ok (.lconst 0, 1) := by decide +kernel
theorem dX4_lightenByTies_52 : decode cX4_lightenByTies 52 = .ok (.lcmp, 1) := by decide +kernel
theorem dX4_lightenByTies_53 : decode cX4_lightenByTies 53 = .ok (.ifCond .lt 22, 3) := by decide +kernel
theorem dX4_lightenByTies_56 : decode cX4_lightenByTies 56 = .ok (.lload 4, 2) := by decide +kernel
theorem dX4_lightenByTies_58 : decode cX4_lightenByTies 58 = .ok (.aload_n 0, 1) := by decide +kernel
theorem dX4_lightenByTies_59 : decode cX4_lightenByTies 59 = .ok (.getfield 37, 3) := by decide +kernel
theorem dX4_lightenByTies_62 : decode cX4_lightenByTies 62 = .ok (.iload_n 2, 1) := by decide +kernel
theorem dX4_lightenByTies_63 : decode cX4_lightenByTies 63 = .ok (.laload, 1) := by decide +kernel
theorem dX4_lightenByTies_64 : decode cX4_lightenByTies 64 = .ok (.ladd, 1) := by decide +kernel
theorem dX4_lightenByTies_65 : decode cX4_lightenByTies 65 = .ok (.aload_n 0, 1) := by decide +kernel
theorem dX4_lightenByTies_66 : decode cX4_lightenByTies 66 = .ok (.getfield 21, 3) := by decide +kernel
theorem dX4_lightenByTies_69 : decode cX4_lightenByTies 69 = .ok (.iload_n 3, 1) := by decide +kernel
theorem dX4_lightenByTies_70 : decode cX4_lightenByTies 70 = .ok (.laload, 1) := by decide +kernel
theorem dX4_lightenByTies_71 : decode cX4_lightenByTies 71 = .ok (.lcmp, 1) := by decide +kernel
theorem dX4_lightenByTies_72 : decode cX4_lightenByTies 72 = .ok (.ifCond .ge 26, 3) := by decide +kernel
theorem dX4_lightenByTies_75 : decode cX4_lightenByTies 75 = .ok (.aload_n 0, 1) := by decide +kernel
theorem dX4_lightenByTies_76 : decode cX4_lightenByTies 76 = .ok (.getfield 21, 3) := by decide +kernel
theorem dX4_lightenByTies_79 : decode cX4_lightenByTies 79 = .ok (.iload_n 3, 1) := by decide +kernel
theorem dX4_lightenByTies_80 : decode cX4_lightenByTies 80 = .ok (.lload 4, 2) := by decide +kernel
theorem dX4_lightenByTies_82 : decode cX4_lightenByTies 82 = .ok (.aload_n 0, 1) := by decide +kernel
theorem dX4_lightenByTies_83 : decode cX4_lightenByTies 83 = .ok (.getfield 37, 3) := by decide +kernel
theorem dX4_lightenByTies_86 : decode cX4_lightenByTies 86 = .ok (.iload_n 2, 1) := by decide +kernel
theorem dX4_lightenByTies_87 : decode cX4_lightenByTies 87 = .ok (.laload, 1) := by decide +kernel
theorem dX4_lightenByTies_88 : decode cX4_lightenByTies 88 = .ok (.ladd, 1) := by decide +kernel
theorem dX4_lightenByTies_89 : decode cX4_lightenByTies 89 = .ok (.lastore, 1) := by decide +kernel
theorem dX4_lightenByTies_90 : decode cX4_lightenByTies 90 = .ok (.aload_n 0, 1) := by decide +kernel
theorem dX4_lightenByTies_91 : decode cX4_lightenByTies 91 = .ok (.getfield 24, 3) := by decide +kernel
theorem dX4_lightenByTies_94 : decode cX4_lightenByTies 94 = .ok (.iload_n 3, 1) := by decide +kernel
theorem dX4_lightenByTies_95 : decode cX4_lightenByTies 95 = .ok (.bipush 40, 2) := by decide +kernel
theorem dX4_lightenByTies_97 : decode cX4_lightenByTies 97 = .ok (.iastore, 1) := by decide +kernel
theorem dX4_lightenByTies_98 : decode cX4_lightenByTies 98 = .ok (.iinc 2 1, 3) := by decide +kernel
theorem dX4_lightenByTies_101 : decode cX4_lightenByTies 101 = .ok (.goto (-91), 3) := by decide +kernel
theorem dX4_lightenByTies_104 : decode cX4_lightenByTies 104 = .ok (.iinc 1 1, 3) := by decide +kernel
theorem dX4_lightenByTies_107 : decode cX4_lightenByTies 107 = .ok (.goto (-105), 3) := by decide +kernel
theorem dX4_lightenByTies_110 : decode cX4_lightenByTies 110 = .ok (.return_, 1) := by decide +kernel
theorem dX4_pickAmongTies_0 : decode cX4_pickAmongTies 0 = .ok (.iconst 0, 1) := by decide +kernel
theorem dX4_pickAmongTies_1 : decode cX4_pickAmongTies 1 = .ok (.istore_n 1, 1) := by decide +kernel
theorem dX4_pickAmongTies_2 : decode cX4_pickAmongTies 2 = .ok (.iload_n 1, 1) := by decide +kernel
theorem dX4_pickAmongTies_3 : decode cX4_pickAmongTies 3 = .ok (.aload_n 0, 1) := by decide +kernel
theorem dX4_pickAmongTies_4 : decode cX4_pickAmongTies 4 = .ok (.getfield 40, 3) := by decide +kernel
theorem dX4_pickAmongTies_7 : decode cX4_pickAmongTies 7 = .ok (.if_icmp .ge 79, 3) := by decide +kernel
theorem dX4_pickAmongTies_10 : decode cX4_pickAmongTies 10 = .ok (.aload_n 0, 1) := by decide +kernel
theorem dX4_pickAmongTies_11 : decode cX4_pickAmongTies 11 = .ok (.getfield 28, 3) := by decide +kernel
theorem dX4_pickAmongTies_14 : decode cX4_pickAmongTies 14 = .ok (.iload_n 1, 1) := by decide +kernel
theorem dX4_pickAmongTies_15 : decode cX4_pickAmongTies 15 = .ok (.iaload, 1) := by decide +kernel
theorem dX4_pickAmongTies_16 : decode cX4_pickAmongTies 16 = .ok (.istore_n 2, 1) := by decide +kernel
theorem dX4_pickAmongTies_17 : decode cX4_pickAmongTies 17 = .ok (.aload_n 0, 1) := by decide +kernel
theorem dX4_pickAmongTies_18 : decode cX4_pickAmongTies 18 = .ok (.getfield 21, 3) := by decide +kernel
theorem dX4_pickAmongTies_21 : decode cX4_pickAmongTies 21 = .ok (.aload_n 0, 1) := by decide +kernel
theorem dX4_pickAmongTies_22 : decode cX4_pickAmongTies 22 = .ok (.getfield 34, 3) := by decide +kernel
theorem dX4_pickAmongTies_25 : decode cX4_pickAmongTies 25 = .ok (.iload_n 1, 1) := by decide +kernel
theorem dX4_pickAmongTies_26 : decode cX4_pickAmongTies 26 = .ok (.iaload, 1) := by decide +kernel
theorem dX4_pickAmongTies_27 : decode cX4_pickAmongTies 27 = .ok (.laload, 1) := by decide +kernel
theorem dX4_pickAmongTies_28 : decode cX4_pickAmongTies 28 = .ok (.lstore_n 3, 1) := by decide +kernel
theorem dX4_pickAmongTies_29 : decode cX4_pickAmongTies 29 = .ok (.lload_n 3, 1) := by decide +kernel
theorem dX4_pickAmongTies_30 : decode cX4_pickAmongTies 30 = .ok (.lconst 0, 1) := by decide +kernel
theorem dX4_pickAmongTies_31 : decode cX4_pickAmongTies 31 = .ok (.lcmp, 1) := by decide +kernel
theorem dX4_pickAmongTies_32 : decode cX4_pickAmongTies 32 = .ok (.ifCond .lt 48, 3) := by decide +kernel
theorem dX4_pickAmongTies_35 : decode cX4_pickAmongTies 35 = .ok (.lload_n 3, 1) := by decide +kernel
theorem dX4_pickAmongTies_36 : decode cX4_pickAmongTies 36 = .ok (.aload_n 0, 1) := by decide +kernel
theorem dX4_pickAmongTies_37 : decode cX4_pickAmongTies 37 = .ok (.getfield 37, 3) := by decide +kernel
theorem dX4_pickAmongTies_40 : decode cX4_pickAmongTies 40 = .ok (.iload_n 1, 1) := by decide +kernel
theorem dX4_pickAmongTies_41 : decode cX4_pickAmongTies 41 = .ok (.laload, 1) := by decide +kernel
theorem dX4_pickAmongTies_42 : decode cX4_pickAmongTies 42 = .ok (.ladd, 1) := by decide +kernel
theorem dX4_pickAmongTies_43 : decode cX4_pickAmongTies 43 = .ok (.aload_n 0, 1) := by decide +kernel
theorem dX4_pickAmongTies_44 : decode cX4_pickAmongTies 44 = .ok (.getfield 21, 3) := by decide +kernel
theorem dX4_pickAmongTies_47 : decode cX4_pickAmongTies 47 = .ok (.iload_n 2, 1) := by decide +kernel
theorem dX4_pickAmongTies_48 : decode cX4_pickAmongTies 48 = .ok (.laload, 1) := by decide +kernel
theorem dX4_pickAmongTies_49 : decode cX4_pickAmongTies 49 = .ok (.lcmp, 1) := by decide +kernel
theorem dX4_pickAmongTies_50 : decode cX4_pickAmongTies 50 = .ok (.ifCond .ne 30, 3) := by decide +kernel
theorem dX4_pickAmongTies_53 : decode cX4_pickAmongTies 53 = .ok (.aload_n 0, 1) := by decide +kernel
theorem dX4_pickAmongTies_54 : decode cX4_pickAmongTies 54 = .ok (.getfield 31, 3) := by decide +kernel
theorem dX4_pickAmongTies_57 : decode cX4_pickAmongTies 57 = .ok (.iload_n 1, 1) := by decide +kernel
theorem dX4_pickAmongTies_58 : decode cX4_pickAmongTies 58 = .ok (.iaload, 1) := by decide +kernel
theorem dX4_pickAmongTies_59 : decode cX4_pickAmongTies 59 = .ok (.aload_n 0, 1) := by decide +kernel
theorem dX4_pickAmongTies_60 : decode cX4_pickAmongTies 60 = .ok (.getfield 24, 3) := by decide +kernel
theorem dX4_pickAmongTies_63 : decode cX4_pickAmongTies 63 = .ok (.iload_n 2, 1) := by decide +kernel
theorem dX4_pickAmongTies_64 : decode cX4_pickAmongTies 64 = .ok (.iaload, 1) := by decide +kernel
theorem dX4_pickAmongTies_65 : decode cX4_pickAmongTies 65 = .ok (.if_icmp .ge 15, 3) := by decide +kernel
theorem dX4_pickAmongTies_68 : decode cX4_pickAmongTies 68 = .ok (.aload_n 0, 1) := by decide +kernel
theorem dX4_pickAmongTies_69 : decode cX4_pickAmongTies 69 = .ok (.getfield 24, 3) := by decide +kernel
theorem dX4_pickAmongTies_72 : decode cX4_pickAmongTies 72 = .ok (.iload_n 2, 1) := by decide +kernel
theorem dX4_pickAmongTies_73 : decode cX4_pickAmongTies 73 = .ok (.aload_n 0, 1) := by decide +kernel
theorem dX4_pickAmongTies_74 : decode cX4_pickAmongTies 74 = .ok (.getfield 31, 3) := by decide +kernel
theorem dX4_pickAmongTies_77 : decode cX4_pickAmongTies 77 = .ok (.iload_n 1, 1) := by decide +kernel
theorem dX4_pickAmongTies_78 : decode cX4_pickAmongTies 78 = .ok (.iaload, 1) := by decide +kernel
theorem dX4_pickAmongTies_79 : decode cX4_pickAmongTies 79 = .ok (.iastore, 1) := by decide +kernel
theorem dX4_pickAmongTies_80 : decode cX4_pickAmongTies 80 = .ok (.iinc 1 1, 3) := by decide +kernel
theorem dX4_pickAmongTies_83 : decode cX4_pickAmongTies 83 = .ok (.goto (-81), 3) := by decide +kernel
theorem dX4_pickAmongTies_86 : decode cX4_pickAmongTies 86 = .ok (.return_, 1) := by decide +kernel
theorem dX4_plus_0 : decode cX4_plus 0 = .ok (.lload_n 0, 1) := by decide +kernel
theorem dX4_plus_1 : decode cX4_plus 1 = .ok (.lload_n 2, 1) := by decide +kernel
theorem dX4_plus_2 : decode cX4_plus 2 = .ok (.ladd, 1) := by decide +kernel
theorem dX4_plus_3 : decode cX4_plus 3 = .ok (.ldc2_w 86, 3) := by decide +kernel
theorem dX4_plus_6 : decode cX4_plus 6 = .ok (.invokestatic 88, 3) := by decide +kernel
theorem dX4_plus_9 : decode cX4_plus 9 = .ok (.lreturn, 1) := by decide +kernel
theorem dX5_init_0 : decode cX5_init 0 = .ok (.aload_n 0, 1) := by decide +kernel
theorem dX5_init_1 : decode cX5_init 1 = .ok (.invokespecial 3, 3) := by decide +kernel
theorem dX5_init_4 : decode cX5_init 4 = .ok (.aload_n 0, 1) := by decide +kernel
theorem dX5_init_5 : decode cX5_init 5 = .ok (.bipush 20, 2) := by decide +kernel
theorem dX5_init_7 : decode cX5_init 7 = .ok (.newarray .int, 2) := by decide +kernel
theorem dX5_init_9 : decode cX5_init 9 = .ok (.putfield 9, 3) := by decide +kernel
theorem dX5_init_12 : decode cX5_init 12 = .ok (.aload_n 0, 1) := by decide +kernel
theorem dX5_init_13 : decode cX5_init 13 = .ok (.bipush 20, 2) := by decide +kernel
theorem dX5_init_15 : decode cX5_init 15 = .ok (.newarray .int, 2) := by decide +kernel
theorem dX5_init_17 : decode cX5_init 17 = .ok (.putfield 15, 3) := by decide +kernel
theorem dX5_init_20 : decode cX5_init 20 = .ok (.aload_n 0, 1) := by decide +kernel
theorem dX5_init_21 : decode cX5_init 21 = .ok (.bipush 20, 2) := by decide +kernel
theorem dX5_init_23 : decode cX5_init 23 = .ok (.newarray .int, 2) := by decide +kernel
theorem dX5_init_25 : decode cX5_init 25 = .ok (.putfield 18, 3) := by decide +kernel
theorem dX5_init_28 : decode cX5_init 28 = .ok (.aload_n 0, 1) := by decide +kernel
theorem dX5_init_29 : decode cX5_init 29 = .ok (.iconst 0, 1) := by decide +kernel
theorem dX5_init_30 : decode cX5_init 30 = .ok (.putfield 21, 3) := by decide +kernel
theorem dX5_init_33 : decode cX5_init 33 = .ok (.return_, 1) := by decide +kernel
theorem dX5_lay_0 : decode cX5_lay 0 = .ok (.aload_n 0, 1) := by decide +kernel
theorem dX5_lay_1 : decode cX5_lay 1 = .ok (.iconst 0, 1) := by decide +kernel
theorem dX5_lay_2 : decode cX5_lay 2 = .ok (.putfield 21, 3) := by decide +kernel
theorem dX5_lay_5 : decode cX5_lay 5 = .ok (.aload_n 1, 1) := by decide +kernel
theorem dX5_lay_6 : decode cX5_lay 6 = .ok (.iload_n 2, 1) := by decide +kernel
theorem dX5_lay_7 : decode cX5_lay 7 = .ok (.iload_n 3, 1) := by decide +kernel
theorem dX5_lay_8 : decode cX5_lay 8 = .ok (.invokevirtual 25, 3) := by decide +kernel
theorem dX5_lay_11 : decode cX5_lay 11 = .ok (.ifCond .ne 5, 3) := by decide +kernel
theorem dX5_lay_14 : decode cX5_lay 14 = .ok (.iconst 0, 1) := by decide +kernel
theorem dX5_lay_15 : decode cX5_lay 15 = .ok (.ireturn, 1) := by decide +kernel
theorem dX5_lay_16 : decode cX5_lay 16 = .ok (.aload_n 1, 1) := by decide +kernel
theorem dX5_lay_17 : decode cX5_lay 17 = .ok (.getfield 31, 3) := by decide +kernel
theorem dX5_lay_20 : decode cX5_lay 20 = .ok (.ifCond .ne 5, 3) := by decide +kernel
theorem dX5_lay_23 : decode cX5_lay 23 = .ok (.iconst 1, 1) := by decide +kernel
theorem dX5_lay_24 : decode cX5_lay 24 = .ok (.ireturn, 1) := by decide +kernel
theorem dX5_lay_25 : decode cX5_lay 25 = .ok (.aload_n 1, 1) := by decide +kernel
theorem dX5_lay_26 : decode cX5_lay 26 = .ok (.invokevirtual 34, 3) := by decide +kernel
theorem dX5_lay_29 : decode cX5_lay 29 = .ok (.ifCond .eq 7, 3) := by decide +kernel
theorem dX5_lay_32 : decode cX5_lay 32 = .ok (.iload_n 3, 1) := by decide +kernel
theorem dX5_lay_33 : decode cX5_lay 33 = .ok (.goto 4, 3) := by decide +kernel
theorem dX5_lay_36 : decode cX5_lay 36 = .ok (.iload_n 2, 1) := by decide +kernel
theorem dX5_lay_37 : decode cX5_lay 37 = .ok (.istore 4, 2) := by decide +kernel
theorem dX5_lay_39 : decode cX5_lay 39 = .ok (.aload_n 1, 1) := by decide +kernel
theorem dX5_lay_40 : decode cX5_lay 40 = .ok (.invokevirtual 38, 3) := by decide +kernel
theorem dX5_lay_43 : decode cX5_lay 43 = .ok (.ifCond .eq 16, 3) := by decide +kernel
theorem dX5_lay_46 : decode cX5_lay 46 = .ok (.aload_n 0, 1) := by decide +kernel
theorem dX5_lay_47 : decode cX5_lay 47 = .ok (.aload_n 1, 1) := by decide +kernel
theorem dX5_lay_48 : decode cX5_lay 48 = .ok (.getfield 41, 3) := by decide +kernel
theorem dX5_lay_51 : decode cX5_lay 51 = .ok (.iload 4, 2) := by decide +kernel
theorem dX5_lay_53 : decode cX5_lay 53 = .ok (.invokevirtual 45, 3) := by decide +kernel
theorem dX5_lay_56 : decode cX5_lay 56 = .ok (.goto 13, 3) := by decide +kernel
theorem dX5_lay_59 : decode cX5_lay 59 = .ok (.aload_n 0, 1) := by decide +kernel
theorem dX5_lay_60 : decode cX5_lay 60 = .ok (.aload_n 1, 1) := by decide +kernel
theorem dX5_lay_61 : decode cX5_lay 61 = .ok (.getfield 41, 3) := by decide +kernel
theorem dX5_lay_64 : decode cX5_lay 64 = .ok (.iload 4, 2) := by decide +kernel
theorem dX5_lay_66 : decode cX5_lay 66 = .ok (.invokevirtual 49, 3) := by decide +kernel
theorem dX5_lay_69 : decode cX5_lay 69 = .ok (.istore 5, 2) := by decide +kernel
theorem dX5_lay_71 : decode cX5_lay 71 = .ok (.iload 5, 2) := by decide +kernel
theorem dX5_lay_73 : decode cX5_lay 73 = .ok (.ifCond .ne 8, 3) := by decide +kernel
theorem dX5_lay_76 : decode cX5_lay 76 = .ok (.aload_n 0, 1) := by decide +kernel
theorem dX5_lay_77 : decode cX5_lay 77 = .ok (.iconst 0, 1) := by decide +kernel
theorem dX5_lay_78 : decode cX5_lay 78 = .ok (.putfield 21, 3) := by decide +kernel
theorem dX5_lay_81 : decode cX5_lay 81 = .ok (.iload 5, 2) := by decide +kernel
theorem dX5_lay_83 : decode cX5_lay 83 = .ok (.ireturn, 1) := by decide +kernel
theorem dX5_laySplit_0 : decode cX5_laySplit 0 = .ok (.iload_n 2, 1) := by decide +kernel
theorem dX5_laySplit_1 : decode cX5_laySplit 1 = .ok (.aload_n 1, 1) := by decide +kernel
theorem dX5_laySplit_2 : decode cX5_laySplit 2 = .ok (.getfield 52, 3) := by decide +kernel
theorem dX5_laySplit_5 : decode cX5_laySplit 5 = .ok (.isub, 1) := by decide +kernel
theorem dX5_laySplit_6 : decode cX5_laySplit 6 = .ok (.istore_n 3, 1) := by decide +kernel
theorem dX5_laySplit_7 : decode cX5_laySplit 7 = .ok (.iload_n 3, 1) := by decide +kernel
theorem dX5_laySplit_8 : decode cX5_laySplit 8 = .ok (.ifCond .lt 14, 3) := by decide +kernel
theorem dX5_laySplit_11 : decode cX5_laySplit 11 = .ok (.aload_n 1, 1) := by decide +kernel
theorem dX5_laySplit_12 : decode cX5_laySplit 12 = .ok (.getfield 57, 3) := by decide +kernel
theorem dX5_laySplit_15 : decode cX5_laySplit 15 = .ok (.ifCond .ne 9, 3) := by decide +kernel
theorem dX5_laySplit_18 : decode cX5_laySplit 18 = .ok (.iload_n 3, 1) := by decide +kernel
theorem dX5_laySplit_19 : decode cX5_laySplit 19 = .ok (.ifCond .eq 5, 3) := by decide +kernel
theorem dX5_laySplit_22 : decode cX5_laySplit 22 = .ok (.iconst 0, 1) := by decide +kernel
theorem dX5_laySplit_23 : decode cX5_laySplit 23 = .ok (.ireturn, 1) := by decide +kernel
theorem dX5_laySplit_24 : decode cX5_laySplit 24 = .ok (.aload_n 0, 1) := by decide +kernel
theorem dX5_laySplit_25 : decode cX5_laySplit 25 = .ok (.aload_n 1, 1) := by decide +kernel
theorem dX5_laySplit_26 : decode cX5_laySplit 26 = .ok (.getfield 60, 3) := by decide +kernel
theorem dX5_laySplit_29 : decode cX5_laySplit 29 = .ok (.putfield 21, 3) := by decide +kernel
theorem dX5_laySplit_32 : decode cX5_laySplit 32 = .ok (.iload_n 3, 1) := by decide +kernel
theorem dX5_laySplit_33 : decode cX5_laySplit 33 = .ok (.istore 4, 2) := by decide +kernel
theorem dX5_laySplit_35 : decode cX5_laySplit 35 = .ok (.iconst 0, 1) := by decide +kernel
theorem dX5_laySplit_36 : decode cX5_laySplit 36 = .ok (.istore 5, 2) := by decide +kernel
theorem dX5_laySplit_38 : decode cX5_laySplit 38 = .ok (.iload 5, 2) := by decide +kernel
theorem dX5_laySplit_40 : decode cX5_laySplit 40 = .ok (.aload_n 0, 1) := by decide +kernel
theorem dX5_laySplit_41 : decode cX5_laySplit 41 = .ok (.getfield 21, 3) := by decide +kernel
theorem dX5_laySplit_44 : decode cX5_laySplit 44 = .ok (.if_icmp .ge 74, 3) := by decide +kernel
theorem dX5_laySplit_47 : decode cX5_laySplit 47 = .ok (.aload_n 1, 1) := by decide +kernel
theorem dX5_laySplit_48 : decode cX5_laySplit 48 = .ok (.getfield 57, 3) := by decide +kernel
theorem dX5_laySplit_51 : decode cX5_laySplit 51 = .ok (.ifCond .le 20, 3) := by decide +kernel
theorem dX5_laySplit_54 : decode cX5_laySplit 54 = .ok (.iload_n 3, 1) := by decide +kernel
theorem dX5_laySplit_55 : decode cX5_laySplit 55 = .ok (.aload_n 1, 1) := by decide +kernel
theorem dX5_laySplit_56 : decode cX5_laySplit 56 = .ok (.getfield 61, 3) := by decide +kernel
theorem dX5_laySplit_59 : decode cX5_laySplit 59 = .ok (.iload 5, 2) := by decide +kernel
theorem dX5_laySplit_61 : decode cX5_laySplit 61 = .ok (.iaload, 1) := by decide +kernel
theorem dX5_laySplit_62 : decode cX5_laySplit 62 = .ok (.imul, 1) := by decide +kernel
theorem dX5_laySplit_63 : decode cX5_laySplit 63 = .ok (.aload_n 1, 1) := by decide +kernel
theorem dX5_laySplit_64 : decode cX5_laySplit 64 = .ok (.getfield 57, 3) := by decide +kernel
theorem dX5_laySplit_67 : decode cX5_laySplit 67 = .ok (.idiv, 1) := by decide +kernel
theorem dX5_laySplit_68 : decode cX5_laySplit 68 = .ok (.goto 4, 3) := by decide +kernel
theorem dX5_laySplit_71 : decode cX5_laySplit 71 = .ok (.iconst 0, 1) := by decide +kernel
theorem dX5_laySplit_72 : decode cX5_laySplit 72 = .ok (.istore 6, 2) := by decide +kernel
theorem dX5_laySplit_74 : decode cX5_laySplit 74 = .ok (.aload_n 0, 1) := by decide +kernel
theorem dX5_laySplit_75 : decode cX5_laySplit 75 = .ok (.getfield 9, 3) := by decide +kernel
theorem dX5_laySplit_78 : decode cX5_laySplit 78 = .ok (.iload 5, 2) := by decide +kernel
theorem dX5_laySplit_80 : decode cX5_laySplit 80 = .ok (.aload_n 1, 1) := by decide +kernel
theorem dX5_laySplit_81 : decode cX5_laySplit 81 = .ok (.getfield 64, 3) := by decide +kernel
theorem dX5_laySplit_84 : decode cX5_laySplit 84 = .ok (.iload 5, 2) := by decide +kernel
theorem dX5_laySplit_86 : decode cX5_laySplit 86 = .ok (.iaload, 1) := by decide +kernel
theorem dX5_laySplit_87 : decode cX5_laySplit 87 = .ok (.iastore, 1) := by decide +kernel
theorem dX5_laySplit_88 : decode cX5_laySplit 88 = .ok (.aload_n 0, 1) := by decide +kernel
theorem dX5_laySplit_89 : decode cX5_laySplit 89 = .ok (.getfield 18, 3) := by decide +kernel
theorem dX5_laySplit_92 : decode cX5_laySplit 92 = .ok (.iload 5, 2) := by decide +kernel
theorem dX5_laySplit_94 : decode cX5_laySplit 94 = .ok (.aload_n 1, 1) := by decide +kernel
theorem dX5_laySplit_95 : decode cX5_laySplit 95 = .ok (.getfield 65, 3) := by decide +kernel
theorem dX5_laySplit_98 : decode cX5_laySplit 98 = .ok (.iload 5, 2) := by decide +kernel
theorem dX5_laySplit_100 : decode cX5_laySplit 100 = .ok (.iaload, 1) := by decide +kernel
theorem dX5_laySplit_101 : decode cX5_laySplit 101 = .ok (.iload 6, 2) := by decide +kernel
theorem dX5_laySplit_103 : decode cX5_laySplit 103 = .ok (.iadd, 1) := by decide +kernel
theorem dX5_laySplit_104 : decode cX5_laySplit 104 = .ok (.iastore, 1) := by decide +kernel
theorem dX5_laySplit_105 : decode cX5_laySplit 105 = .ok (.iload 4, 2) := by decide +kernel
theorem dX5_laySplit_107 : decode cX5_laySplit 107 = .ok (.iload 6, 2) := by decide +kernel
theorem dX5_laySplit_109 : decode cX5_laySplit 109 = .ok (.isub, 1) := by decide +kernel
theorem dX5_laySplit_110 : decode cX5_laySplit 110 = .ok (.istore 4, 2) := by decide +kernel
theorem dX5_laySplit_112 : decode cX5_laySplit 112 = .ok (.iinc 5 1, 3) := by decide +kernel
theorem dX5_laySplit_115 : decode cX5_laySplit 115 = .ok (.goto (-77), 3) := by decide +kernel
theorem dX5_laySplit_118 : decode cX5_laySplit 118 = .ok (.iconst 0, 1) := by decide +kernel
theorem dX5_laySplit_119 : decode cX5_laySplit 119 = .ok (.istore 5, 2) := by decide +kernel
theorem dX5_laySplit_121 : decode cX5_laySplit 121 = .ok (.iload 5, 2) := by decide +kernel
theorem dX5_laySplit_123 : decode cX5_laySplit 123 = .ok (.aload_n 0, 1) := by decide +kernel
theorem dX5_laySplit_124 : decode cX5_laySplit 124 = .ok (.getfield 21, 3) := by decide +kernel
theorem dX5_laySplit_127 : decode cX5_laySplit 127 = .ok (.if_icmp .ge 38, 3) := by decide +kernel
theorem dX5_laySplit_130 : decode cX5_laySplit 130 = .ok (.iload 4, 2) := by decide +kernel
theorem dX5_laySplit_132 : decode cX5_laySplit 132 = .ok (.ifCond .le 33, 3) := by decide +kernel
theorem dX5_laySplit_135 : decode cX5_laySplit 135 = .ok (.aload_n 1, 1) := by decide +kernel
theorem dX5_laySplit_136 : decode cX5_laySplit 136 = .ok (.getfield 61, 3) := by decide +kernel
theorem dX5_laySplit_139 : decode cX5_laySplit 139 = .ok (.iload 5, 2) := by decide +kernel
theorem dX5_laySplit_141 : decode cX5_laySplit 141 = .ok (.iaload, 1) := by decide +kernel
theorem dX5_laySplit_142 : decode cX5_laySplit 142 = .ok (.ifCond .le 17, 3) := by decide +kernel
theorem dX5_laySplit_145 : decode cX5_laySplit 145 = .ok (.aload_n 0, 1) := by decide +kernel
theorem dX5_laySplit_146 : decode cX5_laySplit 146 = .ok (.getfield 18, 3) := by decide +kernel
theorem dX5_laySplit_149 : decode cX5_laySplit 149 = .ok (.iload 5, 2) := by decide +kernel
theorem dX5_laySplit_151 : decode cX5_laySplit 151 = .ok (.dup2, 1) := by decide +kernel
theorem dX5_laySplit_152 : decode cX5_laySplit 152 = .ok (.iaload, 1) := by decide +kernel
theorem dX5_laySplit_153 : decode cX5_laySplit 153 = .ok (.iconst 1, 1) := by decide +kernel
theorem dX5_laySplit_154 : decode cX5_laySplit 154 = .ok (.iadd, 1) := by decide +kernel
theorem dX5_laySplit_155 : decode cX5_laySplit 155 = .ok (.iastore, 1) := by decide +kernel
theorem dX5_laySplit_156 : decode cX5_laySplit 156 = .ok (.iinc 4 (-1), 3) := by decide +kernel
theorem dX5_laySplit_159 : decode cX5_laySplit 159 = .ok (.iinc 5 1, 3) := by decide +kernel
theorem dX5_laySplit_162 : decode cX5_laySplit 162 = .ok (.goto (-41), 3) := by decide +kernel
theorem dX5_laySplit_165 : decode cX5_laySplit 165 = .ok (.aload_n 0, 1) := by decide +kernel
theorem dX5_laySplit_166 : decode cX5_laySplit 166 = .ok (.invokevirtual 68, 3) := by decide +kernel
theorem dX5_laySplit_169 : decode cX5_laySplit 169 = .ok (.ireturn, 1) := by decide +kernel
theorem dX5_layRepeat_0 : decode cX5_layRepeat 0 = .ok (.aload_n 1, 1) := by decide +kernel
theorem dX5_layRepeat_1 : decode cX5_layRepeat 1 = .ok (.getfield 65, 3) := by decide +kernel
theorem dX5_layRepeat_4 : decode cX5_layRepeat 4 = .ok (.iconst 0, 1) := by decide +kernel
theorem dX5_layRepeat_5 : decode cX5_layRepeat 5 = .ok (.iaload, 1) := by decide +kernel
theorem dX5_layRepeat_6 : decode cX5_layRepeat 6 = .ok (.istore_n 3, 1) := by decide +kernel
theorem dX5_layRepeat_7 : decode cX5_layRepeat 7 = .ok (.iload_n 3, 1) := by decide +kernel
theorem dX5_layRepeat_8 : decode cX5_layRepeat 8 = .ok (.ifCond .le 9, 3) := by decide +kernel
theorem dX5_layRepeat_11 : decode cX5_layRepeat 11 = .ok (.iload_n 2, 1) := by decide +kernel
