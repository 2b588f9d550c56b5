theorem dX10_addPart_8 : decode cX10_addPart 8 = .ok (.iload_n 1, 1) := by decide +kernel
theorem dX10_addPart_9 : decode cX10_addPart 9 = .ok (.iaload, 1) := by decide +kernel
theorem dX10_addPart_10 : decode cX10_addPart 10 = .ok (.iadd, 1) := by decide +kernel
theorem dX10_addPart_11 : decode cX10_addPart 11 = .ok (.istore 5, 2) := by decide +kernel
theorem dX10_addPart_13 : decode cX10_addPart 13 = .ok (.aload_n 0, 1) := by decide +kernel
theorem dX10_addPart_14 : decode cX10_addPart 14 = .ok (.getfield 25, 3) := by decide +kernel
theorem dX10_addPart_17 : decode cX10_addPart 17 = .ok (.iload 5, 2) := by decide +kernel
theorem dX10_addPart_19 : decode cX10_addPart 19 = .ok (.iload_n 2, 1) := by decide +kernel
theorem dX10_addPart_20 : decode cX10_addPart 20 = .ok (.iastore, 1) := by decide +kernel
theorem dX10_addPart_21 : decode cX10_addPart 21 = .ok (.aload_n 0, 1) := by decide +kernel
theorem dX10_addPart_22 : decode cX10_addPart 22 = .ok (.getfield 28, 3) := by decide +kernel
theorem dX10_addPart_25 : decode cX10_addPart 25 = .ok (.iload 5, 2) := by decide +kernel
theorem dX10_addPart_27 : decode cX10_addPart 27 = .ok (.iload_n 3, 1) := by decide +kernel
theorem dX10_addPart_28 : decode cX10_addPart 28 = .ok (.iastore, 1) := by decide +kernel
theorem dX10_addPart_29 : decode cX10_addPart 29 = .ok (.aload_n 0, 1) := by decide +kernel
theorem dX10_addPart_30 : decode cX10_addPart 30 = .ok (.getfield 31, 3) := by decide +kernel
theorem dX10_addPart_33 : decode cX10_addPart 33 = .ok (.iload 5, 2) := by decide +kernel
theorem dX10_addPart_35 : decode cX10_addPart 35 = .ok (.iload 4, 2) := by decide +kernel
theorem dX10_addPart_37 : decode cX10_addPart 37 = .ok (.bastore, 1) := by decide +kernel
theorem dX10_addPart_38 : decode cX10_addPart 38 = .ok (.aload_n 0, 1) := by decide +kernel
theorem dX10_addPart_39 : decode cX10_addPart 39 = .ok (.getfield 22, 3) := by decide +kernel
theorem dX10_addPart_42 : decode cX10_addPart 42 = .ok (.iload_n 1, 1) := by decide +kernel
theorem dX10_addPart_43 : decode cX10_addPart 43 = .ok (.dup2, 1) := by decide +kernel
theorem dX10_addPart_44 : decode cX10_addPart 44 = .ok (.iaload, 1) := by decide +kernel
theorem dX10_addPart_45 : decode cX10_addPart 45 = .ok (.iconst 1, 1) := by decide +kernel
theorem dX10_addPart_46 : decode cX10_addPart 46 = .ok (.iadd, 1) := by decide +kernel
theorem dX10_addPart_47 : decode cX10_addPart 47 = .ok (.iastore, 1) := by decide +kernel
theorem dX10_addPart_48 : decode cX10_addPart 48 = .ok (.return_, 1) := by decide +kernel
theorem dX10_fill_0 : decode cX10_fill 0 = .ok (.iload_n 1, 1) := by decide +kernel
theorem dX10_fill_1 : decode cX10_fill 1 = .ok (.invokestatic 135, 3) := by decide +kernel
theorem dX10_fill_4 : decode cX10_fill 4 = .ok (.ifCond .ne 5, 3) := by decide +kernel
theorem dX10_fill_7 : decode cX10_fill 7 = .ok (.iconst (-1), 1) := by decide +kernel
theorem dX10_fill_8 : decode cX10_fill 8 = .ok (.ireturn, 1) := by decide +kernel
theorem dX10_fill_9 : decode cX10_fill 9 = .ok (.iload_n 2, 1) := by decide +kernel
theorem dX10_fill_10 : decode cX10_fill 10 = .ok (.i2l, 1) := by decide +kernel
theorem dX10_fill_11 : decode cX10_fill 11 = .ok (.lconst 0, 1) := by decide +kernel
theorem dX10_fill_12 : decode cX10_fill 12 = .ok (.ldc2_w 139, 3) := by decide +kernel
theorem dX10_fill_15 : decode cX10_fill 15 = .ok (.invokestatic 124, 3) := by decide +kernel
theorem dX10_fill_18 : decode cX10_fill 18 = .ok (.ifCond .eq 15, 3) := by decide +kernel
theorem dX10_fill_21 : decode cX10_fill 21 = .ok (.iload_n 3, 1) := by decide +kernel
theorem dX10_fill_22 : decode cX10_fill 22 = .ok (.i2l, 1) := by decide +kernel
theorem dX10_fill_23 : decode cX10_fill 23 = .ok (.lconst 0, 1) := by decide +kernel
theorem dX10_fill_24 : decode cX10_fill 24 = .ok (.ldc2_w 141, 3) := by decide +kernel
theorem dX10_fill_27 : decode cX10_fill 27 = .ok (.invokestatic 124, 3) := by decide +kernel
theorem dX10_fill_30 : decode cX10_fill 30 = .ok (.ifCond .ne 6, 3) := by decide +kernel
theorem dX10_fill_33 : decode cX10_fill 33 = .ok (.bipush (-2), 2) := by decide +kernel
theorem dX10_fill_35 : decode cX10_fill 35 = .ok (.ireturn, 1) := by decide +kernel
theorem dX10_fill_36 : decode cX10_fill 36 = .ok (.aload_n 0, 1) := by decide +kernel
theorem dX10_fill_37 : decode cX10_fill 37 = .ok (.getfield 128, 3) := by decide +kernel
theorem dX10_fill_40 : decode cX10_fill 40 = .ok (.bipush 40, 2) := by decide +kernel
theorem dX10_fill_42 : decode cX10_fill 42 = .ok (.if_icmp .ne 8, 3) := by decide +kernel
theorem dX10_fill_45 : decode cX10_fill 45 = .ok (.bipush (-4), 2) := by decide +kernel
theorem dX10_fill_47 : decode cX10_fill 47 = .ok (.goto 11, 3) := by decide +kernel
theorem dX10_fill_50 : decode cX10_fill 50 = .ok (.aload_n 0, 1) := by decide +kernel
theorem dX10_fill_51 : decode cX10_fill 51 = .ok (.iload_n 1, 1) := by decide +kernel
theorem dX10_fill_52 : decode cX10_fill 52 = .ok (.iconst 0, 1) := by decide +kernel
theorem dX10_fill_53 : decode cX10_fill 53 = .ok (.iload_n 3, 1) := by decide +kernel
theorem dX10_fill_54 : decode cX10_fill 54 = .ok (.iload_n 2, 1) := by decide +kernel
theorem dX10_fill_55 : decode cX10_fill 55 = .ok (.invokevirtual 143, 3) := by decide +kernel
theorem dX10_fill_58 : decode cX10_fill 58 = .ok (.ireturn, 1) := by decide +kernel
theorem dX10_part_0 : decode cX10_part 0 = .ok (.iload_n 1, 1) := by decide +kernel
theorem dX10_part_1 : decode cX10_part 1 = .ok (.invokestatic 135, 3) := by decide +kernel
theorem dX10_part_4 : decode cX10_part 4 = .ok (.ifCond .ne 5, 3) := by decide +kernel
theorem dX10_part_7 : decode cX10_part 7 = .ok (.iconst (-1), 1) := by decide +kernel
theorem dX10_part_8 : decode cX10_part 8 = .ok (.ireturn, 1) := by decide +kernel
theorem dX10_part_9 : decode cX10_part 9 = .ok (.iload_n 2, 1) := by decide +kernel
theorem dX10_part_10 : decode cX10_part 10 = .ok (.i2l, 1) := by decide +kernel
theorem dX10_part_11 : decode cX10_part 11 = .ok (.lconst 1, 1) := by decide +kernel
theorem dX10_part_12 : decode cX10_part 12 = .ok (.iload_n 3, 1) := by decide +kernel
theorem dX10_part_13 : decode cX10_part 13 = .ok (.ifCond .eq 9, 3) := by decide +kernel
theorem dX10_part_16 : decode cX10_part 16 = .ok (.ldc2_w 147, 3) := by decide +kernel
theorem dX10_part_19 : decode cX10_part 19 = .ok (.goto 6, 3) := by decide +kernel
theorem dX10_part_22 : decode cX10_part 22 = .ok (.ldc2_w 149, 3) := by decide +kernel
theorem dX10_part_25 : decode cX10_part 25 = .ok (.invokestatic 124, 3) := by decide +kernel
theorem dX10_part_28 : decode cX10_part 28 = .ok (.ifCond .ne 6, 3) := by decide +kernel
theorem dX10_part_31 : decode cX10_part 31 = .ok (.bipush (-2), 2) := by decide +kernel
theorem dX10_part_33 : decode cX10_part 33 = .ok (.ireturn, 1) := by decide +kernel
theorem dX10_part_34 : decode cX10_part 34 = .ok (.aload_n 0, 1) := by decide +kernel
theorem dX10_part_35 : decode cX10_part 35 = .ok (.getfield 151, 3) := by decide +kernel
theorem dX10_part_38 : decode cX10_part 38 = .ok (.bipush 6, 2) := by decide +kernel
theorem dX10_part_40 : decode cX10_part 40 = .ok (.if_icmp .ne 6, 3) := by decide +kernel
theorem dX10_part_43 : decode cX10_part 43 = .ok (.bipush (-4), 2) := by decide +kernel
theorem dX10_part_45 : decode cX10_part 45 = .ok (.ireturn, 1) := by decide +kernel
theorem dX10_part_46 : decode cX10_part 46 = .ok (.aload_n 0, 1) := by decide +kernel
theorem dX10_part_47 : decode cX10_part 47 = .ok (.getfield 38, 3) := by decide +kernel
theorem dX10_part_50 : decode cX10_part 50 = .ok (.aload_n 0, 1) := by decide +kernel
theorem dX10_part_51 : decode cX10_part 51 = .ok (.getfield 151, 3) := by decide +kernel
theorem dX10_part_54 : decode cX10_part 54 = .ok (.iload_n 1, 1) := by decide +kernel
theorem dX10_part_55 : decode cX10_part 55 = .ok (.iastore, 1) := by decide +kernel
theorem dX10_part_56 : decode cX10_part 56 = .ok (.aload_n 0, 1) := by decide +kernel
theorem dX10_part_57 : decode cX10_part 57 = .ok (.getfield 41, 3) := by decide +kernel
theorem dX10_part_60 : decode cX10_part 60 = .ok (.aload_n 0, 1) := by decide +kernel
theorem dX10_part_61 : decode cX10_part 61 = .ok (.getfield 151, 3) := by decide +kernel
theorem dX10_part_64 : decode cX10_part 64 = .ok (.iload_n 2, 1) := by decide +kernel
theorem dX10_part_65 : decode cX10_part 65 = .ok (.iastore, 1) := by decide +kernel
theorem dX10_part_66 : decode cX10_part 66 = .ok (.aload_n 0, 1) := by decide +kernel
theorem dX10_part_67 : decode cX10_part 67 = .ok (.getfield 44, 3) := by decide +kernel
theorem dX10_part_70 : decode cX10_part 70 = .ok (.aload_n 0, 1) := by decide +kernel
theorem dX10_part_71 : decode cX10_part 71 = .ok (.getfield 151, 3) := by decide +kernel
theorem dX10_part_74 : decode cX10_part 74 = .ok (.iload_n 3, 1) := by decide +kernel
theorem dX10_part_75 : decode cX10_part 75 = .ok (.bastore, 1) := by decide +kernel
theorem dX10_part_76 : decode cX10_part 76 = .ok (.aload_n 0, 1) := by decide +kernel
theorem dX10_part_77 : decode cX10_part 77 = .ok (.dup, 1) := by decide +kernel
theorem dX10_part_78 : decode cX10_part 78 = .ok (.getfield 151, 3) := by decide +kernel
theorem dX10_part_81 : decode cX10_part 81 = .ok (.iconst 1, 1) := by decide +kernel
theorem dX10_part_82 : decode cX10_part 82 = .ok (.iadd, 1) := by decide +kernel
theorem dX10_part_83 : decode cX10_part 83 = .ok (.putfield 151, 3) := by decide +kernel
theorem dX10_part_86 : decode cX10_part 86 = .ok (.aload_n 0, 1) := by decide +kernel
theorem dX10_part_87 : decode cX10_part 87 = .ok (.getfield 151, 3) := by decide +kernel
theorem dX10_part_90 : decode cX10_part 90 = .ok (.ireturn, 1) := by decide +kernel
theorem dX10_split_0 : decode cX10_split 0 = .ok (.iload_n 1, 1) := by decide +kernel
theorem dX10_split_1 : decode cX10_split 1 = .ok (.invokestatic 135, 3) := by decide +kernel
theorem dX10_split_4 : decode cX10_split 4 = .ok (.ifCond .ne 5, 3) := by decide +kernel
theorem dX10_split_7 : decode cX10_split 7 = .ok (.iconst (-1), 1) := by decide +kernel
theorem dX10_split_8 : decode cX10_split 8 = .ok (.ireturn, 1) := by decide +kernel
theorem dX10_split_9 : decode cX10_split 9 = .ok (.iload_n 3, 1) := by decide +kernel
theorem dX10_split_10 : decode cX10_split 10 = .ok (.i2l, 1) := by decide +kernel
theorem dX10_split_11 : decode cX10_split 11 = .ok (.lconst 0, 1) := by decide +kernel
theorem dX10_split_12 : decode cX10_split 12 = .ok (.ldc2_w 141, 3) := by decide +kernel
theorem dX10_split_15 : decode cX10_split 15 = .ok (.invokestatic 124, 3) := by decide +kernel
theorem dX10_split_18 : decode cX10_split 18 = .ok (.ifCond .ne 6, 3) := by decide +kernel
theorem dX10_split_21 : decode cX10_split 21 = .ok (.bipush (-2), 2) := by decide +kernel
theorem dX10_split_23 : decode cX10_split 23 = .ok (.ireturn, 1) := by decide +kernel
theorem dX10_split_24 : decode cX10_split 24 = .ok (.aload_n 0, 1) := by decide +kernel
theorem dX10_split_25 : decode cX10_split 25 = .ok (.getfield 151, 3) := by decide +kernel
theorem dX10_split_28 : decode cX10_split 28 = .ok (.ifCond .ne 6, 3) := by decide +kernel
theorem dX10_split_31 : decode cX10_split 31 = .ok (.bipush (-3), 2) := by decide +kernel
theorem dX10_split_33 : decode cX10_split 33 = .ok (.ireturn, 1) := by decide +kernel
theorem dX10_split_34 : decode cX10_split 34 = .ok (.aload_n 0, 1) := by decide +kernel
theorem dX10_split_35 : decode cX10_split 35 = .ok (.getfield 128, 3) := by decide +kernel
theorem dX10_split_38 : decode cX10_split 38 = .ok (.bipush 40, 2) := by decide +kernel
theorem dX10_split_40 : decode cX10_split 40 = .ok (.if_icmp .ne 6, 3) := by decide +kernel
theorem dX10_split_43 : decode cX10_split 43 = .ok (.bipush (-4), 2) := by decide +kernel
theorem dX10_split_45 : decode cX10_split 45 = .ok (.ireturn, 1) := by decide +kernel
theorem dX10_split_46 : decode cX10_split 46 = .ok (.aload_n 0, 1) := by decide +kernel
theorem dX10_split_47 : decode cX10_split 47 = .ok (.iload_n 1, 1) := by decide +kernel
theorem dX10_split_48 : decode cX10_split 48 = .ok (.iload_n 2, 1) := by decide +kernel
theorem dX10_split_49 : decode cX10_split 49 = .ok (.ifCond .eq 7, 3) := by decide +kernel
theorem dX10_split_52 : decode cX10_split 52 = .ok (.iconst 2, 1) := by decide +kernel
theorem dX10_split_53 : decode cX10_split 53 = .ok (.goto 4, 3) := by decide +kernel
theorem dX10_split_56 : decode cX10_split 56 = .ok (.iconst 1, 1) := by decide +kernel
theorem dX10_split_57 : decode cX10_split 57 = .ok (.iload_n 3, 1) := by decide +kernel
theorem dX10_split_58 : decode cX10_split 58 = .ok (.bipush (-9), 2) := by decide +kernel
theorem dX10_split_60 : decode cX10_split 60 = .ok (.invokevirtual 143, 3) := by decide +kernel
theorem dX10_split_63 : decode cX10_split 63 = .ok (.istore 4, 2) := by decide +kernel
theorem dX10_split_65 : decode cX10_split 65 = .ok (.iconst 0, 1) := by decide +kernel
theorem dX10_split_66 : decode cX10_split 66 = .ok (.istore 5, 2) := by decide +kernel
theorem dX10_split_68 : decode cX10_split 68 = .ok (.iload 5, 2) := by decide +kernel
theorem dX10_split_70 : decode cX10_split 70 = .ok (.aload_n 0, 1) := by decide +kernel
theorem dX10_split_71 : decode cX10_split 71 = .ok (.getfield 151, 3) := by decide +kernel
theorem dX10_split_74 : decode cX10_split 74 = .ok (.if_icmp .ge 36, 3) := by decide +kernel
theorem dX10_split_77 : decode cX10_split 77 = .ok (.aload_n 0, 1) := by decide +kernel
theorem dX10_split_78 : decode cX10_split 78 = .ok (.iload 4, 2) := by decide +kernel
theorem dX10_split_80 : decode cX10_split 80 = .ok (.aload_n 0, 1) := by decide +kernel
theorem dX10_split_81 : decode cX10_split 81 = .ok (.getfield 38, 3) := by decide +kernel
theorem dX10_split_84 : decode cX10_split 84 = .ok (.iload 5, 2) := by decide +kernel
theorem dX10_split_86 : decode cX10_split 86 = .ok (.iaload, 1) := by decide +kernel
theorem dX10_split_87 : decode cX10_split 87 = .ok (.aload_n 0, 1) := by decide +kernel
theorem dX10_split_88 : decode cX10_split 88 = .ok (.getfield 41, 3) := by decide +kernel
theorem dX10_split_91 : decode cX10_split 91 = .ok (.iload 5, 2) := by decide +kernel
theorem dX10_split_93 : decode cX10_split 93 = .ok (.iaload, 1) := by decide +kernel
theorem dX10_split_94 : decode cX10_split 94 = .ok (.aload_n 0, 1) := by decide +kernel
theorem dX10_split_95 : decode cX10_split 95 = .ok (.getfield 44, 3) := by decide +kernel
theorem dX10_split_98 : decode cX10_split 98 = .ok (.iload 5, 2) := by decide +kernel
theorem dX10_split_100 : decode cX10_split 100 = .ok (.baload, 1) := by decide +kernel
theorem dX10_split_101 : decode cX10_split 101 = .ok (.invokevirtual 154, 3) := by decide +kernel
theorem dX10_split_104 : decode cX10_split 104 = .ok (.iinc 5 1, 3) := by decide +kernel
theorem dX10_split_107 : decode cX10_split 107 = .ok (.goto (-39), 3) := by decide +kernel
theorem dX10_split_110 : decode cX10_split 110 = .ok (.aload_n 0, 1) := by decide +kernel
theorem dX10_split_111 : decode cX10_split 111 = .ok (.iconst 0, 1) := by decide +kernel
theorem dX10_split_112 : decode cX10_split 112 = .ok (.putfield 151, 3) := by decide +kernel
theorem dX10_split_115 : decode cX10_split 115 = .ok (.iload 4, 2) := by decide +kernel
theorem dX10_split_117 : decode cX10_split 117 = .ok (.ireturn, 1) := by decide +kernel
theorem dX10_repeat_0 : decode cX10_repeat 0 = .ok (.iload_n 1, 1) := by decide +kernel
theorem dX10_repeat_1 : decode cX10_repeat 1 = .ok (.invokestatic 135, 3) := by decide +kernel
theorem dX10_repeat_4 : decode cX10_repeat 4 = .ok (.ifCond .eq 10, 3) := by decide +kernel
theorem dX10_repeat_7 : decode cX10_repeat 7 = .ok (.iload_n 2, 1) := by decide +kernel
theorem dX10_repeat_8 : decode cX10_repeat 8 = .ok (.invokestatic 135, 3) := by decide +kernel
theorem dX10_repeat_11 : decode cX10_repeat 11 = .ok (.ifCond .ne 5, 3) := by decide +kernel
theorem dX10_repeat_14 : decode cX10_repeat 14 = .ok (.iconst (-1), 1) := by decide +kernel
theorem dX10_repeat_15 : decode cX10_repeat 15 = .ok (.ireturn, 1) := by decide +kernel
theorem dX10_repeat_16 : decode cX10_repeat 16 = .ok (.iload_n 3, 1) := by decide +kernel
theorem dX10_repeat_17 : decode cX10_repeat 17 = .ok (.i2l, 1) := by decide +kernel
theorem dX10_repeat_18 : decode cX10_repeat 18 = .ok (.lconst 1, 1) := by decide +kernel
theorem dX10_repeat_19 : decode cX10_repeat 19 = .ok (.ldc2_w 149, 3) := by decide +kernel
theorem dX10_repeat_22 : decode cX10_repeat 22 = .ok (.invokestatic 124, 3) := by decide +kernel
theorem dX10_repeat_25 : decode cX10_repeat 25 = .ok (.ifCond .eq 16, 3) := by decide +kernel
theorem dX10_repeat_28 : decode cX10_repeat 28 = .ok (.iload 5, 2) := by decide +kernel
theorem dX10_repeat_30 : decode cX10_repeat 30 = .ok (.i2l, 1) := by decide +kernel
theorem dX10_repeat_31 : decode cX10_repeat 31 = .ok (.lconst 0, 1) := by decide +kernel
theorem dX10_repeat_32 : decode cX10_repeat 32 = .ok (.ldc2_w 141, 3) := by decide +kernel
theorem dX10_repeat_35 : decode cX10_repeat 35 = .ok (.invokestatic 124, 3) := by decide +kernel
theorem dX10_repeat_38 : decode cX10_repeat 38 = .ok (.ifCond .ne 6, 3) := by decide +kernel
theorem dX10_repeat_41 : decode cX10_repeat 41 = .ok (.bipush (-2), 2) := by decide +kernel
theorem dX10_repeat_43 : decode cX10_repeat 43 = .ok (.ireturn, 1) := by decide +kernel
theorem dX10_repeat_44 : decode cX10_repeat 44 = .ok (.aload_n 0, 1) := by decide +kernel
theorem dX10_repeat_45 : decode cX10_repeat 45 = .ok (.getfield 128, 3) := by decide +kernel
theorem dX10_repeat_48 : decode cX10_repeat 48 = .ok (.bipush 40, 2) := by decide +kernel
theorem dX10_repeat_50 : decode cX10_repeat 50 = .ok (.if_icmp .ne 6, 3) := by decide +kernel
theorem dX10_repeat_53 : decode cX10_repeat 53 = .ok (.bipush (-4), 2) := by decide +kernel
theorem dX10_repeat_55 : decode cX10_repeat 55 = .ok (.ireturn, 1) := by decide +kernel
theorem dX10_repeat_56 : decode cX10_repeat 56 = .ok (.aload_n 0, 1) := by decide +kernel
theorem dX10_repeat_57 : decode cX10_repeat 57 = .ok (.iload_n 1, 1) := by decide +kernel
theorem dX10_repeat_58 : decode cX10_repeat 58 = .ok (.iload 4, 2) := by decide +kernel
theorem dX10_repeat_60 : decode cX10_repeat 60 = .ok (.ifCond .eq 7, 3) := by decide +kernel
theorem dX10_repeat_63 : decode cX10_repeat 63 = .ok (.iconst 4, 1) := by decide +kernel
theorem dX10_repeat_64 : decode cX10_repeat 64 = .ok (.goto 4, 3) := by decide +kernel
theorem dX10_repeat_67 : decode cX10_repeat 67 = .ok (.iconst 3, 1) := by decide +kernel
theorem dX10_repeat_68 : decode cX10_repeat 68 = .ok (.iload 5, 2) := by decide +kernel
theorem dX10_repeat_70 : decode cX10_repeat 70 = .ok (.bipush (-9), 2) := by decide +kernel
theorem dX10_repeat_72 : decode cX10_repeat 72 = .ok (.invokevirtual 143, 3) := by decide +kernel
theorem dX10_repeat_75 : decode cX10_repeat 75 = .ok (.istore 6, 2) := by decide +kernel
theorem dX10_repeat_77 : decode cX10_repeat 77 = .ok (.aload_n 0, 1) := by decide +kernel
theorem dX10_repeat_78 : decode cX10_repeat 78 = .ok (.iload 6, 2) := by decide +kernel
theorem dX10_repeat_80 : decode cX10_repeat 80 = .ok (.iload_n 2, 1) := by decide +kernel
theorem dX10_repeat_81 : decode cX10_repeat 81 = .ok (.iload_n 3, 1) := by decide +kernel
theorem dX10_repeat_82 : decode cX10_repeat 82 = .ok (.iconst 0, 1) := by decide +kernel
theorem dX10_repeat_83 : decode cX10_repeat 83 = .ok (.invokevirtual 154, 3) := by decide +kernel
theorem dX10_repeat_86 : decode cX10_repeat 86 = .ok (.iload 6, 2) := by decide +kernel
theorem dX10_repeat_88 : decode cX10_repeat 88 = .ok (.ireturn, 1) := by decide +kernel
theorem dX10_isRule_0 : decode cX10_isRule 0 = .ok (.iload_n 1, 1) := by decide +kernel
theorem dX10_isRule_1 : decode cX10_isRule 1 = .ok (.i2l, 1) := by decide +kernel
theorem dX10_isRule_2 : decode cX10_isRule 2 = .ok (.lconst 0, 1) := by decide +kernel
theorem dX10_isRule_3 : decode cX10_isRule 3 = .ok (.aload_n 0, 1) := by decide +kernel
theorem dX10_isRule_4 : decode cX10_isRule 4 = .ok (.getfield 128, 3) := by decide +kernel
theorem dX10_isRule_7 : decode cX10_isRule 7 = .ok (.iconst 1, 1) := by decide +kernel
theorem dX10_isRule_8 : decode cX10_isRule 8 = .ok (.isub, 1) := by decide +kernel
theorem dX10_isRule_9 : decode cX10_isRule 9 = .ok (.i2l, 1) := by decide +kernel
theorem dX10_isRule_10 : decode cX10_isRule 10 = .ok (.invokestatic 124, 3) := by decide +kernel
theorem dX10_isRule_13 : decode cX10_isRule 13 = .ok (.ireturn, 1) := by decide +kernel
theorem dX10_isLength_0 : decode cX10_isLength 0 = .ok (.iload_n 0, 1) := by decide +kernel
theorem dX10_isLength_1 : decode cX10_isLength 1 = .ok (.i2l, 1) := by decide +kernel
theorem dX10_isLength_2 : decode cX10_isLength 2 = .ok (.lconst 1, 1) := by decide +kernel
theorem dX10_isLength_3 : decode cX10_isLength 3 = .ok (.ldc2_w 149, 3) := by decide +kernel
theorem dX10_isLength_6 : decode cX10_isLength 6 = .ok (.invokestatic 124, 3) := by decide +kernel
theorem dX10_isLength_9 : decode cX10_isLength 9 = .ok (.ireturn, 1) := by decide +kernel
theorem dX10_only_0 : decode cX10_only 0 = .ok (.aload_n 0, 1) := by decide +kernel
theorem dX10_only_1 : decode cX10_only 1 = .ok (.iload_n 1, 1) := by decide +kernel
theorem dX10_only_2 : decode cX10_only 2 = .ok (.invokevirtual 158, 3) := by decide +kernel
theorem dX10_only_5 : decode cX10_only 5 = .ok (.ifCond .ne 5, 3) := by decide +kernel
theorem dX10_only_8 : decode cX10_only 8 = .ok (.iconst (-1), 1) := by decide +kernel
theorem dX10_only_9 : decode cX10_only 9 = .ok (.ireturn, 1) := by decide +kernel
theorem dX10_only_10 : decode cX10_only 10 = .ok (.iload_n 3, 1) := by decide +kernel
theorem dX10_only_11 : decode cX10_only 11 = .ok (.invokestatic 161, 3) := by decide +kernel
theorem dX10_only_14 : decode cX10_only 14 = .ok (.ifCond .eq 17, 3) := by decide +kernel
theorem dX10_only_17 : decode cX10_only 17 = .ok (.iload 4, 2) := by decide +kernel
theorem dX10_only_19 : decode cX10_only 19 = .ok (.invokestatic 161, 3) := by decide +kernel
theorem dX10_only_22 : decode cX10_only 22 = .ok (.ifCond .eq 9, 3) := by decide +kernel
theorem dX10_only_25 : decode cX10_only 25 = .ok (.iload_n 3, 1) := by decide +kernel
theorem dX10_only_26 : decode cX10_only 26 = .ok (.iload 4, 2) := by decide +kernel
theorem dX10_only_28 : decode cX10_only 28 = .ok (.if_icmp .le 6, 3) := by decide +kernel
theorem dX10_only_31 : decode cX10_only 31 = .ok (.bipush (-2), 2) := by decide +kernel
theorem dX10_only_33 : decode cX10_only 33 = .ok (.ireturn, 1) := by decide +kernel
theorem dX10_only_34 : decode cX10_only 34 = .ok (.iconst 4, 1) := by decide +kernel
theorem dX10_only_35 : decode cX10_only 35 = .ok (.iload_n 1, 1) := by decide +kernel
theorem dX10_only_36 : decode cX10_only 36 = .ok (.imul, 1) := by decide +kernel
theorem dX10_only_37 : decode cX10_only 37 = .ok (.iload_n 2, 1) := by decide +kernel
theorem dX10_only_38 : decode cX10_only 38 = .ok (.ifCond .eq 7, 3) := by decide +kernel
theorem dX10_only_41 : decode cX10_only 41 = .ok (.iconst 2, 1) := by decide +kernel
theorem dX10_only_42 : decode cX10_only 42 = .ok (.goto 4, 3) := by decide +kernel
theorem dX10_only_45 : decode cX10_only 45 = .ok (.iconst 0, 1) := by decide +kernel
theorem dX10_only_46 : decode cX10_only 46 = .ok (.iadd, 1) := by decide +kernel
theorem dX10_only_47 : decode cX10_only 47 = .ok (.istore 5, 2) := by decide +kernel
theorem dX10_only_49 : decode cX10_only 49 = .ok (.aload_n 0, 1) := by decide +kernel
theorem dX10_only_50 : decode cX10_only 50 = .ok (.getfield 35, 3) := by decide +kernel
theorem dX10_only_53 : decode cX10_only 53 = .ok (.iload 5, 2) := by decide +kernel
theorem dX10_only_55 : decode cX10_only 55 = .ok (.iload_n 3, 1) := by decide +kernel
theorem dX10_only_56 : decode cX10_only 56 = .ok (.iastore, 1) := by decide +kernel
theorem dX10_only_57 : decode cX10_only 57 = .ok (.aload_n 0, 1) := by decide +kernel
theorem dX10_only_58 : decode cX10_only 58 = .ok (.getfield 35, 3) := by decide +kernel
theorem dX10_only_61 : decode cX10_only 61 = .ok (.iload 5, 2) := by decide +kernel
theorem dX10_only_63 : decode cX10_only 63 = .ok (.iconst 1, 1) := by decide +kernel
theorem dX10_only_64 : decode cX10_only 64 = .ok (.iadd, 1) := by decide +kernel
theorem dX10_only_65 : decode cX10_only 65 = .ok (.iload 4, 2) := by decide +kernel
theorem dX10_only_67 : decode cX10_only 67 = .ok (.iastore, 1) := by decide +kernel
theorem dX10_only_68 : decode cX10_only 68 = .ok (.aload_n 0, 1) := by decide +kernel
theorem dX10_only_69 : decode cX10_only 69 = .ok (.invokevirtual 132, 3) := by decide +kernel
theorem dX10_only_72 : decode cX10_only 72 = .ok (.iconst 1, 1) := by decide +kernel
theorem dX10_only_73 : decode cX10_only 73 = .ok (.ireturn, 1) := by decide +kernel
theorem dX10_clear_0 : decode cX10_clear 0 = .ok (.aload_n 0, 1) := by decide +kernel
theorem dX10_clear_1 : decode cX10_clear 1 = .ok (.getfield 128, 3) := by decide +kernel
theorem dX10_clear_4 : decode cX10_clear 4 = .ok (.istore_n 1, 1) := by decide +kernel
theorem dX10_clear_5 : decode cX10_clear 5 = .ok (.aload_n 0, 1) := by decide +kernel
theorem dX10_clear_6 : decode cX10_clear 6 = .ok (.invokevirtual 132, 3) := by decide +kernel
theorem dX10_clear_9 : decode cX10_clear 9 = .ok (.aload_n 0, 1) := by decide +kernel
theorem dX10_clear_10 : decode cX10_clear 10 = .ok (.iconst 0, 1) := by decide +kernel
theorem dX10_clear_11 : decode cX10_clear 11 = .ok (.putfield 128, 3) := by decide +kernel
theorem dX10_clear_14 : decode cX10_clear 14 = .ok (.aload_n 0, 1) := by decide +kernel
theorem dX10_clear_15 : decode cX10_clear 15 = .ok (.iconst 0, 1) := by decide +kernel
theorem dX10_clear_16 : decode cX10_clear 16 = .ok (.putfield 151, 3) := by decide +kernel
theorem dX10_clear_19 : decode cX10_clear 19 = .ok (.aload_n 0, 1) := by decide +kernel
theorem dX10_clear_20 : decode cX10_clear 20 = .ok (.iconst 0, 1) := by decide +kernel
theorem dX10_clear_21 : decode cX10_clear 21 = .ok (.putfield 164, 3) := by decide +kernel
theorem dX10_clear_24 : decode cX10_clear 24 = .ok (.aload_n 0, 1) := by decide +kernel
theorem dX10_clear_25 : decode cX10_clear 25 = .ok (.iconst 0, 1) := by decide +kernel
theorem dX10_clear_26 : decode cX10_clear 26 = .ok (.putfield 167, 3) := by decide +kernel
theorem dX10_clear_29 : decode cX10_clear 29 = .ok (.aload_n 0, 1) := by decide +kernel
theorem dX10_clear_30 : decode cX10_clear 30 = .ok (.iconst 0, 1) := by decide +kernel
theorem dX10_clear_31 : decode cX10_clear 31 = .ok (.putfield 170, 3) := by decide +kernel
theorem dX10_clear_34 : decode cX10_clear 34 = .ok (.iload_n 1, 1) := by decide +kernel
theorem dX10_clear_35 : decode cX10_clear 35 = .ok (.ireturn, 1) := by decide +kernel
theorem dX10_rule_0 : decode cX10_rule 0 = .ok (.aload_n 0, 1) := by decide +kernel
theorem dX10_rule_1 : decode cX10_rule 1 = .ok (.iload_n 1, 1) := by decide +kernel
theorem dX10_rule_2 : decode cX10_rule 2 = .ok (.invokevirtual 158, 3) := by decide +kernel
theorem dX10_rule_5 : decode cX10_rule 5 = .ok (.ifCond .ne 5, 3) := by decide +kernel
theorem dX10_rule_8 : decode cX10_rule 8 = .ok (.iconst (-1), 1) := by decide +kernel
theorem dX10_rule_9 : decode cX10_rule 9 = .ok (.ireturn, 1) := by decide +kernel
theorem dX10_rule_10 : decode cX10_rule 10 = .ok (.iload_n 2, 1) := by decide +kernel
theorem dX10_rule_11 : decode cX10_rule 11 = .ok (.tableswitch 68 0 4 #[33, 40, 47, 54, 61], 33) := by decide +kernel
theorem dX10_rule_44 : decode cX10_rule 44 = .ok (.aload_n 0, 1) := by decide +kernel
theorem dX10_rule_45 : decode cX10_rule 45 = .ok (.getfield 7, 3) := by decide +kernel
theorem dX10_rule_48 : decode cX10_rule 48 = .ok (.iload_n 1, 1) := by decide +kernel
theorem dX10_rule_49 : decode cX10_rule 49 = .ok (.iaload, 1) := by decide +kernel
theorem dX10_rule_50 : decode cX10_rule 50 = .ok (.ireturn, 1) := by decide +kernel
theorem dX10_rule_51 : decode cX10_rule 51 = .ok (.aload_n 0, 1) := by decide +kernel
theorem dX10_rule_52 : decode cX10_rule 52 = .ok (.getfield 13, 3) := by decide +kernel
theorem dX10_rule_55 : decode cX10_rule 55 = .ok (.iload_n 1, 1) := by decide +kernel
theorem dX10_rule_56 : decode cX10_rule 56 = .ok (.iaload, 1) := by decide +kernel
theorem dX10_rule_57 : decode cX10_rule 57 = .ok (.ireturn, 1) := by decide +kernel
theorem dX10_rule_58 : decode cX10_rule 58 = .ok (.aload_n 0, 1) := by decide +kernel
theorem dX10_rule_59 : decode cX10_rule 59 = .ok (.getfield 16, 3) := by decide +kernel
theorem dX10_rule_62 : decode cX10_rule 62 = .ok (.iload_n 1, 1) := by decide +kernel
theorem dX10_rule_63 : decode cX10_rule 63 = .ok (.iaload, 1) := by decide +kernel
theorem dX10_rule_64 : decode cX10_rule 64 = .ok (.ireturn, 1) := by decide +kernel
theorem dX10_rule_65 : decode cX10_rule 65 = .ok (.aload_n 0, 1) := by decide +kernel
theorem dX10_rule_66 : decode cX10_rule 66 = .ok (.getfield 22, 3) := by decide +kernel
theorem dX10_rule_69 : decode cX10_rule 69 = .ok (.iload_n 1, 1) := by decide +kernel
theorem dX10_rule_70 : decode cX10_rule 70 = .ok (.iaload, 1) := by decide +kernel
theorem dX10_rule_71 : decode cX10_rule 71 = .ok (.ireturn, 1) := by decide +kernel
theorem dX10_rule_72 : decode cX10_rule 72 = .ok (.aload_n 0, 1) := by decide +kernel
theorem dX10_rule_73 : decode cX10_rule 73 = .ok (.getfield 19, 3) := by decide +kernel
theorem dX10_rule_76 : decode cX10_rule 76 = .ok (.iload_n 1, 1) := by decide +kernel
theorem dX10_rule_77 : decode cX10_rule 77 = .ok (.iaload, 1) := by decide +kernel
theorem dX10_rule_78 : decode cX10_rule 78 = .ok (.ireturn, 1) := by decide +kernel
theorem dX10_rule_79 : decode cX10_rule 79 = .ok (.bipush (-2), 2) := by decide +kernel
theorem dX10_rule_81 : decode cX10_rule 81 = .ok (.ireturn, 1) := by decide +kernel
theorem dX10_isAlongY_0 : decode cX10_isAlongY 0 = .ok (.aload_n 0, 1) := by decide +kernel
theorem dX10_isAlongY_1 : decode cX10_isAlongY 1 = .ok (.getfield 13, 3) := by decide +kernel
theorem dX10_isAlongY_4 : decode cX10_isAlongY 4 = .ok (.iload_n 1, 1) := by decide +kernel
theorem dX10_isAlongY_5 : decode cX10_isAlongY 5 = .ok (.iaload, 1) := by decide +kernel
theorem dX10_isAlongY_6 : decode cX10_isAlongY 6 = .ok (.iconst 2, 1) := by decide +kernel
theorem dX10_isAlongY_7 : decode cX10_isAlongY 7 = .ok (.if_icmp .eq 13, 3) := by decide +kernel
theorem dX10_isAlongY_10 : decode cX10_isAlongY 10 = .ok (.aload_n 0, 1) := by decide +kernel
theorem dX10_isAlongY_11 : decode cX10_isAlongY 11 = .ok (.getfield 13, 3) := by decide +kernel
theorem dX10_isAlongY_14 : decode cX10_isAlongY 14 = .ok (.iload_n 1, 1) := by decide +kernel
theorem dX10_isAlongY_15 : decode cX10_isAlongY 15 = .ok (.iaload, 1) := by decide +kernel
theorem dX10_isAlongY_16 : decode cX10_isAlongY 16 = .ok (.iconst 4, 1) := by decide +kernel
theorem dX10_isAlongY_17 : decode cX10_isAlongY 17 = .ok (.if_icmp .ne 7, 3) := by decide +kernel
theorem dX10_isAlongY_20 : decode cX10_isAlongY 20 = .ok (.iconst 1, 1) := by decide +kernel
theorem dX10_isAlongY_21 : decode cX10_isAlongY 21 = .ok (.goto 4, 3) := by decide +kernel
theorem dX10_isAlongY_24 : decode cX10_isAlongY 24 = .ok (.iconst 0, 1) := by decide +kernel
theorem dX10_isAlongY_25 : decode cX10_isAlongY 25 = .ok (.ireturn, 1) := by decide +kernel
theorem dX10_layRepeat_0 : decode cX10_layRepeat 0 = .ok (.aload_n 0, 1) := by decide +kernel
theorem dX10_layRepeat_1 : decode cX10_layRepeat 1 = .ok (.getfield 28, 3) := by decide +kernel
theorem dX10_layRepeat_4 : decode cX10_layRepeat 4 = .ok (.bipush 6, 2) := by decide +kernel
theorem dX10_layRepeat_6 : decode cX10_layRepeat 6 = .ok (.iload_n 1, 1) := by decide +kernel
theorem dX10_layRepeat_7 : decode cX10_layRepeat 7 = .ok (.imul, 1) := by decide +kernel
theorem dX10_layRepeat_8 : decode cX10_layRepeat 8 = .ok (.iaload, 1) := by decide +kernel
theorem dX10_layRepeat_9 : decode cX10_layRepeat 9 = .ok (.istore_n 3, 1) := by decide +kernel
theorem dX10_layRepeat_10 : decode cX10_layRepeat 10 = .ok (.aload_n 0, 1) := by decide +kernel
theorem dX10_layRepeat_11 : decode cX10_layRepeat 11 = .ok (.iload_n 2, 1) := by decide +kernel
theorem dX10_layRepeat_12 : decode cX10_layRepeat 12 = .ok (.iload_n 3, 1) := by decide +kernel
theorem dX10_layRepeat_13 : decode cX10_layRepeat 13 = .ok (.idiv, 1) := by decide +kernel
theorem dX10_layRepeat_14 : decode cX10_layRepeat 14 = .ok (.putfield 173, 3) := by decide +kernel
theorem dX10_layRepeat_17 : decode cX10_layRepeat 17 = .ok (.aload_n 0, 1) := by decide +kernel
theorem dX10_layRepeat_18 : decode cX10_layRepeat 18 = .ok (.getfield 173, 3) := by decide +kernel
theorem dX10_layRepeat_21 : decode cX10_layRepeat 21 = .ok (.ifCond .le 14, 3) := by decide +kernel
theorem dX10_layRepeat_24 : decode cX10_layRepeat 24 = .ok (.iload_n 2, 1) := by decide +kernel
theorem dX10_layRepeat_25 : decode cX10_layRepeat 25 = .ok (.aload_n 0, 1) := by decide +kernel
theorem dX10_layRepeat_26 : decode cX10_layRepeat 26 = .ok (.getfield 173, 3) := by decide +kernel
theorem dX10_layRepeat_29 : decode cX10_layRepeat 29 = .ok (.iload_n 3, 1) := by decide +kernel
theorem dX10_layRepeat_30 : decode cX10_layRepeat 30 = .ok (.imul, 1) := by decide +kernel
theorem dX10_layRepeat_31 : decode cX10_layRepeat 31 = .ok (.isub, 1) := by decide +kernel
theorem dX10_layRepeat_32 : decode cX10_layRepeat 32 = .ok (.goto 4, 3) := by decide +kernel
theorem dX10_layRepeat_35 : decode cX10_layRepeat 35 = .ok (.iconst 0, 1) := by decide +kernel
theorem dX10_layRepeat_36 : decode cX10_layRepeat 36 = .ok (.istore 4, 2) := by decide +kernel
theorem dX10_layRepeat_38 : decode cX10_layRepeat 38 = .ok (.iconst 0, 1) := by decide +kernel
theorem dX10_layRepeat_39 : decode cX10_layRepeat 39 = .ok (.istore 5, 2) := by decide +kernel
theorem dX10_layRepeat_41 : decode cX10_layRepeat 41 = .ok (.iconst 0, 1) := by decide +kernel
theorem dX10_layRepeat_42 : decode cX10_layRepeat 42 = .ok (.istore 6, 2) := by decide +kernel
theorem dX10_layRepeat_44 : decode cX10_layRepeat 44 = .ok (.iload 6, 2) := by decide +kernel
theorem dX10_layRepeat_46 : decode cX10_layRepeat 46 = .ok (.aload_n 0, 1) := by decide +kernel
theorem dX10_layRepeat_47 : decode cX10_layRepeat 47 = .ok (.getfield 173, 3) := by decide +kernel
theorem dX10_layRepeat_50 : decode cX10_layRepeat 50 = .ok (.if_icmp .ge 80, 3) := by decide +kernel
theorem dX10_layRepeat_53 : decode cX10_layRepeat 53 = .ok (.aload_n 0, 1) := by decide +kernel
theorem dX10_layRepeat_54 : decode cX10_layRepeat 54 = .ok (.getfield 47, 3) := by decide +kernel
theorem dX10_layRepeat_57 : decode cX10_layRepeat 57 = .ok (.iload 6, 2) := by decide +kernel
theorem dX10_layRepeat_59 : decode cX10_layRepeat 59 = .ok (.iload 5, 2) := by decide +kernel
theorem dX10_layRepeat_61 : decode cX10_layRepeat 61 = .ok (.iastore, 1) := by decide +kernel
theorem dX10_layRepeat_62 : decode cX10_layRepeat 62 = .ok (.aload_n 0, 1) := by decide +kernel
theorem dX10_layRepeat_63 : decode cX10_layRepeat 63 = .ok (.getfield 50, 3) := by decide +kernel
theorem dX10_layRepeat_66 : decode cX10_layRepeat 66 = .ok (.iload 6, 2) := by decide +kernel
theorem dX10_layRepeat_68 : decode cX10_layRepeat 68 = .ok (.iload_n 3, 1) := by decide +kernel
theorem dX10_layRepeat_69 : decode cX10_layRepeat 69 = .ok (.iload 4, 2) := by decide +kernel
theorem dX10_layRepeat_71 : decode cX10_layRepeat 71 = .ok (.aload_n 0, 1) := by decide +kernel
theorem dX10_layRepeat_72 : decode cX10_layRepeat 72 = .ok (.getfield 173, 3) := by decide +kernel
theorem dX10_layRepeat_75 : decode cX10_layRepeat 75 = .ok (.idiv, 1) := by decide +kernel
theorem dX10_layRepeat_76 : decode cX10_layRepeat 76 = .ok (.iadd, 1) := by decide +kernel
theorem dX10_layRepeat_77 : decode cX10_layRepeat 77 = .ok (.iload 6, 2) := by decide +kernel
theorem dX10_layRepeat_79 : decode cX10_layRepeat 79 = .ok (.iload 4, 2) := by decide +kernel
theorem dX10_layRepeat_81 : decode cX10_layRepeat 81 = .ok (.aload_n 0, 1) := by decide +kernel
theorem dX10_layRepeat_82 : decode cX10_layRepeat 82 = .ok (.getfield 173, 3) := by decide +kernel
theorem dX10_layRepeat_85 : decode cX10_layRepeat 85 = .ok (.irem, 1) := by decide +kernel
theorem dX10_layRepeat_86 : decode cX10_layRepeat 86 = .ok (.if_icmp .ge 7, 3) := by decide +kernel
theorem dX10_layRepeat_89 : decode cX10_layRepeat 89 = .ok (.iconst 1, 1) := by decide +kernel
theorem dX10_layRepeat_90 : decode cX10_layRepeat 90 = .ok (.goto 4, 3) := by decide +kernel
theorem dX10_layRepeat_93 : decode cX10_layRepeat 93 = .ok (.iconst 0, 1) := by decide +kernel
theorem dX10_layRepeat_94 : decode cX10_layRepeat 94 = .ok (.iadd, 1) := by decide +kernel
theorem dX10_layRepeat_95 : decode cX10_layRepeat 95 = .ok (.iastore, 1) := by decide +kernel
theorem dX10_layRepeat_96 : decode cX10_layRepeat 96 = .ok (.aload_n 0, 1) := by decide +kernel
theorem dX10_layRepeat_97 : decode cX10_layRepeat 97 = .ok (.getfield 53, 3) := by decide +kernel
theorem dX10_layRepeat_100 : decode cX10_layRepeat 100 = .ok (.iload 6, 2) := by decide +kernel
theorem dX10_layRepeat_102 : decode cX10_layRepeat 102 = .ok (.aload_n 0, 1) := by decide +kernel
theorem dX10_layRepeat_103 : decode cX10_layRepeat 103 = .ok (.getfield 25, 3) := by decide +kernel
theorem dX10_layRepeat_106 : decode cX10_layRepeat 106 = .ok (.bipush 6, 2) := by decide +kernel
theorem dX10_layRepeat_108 : decode cX10_layRepeat 108 = .ok (.iload_n 1, 1) := by decide +kernel
theorem dX10_layRepeat_109 : decode cX10_layRepeat 109 = .ok (.imul, 1) := by decide +kernel
theorem dX10_layRepeat_110 : decode cX10_layRepeat 110 = .ok (.iaload, 1) := by decide +kernel
theorem dX10_layRepeat_111 : decode cX10_layRepeat 111 = .ok (.iastore, 1) := by decide +kernel
theorem dX10_layRepeat_112 : decode cX10_layRepeat 112 = .ok (.iload 5, 2) := by decide +kernel
theorem dX10_layRepeat_114 : decode cX10_layRepeat 114 = .ok (.aload_n 0, 1) := by decide +kernel
theorem dX10_layRepeat_115 : decode cX10_layRepeat 115 = .ok (.getfield 50, 3) := by decide +kernel
theorem dX10_layRepeat_118 : decode cX10_layRepeat 118 = .ok (.iload 6, 2) := by decide +kernel
theorem dX10_layRepeat_120 : decode cX10_layRepeat 120 = .ok (.iaload, 1) := by decide +kernel
theorem dX10_layRepeat_121 : decode cX10_layRepeat 121 = .ok (.iadd, 1) := by decide +kernel
theorem dX10_layRepeat_122 : decode cX10_layRepeat 122 = .ok (.istore 5, 2) := by decide +kernel
theorem dX10_layRepeat_124 : decode cX10_layRepeat 124 = .ok (.iinc 6 1, 3) := by decide +kernel
theorem dX10_layRepeat_127 : decode cX10_layRepeat 127 = .ok (.goto (-83), 3) := by decide +kernel
theorem dX10_layRepeat_130 : decode cX10_layRepeat 130 = .ok (.aload_n 0, 1) := by decide +kernel
theorem dX10_layRepeat_131 : decode cX10_layRepeat 131 = .ok (.getfield 173, 3) := by decide +kernel
theorem dX10_layRepeat_134 : decode cX10_layRepeat 134 = .ok (.ifCond .le 7, 3) := by decide +kernel
theorem dX10_layRepeat_137 : decode cX10_layRepeat 137 = .ok (.iconst 1, 1) := by decide +kernel
theorem dX10_layRepeat_138 : decode cX10_layRepeat 138 = .ok (.goto 4, 3) := by decide +kernel
theorem dX10_layRepeat_141 : decode cX10_layRepeat 141 = .ok (.iconst 0, 1) := by decide +kernel
theorem dX10_layRepeat_142 : decode cX10_layRepeat 142 = .ok (.ireturn, 1) := by decide +kernel
theorem dX10_laySplit_0 : decode cX10_laySplit 0 = .ok (.iload_n 2, 1) := by decide +kernel
theorem dX10_laySplit_1 : decode cX10_laySplit 1 = .ok (.istore_n 3, 1) := by decide +kernel
theorem dX10_laySplit_2 : decode cX10_laySplit 2 = .ok (.iconst 0, 1) := by decide +kernel
theorem dX10_laySplit_3 : decode cX10_laySplit 3 = .ok (.istore 4, 2) := by decide +kernel
theorem dX10_laySplit_5 : decode cX10_laySplit 5 = .ok (.iconst 0, 1) := by decide +kernel
theorem dX10_laySplit_6 : decode cX10_laySplit 6 = .ok (.istore 5, 2) := by decide +kernel
theorem dX10_laySplit_8 : decode cX10_laySplit 8 = .ok (.iload 5, 2) := by decide +kernel
theorem dX10_laySplit_10 : decode cX10_laySplit 10 = .ok (.aload_n 0, 1) := by decide +kernel
theorem dX10_laySplit_11 : decode cX10_laySplit 11 = .ok (.getfield 22, 3) := by decide +kernel
theorem dX10_laySplit_14 : decode cX10_laySplit 14 = .ok (.iload_n 1, 1) := by decide +kernel
theorem dX10_laySplit_15 : decode cX10_laySplit 15 = .ok (.iaload, 1) := by decide +kernel
theorem dX10_laySplit_16 : decode cX10_laySplit 16 = .ok (.if_icmp .ge 79, 3) := by decide +kernel
theorem dX10_laySplit_19 : decode cX10_laySplit 19 = .ok (.iload_n 3, 1) := by decide +kernel
theorem dX10_laySplit_20 : decode cX10_laySplit 20 = .ok (.aload_n 0, 1) := by decide +kernel
theorem dX10_laySplit_21 : decode cX10_laySplit 21 = .ok (.getfield 31, 3) := by decide +kernel
theorem dX10_laySplit_24 : decode cX10_laySplit 24 = .ok (.bipush 6, 2) := by decide +kernel
theorem dX10_laySplit_26 : decode cX10_laySplit 26 = .ok (.iload_n 1, 1) := by decide +kernel
theorem dX10_laySplit_27 : decode cX10_laySplit 27 = .ok (.imul, 1) := by decide +kernel
theorem dX10_laySplit_28 : decode cX10_laySplit 28 = .ok (.iload 5, 2) := by decide +kernel
theorem dX10_laySplit_30 : decode cX10_laySplit 30 = .ok (.iadd, 1) := by decide +kernel
theorem dX10_laySplit_31 : decode cX10_laySplit 31 = .ok (.baload, 1) := by decide +kernel
theorem dX10_laySplit_32 : decode cX10_laySplit 32 = .ok (.ifCond .eq 7, 3) := by decide +kernel
theorem dX10_laySplit_35 : decode cX10_laySplit 35 = .ok (.iconst 0, 1) := by decide +kernel
theorem dX10_laySplit_36 : decode cX10_laySplit 36 = .ok (.goto 15, 3) := by decide +kernel
theorem dX10_laySplit_39 : decode cX10_laySplit 39 = .ok (.aload_n 0, 1) := by decide +kernel
theorem dX10_laySplit_40 : decode cX10_laySplit 40 = .ok (.getfield 28, 3) := by decide +kernel
theorem dX10_laySplit_43 : decode cX10_laySplit 43 = .ok (.bipush 6, 2) := by decide +kernel
theorem dX10_laySplit_45 : decode cX10_laySplit 45 = .ok (.iload_n 1, 1) := by decide +kernel
theorem dX10_laySplit_46 : decode cX10_laySplit 46 = .ok (.imul, 1) := by decide +kernel
theorem dX10_laySplit_47 : decode cX10_laySplit 47 = .ok (.iload 5, 2) := by decide +kernel
theorem dX10_laySplit_49 : decode cX10_laySplit 49 = .ok (.iadd, 1) := by decide +kernel
theorem dX10_laySplit_50 : decode cX10_laySplit 50 = .ok (.iaload, 1) := by decide +kernel
theorem dX10_laySplit_51 : decode cX10_laySplit 51 = .ok (.isub, 1) := by decide +kernel
theorem dX10_laySplit_52 : decode cX10_laySplit 52 = .ok (.istore_n 3, 1) := by decide +kernel
theorem dX10_laySplit_53 : decode cX10_laySplit 53 = .ok (.iload 4, 2) := by decide +kernel
theorem dX10_laySplit_55 : decode cX10_laySplit 55 = .ok (.aload_n 0, 1) := by decide +kernel
theorem dX10_laySplit_56 : decode cX10_laySplit 56 = .ok (.getfield 31, 3) := by decide +kernel
theorem dX10_laySplit_59 : decode cX10_laySplit 59 = .ok (.bipush 6, 2) := by decide +kernel
theorem dX10_laySplit_61 : decode cX10_laySplit 61 = .ok (.iload_n 1, 1) := by decide +kernel
theorem dX10_laySplit_62 : decode cX10_laySplit 62 = .ok (.imul, 1) := by decide +kernel
theorem dX10_laySplit_63 : decode cX10_laySplit 63 = .ok (.iload 5, 2) := by decide +kernel
theorem dX10_laySplit_65 : decode cX10_laySplit 65 = .ok (.iadd, 1) := by decide +kernel
theorem dX10_laySplit_66 : decode cX10_laySplit 66 = .ok (.baload, 1) := by decide +kernel
theorem dX10_laySplit_67 : decode cX10_laySplit 67 = .ok (.ifCond .eq 18, 3) := by decide +kernel
theorem dX10_laySplit_70 : decode cX10_laySplit 70 = .ok (.aload_n 0, 1) := by decide +kernel
theorem dX10_laySplit_71 : decode cX10_laySplit 71 = .ok (.getfield 28, 3) := by decide +kernel
theorem dX10_laySplit_74 : decode cX10_laySplit 74 = .ok (.bipush 6, 2) := by decide +kernel
theorem dX10_laySplit_76 : decode cX10_laySplit 76 = .ok (.iload_n 1, 1) := by decide +kernel
theorem dX10_laySplit_77 : decode cX10_laySplit 77 = .ok (.imul, 1) := by decide +kernel
theorem dX10_laySplit_78 : decode cX10_laySplit 78 = .ok (.iload 5, 2) := by decide +kernel
theorem dX10_laySplit_80 : decode cX10_laySplit 80 = .ok (.iadd, 1) := by decide +kernel
theorem dX10_laySplit_81 : decode cX10_laySplit 81 = .ok (.iaload, 1) := by decide +kernel
theorem dX10_laySplit_82 : decode cX10_laySplit 82 = .ok (.goto 4, 3) := by decide +kernel
theorem dX10_laySplit_85 : decode cX10_laySplit 85 = .ok (.iconst 0, 1) := by decide +kernel
theorem dX10_laySplit_86 : decode cX10_laySplit 86 = .ok (.iadd, 1) := by decide +kernel
theorem dX10_laySplit_87 : decode cX10_laySplit 87 = .ok (.istore 4, 2) := by decide +kernel
theorem dX10_laySplit_89 : decode cX10_laySplit 89 = .ok (.iinc 5 1, 3) := by decide +kernel
theorem dX10_laySplit_92 : decode cX10_laySplit 92 = .ok (.goto (-84), 3) := by decide +kernel
theorem dX10_laySplit_95 : decode cX10_laySplit 95 = .ok (.iload_n 3, 1) := by decide +kernel
theorem dX10_laySplit_96 : decode cX10_laySplit 96 = .ok (.ifCond .lt 12, 3) := by decide +kernel
theorem dX10_laySplit_99 : decode cX10_laySplit 99 = .ok (.iload 4, 2) := by decide +kernel
theorem dX10_laySplit_101 : decode cX10_laySplit 101 = .ok (.ifCond .ne 9, 3) := by decide +kernel
theorem dX10_laySplit_104 : decode cX10_laySplit 104 = .ok (.iload_n 3, 1) := by decide +kernel
theorem dX10_laySplit_105 : decode cX10_laySplit 105 = .ok (.ifCond .le 5, 3) := by decide +kernel
theorem dX10_laySplit_108 : decode cX10_laySplit 108 = .ok (.iconst 0, 1) := by decide +kernel
theorem dX10_laySplit_109 : decode cX10_laySplit 109 = .ok (.ireturn, 1) := by decide +kernel
theorem dX10_laySplit_110 : decode cX10_laySplit 110 = .ok (.iload_n 3, 1) := by decide +kernel
theorem dX10_laySplit_111 : decode cX10_laySplit 111 = .ok (.istore 5, 2) := by decide +kernel
theorem dX10_laySplit_113 : decode cX10_laySplit 113 = .ok (.iconst 0, 1) := by decide +kernel
theorem dX10_laySplit_114 : decode cX10_laySplit 114 = .ok (.istore 6, 2) := by decide +kernel
theorem dX10_laySplit_116 : decode cX10_laySplit 116 = .ok (.iload 6, 2) := by decide +kernel
theorem dX10_laySplit_118 : decode cX10_laySplit 118 = .ok (.aload_n 0, 1) := by decide +kernel
theorem dX10_laySplit_119 : decode cX10_laySplit 119 = .ok (.getfield 22, 3) := by decide +kernel
theorem dX10_laySplit_122 : decode cX10_laySplit 122 = .ok (.iload_n 1, 1) := by decide +kernel
theorem dX10_laySplit_123 : decode cX10_laySplit 123 = .ok (.iaload, 1) := by decide +kernel
theorem dX10_laySplit_124 : decode cX10_laySplit 124 = .ok (.if_icmp .ge 88, 3) := by decide +kernel
theorem dX10_laySplit_127 : decode cX10_laySplit 127 = .ok (.aload_n 0, 1) := by decide +kernel
theorem dX10_laySplit_128 : decode cX10_laySplit 128 = .ok (.getfield 28, 3) := by decide +kernel
theorem dX10_laySplit_131 : decode cX10_laySplit 131 = .ok (.bipush 6, 2) := by decide +kernel
theorem dX10_laySplit_133 : decode cX10_laySplit 133 = .ok (.iload_n 1, 1) := by decide +kernel
theorem dX10_laySplit_134 : decode cX10_laySplit 134 = .ok (.imul, 1) := by decide +kernel
theorem dX10_laySplit_135 : decode cX10_laySplit 135 = .ok (.iload 6, 2) := by decide +kernel
theorem dX10_laySplit_137 : decode cX10_laySplit 137 = .ok (.iadd, 1) := by decide +kernel
theorem dX10_laySplit_138 : decode cX10_laySplit 138 = .ok (.iaload, 1) := by decide +kernel
theorem dX10_laySplit_139 : decode cX10_laySplit 139 = .ok (.istore 7, 2) := by decide +kernel
theorem dX10_laySplit_141 : decode cX10_laySplit 141 = .ok (.aload_n 0, 1) := by decide +kernel
theorem dX10_laySplit_142 : decode cX10_laySplit 142 = .ok (.getfield 50, 3) := by decide +kernel
theorem dX10_laySplit_145 : decode cX10_laySplit 145 = .ok (.iload 6, 2) := by decide +kernel
theorem dX10_laySplit_147 : decode cX10_laySplit 147 = .ok (.aload_n 0, 1) := by decide +kernel
theorem dX10_laySplit_148 : decode cX10_laySplit 148 = .ok (.getfield 31, 3) := by decide +kernel
theorem dX10_laySplit_151 : decode cX10_laySplit 151 = .ok (.bipush 6, 2) := by decide +kernel
theorem dX10_laySplit_153 : decode cX10_laySplit 153 = .ok (.iload_n 1, 1) := by decide +kernel
theorem dX10_laySplit_154 : decode cX10_laySplit 154 = .ok (.imul, 1) := by decide +kernel
theorem dX10_laySplit_155 : decode cX10_laySplit 155 = .ok (.iload 6, 2) := by decide +kernel
theorem dX10_laySplit_157 : decode cX10_laySplit 157 = .ok (.iadd, 1) := by decide +kernel
theorem dX10_laySplit_158 : decode cX10_laySplit 158 = .ok (.baload, 1) := by decide +kernel
theorem dX10_laySplit_159 : decode cX10_laySplit 159 = .ok (.ifCond .eq 13, 3) := by decide +kernel
theorem dX10_laySplit_162 : decode cX10_laySplit 162 = .ok (.iload_n 3, 1) := by decide +kernel
theorem dX10_laySplit_163 : decode cX10_laySplit 163 = .ok (.iload 7, 2) := by decide +kernel
theorem dX10_laySplit_165 : decode cX10_laySplit 165 = .ok (.imul, 1) := by decide +kernel
theorem dX10_laySplit_166 : decode cX10_laySplit 166 = .ok (.iload 4, 2) := by decide +kernel
theorem dX10_laySplit_168 : decode cX10_laySplit 168 = .ok (.idiv, 1) := by decide +kernel
theorem dX10_laySplit_169 : decode cX10_laySplit 169 = .ok (.goto 5, 3) := by decide +kernel
theorem dX10_laySplit_172 : decode cX10_laySplit 172 = .ok (.iload 7, 2) := by decide +kernel
theorem dX10_laySplit_174 : decode cX10_laySplit 174 = .ok (.iastore, 1) := by decide +kernel
theorem dX10_laySplit_175 : decode cX10_laySplit 175 = .ok (.iload 5, 2) := by decide +kernel
theorem dX10_laySplit_177 : decode cX10_laySplit 177 = .ok (.aload_n 0, 1) := by decide +kernel
theorem dX10_laySplit_178 : decode cX10_laySplit 178 = .ok (.getfield 31, 3) := by decide +kernel
theorem dX10_laySplit_181 : decode cX10_laySplit 181 = .ok (.bipush 6, 2) := by decide +kernel
theorem dX10_laySplit_183 : decode cX10_laySplit 183 = .ok (.iload_n 1, 1) := by decide +kernel
theorem dX10_laySplit_184 : decode cX10_laySplit 184 = .ok (.imul, 1) := by decide +kernel
theorem dX10_laySplit_185 : decode cX10_laySplit 185 = .ok (.iload 6, 2) := by decide +kernel
theorem dX10_laySplit_187 : decode cX10_laySplit 187 = .ok (.iadd, 1) := by decide +kernel
theorem dX10_laySplit_188 : decode cX10_laySplit 188 = .ok (.baload, 1) := by decide +kernel
theorem dX10_laySplit_189 : decode cX10_laySplit 189 = .ok (.ifCond .eq 13, 3) := by decide +kernel
theorem dX10_laySplit_192 : decode cX10_laySplit 192 = .ok (.aload_n 0, 1) := by decide +kernel
theorem dX10_laySplit_193 : decode cX10_laySplit 193 = .ok (.getfield 50, 3) := by decide +kernel
theorem dX10_laySplit_196 : decode cX10_laySplit 196 = .ok (.iload 6, 2) := by decide +kernel
theorem dX10_laySplit_198 : decode cX10_laySplit 198 = .ok (.iaload, 1) := by decide +kernel
theorem dX10_laySplit_199 : decode cX10_laySplit 199 = .ok (.goto 4, 3) := by decide +kernel
theorem dX10_laySplit_202 : decode cX10_laySplit 202 = .ok (.iconst 0, 1) := by decide +kernel
theorem dX10_laySplit_203 : decode cX10_laySplit 203 = .ok (.isub, 1) := by decide +kernel
theorem dX10_laySplit_204 : decode cX10_laySplit 204 = .ok (.istore 5, 2) := by decide +kernel
theorem dX10_laySplit_206 : decode cX10_laySplit 206 = .ok (.iinc 6 1, 3) := by decide +kernel
theorem dX10_laySplit_209 : decode cX10_laySplit 209 = .ok (.goto (-93), 3) := by decide +kernel
theorem dX10_laySplit_212 : decode cX10_laySplit 212 = .ok (.aload_n 0, 1) := by decide +kernel
theorem dX10_laySplit_213 : decode cX10_laySplit 213 = .ok (.aload_n 0, 1) := by decide +kernel
theorem dX10_laySplit_214 : decode cX10_laySplit 214 = .ok (.getfield 22, 3) := by decide +kernel
theorem dX10_laySplit_217 : decode cX10_laySplit 217 = .ok (.iload_n 1, 1) := by decide +kernel
theorem dX10_laySplit_218 : decode cX10_laySplit 218 = .ok (.iaload, 1) := by decide +kernel
theorem dX10_laySplit_219 : decode cX10_laySplit 219 = .ok (.putfield 173, 3) := by decide +kernel
theorem dX10_laySplit_222 : decode cX10_laySplit 222 = .ok (.iconst 0, 1) := by decide +kernel
theorem dX10_laySplit_223 : decode cX10_laySplit 223 = .ok (.istore 6, 2) := by decide +kernel
theorem dX10_laySplit_225 : decode cX10_laySplit 225 = .ok (.iconst 1, 1) := by decide +kernel
theorem dX10_laySplit_226 : decode cX10_laySplit 226 = .ok (.istore 7, 2) := by decide +kernel
theorem dX10_laySplit_228 : decode cX10_laySplit 228 = .ok (.iconst 0, 1) := by decide +kernel
theorem dX10_laySplit_229 : decode cX10_laySplit 229 = .ok (.istore 8, 2) := by decide +kernel
theorem dX10_laySplit_231 : decode cX10_laySplit 231 = .ok (.iload 8, 2) := by decide +kernel
theorem dX10_laySplit_233 : decode cX10_laySplit 233 = .ok (.aload_n 0, 1) := by decide +kernel
theorem dX10_laySplit_234 : decode cX10_laySplit 234 = .ok (.getfield 173, 3) := by decide +kernel
theorem dX10_laySplit_237 : decode cX10_laySplit 237 = .ok (.if_icmp .ge 105, 3) := by decide +kernel
theorem dX10_laySplit_240 : decode cX10_laySplit 240 = .ok (.aload_n 0, 1) := by decide +kernel
theorem dX10_laySplit_241 : decode cX10_laySplit 241 = .ok (.getfield 31, 3) := by decide +kernel
theorem dX10_laySplit_244 : decode cX10_laySplit 244 = .ok (.bipush 6, 2) := by decide +kernel
theorem dX10_laySplit_246 : decode cX10_laySplit 246 = .ok (.iload_n 1, 1) := by decide +kernel
theorem dX10_laySplit_247 : decode cX10_laySplit 247 = .ok (.imul, 1) := by decide +kernel
theorem dX10_laySplit_248 : decode cX10_laySplit 248 = .ok (.iload 8, 2) := by decide +kernel
theorem dX10_laySplit_250 : decode cX10_laySplit 250 = .ok (.iadd, 1) := by decide +kernel
theorem dX10_laySplit_251 : decode cX10_laySplit 251 = .ok (.baload, 1) := by decide +kernel
theorem dX10_laySplit_252 : decode cX10_laySplit 252 = .ok (.ifCond .eq 22, 3) := by decide +kernel
theorem dX10_laySplit_255 : decode cX10_laySplit 255 = .ok (.iload 5, 2) := by decide +kernel
theorem dX10_laySplit_257 : decode cX10_laySplit 257 = .ok (.ifCond .le 17, 3) := by decide +kernel
theorem dX10_laySplit_260 : decode cX10_laySplit 260 = .ok (.aload_n 0, 1) := by decide +kernel
theorem dX10_laySplit_261 : decode cX10_laySplit 261 = .ok (.getfield 50, 3) := by decide +kernel
theorem dX10_laySplit_264 : decode cX10_laySplit 264 = .ok (.iload 8, 2) := by decide +kernel
theorem dX10_laySplit_266 : decode cX10_laySplit 266 = .ok (.dup2, 1) := by decide +kernel
theorem dX10_laySplit_267 : decode cX10_laySplit 267 = .ok (.iaload, 1) := by decide +kernel
theorem dX10_laySplit_268 : decode cX10_laySplit 268 = .ok (.iconst 1, 1) := by decide +kernel
theorem dX10_laySplit_269 : decode cX10_laySplit 269 = .ok (.iadd, 1) := by decide +kernel
theorem dX10_laySplit_270 : decode cX10_laySplit 270 = .ok (.iastore, 1) := by decide +kernel
theorem dX10_laySplit_271 : decode cX10_laySplit 271 = .ok (.iinc 5 (-1), 3) := by decide +kernel
theorem dX10_laySplit_274 : decode cX10_laySplit 274 = .ok (.aload_n 0, 1) := by decide +kernel
theorem dX10_laySplit_275 : decode cX10_laySplit 275 = .ok (.getfield 47, 3) := by decide +kernel
theorem dX10_laySplit_278 : decode cX10_laySplit 278 = .ok (.iload 8, 2) := by decide +kernel
theorem dX10_laySplit_280 : decode cX10_laySplit 280 = .ok (.iload 6, 2) := by decide +kernel
theorem dX10_laySplit_282 : decode cX10_laySplit 282 = .ok (.iastore, 1) := by decide +kernel
theorem dX10_laySplit_283 : decode cX10_laySplit 283 = .ok (.aload_n 0, 1) := by decide +kernel
theorem dX10_laySplit_284 : decode cX10_laySplit 284 = .ok (.getfield 53, 3) := by decide +kernel
theorem dX10_laySplit_287 : decode cX10_laySplit 287 = .ok (.iload 8, 2) := by decide +kernel
theorem dX10_laySplit_289 : decode cX10_laySplit 289 = .ok (.aload_n 0, 1) := by decide +kernel
theorem dX10_laySplit_290 : decode cX10_laySplit 290 = .ok (.getfield 25, 3) := by decide +kernel
theorem dX10_laySplit_293 : decode cX10_laySplit 293 = .ok (.bipush 6, 2) := by decide +kernel
theorem dX10_laySplit_295 : decode cX10_laySplit 295 = .ok (.iload_n 1, 1) := by decide +kernel
theorem dX10_laySplit_296 : decode cX10_laySplit 296 = .ok (.imul, 1) := by decide +kernel
theorem dX10_laySplit_297 : decode cX10_laySplit 297 = .ok (.iload 8, 2) := by decide +kernel
theorem dX10_laySplit_299 : decode cX10_laySplit 299 = .ok (.iadd, 1) := by decide +kernel
theorem dX10_laySplit_300 : decode cX10_laySplit 300 = .ok (.iaload, 1) := by decide +kernel
theorem dX10_laySplit_301 : decode cX10_laySplit 301 = .ok (.iastore, 1) := by decide +kernel
theorem dX10_laySplit_302 : decode cX10_laySplit 302 = .ok (.iload 6, 2) := by decide +kernel
theorem dX10_laySplit_304 : decode cX10_laySplit 304 = .ok (.aload_n 0, 1) := by decide +kernel
theorem dX10_laySplit_305 : decode cX10_laySplit 305 = .ok (.getfield 50, 3) := by decide +kernel
theorem dX10_laySplit_308 : decode cX10_laySplit 308 = .ok (.iload 8, 2) := by decide +kernel
theorem dX10_laySplit_310 : decode cX10_laySplit 310 = .ok (.iaload, 1) := by decide +kernel
theorem dX10_laySplit_311 : decode cX10_laySplit 311 = .ok (.iadd, 1) := by decide +kernel
theorem dX10_laySplit_312 : decode cX10_laySplit 312 = .ok (.istore 6, 2) := by decide +kernel
theorem dX10_laySplit_314 : decode cX10_laySplit 314 = .ok (.iload 7, 2) := by decide +kernel
theorem dX10_laySplit_316 : decode cX10_laySplit 316 = .ok (.ifCond .eq 17, 3) := by decide +kernel
theorem dX10_laySplit_319 : decode cX10_laySplit 319 = .ok (.aload_n 0, 1) := by decide +kernel
theorem dX10_laySplit_320 : decode cX10_laySplit 320 = .ok (.getfield 50, 3) := by decide +kernel
theorem dX10_laySplit_323 : decode cX10_laySplit 323 = .ok (.iload 8, 2) := by decide +kernel
theorem dX10_laySplit_325 : decode cX10_laySplit 325 = .ok (.iaload, 1) := by decide +kernel
theorem dX10_laySplit_326 : decode cX10_laySplit 326 = .ok (.ifCond .le 7, 3) := by decide +kernel
theorem dX10_laySplit_329 : decode cX10_laySplit 329 = .ok (.iconst 1, 1) := by decide +kernel
theorem dX10_laySplit_330 : decode cX10_laySplit 330 = .ok (.goto 4, 3) := by decide +kernel
theorem dX10_laySplit_333 : decode cX10_laySplit 333 = .ok (.iconst 0, 1) := by decide +kernel
theorem dX10_laySplit_334 : decode cX10_laySplit 334 = .ok (.istore 7, 2) := by decide +kernel
theorem dX10_laySplit_336 : decode cX10_laySplit 336 = .ok (.iinc 8 1, 3) := by decide +kernel
theorem dX10_laySplit_339 : decode cX10_laySplit 339 = .ok (.goto (-108), 3) := by decide +kernel
theorem dX10_laySplit_342 : decode cX10_laySplit 342 = .ok (.iload 7, 2) := by decide +kernel
theorem dX10_laySplit_344 : decode cX10_laySplit 344 = .ok (.ireturn, 1) := by decide +kernel
theorem dX10_lay_0 : decode cX10_lay 0 = .ok (.aload_n 0, 1) := by decide +kernel
theorem dX10_lay_1 : decode cX10_lay 1 = .ok (.iconst 0, 1) := by decide +kernel
theorem dX10_lay_2 : decode cX10_lay 2 = .ok (.putfield 173, 3) := by decide +kernel
theorem dX10_lay_5 : decode cX10_lay 5 = .ok (.iconst 4, 1) := by decide +kernel
theorem dX10_lay_6 : decode cX10_lay 6 = .ok (.iload_n 1, 1) := by decide +kernel
theorem dX10_lay_7 : decode cX10_lay 7 = .ok (.imul, 1) := by decide +kernel
theorem dX10_lay_8 : decode cX10_lay 8 = .ok (.istore 4, 2) := by decide +kernel
theorem dX10_lay_10 : decode cX10_lay 10 = .ok (.iload_n 2, 1) := by decide +kernel
theorem dX10_lay_11 : decode cX10_lay 11 = .ok (.i2l, 1) := by decide +kernel
theorem dX10_lay_12 : decode cX10_lay 12 = .ok (.aload_n 0, 1) := by decide +kernel
theorem dX10_lay_13 : decode cX10_lay 13 = .ok (.getfield 35, 3) := by decide +kernel
theorem dX10_lay_16 : decode cX10_lay 16 = .ok (.iload 4, 2) := by decide +kernel
theorem dX10_lay_18 : decode cX10_lay 18 = .ok (.iaload, 1) := by decide +kernel
theorem dX10_lay_19 : decode cX10_lay 19 = .ok (.i2l, 1) := by decide +kernel
theorem dX10_lay_20 : decode cX10_lay 20 = .ok (.aload_n 0, 1) := by decide +kernel
theorem dX10_lay_21 : decode cX10_lay 21 = .ok (.getfield 35, 3) := by decide +kernel
theorem dX10_lay_24 : decode cX10_lay 24 = .ok (.iload 4, 2) := by decide +kernel
theorem dX10_lay_26 : decode cX10_lay 26 = .ok (.iconst 1, 1) := by decide +kernel
theorem dX10_lay_27 : decode cX10_lay 27 = .ok (.iadd, 1) := by decide +kernel
theorem dX10_lay_28 : decode cX10_lay 28 = .ok (.iaload, 1) := by decide +kernel
theorem dX10_lay_29 : decode cX10_lay 29 = .ok (.i2l, 1) := by decide +kernel
theorem dX10_lay_30 : decode cX10_lay 30 = .ok (.invokestatic 124, 3) := by decide +kernel
theorem dX10_lay_33 : decode cX10_lay 33 = .ok (.ifCond .eq 31, 3) := by decide +kernel
theorem dX10_lay_36 : decode cX10_lay 36 = .ok (.iload_n 3, 1) := by decide +kernel
theorem dX10_lay_37 : decode cX10_lay 37 = .ok (.i2l, 1) := by decide +kernel
theorem dX10_lay_38 : decode cX10_lay 38 = .ok (.aload_n 0, 1) := by decide +kernel
theorem dX10_lay_39 : decode cX10_lay 39 = .ok (.getfield 35, 3) := by decide +kernel
theorem dX10_lay_42 : decode cX10_lay 42 = .ok (.iload 4, 2) := by decide +kernel
theorem dX10_lay_44 : decode cX10_lay 44 = .ok (.iconst 2, 1) := by decide +kernel
theorem dX10_lay_45 : decode cX10_lay 45 = .ok (.iadd, 1) := by decide +kernel
theorem dX10_lay_46 : decode cX10_lay 46 = .ok (.iaload, 1) := by decide +kernel
theorem dX10_lay_47 : decode cX10_lay 47 = .ok (.i2l, 1) := by decide +kernel
theorem dX10_lay_48 : decode cX10_lay 48 = .ok (.aload_n 0, 1) := by decide +kernel
theorem dX10_lay_49 : decode cX10_lay 49 = .ok (.getfield 35, 3) := by decide +kernel
theorem dX10_lay_52 : decode cX10_lay 52 = .ok (.iload 4, 2) := by decide +kernel
theorem dX10_lay_54 : decode cX10_lay 54 = .ok (.iconst 3, 1) := by decide +kernel
theorem dX10_lay_55 : decode cX10_lay 55 = .ok (.iadd, 1) := by decide +kernel
theorem dX10_lay_56 : decode cX10_lay 56 = .ok (.iaload, 1) := by decide +kernel
theorem dX10_lay_57 : decode cX10_lay 57 = .ok (.i2l, 1) := by decide +kernel
theorem dX10_lay_58 : decode cX10_lay 58 = .ok (.invokestatic 124, 3) := by decide +kernel
theorem dX10_lay_61 : decode cX10_lay 61 = .ok (.ifCond .ne 5, 3) := by decide +kernel
theorem dX10_lay_64 : decode cX10_lay 64 = .ok (.iconst 0, 1) := by decide +kernel
theorem dX10_lay_65 : decode cX10_lay 65 = .ok (.ireturn, 1) := by decide +kernel
theorem dX10_lay_66 : decode cX10_lay 66 = .ok (.aload_n 0, 1) := by decide +kernel
theorem dX10_lay_67 : decode cX10_lay 67 = .ok (.iload_n 1, 1) := by decide +kernel
theorem dX10_lay_68 : decode cX10_lay 68 = .ok (.invokevirtual 176, 3) := by decide +kernel
theorem dX10_lay_71 : decode cX10_lay 71 = .ok (.ifCond .eq 7, 3) := by decide +kernel
theorem dX10_lay_74 : decode cX10_lay 74 = .ok (.iload_n 3, 1) := by decide +kernel
theorem dX10_lay_75 : decode cX10_lay 75 = .ok (.goto 4, 3) := by decide +kernel
theorem dX10_lay_78 : decode cX10_lay 78 = .ok (.iload_n 2, 1) := by decide +kernel
theorem dX10_lay_79 : decode cX10_lay 79 = .ok (.istore 5, 2) := by decide +kernel
theorem dX10_lay_81 : decode cX10_lay 81 = .ok (.aload_n 0, 1) := by decide +kernel
theorem dX10_lay_82 : decode cX10_lay 82 = .ok (.getfield 13, 3) := by decide +kernel
theorem dX10_lay_85 : decode cX10_lay 85 = .ok (.iload_n 1, 1) := by decide +kernel
theorem dX10_lay_86 : decode cX10_lay 86 = .ok (.iaload, 1) := by decide +kernel
theorem dX10_lay_87 : decode cX10_lay 87 = .ok (.ifCond .eq 36, 3) := by decide +kernel
theorem dX10_lay_90 : decode cX10_lay 90 = .ok (.aload_n 0, 1) := by decide +kernel
theorem dX10_lay_91 : decode cX10_lay 91 = .ok (.getfield 13, 3) := by decide +kernel
theorem dX10_lay_94 : decode cX10_lay 94 = .ok (.iload_n 1, 1) := by decide +kernel
theorem dX10_lay_95 : decode cX10_lay 95 = .ok (.iaload, 1) := by decide +kernel
theorem dX10_lay_96 : decode cX10_lay 96 = .ok (.iconst 3, 1) := by decide +kernel
theorem dX10_lay_97 : decode cX10_lay 97 = .ok (.if_icmp .ge 16, 3) := by decide +kernel
theorem dX10_lay_100 : decode cX10_lay 100 = .ok (.aload_n 0, 1) := by decide +kernel
theorem dX10_lay_101 : decode cX10_lay 101 = .ok (.iload_n 1, 1) := by decide +kernel
theorem dX10_lay_102 : decode cX10_lay 102 = .ok (.iload 5, 2) := by decide +kernel
theorem dX10_lay_104 : decode cX10_lay 104 = .ok (.invokevirtual 179, 3) := by decide +kernel
theorem dX10_lay_107 : decode cX10_lay 107 = .ok (.ifCond .eq 20, 3) := by decide +kernel
theorem dX10_lay_110 : decode cX10_lay 110 = .ok (.goto 13, 3) := by decide +kernel
theorem dX10_lay_113 : decode cX10_lay 113 = .ok (.aload_n 0, 1) := by decide +kernel
theorem dX10_lay_114 : decode cX10_lay 114 = .ok (.iload_n 1, 1) := by decide +kernel
theorem dX10_lay_115 : decode cX10_lay 115 = .ok (.iload 5, 2) := by decide +kernel
theorem dX10_lay_117 : decode cX10_lay 117 = .ok (.invokevirtual 183, 3) := by decide +kernel
theorem dX10_lay_120 : decode cX10_lay 120 = .ok (.ifCond .eq 7, 3) := by decide +kernel
theorem dX10_lay_123 : decode cX10_lay 123 = .ok (.iconst 1, 1) := by decide +kernel
theorem dX10_lay_124 : decode cX10_lay 124 = .ok (.goto 4, 3) := by decide +kernel
theorem dX10_lay_127 : decode cX10_lay 127 = .ok (.iconst 0, 1) := by decide +kernel
theorem dX10_lay_128 : decode cX10_lay 128 = .ok (.ireturn, 1) := by decide +kernel
theorem dX10_holds_0 : decode cX10_holds 0 = .ok (.aload_n 0, 1) := by decide +kernel
theorem dX10_holds_1 : decode cX10_holds 1 = .ok (.iload_n 1, 1) := by decide +kernel
theorem dX10_holds_2 : decode cX10_holds 2 = .ok (.invokevirtual 158, 3) := by decide +kernel
theorem dX10_holds_5 : decode cX10_holds 5 = .ok (.ifCond .ne 5, 3) := by decide +kernel
theorem dX10_holds_8 : decode cX10_holds 8 = .ok (.iconst (-1), 1) := by decide +kernel
theorem dX10_holds_9 : decode cX10_holds 9 = .ok (.ireturn, 1) := by decide +kernel
theorem dX10_holds_10 : decode cX10_holds 10 = .ok (.iload_n 2, 1) := by decide +kernel
theorem dX10_holds_11 : decode cX10_holds 11 = .ok (.invokestatic 161, 3) := by decide +kernel
theorem dX10_holds_14 : decode cX10_holds 14 = .ok (.ifCond .eq 10, 3) := by decide +kernel
theorem dX10_holds_17 : decode cX10_holds 17 = .ok (.iload_n 3, 1) := by decide +kernel
theorem dX10_holds_18 : decode cX10_holds 18 = .ok (.invokestatic 161, 3) := by decide +kernel
theorem dX10_holds_21 : decode cX10_holds 21 = .ok (.ifCond .ne 8, 3) := by decide +kernel
theorem dX10_holds_24 : decode cX10_holds 24 = .ok (.bipush (-2), 2) := by decide +kernel
theorem dX10_holds_26 : decode cX10_holds 26 = .ok (.goto 18, 3) := by decide +kernel
theorem dX10_holds_29 : decode cX10_holds 29 = .ok (.aload_n 0, 1) := by decide +kernel
theorem dX10_holds_30 : decode cX10_holds 30 = .ok (.iload_n 1, 1) := by decide +kernel
theorem dX10_holds_31 : decode cX10_holds 31 = .ok (.iload_n 2, 1) := by decide +kernel
theorem dX10_holds_32 : decode cX10_holds 32 = .ok (.iload_n 3, 1) := by decide +kernel
theorem dX10_holds_33 : decode cX10_holds 33 = .ok (.invokevirtual 186, 3) := by decide +kernel
theorem dX10_holds_36 : decode cX10_holds 36 = .ok (.ifCond .eq 7, 3) := by decide +kernel
theorem dX10_holds_39 : decode cX10_holds 39 = .ok (.iconst 1, 1) := by decide +kernel
theorem dX10_holds_40 : decode cX10_holds 40 = .ok (.goto 4, 3) := by decide +kernel
theorem dX10_holds_43 : decode cX10_holds 43 = .ok (.iconst 0, 1) := by decide +kernel
theorem dX10_holds_44 : decode cX10_holds 44 = .ok (.ireturn, 1) := by decide +kernel
theorem dX10_piece_0 : decode cX10_piece 0 = .ok (.aload_n 0, 1) := by decide +kernel
theorem dX10_piece_1 : decode cX10_piece 1 = .ok (.iload_n 1, 1) := by decide +kernel
theorem dX10_piece_2 : decode cX10_piece 2 = .ok (.invokevirtual 158, 3) := by decide +kernel
theorem dX10_piece_5 : decode cX10_piece 5 = .ok (.ifCond .ne 5, 3) := by decide +kernel
theorem dX10_piece_8 : decode cX10_piece 8 = .ok (.iconst (-1), 1) := by decide +kernel
theorem dX10_piece_9 : decode cX10_piece 9 = .ok (.ireturn, 1) := by decide +kernel
theorem dX10_piece_10 : decode cX10_piece 10 = .ok (.iload_n 2, 1) := by decide +kernel
theorem dX10_piece_11 : decode cX10_piece 11 = .ok (.invokestatic 161, 3) := by decide +kernel
theorem dX10_piece_14 : decode cX10_piece 14 = .ok (.ifCond .eq 10, 3) := by decide +kernel
theorem dX10_piece_17 : decode cX10_piece 17 = .ok (.iload_n 3, 1) := by decide +kernel
theorem dX10_piece_18 : decode cX10_piece 18 = .ok (.invokestatic 161, 3) := by decide +kernel
theorem dX10_piece_21 : decode cX10_piece 21 = .ok (.ifCond .ne 6, 3) := by decide +kernel
theorem dX10_piece_24 : decode cX10_piece 24 = .ok (.bipush (-2), 2) := by decide +kernel
theorem dX10_piece_26 : decode cX10_piece 26 = .ok (.ireturn, 1) := by decide +kernel
theorem dX10_piece_27 : decode cX10_piece 27 = .ok (.aload_n 0, 1) := by decide +kernel
theorem dX10_piece_28 : decode cX10_piece 28 = .ok (.iload_n 1, 1) := by decide +kernel
theorem dX10_piece_29 : decode cX10_piece 29 = .ok (.iload_n 2, 1) := by decide +kernel
theorem dX10_piece_30 : decode cX10_piece 30 = .ok (.iload_n 3, 1) := by decide +kernel
theorem dX10_piece_31 : decode cX10_piece 31 = .ok (.invokevirtual 186, 3) := by decide +kernel
theorem dX10_piece_34 : decode cX10_piece 34 = .ok (.ifCond .ne 6, 3) := by decide +kernel
theorem dX10_piece_37 : decode cX10_piece 37 = .ok (.bipush (-3), 2) := by decide +kernel
theorem dX10_piece_39 : decode cX10_piece 39 = .ok (.ireturn, 1) := by decide +kernel
theorem dX10_piece_40 : decode cX10_piece 40 = .ok (.iload 4, 2) := by decide +kernel
theorem dX10_piece_42 : decode cX10_piece 42 = .ok (.i2l, 1) := by decide +kernel
theorem dX10_piece_43 : decode cX10_piece 43 = .ok (.lconst 0, 1) := by decide +kernel
theorem dX10_piece_44 : decode cX10_piece 44 = .ok (.aload_n 0, 1) := by decide +kernel
theorem dX10_piece_45 : decode cX10_piece 45 = .ok (.getfield 173, 3) := by decide +kernel
theorem dX10_piece_48 : decode cX10_piece 48 = .ok (.iconst 1, 1) := by decide +kernel
theorem dX10_piece_49 : decode cX10_piece 49 = .ok (.isub, 1) := by decide +kernel
theorem dX10_piece_50 : decode cX10_piece 50 = .ok (.i2l, 1) := by decide +kernel
theorem dX10_piece_51 : decode cX10_piece 51 = .ok (.invokestatic 124, 3) := by decide +kernel
theorem dX10_piece_54 : decode cX10_piece 54 = .ok (.ifCond .ne 8, 3) := by decide +kernel
theorem dX10_piece_57 : decode cX10_piece 57 = .ok (.bipush (-9), 2) := by decide +kernel
theorem dX10_piece_59 : decode cX10_piece 59 = .ok (.goto 25, 3) := by decide +kernel
theorem dX10_piece_62 : decode cX10_piece 62 = .ok (.iload 5, 2) := by decide +kernel
theorem dX10_piece_64 : decode cX10_piece 64 = .ok (.ifCond .eq 13, 3) := by decide +kernel
theorem dX10_piece_67 : decode cX10_piece 67 = .ok (.aload_n 0, 1) := by decide +kernel
theorem dX10_piece_68 : decode cX10_piece 68 = .ok (.getfield 50, 3) := by decide +kernel
theorem dX10_piece_71 : decode cX10_piece 71 = .ok (.iload 4, 2) := by decide +kernel
theorem dX10_piece_73 : decode cX10_piece 73 = .ok (.iaload, 1) := by decide +kernel
theorem dX10_piece_74 : decode cX10_piece 74 = .ok (.goto 10, 3) := by decide +kernel
theorem dX10_piece_77 : decode cX10_piece 77 = .ok (.aload_n 0, 1) := by decide +kernel
theorem dX10_piece_78 : decode cX10_piece 78 = .ok (.getfield 47, 3) := by decide +kernel
theorem dX10_piece_81 : decode cX10_piece 81 = .ok (.iload 4, 2) := by decide +kernel
theorem dX10_piece_83 : decode cX10_piece 83 = .ok (.iaload, 1) := by decide +kernel
theorem dX10_piece_84 : decode cX10_piece 84 = .ok (.ireturn, 1) := by decide +kernel
theorem dX10_put_0 : decode cX10_put 0 = .ok (.aload_n 0, 1) := by decide +kernel
theorem dX10_put_1 : decode cX10_put 1 = .ok (.getfield 68, 3) := by decide +kernel
theorem dX10_put_4 : decode cX10_put 4 = .ok (.aload_n 0, 1) := by decide +kernel
theorem dX10_put_5 : decode cX10_put 5 = .ok (.getfield 190, 3) := by decide +kernel
theorem dX10_put_8 : decode cX10_put 8 = .ok (.iload_n 1, 1) := by decide +kernel
theorem dX10_put_9 : decode cX10_put 9 = .ok (.iastore, 1) := by decide +kernel
theorem dX10_put_10 : decode cX10_put 10 = .ok (.aload_n 0, 1) := by decide +kernel
theorem dX10_put_11 : decode cX10_put 11 = .ok (.getfield 71, 3) := by decide +kernel
theorem dX10_put_14 : decode cX10_put 14 = .ok (.aload_n 0, 1) := by decide +kernel
theorem dX10_put_15 : decode cX10_put 15 = .ok (.getfield 190, 3) := by decide +kernel
theorem dX10_put_18 : decode cX10_put 18 = .ok (.iload_n 2, 1) := by decide +kernel
theorem dX10_put_19 : decode cX10_put 19 = .ok (.iastore, 1) := by decide +kernel
theorem dX10_put_20 : decode cX10_put 20 = .ok (.aload_n 0, 1) := by decide +kernel
theorem dX10_put_21 : decode cX10_put 21 = .ok (.getfield 74, 3) := by decide +kernel
theorem dX10_put_24 : decode cX10_put 24 = .ok (.aload_n 0, 1) := by decide +kernel
theorem dX10_put_25 : decode cX10_put 25 = .ok (.getfield 190, 3) := by decide +kernel
theorem dX10_put_28 : decode cX10_put 28 = .ok (.iload_n 3, 1) := by decide +kernel
theorem dX10_put_29 : decode cX10_put 29 = .ok (.iastore, 1) := by decide +kernel
theorem dX10_put_30 : decode cX10_put 30 = .ok (.aload_n 0, 1) := by decide +kernel
theorem dX10_put_31 : decode cX10_put 31 = .ok (.getfield 77, 3) := by decide +kernel
theorem dX10_put_34 : decode cX10_put 34 = .ok (.aload_n 0, 1) := by decide +kernel
theorem dX10_put_35 : decode cX10_put 35 = .ok (.getfield 190, 3) := by decide +kernel
theorem dX10_put_38 : decode cX10_put 38 = .ok (.iload 4, 2) := by decide +kernel
theorem dX10_put_40 : decode cX10_put 40 = .ok (.iastore, 1) := by decide +kernel
theorem dX10_put_41 : decode cX10_put 41 = .ok (.aload_n 0, 1) := by decide +kernel
theorem dX10_put_42 : decode cX10_put 42 = .ok (.getfield 80, 3) := by decide +kernel
theorem dX10_put_45 : decode cX10_put 45 = .ok (.aload_n 0, 1) := by decide +kernel
theorem dX10_put_46 : decode cX10_put 46 = .ok (.getfield 190, 3) := by decide +kernel
theorem dX10_put_49 : decode cX10_put 49 = .ok (.iload 5, 2) := by decide +kernel
theorem dX10_put_51 : decode cX10_put 51 = .ok (.iastore, 1) := by decide +kernel
theorem dX10_put_52 : decode cX10_put 52 = .ok (.return_, 1) := by decide +kernel
theorem dX10_picked_0 : decode cX10_picked 0 = .ok (.iconst 0, 1) := by decide +kernel
theorem dX10_picked_1 : decode cX10_picked 1 = .ok (.istore 5, 2) := by decide +kernel
theorem dX10_picked_3 : decode cX10_picked 3 = .ok (.iconst 0, 1) := by decide +kernel
theorem dX10_picked_4 : decode cX10_picked 4 = .ok (.istore 6, 2) := by decide +kernel
theorem dX10_picked_6 : decode cX10_picked 6 = .ok (.iload 6, 2) := by decide +kernel
theorem dX10_picked_8 : decode cX10_picked 8 = .ok (.aload_n 0, 1) := by decide +kernel
theorem dX10_picked_9 : decode cX10_picked 9 = .ok (.getfield 128, 3) := by decide +kernel
theorem dX10_picked_12 : decode cX10_picked 12 = .ok (.if_icmp .ge 42, 3) := by decide +kernel
theorem dX10_picked_15 : decode cX10_picked 15 = .ok (.iload 5, 2) := by decide +kernel
theorem dX10_picked_17 : decode cX10_picked 17 = .ok (.aload_n 0, 1) := by decide +kernel
theorem dX10_picked_18 : decode cX10_picked 18 = .ok (.getfield 7, 3) := by decide +kernel
theorem dX10_picked_21 : decode cX10_picked 21 = .ok (.iload 6, 2) := by decide +kernel
theorem dX10_picked_23 : decode cX10_picked 23 = .ok (.iaload, 1) := by decide +kernel
theorem dX10_picked_24 : decode cX10_picked 24 = .ok (.iload_n 1, 1) := by decide +kernel
theorem dX10_picked_25 : decode cX10_picked 25 = .ok (.if_icmp .ne 19, 3) := by decide +kernel
theorem dX10_picked_28 : decode cX10_picked 28 = .ok (.aload_n 0, 1) := by decide +kernel
theorem dX10_picked_29 : decode cX10_picked 29 = .ok (.iload 6, 2) := by decide +kernel
theorem dX10_picked_31 : decode cX10_picked 31 = .ok (.iload_n 3, 1) := by decide +kernel
theorem dX10_picked_32 : decode cX10_picked 32 = .ok (.iload 4, 2) := by decide +kernel
theorem dX10_picked_34 : decode cX10_picked 34 = .ok (.invokevirtual 186, 3) := by decide +kernel
theorem dX10_picked_37 : decode cX10_picked 37 = .ok (.ifCond .eq 7, 3) := by decide +kernel
theorem dX10_picked_40 : decode cX10_picked 40 = .ok (.iconst 1, 1) := by decide +kernel
theorem dX10_picked_41 : decode cX10_picked 41 = .ok (.goto 4, 3) := by decide +kernel
theorem dX10_picked_44 : decode cX10_picked 44 = .ok (.iconst 0, 1) := by decide +kernel
theorem dX10_picked_45 : decode cX10_picked 45 = .ok (.iadd, 1) := by decide +kernel
theorem dX10_picked_46 : decode cX10_picked 46 = .ok (.istore 5, 2) := by decide +kernel
theorem dX10_picked_48 : decode cX10_picked 48 = .ok (.iinc 6 1, 3) := by decide +kernel
theorem dX10_picked_51 : decode cX10_picked 51 = .ok (.goto (-45), 3) := by decide +kernel
theorem dX10_picked_54 : decode cX10_picked 54 = .ok (.iload 5, 2) := by decide +kernel
theorem dX10_picked_56 : decode cX10_picked 56 = .ok (.ifCond .ne 6, 3) := by decide +kernel
theorem dX10_picked_59 : decode cX10_picked 59 = .ok (.bipush (-9), 2) := by decide +kernel
theorem dX10_picked_61 : decode cX10_picked 61 = .ok (.ireturn, 1) := by decide +kernel
theorem dX10_picked_62 : decode cX10_picked 62 = .ok (.iload_n 2, 1) := by decide +kernel
theorem dX10_picked_63 : decode cX10_picked 63 = .ok (.ldc 193, 2) := by decide +kernel
theorem dX10_picked_65 : decode cX10_picked 65 = .ok (.imul, 1) := by decide +kernel
theorem dX10_picked_66 : decode cX10_picked 66 = .ok (.sipush 12345, 3) := by decide +kernel
theorem dX10_picked_69 : decode cX10_picked 69 = .ok (.iadd, 1) := by decide +kernel
theorem dX10_picked_70 : decode cX10_picked 70 = .ok (.bipush 16, 2) := by decide +kernel
theorem dX10_picked_72 : decode cX10_picked 72 = .ok (.ishr, 1) := by decide +kernel
theorem dX10_picked_73 : decode cX10_picked 73 = .ok (.sipush 32767, 3) := by decide +kernel
theorem dX10_picked_76 : decode cX10_picked 76 = .ok (.iand, 1) := by decide +kernel
theorem dX10_picked_77 : decode cX10_picked 77 = .ok (.iload 5, 2) := by decide +kernel
theorem dX10_picked_79 : decode cX10_picked 79 = .ok (.irem, 1) := by decide +kernel
theorem dX10_picked_80 : decode cX10_picked 80 = .ok (.istore 6, 2) := by decide +kernel
theorem dX10_picked_82 : decode cX10_picked 82 = .ok (.iconst 0, 1) := by decide +kernel
theorem dX10_picked_83 : decode cX10_picked 83 = .ok (.istore 7, 2) := by decide +kernel
theorem dX10_picked_85 : decode cX10_picked 85 = .ok (.aload_n 0, 1) := by decide +kernel
theorem dX10_picked_86 : decode cX10_picked 86 = .ok (.getfield 7, 3) := by decide +kernel
theorem dX10_picked_89 : decode cX10_picked 89 = .ok (.iload 7, 2) := by decide +kernel
theorem dX10_picked_91 : decode cX10_picked 91 = .ok (.iaload, 1) := by decide +kernel
theorem dX10_picked_92 : decode cX10_picked 92 = .ok (.iload_n 1, 1) := by decide +kernel
theorem dX10_picked_93 : decode cX10_picked 93 = .ok (.if_icmp .ne 20, 3) := by decide +kernel
theorem dX10_picked_96 : decode cX10_picked 96 = .ok (.aload_n 0, 1) := by decide +kernel
theorem dX10_picked_97 : decode cX10_picked 97 = .ok (.iload 7, 2) := by decide +kernel
theorem dX10_picked_99 : decode cX10_picked 99 = .ok (.iload_n 3, 1) := by decide +kernel
theorem dX10_picked_100 : decode cX10_picked 100 = .ok (.iload 4, 2) := by decide +kernel
theorem dX10_picked_102 : decode cX10_picked 102 = .ok (.invokevirtual 186, 3) := by decide +kernel
theorem dX10_picked_105 : decode cX10_picked 105 = .ok (.ifCond .eq 8, 3) := by decide +kernel
theorem dX10_picked_108 : decode cX10_picked 108 = .ok (.iload 6, 2) := by decide +kernel
theorem dX10_picked_110 : decode cX10_picked 110 = .ok (.ifCond .le 42, 3) := by decide +kernel
theorem dX10_picked_113 : decode cX10_picked 113 = .ok (.iload 6, 2) := by decide +kernel
theorem dX10_picked_115 : decode cX10_picked 115 = .ok (.aload_n 0, 1) := by decide +kernel
theorem dX10_picked_116 : decode cX10_picked 116 = .ok (.getfield 7, 3) := by decide +kernel
theorem dX10_picked_119 : decode cX10_picked 119 = .ok (.iload 7, 2) := by decide +kernel
theorem dX10_picked_121 : decode cX10_picked 121 = .ok (.iaload, 1) := by decide +kernel
theorem dX10_picked_122 : decode cX10_picked 122 = .ok (.iload_n 1, 1) := by decide +kernel
theorem dX10_picked_123 : decode cX10_picked 123 = .ok (.if_icmp .ne 19, 3) := by decide +kernel
theorem dX10_picked_126 : decode cX10_picked 126 = .ok (.aload_n 0, 1) := by decide +kernel
theorem dX10_picked_127 : decode cX10_picked 127 = .ok (.iload 7, 2) := by decide +kernel
theorem dX10_picked_129 : decode cX10_picked 129 = .ok (.iload_n 3, 1) := by decide +kernel
theorem dX10_picked_130 : decode cX10_picked 130 = .ok (.iload 4, 2) := by decide +kernel
theorem dX10_picked_132 : decode cX10_picked 132 = .ok (.invokevirtual 186, 3) := by decide +kernel
theorem dX10_picked_135 : decode cX10_picked 135 = .ok (.ifCond .eq 7, 3) := by decide +kernel
theorem dX10_picked_138 : decode cX10_picked 138 = .ok (.iconst 1, 1) := by decide +kernel
theorem dX10_picked_139 : decode cX10_picked 139 = .ok (.goto 4, 3) := by decide +kernel
theorem dX10_picked_142 : decode cX10_picked 142 = .ok (.iconst 0, 1) := by decide +kernel
theorem dX10_picked_143 : decode cX10_picked 143 = .ok (.isub, 1) := by decide +kernel
theorem dX10_picked_144 : decode cX10_picked 144 = .ok (.istore 6, 2) := by decide +kernel
theorem dX10_picked_146 : decode cX10_picked 146 = .ok (.iinc 7 1, 3) := by decide +kernel
theorem dX10_picked_149 : decode cX10_picked 149 = .ok (.goto (-64), 3) := by decide +kernel
theorem dX10_picked_152 : decode cX10_picked 152 = .ok (.iload 7, 2) := by decide +kernel
theorem dX10_picked_154 : decode cX10_picked 154 = .ok (.ireturn, 1) := by decide +kernel
theorem dX10_putPieces_0 : decode cX10_putPieces 0 = .ok (.aload_n 0, 1) := by decide +kernel
theorem dX10_putPieces_1 : decode cX10_putPieces 1 = .ok (.iload_n 1, 1) := by decide +kernel
theorem dX10_putPieces_2 : decode cX10_putPieces 2 = .ok (.invokevirtual 176, 3) := by decide +kernel
theorem dX10_putPieces_5 : decode cX10_putPieces 5 = .ok (.istore 8, 2) := by decide +kernel
theorem dX10_putPieces_7 : decode cX10_putPieces 7 = .ok (.aload_n 0, 1) := by decide +kernel
theorem dX10_putPieces_8 : decode cX10_putPieces 8 = .ok (.getfield 173, 3) := by decide +kernel
theorem dX10_putPieces_11 : decode cX10_putPieces 11 = .ok (.iconst 1, 1) := by decide +kernel
theorem dX10_putPieces_12 : decode cX10_putPieces 12 = .ok (.isub, 1) := by decide +kernel
theorem dX10_putPieces_13 : decode cX10_putPieces 13 = .ok (.istore 9, 2) := by decide +kernel
theorem dX10_putPieces_15 : decode cX10_putPieces 15 = .ok (.iload 9, 2) := by decide +kernel
theorem dX10_putPieces_17 : decode cX10_putPieces 17 = .ok (.ifCond .lt 134, 3) := by decide +kernel
theorem dX10_putPieces_20 : decode cX10_putPieces 20 = .ok (.aload_n 0, 1) := by decide +kernel
theorem dX10_putPieces_21 : decode cX10_putPieces 21 = .ok (.aload_n 0, 1) := by decide +kernel
theorem dX10_putPieces_22 : decode cX10_putPieces 22 = .ok (.getfield 53, 3) := by decide +kernel
theorem dX10_putPieces_25 : decode cX10_putPieces 25 = .ok (.iload 9, 2) := by decide +kernel
theorem dX10_putPieces_27 : decode cX10_putPieces 27 = .ok (.iaload, 1) := by decide +kernel
theorem dX10_putPieces_28 : decode cX10_putPieces 28 = .ok (.bipush 31, 2) := by decide +kernel
theorem dX10_putPieces_30 : decode cX10_putPieces 30 = .ok (.iload_n 2, 1) := by decide +kernel
theorem dX10_putPieces_31 : decode cX10_putPieces 31 = .ok (.imul, 1) := by decide +kernel
theorem dX10_putPieces_32 : decode cX10_putPieces 32 = .ok (.iload 9, 2) := by decide +kernel
theorem dX10_putPieces_34 : decode cX10_putPieces 34 = .ok (.iadd, 1) := by decide +kernel
theorem dX10_putPieces_35 : decode cX10_putPieces 35 = .ok (.iconst 1, 1) := by decide +kernel
theorem dX10_putPieces_36 : decode cX10_putPieces 36 = .ok (.iadd, 1) := by decide +kernel
theorem dX10_putPieces_37 : decode cX10_putPieces 37 = .ok (.iload_n 3, 1) := by decide +kernel
theorem dX10_putPieces_38 : decode cX10_putPieces 38 = .ok (.iconst 1, 1) := by decide +kernel
theorem dX10_putPieces_39 : decode cX10_putPieces 39 = .ok (.iadd, 1) := by decide +kernel
theorem dX10_putPieces_40 : decode cX10_putPieces 40 = .ok (.iload 8, 2) := by decide +kernel
theorem dX10_putPieces_42 : decode cX10_putPieces 42 = .ok (.ifCond .eq 8, 3) := by decide +kernel
theorem dX10_putPieces_45 : decode cX10_putPieces 45 = .ok (.iload 4, 2) := by decide +kernel
theorem dX10_putPieces_47 : decode cX10_putPieces 47 = .ok (.goto 13, 3) := by decide +kernel
theorem dX10_putPieces_50 : decode cX10_putPieces 50 = .ok (.iload 4, 2) := by decide +kernel
theorem dX10_putPieces_52 : decode cX10_putPieces 52 = .ok (.aload_n 0, 1) := by decide +kernel
theorem dX10_putPieces_53 : decode cX10_putPieces 53 = .ok (.getfield 47, 3) := by decide +kernel
theorem dX10_putPieces_56 : decode cX10_putPieces 56 = .ok (.iload 9, 2) := by decide +kernel
theorem dX10_putPieces_58 : decode cX10_putPieces 58 = .ok (.iaload, 1) := by decide +kernel
theorem dX10_putPieces_59 : decode cX10_putPieces 59 = .ok (.iadd, 1) := by decide +kernel
theorem dX10_putPieces_60 : decode cX10_putPieces 60 = .ok (.iload 8, 2) := by decide +kernel
theorem dX10_putPieces_62 : decode cX10_putPieces 62 = .ok (.ifCond .eq 16, 3) := by decide +kernel
theorem dX10_putPieces_65 : decode cX10_putPieces 65 = .ok (.iload 5, 2) := by decide +kernel
theorem dX10_putPieces_67 : decode cX10_putPieces 67 = .ok (.aload_n 0, 1) := by decide +kernel
theorem dX10_putPieces_68 : decode cX10_putPieces 68 = .ok (.getfield 47, 3) := by decide +kernel
theorem dX10_putPieces_71 : decode cX10_putPieces 71 = .ok (.iload 9, 2) := by decide +kernel
theorem dX10_putPieces_73 : decode cX10_putPieces 73 = .ok (.iaload, 1) := by decide +kernel
theorem dX10_putPieces_74 : decode cX10_putPieces 74 = .ok (.iadd, 1) := by decide +kernel
theorem dX10_putPieces_75 : decode cX10_putPieces 75 = .ok (.goto 5, 3) := by decide +kernel
theorem dX10_putPieces_78 : decode cX10_putPieces 78 = .ok (.iload 5, 2) := by decide +kernel
theorem dX10_putPieces_80 : decode cX10_putPieces 80 = .ok (.invokevirtual 194, 3) := by decide +kernel
theorem dX10_putPieces_83 : decode cX10_putPieces 83 = .ok (.aload_n 0, 1) := by decide +kernel
theorem dX10_putPieces_84 : decode cX10_putPieces 84 = .ok (.getfield 83, 3) := by decide +kernel
theorem dX10_putPieces_87 : decode cX10_putPieces 87 = .ok (.aload_n 0, 1) := by decide +kernel
theorem dX10_putPieces_88 : decode cX10_putPieces 88 = .ok (.getfield 190, 3) := by decide +kernel
theorem dX10_putPieces_91 : decode cX10_putPieces 91 = .ok (.iload 8, 2) := by decide +kernel
theorem dX10_putPieces_93 : decode cX10_putPieces 93 = .ok (.ifCond .eq 8, 3) := by decide +kernel
theorem dX10_putPieces_96 : decode cX10_putPieces 96 = .ok (.iload 6, 2) := by decide +kernel
theorem dX10_putPieces_98 : decode cX10_putPieces 98 = .ok (.goto 10, 3) := by decide +kernel
theorem dX10_putPieces_101 : decode cX10_putPieces 101 = .ok (.aload_n 0, 1) := by decide +kernel
theorem dX10_putPieces_102 : decode cX10_putPieces 102 = .ok (.getfield 50, 3) := by decide +kernel
theorem dX10_putPieces_105 : decode cX10_putPieces 105 = .ok (.iload 9, 2) := by decide +kernel
theorem dX10_putPieces_107 : decode cX10_putPieces 107 = .ok (.iaload, 1) := by decide +kernel
theorem dX10_putPieces_108 : decode cX10_putPieces 108 = .ok (.iastore, 1) := by decide +kernel
theorem dX10_putPieces_109 : decode cX10_putPieces 109 = .ok (.aload_n 0, 1) := by decide +kernel
theorem dX10_putPieces_110 : decode cX10_putPieces 110 = .ok (.getfield 86, 3) := by decide +kernel
theorem dX10_putPieces_113 : decode cX10_putPieces 113 = .ok (.aload_n 0, 1) := by decide +kernel
theorem dX10_putPieces_114 : decode cX10_putPieces 114 = .ok (.getfield 190, 3) := by decide +kernel
theorem dX10_putPieces_117 : decode cX10_putPieces 117 = .ok (.iload 8, 2) := by decide +kernel
theorem dX10_putPieces_119 : decode cX10_putPieces 119 = .ok (.ifCond .eq 13, 3) := by decide +kernel
theorem dX10_putPieces_122 : decode cX10_putPieces 122 = .ok (.aload_n 0, 1) := by decide +kernel
theorem dX10_putPieces_123 : decode cX10_putPieces 123 = .ok (.getfield 50, 3) := by decide +kernel
theorem dX10_putPieces_126 : decode cX10_putPieces 126 = .ok (.iload 9, 2) := by decide +kernel
theorem dX10_putPieces_128 : decode cX10_putPieces 128 = .ok (.iaload, 1) := by decide +kernel
theorem dX10_putPieces_129 : decode cX10_putPieces 129 = .ok (.goto 5, 3) := by decide +kernel
theorem dX10_putPieces_132 : decode cX10_putPieces 132 = .ok (.iload 7, 2) := by decide +kernel
theorem dX10_putPieces_134 : decode cX10_putPieces 134 = .ok (.iastore, 1) := by decide +kernel
theorem dX10_putPieces_135 : decode cX10_putPieces 135 = .ok (.aload_n 0, 1) := by decide +kernel
theorem dX10_putPieces_136 : decode cX10_putPieces 136 = .ok (.dup, 1) := by decide +kernel
theorem dX10_putPieces_137 : decode cX10_putPieces 137 = .ok (.getfield 190, 3) := by decide +kernel
theorem dX10_putPieces_140 : decode cX10_putPieces 140 = .ok (.iconst 1, 1) := by decide +kernel
theorem dX10_putPieces_141 : decode cX10_putPieces 141 = .ok (.iadd, 1) := by decide +kernel
theorem dX10_putPieces_142 : decode cX10_putPieces 142 = .ok (.putfield 190, 3) := by decide +kernel
theorem dX10_putPieces_145 : decode cX10_putPieces 145 = .ok (.iinc 9 (-1), 3) := by decide +kernel
theorem dX10_putPieces_148 : decode cX10_putPieces 148 = .ok (.goto (-133), 3) := by decide +kernel
theorem dX10_putPieces_151 : decode cX10_putPieces 151 = .ok (.return_, 1) := by decide +kernel
theorem dX10_draw_0 : decode cX10_draw 0 = .ok (.iload_n 2, 1) := by decide +kernel
theorem dX10_draw_1 : decode cX10_draw 1 = .ok (.invokestatic 161, 3) := by decide +kernel
theorem dX10_draw_4 : decode cX10_draw 4 = .ok (.ifCond .eq 10, 3) := by decide +kernel
theorem dX10_draw_7 : decode cX10_draw 7 = .ok (.iload_n 3, 1) := by decide +kernel
theorem dX10_draw_8 : decode cX10_draw 8 = .ok (.invokestatic 161, 3) := by decide +kernel
theorem dX10_draw_11 : decode cX10_draw 11 = .ok (.ifCond .ne 6, 3) := by decide +kernel
theorem dX10_draw_14 : decode cX10_draw 14 = .ok (.bipush (-2), 2) := by decide +kernel
theorem dX10_draw_16 : decode cX10_draw 16 = .ok (.ireturn, 1) := by decide +kernel
theorem dX10_draw_17 : decode cX10_draw 17 = .ok (.aload_n 0, 1) := by decide +kernel
theorem dX10_draw_18 : decode cX10_draw 18 = .ok (.iconst 0, 1) := by decide +kernel
theorem dX10_draw_19 : decode cX10_draw 19 = .ok (.putfield 190, 3) := by decide +kernel
theorem dX10_draw_22 : decode cX10_draw 22 = .ok (.aload_n 0, 1) := by decide +kernel
theorem dX10_draw_23 : decode cX10_draw 23 = .ok (.iconst 0, 1) := by decide +kernel
theorem dX10_draw_24 : decode cX10_draw 24 = .ok (.iload_n 1, 1) := by decide +kernel
theorem dX10_draw_25 : decode cX10_draw 25 = .ok (.iconst 0, 1) := by decide +kernel
theorem dX10_draw_26 : decode cX10_draw 26 = .ok (.iconst 0, 1) := by decide +kernel
theorem dX10_draw_27 : decode cX10_draw 27 = .ok (.iconst 0, 1) := by decide +kernel
theorem dX10_draw_28 : decode cX10_draw 28 = .ok (.invokevirtual 194, 3) := by decide +kernel
theorem dX10_draw_31 : decode cX10_draw 31 = .ok (.aload_n 0, 1) := by decide +kernel
theorem dX10_draw_32 : decode cX10_draw 32 = .ok (.getfield 83, 3) := by decide +kernel
theorem dX10_draw_35 : decode cX10_draw 35 = .ok (.iconst 0, 1) := by decide +kernel
theorem dX10_draw_36 : decode cX10_draw 36 = .ok (.iload_n 2, 1) := by decide +kernel
theorem dX10_draw_37 : decode cX10_draw 37 = .ok (.iastore, 1) := by decide +kernel
theorem dX10_draw_38 : decode cX10_draw 38 = .ok (.aload_n 0, 1) := by decide +kernel
theorem dX10_draw_39 : decode cX10_draw 39 = .ok (.getfield 86, 3) := by decide +kernel
theorem dX10_draw_42 : decode cX10_draw 42 = .ok (.iconst 0, 1) := by decide +kernel
theorem dX10_draw_43 : decode cX10_draw 43 = .ok (.iload_n 3, 1) := by decide +kernel
theorem dX10_draw_44 : decode cX10_draw 44 = .ok (.iastore, 1) := by decide +kernel
theorem dX10_draw_45 : decode cX10_draw 45 = .ok (.aload_n 0, 1) := by decide +kernel
theorem dX10_draw_46 : decode cX10_draw 46 = .ok (.iconst 1, 1) := by decide +kernel
theorem dX10_draw_47 : decode cX10_draw 47 = .ok (.putfield 190, 3) := by decide +kernel
theorem dX10_draw_50 : decode cX10_draw 50 = .ok (.iconst 0, 1) := by decide +kernel
theorem dX10_draw_51 : decode cX10_draw 51 = .ok (.istore 4, 2) := by decide +kernel
theorem dX10_draw_53 : decode cX10_draw 53 = .ok (.iconst 0, 1) := by decide +kernel
theorem dX10_draw_54 : decode cX10_draw 54 = .ok (.istore 5, 2) := by decide +kernel
theorem dX10_draw_56 : decode cX10_draw 56 = .ok (.aload_n 0, 1) := by decide +kernel
theorem dX10_draw_57 : decode cX10_draw 57 = .ok (.getfield 190, 3) := by decide +kernel
theorem dX10_draw_60 : decode cX10_draw 60 = .ok (.ifCond .le 235, 3) := by decide +kernel
theorem dX10_draw_63 : decode cX10_draw 63 = .ok (.aload_n 0, 1) := by decide +kernel
theorem dX10_draw_64 : decode cX10_draw 64 = .ok (.dup, 1) := by decide +kernel
theorem dX10_draw_65 : decode cX10_draw 65 = .ok (.getfield 190, 3) := by decide +kernel
theorem dX10_draw_68 : decode cX10_draw 68 = .ok (.iconst 1, 1) := by decide +kernel
theorem dX10_draw_69 : decode cX10_draw 69 = .ok (.isub, 1) := by decide +kernel
theorem dX10_draw_70 : decode cX10_draw 70 = .ok (.putfield 190, 3) := by decide +kernel
theorem dX10_draw_73 : decode cX10_draw 73 = .ok (.aload_n 0, 1) := by decide +kernel
theorem dX10_draw_74 : decode cX10_draw 74 = .ok (.getfield 71, 3) := by decide +kernel
theorem dX10_draw_77 : decode cX10_draw 77 = .ok (.aload_n 0, 1) := by decide +kernel
theorem dX10_draw_78 : decode cX10_draw 78 = .ok (.getfield 190, 3) := by decide +kernel
theorem dX10_draw_81 : decode cX10_draw 81 = .ok (.iaload, 1) := by decide +kernel
theorem dX10_draw_82 : decode cX10_draw 82 = .ok (.istore 6, 2) := by decide +kernel
theorem dX10_draw_84 : decode cX10_draw 84 = .ok (.aload_n 0, 1) := by decide +kernel
theorem dX10_draw_85 : decode cX10_draw 85 = .ok (.getfield 74, 3) := by decide +kernel
theorem dX10_draw_88 : decode cX10_draw 88 = .ok (.aload_n 0, 1) := by decide +kernel
theorem dX10_draw_89 : decode cX10_draw 89 = .ok (.getfield 190, 3) := by decide +kernel
theorem dX10_draw_92 : decode cX10_draw 92 = .ok (.iaload, 1) := by decide +kernel
theorem dX10_draw_93 : decode cX10_draw 93 = .ok (.istore 7, 2) := by decide +kernel
theorem dX10_draw_95 : decode cX10_draw 95 = .ok (.aload_n 0, 1) := by decide +kernel
theorem dX10_draw_96 : decode cX10_draw 96 = .ok (.getfield 83, 3) := by decide +kernel
theorem dX10_draw_99 : decode cX10_draw 99 = .ok (.aload_n 0, 1) := by decide +kernel
theorem dX10_draw_100 : decode cX10_draw 100 = .ok (.getfield 190, 3) := by decide +kernel
theorem dX10_draw_103 : decode cX10_draw 103 = .ok (.iaload, 1) := by decide +kernel
theorem dX10_draw_104 : decode cX10_draw 104 = .ok (.istore 8, 2) := by decide +kernel
theorem dX10_draw_106 : decode cX10_draw 106 = .ok (.aload_n 0, 1) := by decide +kernel
theorem dX10_draw_107 : decode cX10_draw 107 = .ok (.getfield 86, 3) := by decide +kernel
theorem dX10_draw_110 : decode cX10_draw 110 = .ok (.aload_n 0, 1) := by decide +kernel
theorem dX10_draw_111 : decode cX10_draw 111 = .ok (.getfield 190, 3) := by decide +kernel
theorem dX10_draw_114 : decode cX10_draw 114 = .ok (.iaload, 1) := by decide +kernel
theorem dX10_draw_115 : decode cX10_draw 115 = .ok (.istore 9, 2) := by decide +kernel
theorem dX10_draw_117 : decode cX10_draw 117 = .ok (.iload 7, 2) := by decide +kernel
theorem dX10_draw_119 : decode cX10_draw 119 = .ok (.bipush 19, 2) := by decide +kernel
theorem dX10_draw_121 : decode cX10_draw 121 = .ok (.if_icmp .le 8, 3) := by decide +kernel
theorem dX10_draw_124 : decode cX10_draw 124 = .ok (.bipush (-9), 2) := by decide +kernel
theorem dX10_draw_126 : decode cX10_draw 126 = .ok (.goto 22, 3) := by decide +kernel
theorem dX10_draw_129 : decode cX10_draw 129 = .ok (.aload_n 0, 1) := by decide +kernel
theorem dX10_draw_130 : decode cX10_draw 130 = .ok (.aload_n 0, 1) := by decide +kernel
theorem dX10_draw_131 : decode cX10_draw 131 = .ok (.getfield 68, 3) := by decide +kernel
theorem dX10_draw_134 : decode cX10_draw 134 = .ok (.aload_n 0, 1) := by decide +kernel
theorem dX10_draw_135 : decode cX10_draw 135 = .ok (.getfield 190, 3) := by decide +kernel
theorem dX10_draw_138 : decode cX10_draw 138 = .ok (.iaload, 1) := by decide +kernel
theorem dX10_draw_139 : decode cX10_draw 139 = .ok (.iload 6, 2) := by decide +kernel
theorem dX10_draw_141 : decode cX10_draw 141 = .ok (.iload 8, 2) := by decide +kernel
theorem dX10_draw_143 : decode cX10_draw 143 = .ok (.iload 9, 2) := by decide +kernel
theorem dX10_draw_145 : decode cX10_draw 145 = .ok (.invokevirtual 198, 3) := by decide +kernel
theorem dX10_draw_148 : decode cX10_draw 148 = .ok (.istore 10, 2) := by decide +kernel
theorem dX10_draw_150 : decode cX10_draw 150 = .ok (.iload 10, 2) := by decide +kernel
theorem dX10_draw_152 : decode cX10_draw 152 = .ok (.bipush (-9), 2) := by decide +kernel
theorem dX10_draw_154 : decode cX10_draw 154 = .ok (.if_icmp .ne 24, 3) := by decide +kernel
theorem dX10_draw_157 : decode cX10_draw 157 = .ok (.aload_n 0, 1) := by decide +kernel
theorem dX10_draw_158 : decode cX10_draw 158 = .ok (.iload 6, 2) := by decide +kernel
theorem dX10_draw_160 : decode cX10_draw 160 = .ok (.putfield 201, 3) := by decide +kernel
theorem dX10_draw_163 : decode cX10_draw 163 = .ok (.iload 7, 2) := by decide +kernel
theorem dX10_draw_165 : decode cX10_draw 165 = .ok (.bipush 19, 2) := by decide +kernel
theorem dX10_draw_167 : decode cX10_draw 167 = .ok (.if_icmp .le 8, 3) := by decide +kernel
theorem dX10_draw_170 : decode cX10_draw 170 = .ok (.bipush (-102), 2) := by decide +kernel
theorem dX10_draw_172 : decode cX10_draw 172 = .ok (.goto 5, 3) := by decide +kernel
theorem dX10_draw_175 : decode cX10_draw 175 = .ok (.bipush (-101), 2) := by decide +kernel
theorem dX10_draw_177 : decode cX10_draw 177 = .ok (.ireturn, 1) := by decide +kernel
theorem dX10_draw_178 : decode cX10_draw 178 = .ok (.aload_n 0, 1) := by decide +kernel
theorem dX10_draw_179 : decode cX10_draw 179 = .ok (.getfield 65, 3) := by decide +kernel
theorem dX10_draw_182 : decode cX10_draw 182 = .ok (.iload 4, 2) := by decide +kernel
theorem dX10_draw_184 : decode cX10_draw 184 = .ok (.iload 10, 2) := by decide +kernel
theorem dX10_draw_186 : decode cX10_draw 186 = .ok (.iastore, 1) := by decide +kernel
theorem dX10_draw_187 : decode cX10_draw 187 = .ok (.iinc 4 1, 3) := by decide +kernel
theorem dX10_draw_190 : decode cX10_draw 190 = .ok (.iload 5, 2) := by decide +kernel
theorem dX10_draw_192 : decode cX10_draw 192 = .ok (.aload_n 0, 1) := by decide +kernel
theorem dX10_draw_193 : decode cX10_draw 193 = .ok (.getfield 16, 3) := by decide +kernel
theorem dX10_draw_196 : decode cX10_draw 196 = .ok (.iload 10, 2) := by decide +kernel
theorem dX10_draw_198 : decode cX10_draw 198 = .ok (.iaload, 1) := by decide +kernel
theorem dX10_draw_199 : decode cX10_draw 199 = .ok (.iadd, 1) := by decide +kernel
theorem dX10_draw_200 : decode cX10_draw 200 = .ok (.istore 5, 2) := by decide +kernel
theorem dX10_draw_202 : decode cX10_draw 202 = .ok (.aload_n 0, 1) := by decide +kernel
theorem dX10_draw_203 : decode cX10_draw 203 = .ok (.getfield 13, 3) := by decide +kernel
theorem dX10_draw_206 : decode cX10_draw 206 = .ok (.iload 10, 2) := by decide +kernel
theorem dX10_draw_208 : decode cX10_draw 208 = .ok (.iaload, 1) := by decide +kernel
theorem dX10_draw_209 : decode cX10_draw 209 = .ok (.ifCond .ne 39, 3) := by decide +kernel
theorem dX10_draw_212 : decode cX10_draw 212 = .ok (.aload_n 0, 1) := by decide +kernel
theorem dX10_draw_213 : decode cX10_draw 213 = .ok (.aload_n 0, 1) := by decide +kernel
theorem dX10_draw_214 : decode cX10_draw 214 = .ok (.getfield 77, 3) := by decide +kernel
theorem dX10_draw_217 : decode cX10_draw 217 = .ok (.aload_n 0, 1) := by decide +kernel
theorem dX10_draw_218 : decode cX10_draw 218 = .ok (.getfield 190, 3) := by decide +kernel
theorem dX10_draw_221 : decode cX10_draw 221 = .ok (.iaload, 1) := by decide +kernel
theorem dX10_draw_222 : decode cX10_draw 222 = .ok (.aload_n 0, 1) := by decide +kernel
theorem dX10_draw_223 : decode cX10_draw 223 = .ok (.getfield 80, 3) := by decide +kernel
theorem dX10_draw_226 : decode cX10_draw 226 = .ok (.aload_n 0, 1) := by decide +kernel
theorem dX10_draw_227 : decode cX10_draw 227 = .ok (.getfield 190, 3) := by decide +kernel
theorem dX10_draw_230 : decode cX10_draw 230 = .ok (.iaload, 1) := by decide +kernel
theorem dX10_draw_231 : decode cX10_draw 231 = .ok (.iload 8, 2) := by decide +kernel
theorem dX10_draw_233 : decode cX10_draw 233 = .ok (.iload 9, 2) := by decide +kernel
theorem dX10_draw_235 : decode cX10_draw 235 = .ok (.aload_n 0, 1) := by decide +kernel
theorem dX10_draw_236 : decode cX10_draw 236 = .ok (.getfield 19, 3) := by decide +kernel
theorem dX10_draw_239 : decode cX10_draw 239 = .ok (.iload 10, 2) := by decide +kernel
theorem dX10_draw_241 : decode cX10_draw 241 = .ok (.iaload, 1) := by decide +kernel
theorem dX10_draw_242 : decode cX10_draw 242 = .ok (.invokevirtual 204, 3) := by decide +kernel
theorem dX10_draw_245 : decode cX10_draw 245 = .ok (.goto 47, 3) := by decide +kernel
theorem dX10_draw_248 : decode cX10_draw 248 = .ok (.aload_n 0, 1) := by decide +kernel
theorem dX10_draw_249 : decode cX10_draw 249 = .ok (.iload 10, 2) := by decide +kernel
theorem dX10_draw_251 : decode cX10_draw 251 = .ok (.iload 8, 2) := by decide +kernel
theorem dX10_draw_253 : decode cX10_draw 253 = .ok (.iload 9, 2) := by decide +kernel
theorem dX10_draw_255 : decode cX10_draw 255 = .ok (.invokevirtual 186, 3) := by decide +kernel
theorem dX10_draw_258 : decode cX10_draw 258 = .ok (.istore 11, 2) := by decide +kernel
theorem dX10_draw_260 : decode cX10_draw 260 = .ok (.aload_n 0, 1) := by decide +kernel
theorem dX10_draw_261 : decode cX10_draw 261 = .ok (.iload 10, 2) := by decide +kernel
theorem dX10_draw_263 : decode cX10_draw 263 = .ok (.iload 6, 2) := by decide +kernel
theorem dX10_draw_265 : decode cX10_draw 265 = .ok (.iload 7, 2) := by decide +kernel
theorem dX10_draw_267 : decode cX10_draw 267 = .ok (.aload_n 0, 1) := by decide +kernel
theorem dX10_draw_268 : decode cX10_draw 268 = .ok (.getfield 77, 3) := by decide +kernel
theorem dX10_draw_271 : decode cX10_draw 271 = .ok (.aload_n 0, 1) := by decide +kernel
theorem dX10_draw_272 : decode cX10_draw 272 = .ok (.getfield 190, 3) := by decide +kernel
theorem dX10_draw_275 : decode cX10_draw 275 = .ok (.iaload, 1) := by decide +kernel
theorem dX10_draw_276 : decode cX10_draw 276 = .ok (.aload_n 0, 1) := by decide +kernel
theorem dX10_draw_277 : decode cX10_draw 277 = .ok (.getfield 80, 3) := by decide +kernel
theorem dX10_draw_280 : decode cX10_draw 280 = .ok (.aload_n 0, 1) := by decide +kernel
theorem dX10_draw_281 : decode cX10_draw 281 = .ok (.getfield 190, 3) := by decide +kernel
theorem dX10_draw_284 : decode cX10_draw 284 = .ok (.iaload, 1) := by decide +kernel
theorem dX10_draw_285 : decode cX10_draw 285 = .ok (.iload 8, 2) := by decide +kernel
theorem dX10_draw_287 : decode cX10_draw 287 = .ok (.iload 9, 2) := by decide +kernel
theorem dX10_draw_289 : decode cX10_draw 289 = .ok (.invokevirtual 207, 3) := by decide +kernel
theorem dX10_draw_292 : decode cX10_draw 292 = .ok (.goto (-236), 3) := by decide +kernel
theorem dX10_draw_295 : decode cX10_draw 295 = .ok (.aload_n 0, 1) := by decide +kernel
theorem dX10_draw_296 : decode cX10_draw 296 = .ok (.iconst 0, 1) := by decide +kernel
theorem dX10_draw_297 : decode cX10_draw 297 = .ok (.putfield 201, 3) := by decide +kernel
theorem dX10_draw_300 : decode cX10_draw 300 = .ok (.aload_n 0, 1) := by decide +kernel
theorem dX10_draw_301 : decode cX10_draw 301 = .ok (.iload 4, 2) := by decide +kernel
theorem dX10_draw_303 : decode cX10_draw 303 = .ok (.putfield 170, 3) := by decide +kernel
theorem dX10_draw_306 : decode cX10_draw 306 = .ok (.aload_n 0, 1) := by decide +kernel
theorem dX10_draw_307 : decode cX10_draw 307 = .ok (.iload 5, 2) := by decide +kernel
theorem dX10_draw_309 : decode cX10_draw 309 = .ok (.putfield 211, 3) := by decide +kernel
theorem dX10_draw_312 : decode cX10_draw 312 = .ok (.aload_n 0, 1) := by decide +kernel
theorem dX10_draw_313 : decode cX10_draw 313 = .ok (.iload_n 2, 1) := by decide +kernel
theorem dX10_draw_314 : decode cX10_draw 314 = .ok (.putfield 164, 3) := by decide +kernel
theorem dX10_draw_317 : decode cX10_draw 317 = .ok (.aload_n 0, 1) := by decide +kernel
theorem dX10_draw_318 : decode cX10_draw 318 = .ok (.iload_n 3, 1) := by decide +kernel
theorem dX10_draw_319 : decode cX10_draw 319 = .ok (.putfield 167, 3) := by decide +kernel
theorem dX10_draw_322 : decode cX10_draw 322 = .ok (.iconst 0, 1) := by decide +kernel
theorem dX10_draw_323 : decode cX10_draw 323 = .ok (.istore 6, 2) := by decide +kernel
theorem dX10_draw_325 : decode cX10_draw 325 = .ok (.iload 6, 2) := by decide +kernel
theorem dX10_draw_327 : decode cX10_draw 327 = .ok (.iload 4, 2) := by decide +kernel
theorem dX10_draw_329 : decode cX10_draw 329 = .ok (.if_icmp .ge 23, 3) := by decide +kernel
theorem dX10_draw_332 : decode cX10_draw 332 = .ok (.aload_n 0, 1) := by decide +kernel
theorem dX10_draw_333 : decode cX10_draw 333 = .ok (.getfield 56, 3) := by decide +kernel
theorem dX10_draw_336 : decode cX10_draw 336 = .ok (.iload 6, 2) := by decide +kernel
theorem dX10_draw_338 : decode cX10_draw 338 = .ok (.aload_n 0, 1) := by decide +kernel
theorem dX10_draw_339 : decode cX10_draw 339 = .ok (.getfield 65, 3) := by decide +kernel
theorem dX10_draw_342 : decode cX10_draw 342 = .ok (.iload 6, 2) := by decide +kernel
theorem dX10_draw_344 : decode cX10_draw 344 = .ok (.iaload, 1) := by decide +kernel
theorem dX10_draw_345 : decode cX10_draw 345 = .ok (.iastore, 1) := by decide +kernel
theorem dX10_draw_346 : decode cX10_draw 346 = .ok (.iinc 6 1, 3) := by decide +kernel
theorem dX10_draw_349 : decode cX10_draw 349 = .ok (.goto (-24), 3) := by decide +kernel
theorem dX10_draw_352 : decode cX10_draw 352 = .ok (.iconst 0, 1) := by decide +kernel
theorem dX10_draw_353 : decode cX10_draw 353 = .ok (.istore 6, 2) := by decide +kernel
theorem dX10_draw_355 : decode cX10_draw 355 = .ok (.iload 6, 2) := by decide +kernel
theorem dX10_draw_357 : decode cX10_draw 357 = .ok (.sipush 400, 3) := by decide +kernel
theorem dX10_draw_360 : decode cX10_draw 360 = .ok (.if_icmp .ge 23, 3) := by decide +kernel
theorem dX10_draw_363 : decode cX10_draw 363 = .ok (.aload_n 0, 1) := by decide +kernel
theorem dX10_draw_364 : decode cX10_draw 364 = .ok (.getfield 59, 3) := by decide +kernel
theorem dX10_draw_367 : decode cX10_draw 367 = .ok (.iload 6, 2) := by decide +kernel
theorem dX10_draw_369 : decode cX10_draw 369 = .ok (.aload_n 0, 1) := by decide +kernel
theorem dX10_draw_370 : decode cX10_draw 370 = .ok (.getfield 62, 3) := by decide +kernel
theorem dX10_draw_373 : decode cX10_draw 373 = .ok (.iload 6, 2) := by decide +kernel
theorem dX10_draw_375 : decode cX10_draw 375 = .ok (.iaload, 1) := by decide +kernel
theorem dX10_draw_376 : decode cX10_draw 376 = .ok (.iastore, 1) := by decide +kernel
theorem dX10_draw_377 : decode cX10_draw 377 = .ok (.iinc 6 1, 3) := by decide +kernel
theorem dX10_draw_380 : decode cX10_draw 380 = .ok (.goto (-25), 3) := by decide +kernel
theorem dX10_draw_383 : decode cX10_draw 383 = .ok (.iload 4, 2) := by decide +kernel
theorem dX10_draw_385 : decode cX10_draw 385 = .ok (.ireturn, 1) := by decide +kernel
theorem dX10_fillDraft_0 : decode cX10_fillDraft 0 = .ok (.iload_n 2, 1) := by decide +kernel
theorem dX10_fillDraft_1 : decode cX10_fillDraft 1 = .ok (.istore 6, 2) := by decide +kernel
theorem dX10_fillDraft_3 : decode cX10_fillDraft 3 = .ok (.iload 6, 2) := by decide +kernel
theorem dX10_fillDraft_5 : decode cX10_fillDraft 5 = .ok (.iload_n 2, 1) := by decide +kernel
theorem dX10_fillDraft_6 : decode cX10_fillDraft 6 = .ok (.iload 4, 2) := by decide +kernel
theorem dX10_fillDraft_8 : decode cX10_fillDraft 8 = .ok (.iadd, 1) := by decide +kernel
theorem dX10_fillDraft_9 : decode cX10_fillDraft 9 = .ok (.if_icmp .ge 41, 3) := by decide +kernel
theorem dX10_fillDraft_12 : decode cX10_fillDraft 12 = .ok (.iload_n 1, 1) := by decide +kernel
theorem dX10_fillDraft_13 : decode cX10_fillDraft 13 = .ok (.istore 7, 2) := by decide +kernel
theorem dX10_fillDraft_15 : decode cX10_fillDraft 15 = .ok (.iload 7, 2) := by decide +kernel
theorem dX10_fillDraft_17 : decode cX10_fillDraft 17 = .ok (.iload_n 1, 1) := by decide +kernel
theorem dX10_fillDraft_18 : decode cX10_fillDraft 18 = .ok (.iload_n 3, 1) := by decide +kernel
theorem dX10_fillDraft_19 : decode cX10_fillDraft 19 = .ok (.iadd, 1) := by decide +kernel
theorem dX10_fillDraft_20 : decode cX10_fillDraft 20 = .ok (.if_icmp .ge 24, 3) := by decide +kernel
theorem dX10_fillDraft_23 : decode cX10_fillDraft 23 = .ok (.aload_n 0, 1) := by decide +kernel
theorem dX10_fillDraft_24 : decode cX10_fillDraft 24 = .ok (.getfield 62, 3) := by decide +kernel
theorem dX10_fillDraft_27 : decode cX10_fillDraft 27 = .ok (.bipush 20, 2) := by decide +kernel
theorem dX10_fillDraft_29 : decode cX10_fillDraft 29 = .ok (.iload 6, 2) := by decide +kernel
theorem dX10_fillDraft_31 : decode cX10_fillDraft 31 = .ok (.imul, 1) := by decide +kernel
theorem dX10_fillDraft_32 : decode cX10_fillDraft 32 = .ok (.iload 7, 2) := by decide +kernel
theorem dX10_fillDraft_34 : decode cX10_fillDraft 34 = .ok (.iadd, 1) := by decide +kernel
theorem dX10_fillDraft_35 : decode cX10_fillDraft 35 = .ok (.iload 5, 2) := by decide +kernel
theorem dX10_fillDraft_37 : decode cX10_fillDraft 37 = .ok (.iastore, 1) := by decide +kernel
theorem dX10_fillDraft_38 : decode cX10_fillDraft 38 = .ok (.iinc 7 1, 3) := by decide +kernel
theorem dX10_fillDraft_41 : decode cX10_fillDraft 41 = .ok (.goto (-26), 3) := by decide +kernel
theorem dX10_fillDraft_44 : decode cX10_fillDraft 44 = .ok (.iinc 6 1, 3) := by decide +kernel
theorem dX10_fillDraft_47 : decode cX10_fillDraft 47 = .ok (.goto (-44), 3) := by decide +kernel
theorem dX10_fillDraft_50 : decode cX10_fillDraft 50 = .ok (.return_, 1) := by decide +kernel
theorem dX10_at_0 : decode cX10_at 0 = .ok (.iload_n 1, 1) := by decide +kernel
theorem dX10_at_1 : decode cX10_at 1 = .ok (.i2l, 1) := by decide +kernel
theorem dX10_at_2 : decode cX10_at 2 = .ok (.lconst 0, 1) := by decide +kernel
theorem dX10_at_3 : decode cX10_at 3 = .ok (.aload_n 0, 1) := by decide +kernel
theorem dX10_at_4 : decode cX10_at 4 = .ok (.getfield 164, 3) := by decide +kernel
theorem dX10_at_7 : decode cX10_at 7 = .ok (.iconst 1, 1) := by decide +kernel
theorem dX10_at_8 : decode cX10_at 8 = .ok (.isub, 1) := by decide +kernel
theorem dX10_at_9 : decode cX10_at 9 = .ok (.i2l, 1) := by decide +kernel
theorem dX10_at_10 : decode cX10_at 10 = .ok (.invokestatic 124, 3) := by decide +kernel
theorem dX10_at_13 : decode cX10_at 13 = .ok (.ifCond .eq 33, 3) := by decide +kernel
theorem dX10_at_16 : decode cX10_at 16 = .ok (.iload_n 2, 1) := by decide +kernel
theorem dX10_at_17 : decode cX10_at 17 = .ok (.i2l, 1) := by decide +kernel
theorem dX10_at_18 : decode cX10_at 18 = .ok (.lconst 0, 1) := by decide +kernel
theorem dX10_at_19 : decode cX10_at 19 = .ok (.aload_n 0, 1) := by decide +kernel
theorem dX10_at_20 : decode cX10_at 20 = .ok (.getfield 167, 3) := by decide +kernel
theorem dX10_at_23 : decode cX10_at 23 = .ok (.iconst 1, 1) := by decide +kernel
theorem dX10_at_24 : decode cX10_at 24 = .ok (.isub, 1) := by decide +kernel
theorem dX10_at_25 : decode cX10_at 25 = .ok (.i2l, 1) := by decide +kernel
theorem dX10_at_26 : decode cX10_at 26 = .ok (.invokestatic 124, 3) := by decide +kernel
theorem dX10_at_29 : decode cX10_at 29 = .ok (.ifCond .eq 17, 3) := by decide +kernel
theorem dX10_at_32 : decode cX10_at 32 = .ok (.aload_n 0, 1) := by decide +kernel
theorem dX10_at_33 : decode cX10_at 33 = .ok (.getfield 59, 3) := by decide +kernel
theorem dX10_at_36 : decode cX10_at 36 = .ok (.bipush 20, 2) := by decide +kernel
theorem dX10_at_38 : decode cX10_at 38 = .ok (.iload_n 2, 1) := by decide +kernel
theorem dX10_at_39 : decode cX10_at 39 = .ok (.imul, 1) := by decide +kernel
theorem dX10_at_40 : decode cX10_at 40 = .ok (.iload_n 1, 1) := by decide +kernel
theorem dX10_at_41 : decode cX10_at 41 = .ok (.iadd, 1) := by decide +kernel
theorem dX10_at_42 : decode cX10_at 42 = .ok (.iaload, 1) := by decide +kernel
theorem dX10_at_43 : decode cX10_at 43 = .ok (.goto 5, 3) := by decide +kernel
theorem dX10_at_46 : decode cX10_at 46 = .ok (.bipush (-9), 2) := by decide +kernel
theorem dX10_at_48 : decode cX10_at 48 = .ok (.ireturn, 1) := by decide +kernel
theorem dX10_step_0 : decode cX10_step 0 = .ok (.iload_n 1, 1) := by decide +kernel
theorem dX10_step_1 : decode cX10_step 1 = .ok (.i2l, 1) := by decide +kernel
theorem dX10_step_2 : decode cX10_step 2 = .ok (.lconst 0, 1) := by decide +kernel
theorem dX10_step_3 : decode cX10_step 3 = .ok (.aload_n 0, 1) := by decide +kernel
theorem dX10_step_4 : decode cX10_step 4 = .ok (.getfield 170, 3) := by decide +kernel
theorem dX10_step_7 : decode cX10_step 7 = .ok (.iconst 1, 1) := by decide +kernel
theorem dX10_step_8 : decode cX10_step 8 = .ok (.isub, 1) := by decide +kernel
theorem dX10_step_9 : decode cX10_step 9 = .ok (.i2l, 1) := by decide +kernel
theorem dX10_step_10 : decode cX10_step 10 = .ok (.invokestatic 124, 3) := by decide +kernel
theorem dX10_step_13 : decode cX10_step 13 = .ok (.ifCond .eq 12, 3) := by decide +kernel
theorem dX10_step_16 : decode cX10_step 16 = .ok (.aload_n 0, 1) := by decide +kernel
theorem dX10_step_17 : decode cX10_step 17 = .ok (.getfield 56, 3) := by decide +kernel
theorem dX10_step_20 : decode cX10_step 20 = .ok (.iload_n 1, 1) := by decide +kernel
theorem dX10_step_21 : decode cX10_step 21 = .ok (.iaload, 1) := by decide +kernel
theorem dX10_step_22 : decode cX10_step 22 = .ok (.goto 5, 3) := by decide +kernel
theorem dX10_step_25 : decode cX10_step 25 = .ok (.bipush (-9), 2) := by decide +kernel
theorem dX10_step_27 : decode cX10_step 27 = .ok (.ireturn, 1) := by decide +kernel
theorem dX10_drawn_0 : decode cX10_drawn 0 = .ok (.aload_n 0, 1) := by decide +kernel
theorem dX10_drawn_1 : decode cX10_drawn 1 = .ok (.getfield 164, 3) := by decide +kernel
theorem dX10_drawn_4 : decode cX10_drawn 4 = .ok (.ifCond .ne 8, 3) := by decide +kernel
theorem dX10_drawn_7 : decode cX10_drawn 7 = .ok (.bipush (-9), 2) := by decide +kernel
theorem dX10_drawn_9 : decode cX10_drawn 9 = .ok (.goto 7, 3) := by decide +kernel
theorem dX10_drawn_12 : decode cX10_drawn 12 = .ok (.aload_n 0, 1) := by decide +kernel
theorem dX10_drawn_13 : decode cX10_drawn 13 = .ok (.getfield 211, 3) := by decide +kernel
theorem dX10_drawn_16 : decode cX10_drawn 16 = .ok (.ireturn, 1) := by decide +kernel
theorem dX10_fault_0 : decode cX10_fault 0 = .ok (.aload_n 0, 1) := by decide +kernel
theorem dX10_fault_1 : decode cX10_fault 1 = .ok (.getfield 201, 3) := by decide +kernel
theorem dX10_fault_4 : decode cX10_fault 4 = .ok (.ireturn, 1) := by decide +kernel
theorem dX10_take_0 : decode cX10_take 0 = .ok (.aload_n 0, 1) := by decide +kernel
theorem dX10_take_1 : decode cX10_take 1 = .ok (.getfield 164, 3) := by decide +kernel
theorem dX10_take_4 : decode cX10_take 4 = .ok (.ifCond .eq 21, 3) := by decide +kernel
theorem dX10_take_7 : decode cX10_take 7 = .ok (.aload_n 0, 1) := by decide +kernel
theorem dX10_take_8 : decode cX10_take 8 = .ok (.getfield 164, 3) := by decide +kernel
theorem dX10_take_11 : decode cX10_take 11 = .ok (.bipush 9, 2) := by decide +kernel
theorem dX10_take_13 : decode cX10_take 13 = .ok (.if_icmp .gt 12, 3) := by decide +kernel
theorem dX10_take_16 : decode cX10_take 16 = .ok (.aload_n 0, 1) := by decide +kernel
theorem dX10_take_17 : decode cX10_take 17 = .ok (.getfield 167, 3) := by decide +kernel
theorem dX10_take_20 : decode cX10_take 20 = .ok (.bipush 9, 2) := by decide +kernel
theorem dX10_take_22 : decode cX10_take 22 = .ok (.if_icmp .le 6, 3) := by decide +kernel
theorem dX10_take_25 : decode cX10_take 25 = .ok (.bipush (-3), 2) := by decide +kernel
theorem dX10_take_27 : decode cX10_take 27 = .ok (.ireturn, 1) := by decide +kernel
theorem dX10_take_28 : decode cX10_take 28 = .ok (.aload_n 0, 1) := by decide +kernel
theorem dX10_take_29 : decode cX10_take 29 = .ok (.aload_n 0, 1) := by decide +kernel
theorem dX10_take_30 : decode cX10_take 30 = .ok (.getfield 164, 3) := by decide +kernel
theorem dX10_take_33 : decode cX10_take 33 = .ok (.aload_n 0, 1) := by decide +kernel
theorem dX10_take_34 : decode cX10_take 34 = .ok (.getfield 167, 3) := by decide +kernel
theorem dX10_take_37 : decode cX10_take 37 = .ok (.invokevirtual 118, 3) := by decide +kernel
theorem dX10_take_40 : decode cX10_take 40 = .ok (.iconst 0, 1) := by decide +kernel
theorem dX10_take_41 : decode cX10_take 41 = .ok (.istore_n 1, 1) := by decide +kernel
theorem dX10_take_42 : decode cX10_take 42 = .ok (.iload_n 1, 1) := by decide +kernel
theorem dX10_take_43 : decode cX10_take 43 = .ok (.aload_n 0, 1) := by decide +kernel
theorem dX10_take_44 : decode cX10_take 44 = .ok (.getfield 167, 3) := by decide +kernel
theorem dX10_take_47 : decode cX10_take 47 = .ok (.if_icmp .ge 52, 3) := by decide +kernel
theorem dX10_take_50 : decode cX10_take 50 = .ok (.iconst 0, 1) := by decide +kernel
theorem dX10_take_51 : decode cX10_take 51 = .ok (.istore_n 2, 1) := by decide +kernel
theorem dX10_take_52 : decode cX10_take 52 = .ok (.iload_n 2, 1) := by decide +kernel
theorem dX10_take_53 : decode cX10_take 53 = .ok (.aload_n 0, 1) := by decide +kernel
theorem dX10_take_54 : decode cX10_take 54 = .ok (.getfield 164, 3) := by decide +kernel
theorem dX10_take_57 : decode cX10_take 57 = .ok (.if_icmp .ge 36, 3) := by decide +kernel
theorem dX10_take_60 : decode cX10_take 60 = .ok (.aload_n 0, 1) := by decide +kernel
theorem dX10_take_61 : decode cX10_take 61 = .ok (.getfield 89, 3) := by decide +kernel
theorem dX10_take_64 : decode cX10_take 64 = .ok (.bipush 9, 2) := by decide +kernel
theorem dX10_take_66 : decode cX10_take 66 = .ok (.iload_n 1, 1) := by decide +kernel
theorem dX10_take_67 : decode cX10_take 67 = .ok (.imul, 1) := by decide +kernel
theorem dX10_take_68 : decode cX10_take 68 = .ok (.iload_n 2, 1) := by decide +kernel
theorem dX10_take_69 : decode cX10_take 69 = .ok (.iadd, 1) := by decide +kernel
theorem dX10_take_70 : decode cX10_take 70 = .ok (.aload_n 0, 1) := by decide +kernel
theorem dX10_take_71 : decode cX10_take 71 = .ok (.getfield 59, 3) := by decide +kernel
theorem dX10_take_74 : decode cX10_take 74 = .ok (.bipush 20, 2) := by decide +kernel
theorem dX10_take_76 : decode cX10_take 76 = .ok (.iload_n 1, 1) := by decide +kernel
theorem dX10_take_77 : decode cX10_take 77 = .ok (.imul, 1) := by decide +kernel
theorem dX10_take_78 : decode cX10_take 78 = .ok (.iload_n 2, 1) := by decide +kernel
theorem dX10_take_79 : decode cX10_take 79 = .ok (.iadd, 1) := by decide +kernel
theorem dX10_take_80 : decode cX10_take 80 = .ok (.iaload, 1) := by decide +kernel
theorem dX10_take_81 : decode cX10_take 81 = .ok (.iastore, 1) := by decide +kernel
theorem dX10_take_82 : decode cX10_take 82 = .ok (.aload_n 0, 1) := by decide +kernel
theorem dX10_take_83 : decode cX10_take 83 = .ok (.iconst 0, 1) := by decide +kernel
theorem dX10_take_84 : decode cX10_take 84 = .ok (.putfield 214, 3) := by decide +kernel
theorem dX10_take_87 : decode cX10_take 87 = .ok (.iinc 2 1, 3) := by decide +kernel
theorem dX10_take_90 : decode cX10_take 90 = .ok (.goto (-38), 3) := by decide +kernel
theorem dX10_take_93 : decode cX10_take 93 = .ok (.iinc 1 1, 3) := by decide +kernel
theorem dX10_take_96 : decode cX10_take 96 = .ok (.goto (-54), 3) := by decide +kernel
theorem dX10_take_99 : decode cX10_take 99 = .ok (.iconst 1, 1) := by decide +kernel
theorem dX10_take_100 : decode cX10_take 100 = .ok (.ireturn, 1) := by decide +kernel
theorem dX10_boards_0 : decode cX10_boards 0 = .ok (.aload_n 0, 1) := by decide +kernel
theorem dX10_boards_1 : decode cX10_boards 1 = .ok (.iload_n 1, 1) := by decide +kernel
theorem dX10_boards_2 : decode cX10_boards 2 = .ok (.putfield 218, 3) := by decide +kernel
theorem dX10_boards_5 : decode cX10_boards 5 = .ok (.aload_n 0, 1) := by decide +kernel
theorem dX10_boards_6 : decode cX10_boards 6 = .ok (.iload_n 2, 1) := by decide +kernel
theorem dX10_boards_7 : decode cX10_boards 7 = .ok (.putfield 221, 3) := by decide +kernel
theorem dX10_boards_10 : decode cX10_boards 10 = .ok (.aload_n 0, 1) := by decide +kernel
theorem dX10_boards_11 : decode cX10_boards 11 = .ok (.iconst 0, 1) := by decide +kernel
theorem dX10_boards_12 : decode cX10_boards 12 = .ok (.putfield 214, 3) := by decide +kernel
theorem dX10_boards_15 : decode cX10_boards 15 = .ok (.iconst 0, 1) := by decide +kernel
theorem dX10_boards_16 : decode cX10_boards 16 = .ok (.istore_n 3, 1) := by decide +kernel
theorem dX10_boards_17 : decode cX10_boards 17 = .ok (.iload_n 3, 1) := by decide +kernel
theorem dX10_boards_18 : decode cX10_boards 18 = .ok (.bipush 81, 2) := by decide +kernel
theorem dX10_boards_20 : decode cX10_boards 20 = .ok (.if_icmp .ge 16, 3) := by decide +kernel
theorem dX10_boards_23 : decode cX10_boards 23 = .ok (.aload_n 0, 1) := by decide +kernel
theorem dX10_boards_24 : decode cX10_boards 24 = .ok (.getfield 89, 3) := by decide +kernel
theorem dX10_boards_27 : decode cX10_boards 27 = .ok (.iload_n 3, 1) := by decide +kernel
theorem dX10_boards_28 : decode cX10_boards 28 = .ok (.iconst 0, 1) := by decide +kernel
theorem dX10_boards_29 : decode cX10_boards 29 = .ok (.iastore, 1) := by decide +kernel
theorem dX10_boards_30 : decode cX10_boards 30 = .ok (.iinc 3 1, 3) := by decide +kernel
theorem dX10_boards_33 : decode cX10_boards 33 = .ok (.goto (-16), 3) := by decide +kernel
theorem dX10_boards_36 : decode cX10_boards 36 = .ok (.return_, 1) := by decide +kernel
theorem dX10_board_0 : decode cX10_board 0 = .ok (.iload_n 1, 1) := by decide +kernel
theorem dX10_board_1 : decode cX10_board 1 = .ok (.i2l, 1) := by decide +kernel
theorem dX10_board_2 : decode cX10_board 2 = .ok (.lconst 1, 1) := by decide +kernel
theorem dX10_board_3 : decode cX10_board 3 = .ok (.ldc2_w 147, 3) := by decide +kernel
theorem dX10_board_6 : decode cX10_board 6 = .ok (.invokestatic 124, 3) := by decide +kernel
theorem dX10_board_9 : decode cX10_board 9 = .ok (.ifCond .eq 15, 3) := by decide +kernel
theorem dX10_board_12 : decode cX10_board 12 = .ok (.iload_n 2, 1) := by decide +kernel
theorem dX10_board_13 : decode cX10_board 13 = .ok (.i2l, 1) := by decide +kernel
theorem dX10_board_14 : decode cX10_board 14 = .ok (.lconst 1, 1) := by decide +kernel
theorem dX10_board_15 : decode cX10_board 15 = .ok (.ldc2_w 147, 3) := by decide +kernel
theorem dX10_board_18 : decode cX10_board 18 = .ok (.invokestatic 124, 3) := by decide +kernel
theorem dX10_board_21 : decode cX10_board 21 = .ok (.ifCond .ne 6, 3) := by decide +kernel
theorem dX10_board_24 : decode cX10_board 24 = .ok (.bipush (-2), 2) := by decide +kernel
theorem dX10_board_26 : decode cX10_board 26 = .ok (.ireturn, 1) := by decide +kernel
theorem dX10_board_27 : decode cX10_board 27 = .ok (.aload_n 0, 1) := by decide +kernel
theorem dX10_board_28 : decode cX10_board 28 = .ok (.iload_n 1, 1) := by decide +kernel
theorem dX10_board_29 : decode cX10_board 29 = .ok (.iload_n 2, 1) := by decide +kernel
theorem dX10_board_30 : decode cX10_board 30 = .ok (.invokevirtual 118, 3) := by decide +kernel
theorem dX10_board_33 : decode cX10_board 33 = .ok (.iconst 1, 1) := by decide +kernel
theorem dX10_board_34 : decode cX10_board 34 = .ok (.ireturn, 1) := by decide +kernel
theorem dX10_isPlace_0 : decode cX10_isPlace 0 = .ok (.iload_n 1, 1) := by decide +kernel
theorem dX10_isPlace_1 : decode cX10_isPlace 1 = .ok (.i2l, 1) := by decide +kernel
theorem dX10_isPlace_2 : decode cX10_isPlace 2 = .ok (.lconst 0, 1) := by decide +kernel
theorem dX10_isPlace_3 : decode cX10_isPlace 3 = .ok (.ldc2_w 224, 3) := by decide +kernel
theorem dX10_isPlace_6 : decode cX10_isPlace 6 = .ok (.invokestatic 124, 3) := by decide +kernel
theorem dX10_isPlace_9 : decode cX10_isPlace 9 = .ok (.ifCond .eq 29, 3) := by decide +kernel
theorem dX10_isPlace_12 : decode cX10_isPlace 12 = .ok (.iload_n 1, 1) := by decide +kernel
theorem dX10_isPlace_13 : decode cX10_isPlace 13 = .ok (.bipush 9, 2) := by decide +kernel
theorem dX10_isPlace_15 : decode cX10_isPlace 15 = .ok (.irem, 1) := by decide +kernel
theorem dX10_isPlace_16 : decode cX10_isPlace 16 = .ok (.aload_n 0, 1) := by decide +kernel
theorem dX10_isPlace_17 : decode cX10_isPlace 17 = .ok (.getfield 218, 3) := by decide +kernel
theorem dX10_isPlace_20 : decode cX10_isPlace 20 = .ok (.if_icmp .ge 18, 3) := by decide +kernel
theorem dX10_isPlace_23 : decode cX10_isPlace 23 = .ok (.iload_n 1, 1) := by decide +kernel
theorem dX10_isPlace_24 : decode cX10_isPlace 24 = .ok (.bipush 9, 2) := by decide +kernel
theorem dX10_isPlace_26 : decode cX10_isPlace 26 = .ok (.idiv, 1) := by decide +kernel
theorem dX10_isPlace_27 : decode cX10_isPlace 27 = .ok (.aload_n 0, 1) := by decide +kernel
theorem dX10_isPlace_28 : decode cX10_isPlace 28 = .ok (.getfield 221, 3) := by decide +kernel
theorem dX10_isPlace_31 : decode cX10_isPlace 31 = .ok (.if_icmp .ge 7, 3) := by decide +kernel
theorem dX10_isPlace_34 : decode cX10_isPlace 34 = .ok (.iconst 1, 1) := by decide +kernel
theorem dX10_isPlace_35 : decode cX10_isPlace 35 = .ok (.goto 4, 3) := by decide +kernel
theorem dX10_isPlace_38 : decode cX10_isPlace 38 = .ok (.iconst 0, 1) := by decide +kernel
theorem dX10_isPlace_39 : decode cX10_isPlace 39 = .ok (.ireturn, 1) := by decide +kernel
theorem dX10_put__0 : decode cX10_put_ 0 = .ok (.aload_n 0, 1) := by decide +kernel
theorem dX10_put__1 : decode cX10_put_ 1 = .ok (.iload_n 1, 1) := by decide +kernel
theorem dX10_put__2 : decode cX10_put_ 2 = .ok (.invokevirtual 226, 3) := by decide +kernel
theorem dX10_put__5 : decode cX10_put_ 5 = .ok (.ifCond .ne 5, 3) := by decide +kernel
theorem dX10_put__8 : decode cX10_put_ 8 = .ok (.iconst (-1), 1) := by decide +kernel
theorem dX10_put__9 : decode cX10_put_ 9 = .ok (.ireturn, 1) := by decide +kernel
theorem dX10_put__10 : decode cX10_put_ 10 = .ok (.iload_n 2, 1) := by decide +kernel
theorem dX10_put__11 : decode cX10_put_ 11 = .ok (.i2l, 1) := by decide +kernel
theorem dX10_put__12 : decode cX10_put_ 12 = .ok (.lconst 0, 1) := by decide +kernel
theorem dX10_put__13 : decode cX10_put_ 13 = .ok (.ldc2_w 139, 3) := by decide +kernel
theorem dX10_put__16 : decode cX10_put_ 16 = .ok (.invokestatic 124, 3) := by decide +kernel
theorem dX10_put__19 : decode cX10_put_ 19 = .ok (.ifCond .ne 6, 3) := by decide +kernel
theorem dX10_put__22 : decode cX10_put_ 22 = .ok (.bipush (-2), 2) := by decide +kernel
theorem dX10_put__24 : decode cX10_put_ 24 = .ok (.ireturn, 1) := by decide +kernel
theorem dX10_put__25 : decode cX10_put_ 25 = .ok (.aload_n 0, 1) := by decide +kernel
theorem dX10_put__26 : decode cX10_put_ 26 = .ok (.getfield 89, 3) := by decide +kernel
theorem dX10_put__29 : decode cX10_put_ 29 = .ok (.iload_n 1, 1) := by decide +kernel
theorem dX10_put__30 : decode cX10_put_ 30 = .ok (.iaload, 1) := by decide +kernel
theorem dX10_put__31 : decode cX10_put_ 31 = .ok (.istore_n 3, 1) := by decide +kernel
theorem dX10_put__32 : decode cX10_put_ 32 = .ok (.aload_n 0, 1) := by decide +kernel
theorem dX10_put__33 : decode cX10_put_ 33 = .ok (.getfield 89, 3) := by decide +kernel
theorem dX10_put__36 : decode cX10_put_ 36 = .ok (.iload_n 1, 1) := by decide +kernel
theorem dX10_put__37 : decode cX10_put_ 37 = .ok (.iload_n 2, 1) := by decide +kernel
theorem dX10_put__38 : decode cX10_put_ 38 = .ok (.iastore, 1) := by decide +kernel
theorem dX10_put__39 : decode cX10_put_ 39 = .ok (.aload_n 0, 1) := by decide +kernel
theorem dX10_put__40 : decode cX10_put_ 40 = .ok (.iconst 0, 1) := by decide +kernel
theorem dX10_put__41 : decode cX10_put_ 41 = .ok (.putfield 214, 3) := by decide +kernel
theorem dX10_put__44 : decode cX10_put_ 44 = .ok (.iload_n 3, 1) := by decide +kernel
theorem dX10_put__45 : decode cX10_put_ 45 = .ok (.ireturn, 1) := by decide +kernel
theorem dX10_place_0 : decode cX10_place 0 = .ok (.aload_n 0, 1) := by decide +kernel
theorem dX10_place_1 : decode cX10_place 1 = .ok (.getfield 229, 3) := by decide +kernel
theorem dX10_place_4 : decode cX10_place 4 = .ok (.ifCond .eq 31, 3) := by decide +kernel
theorem dX10_place_7 : decode cX10_place 7 = .ok (.bipush 8, 2) := by decide +kernel
theorem dX10_place_9 : decode cX10_place 9 = .ok (.sipush 729, 3) := by decide +kernel
theorem dX10_place_12 : decode cX10_place 12 = .ok (.iload_n 2, 1) := by decide +kernel
theorem dX10_place_13 : decode cX10_place 13 = .ok (.imul, 1) := by decide +kernel
theorem dX10_place_14 : decode cX10_place 14 = .ok (.bipush 81, 2) := by decide +kernel
theorem dX10_place_16 : decode cX10_place 16 = .ok (.iload_n 1, 1) := by decide +kernel
theorem dX10_place_17 : decode cX10_place 17 = .ok (.imul, 1) := by decide +kernel
theorem dX10_place_18 : decode cX10_place 18 = .ok (.iadd, 1) := by decide +kernel
theorem dX10_place_19 : decode cX10_place 19 = .ok (.bipush 9, 2) := by decide +kernel
theorem dX10_place_21 : decode cX10_place 21 = .ok (.iload 4, 2) := by decide +kernel
theorem dX10_place_23 : decode cX10_place 23 = .ok (.iconst 1, 1) := by decide +kernel
theorem dX10_place_24 : decode cX10_place 24 = .ok (.isub, 1) := by decide +kernel
theorem dX10_place_25 : decode cX10_place 25 = .ok (.imul, 1) := by decide +kernel
theorem dX10_place_26 : decode cX10_place 26 = .ok (.iadd, 1) := by decide +kernel
theorem dX10_place_27 : decode cX10_place 27 = .ok (.iload_n 3, 1) := by decide +kernel
theorem dX10_place_28 : decode cX10_place 28 = .ok (.iadd, 1) := by decide +kernel
theorem dX10_place_29 : decode cX10_place 29 = .ok (.iconst 1, 1) := by decide +kernel
theorem dX10_place_30 : decode cX10_place 30 = .ok (.isub, 1) := by decide +kernel
theorem dX10_place_31 : decode cX10_place 31 = .ok (.imul, 1) := by decide +kernel
theorem dX10_place_32 : decode cX10_place 32 = .ok (.goto 20, 3) := by decide +kernel
theorem dX10_place_35 : decode cX10_place 35 = .ok (.ldc 232, 2) := by decide +kernel
theorem dX10_place_37 : decode cX10_place 37 = .ok (.bipush 8, 2) := by decide +kernel
theorem dX10_place_39 : decode cX10_place 39 = .ok (.bipush 20, 2) := by decide +kernel
theorem dX10_place_41 : decode cX10_place 41 = .ok (.iload 4, 2) := by decide +kernel
theorem dX10_place_43 : decode cX10_place 43 = .ok (.iconst 1, 1) := by decide +kernel
theorem dX10_place_44 : decode cX10_place 44 = .ok (.isub, 1) := by decide +kernel
theorem dX10_place_45 : decode cX10_place 45 = .ok (.imul, 1) := by decide +kernel
theorem dX10_place_46 : decode cX10_place 46 = .ok (.iload_n 3, 1) := by decide +kernel
theorem dX10_place_47 : decode cX10_place 47 = .ok (.iadd, 1) := by decide +kernel
theorem dX10_place_48 : decode cX10_place 48 = .ok (.iconst 1, 1) := by decide +kernel
theorem dX10_place_49 : decode cX10_place 49 = .ok (.isub, 1) := by decide +kernel
theorem dX10_place_50 : decode cX10_place 50 = .ok (.imul, 1) := by decide +kernel
theorem dX10_place_51 : decode cX10_place 51 = .ok (.iadd, 1) := by decide +kernel
theorem dX10_place_52 : decode cX10_place 52 = .ok (.ireturn, 1) := by decide +kernel
theorem dX10_isAll_0 : decode cX10_isAll 0 = .ok (.iconst 1, 1) := by decide +kernel
theorem dX10_isAll_1 : decode cX10_isAll 1 = .ok (.istore 6, 2) := by decide +kernel
theorem dX10_isAll_3 : decode cX10_isAll 3 = .ok (.iload_n 2, 1) := by decide +kernel
theorem dX10_isAll_4 : decode cX10_isAll 4 = .ok (.istore 7, 2) := by decide +kernel
theorem dX10_isAll_6 : decode cX10_isAll 6 = .ok (.iload 7, 2) := by decide +kernel
theorem dX10_isAll_8 : decode cX10_isAll 8 = .ok (.iload_n 2, 1) := by decide +kernel
theorem dX10_isAll_9 : decode cX10_isAll 9 = .ok (.iload 4, 2) := by decide +kernel
theorem dX10_isAll_11 : decode cX10_isAll 11 = .ok (.iadd, 1) := by decide +kernel
theorem dX10_isAll_12 : decode cX10_isAll 12 = .ok (.if_icmp .ge 61, 3) := by decide +kernel
theorem dX10_isAll_15 : decode cX10_isAll 15 = .ok (.iload 6, 2) := by decide +kernel
theorem dX10_isAll_17 : decode cX10_isAll 17 = .ok (.ifCond .eq 56, 3) := by decide +kernel
theorem dX10_isAll_20 : decode cX10_isAll 20 = .ok (.iload_n 1, 1) := by decide +kernel
theorem dX10_isAll_21 : decode cX10_isAll 21 = .ok (.istore 8, 2) := by decide +kernel
theorem dX10_isAll_23 : decode cX10_isAll 23 = .ok (.iload 8, 2) := by decide +kernel
theorem dX10_isAll_25 : decode cX10_isAll 25 = .ok (.iload_n 1, 1) := by decide +kernel
theorem dX10_isAll_26 : decode cX10_isAll 26 = .ok (.iload_n 3, 1) := by decide +kernel
theorem dX10_isAll_27 : decode cX10_isAll 27 = .ok (.iadd, 1) := by decide +kernel
theorem dX10_isAll_28 : decode cX10_isAll 28 = .ok (.if_icmp .ge 39, 3) := by decide +kernel
theorem dX10_isAll_31 : decode cX10_isAll 31 = .ok (.iload 6, 2) := by decide +kernel
theorem dX10_isAll_33 : decode cX10_isAll 33 = .ok (.ifCond .eq 34, 3) := by decide +kernel
theorem dX10_isAll_36 : decode cX10_isAll 36 = .ok (.aload_n 0, 1) := by decide +kernel
theorem dX10_isAll_37 : decode cX10_isAll 37 = .ok (.getfield 89, 3) := by decide +kernel
theorem dX10_isAll_40 : decode cX10_isAll 40 = .ok (.bipush 9, 2) := by decide +kernel
theorem dX10_isAll_42 : decode cX10_isAll 42 = .ok (.iload 7, 2) := by decide +kernel
theorem dX10_isAll_44 : decode cX10_isAll 44 = .ok (.imul, 1) := by decide +kernel
theorem dX10_isAll_45 : decode cX10_isAll 45 = .ok (.iload 8, 2) := by decide +kernel
theorem dX10_isAll_47 : decode cX10_isAll 47 = .ok (.iadd, 1) := by decide +kernel
theorem dX10_isAll_48 : decode cX10_isAll 48 = .ok (.iaload, 1) := by decide +kernel
theorem dX10_isAll_49 : decode cX10_isAll 49 = .ok (.iload 5, 2) := by decide +kernel
theorem dX10_isAll_51 : decode cX10_isAll 51 = .ok (.if_icmp .ne 7, 3) := by decide +kernel
theorem dX10_isAll_54 : decode cX10_isAll 54 = .ok (.iconst 1, 1) := by decide +kernel
theorem dX10_isAll_55 : decode cX10_isAll 55 = .ok (.goto 4, 3) := by decide +kernel
theorem dX10_isAll_58 : decode cX10_isAll 58 = .ok (.iconst 0, 1) := by decide +kernel
theorem dX10_isAll_59 : decode cX10_isAll 59 = .ok (.istore 6, 2) := by decide +kernel
theorem dX10_isAll_61 : decode cX10_isAll 61 = .ok (.iinc 8 1, 3) := by decide +kernel
theorem dX10_isAll_64 : decode cX10_isAll 64 = .ok (.goto (-41), 3) := by decide +kernel
theorem dX10_isAll_67 : decode cX10_isAll 67 = .ok (.iinc 7 1, 3) := by decide +kernel
theorem dX10_isAll_70 : decode cX10_isAll 70 = .ok (.goto (-64), 3) := by decide +kernel
theorem dX10_isAll_73 : decode cX10_isAll 73 = .ok (.iload 6, 2) := by decide +kernel
theorem dX10_isAll_75 : decode cX10_isAll 75 = .ok (.ireturn, 1) := by decide +kernel
theorem dX10_plus_0 : decode cX10_plus 0 = .ok (.lload_n 0, 1) := by decide +kernel
theorem dX10_plus_1 : decode cX10_plus 1 = .ok (.lconst 0, 1) := by decide +kernel
theorem dX10_plus_2 : decode cX10_plus 2 = .ok (.lcmp, 1) := by decide +kernel
theorem dX10_plus_3 : decode cX10_plus 3 = .ok (.ifCond .lt 9, 3) := by decide +kernel
theorem dX10_plus_6 : decode cX10_plus 6 = .ok (.lload_n 2, 1) := by decide +kernel
theorem dX10_plus_7 : decode cX10_plus 7 = .ok (.lconst 0, 1) := by decide +kernel
theorem dX10_plus_8 : decode cX10_plus 8 = .ok (.lcmp, 1) := by decide +kernel
theorem dX10_plus_9 : decode cX10_plus 9 = .ok (.ifCond .ge 9, 3) := by decide +kernel
theorem dX10_plus_12 : decode cX10_plus 12 = .ok (.ldc2_w 233, 3) := by decide +kernel
theorem dX10_plus_15 : decode cX10_plus 15 = .ok (.goto 22, 3) := by decide +kernel
theorem dX10_plus_18 : decode cX10_plus 18 = .ok (.lload_n 0, 1) := by decide +kernel
theorem dX10_plus_19 : decode cX10_plus 19 = .ok (.lload_n 2, 1) := by decide +kernel
theorem dX10_plus_20 : decode cX10_plus 20 = .ok (.ladd, 1) := by decide +kernel
theorem dX10_plus_21 : decode cX10_plus 21 = .ok (.ldc2_w 235, 3) := by decide +kernel
theorem dX10_plus_24 : decode cX10_plus 24 = .ok (.lcmp, 1) := by decide +kernel
theorem dX10_plus_25 : decode cX10_plus 25 = .ok (.ifCond .le 9, 3) := by decide +kernel
theorem dX10_plus_28 : decode cX10_plus 28 = .ok (.ldc2_w 235, 3) := by decide +kernel
theorem dX10_plus_31 : decode cX10_plus 31 = .ok (.goto 6, 3) := by decide +kernel
theorem dX10_plus_34 : decode cX10_plus 34 = .ok (.lload_n 0, 1) := by decide +kernel
theorem dX10_plus_35 : decode cX10_plus 35 = .ok (.lload_n 2, 1) := by decide +kernel
theorem dX10_plus_36 : decode cX10_plus 36 = .ok (.ladd, 1) := by decide +kernel
theorem dX10_plus_37 : decode cX10_plus 37 = .ok (.lreturn, 1) := by decide +kernel
theorem dX10_mult_0 : decode cX10_mult 0 = .ok (.lload_n 0, 1) := by decide +kernel
theorem dX10_mult_1 : decode cX10_mult 1 = .ok (.lconst 0, 1) := by decide +kernel
theorem dX10_mult_2 : decode cX10_mult 2 = .ok (.lcmp, 1) := by decide +kernel
theorem dX10_mult_3 : decode cX10_mult 3 = .ok (.ifCond .eq 9, 3) := by decide +kernel
theorem dX10_mult_6 : decode cX10_mult 6 = .ok (.lload_n 2, 1) := by decide +kernel
theorem dX10_mult_7 : decode cX10_mult 7 = .ok (.lconst 0, 1) := by decide +kernel
theorem dX10_mult_8 : decode cX10_mult 8 = .ok (.lcmp, 1) := by decide +kernel
theorem dX10_mult_9 : decode cX10_mult 9 = .ok (.ifCond .ne 5, 3) := by decide +kernel
theorem dX10_mult_12 : decode cX10_mult 12 = .ok (.lconst 0, 1) := by decide +kernel
theorem dX10_mult_13 : decode cX10_mult 13 = .ok (.lreturn, 1) := by decide +kernel
theorem dX10_mult_14 : decode cX10_mult 14 = .ok (.lload_n 0, 1) := by decide +kernel
theorem dX10_mult_15 : decode cX10_mult 15 = .ok (.lconst 0, 1) := by decide +kernel
theorem dX10_mult_16 : decode cX10_mult 16 = .ok (.lcmp, 1) := by decide +kernel
theorem dX10_mult_17 : decode cX10_mult 17 = .ok (.ifCond .lt 9, 3) := by decide +kernel
theorem dX10_mult_20 : decode cX10_mult 20 = .ok (.lload_n 2, 1) := by decide +kernel
theorem dX10_mult_21 : decode cX10_mult 21 = .ok (.lconst 0, 1) := by decide +kernel
theorem dX10_mult_22 : decode cX10_mult 22 = .ok (.lcmp, 1) := by decide +kernel
theorem dX10_mult_23 : decode cX10_mult 23 = .ok (.ifCond .ge 9, 3) := by decide +kernel
theorem dX10_mult_26 : decode cX10_mult 26 = .ok (.ldc2_w 233, 3) := by decide +kernel
theorem dX10_mult_29 : decode cX10_mult 29 = .ok (.goto 22, 3) := by decide +kernel
theorem dX10_mult_32 : decode cX10_mult 32 = .ok (.lload_n 0, 1) := by decide +kernel
theorem dX10_mult_33 : decode cX10_mult 33 = .ok (.ldc2_w 235, 3) := by decide +kernel
theorem dX10_mult_36 : decode cX10_mult 36 = .ok (.lload_n 2, 1) := by decide +kernel
theorem dX10_mult_37 : decode cX10_mult 37 = .ok (.ldiv, 1) := by decide +kernel
theorem dX10_mult_38 : decode cX10_mult 38 = .ok (.lcmp, 1) := by decide +kernel
theorem dX10_mult_39 : decode cX10_mult 39 = .ok (.ifCond .le 9, 3) := by decide +kernel
theorem dX10_mult_42 : decode cX10_mult 42 = .ok (.ldc2_w 235, 3) := by decide +kernel
theorem dX10_mult_45 : decode cX10_mult 45 = .ok (.goto 6, 3) := by decide +kernel
theorem dX10_mult_48 : decode cX10_mult 48 = .ok (.lload_n 0, 1) := by decide +kernel
theorem dX10_mult_49 : decode cX10_mult 49 = .ok (.lload_n 2, 1) := by decide +kernel
theorem dX10_mult_50 : decode cX10_mult 50 = .ok (.lmul, 1) := by decide +kernel
theorem dX10_mult_51 : decode cX10_mult 51 = .ok (.lreturn, 1) := by decide +kernel
theorem dX10_count_0 : decode cX10_count 0 = .ok (.aload_n 0, 1) := by decide +kernel
theorem dX10_count_1 : decode cX10_count 1 = .ok (.getfield 7, 3) := by decide +kernel
theorem dX10_count_4 : decode cX10_count 4 = .ok (.iload_n 1, 1) := by decide +kernel
theorem dX10_count_5 : decode cX10_count 5 = .ok (.iaload, 1) := by decide +kernel
theorem dX10_count_6 : decode cX10_count 6 = .ok (.istore 6, 2) := by decide +kernel
theorem dX10_count_8 : decode cX10_count 8 = .ok (.aload_n 0, 1) := by decide +kernel
theorem dX10_count_9 : decode cX10_count 9 = .ok (.iload_n 1, 1) := by decide +kernel
theorem dX10_count_10 : decode cX10_count 10 = .ok (.iload 4, 2) := by decide +kernel
theorem dX10_count_12 : decode cX10_count 12 = .ok (.iload 5, 2) := by decide +kernel
theorem dX10_count_14 : decode cX10_count 14 = .ok (.invokevirtual 186, 3) := by decide +kernel
theorem dX10_count_17 : decode cX10_count 17 = .ok (.ifCond .ne 4, 3) := by decide +kernel
theorem dX10_count_20 : decode cX10_count 20 = .ok (.return_, 1) := by decide +kernel
theorem dX10_count_21 : decode cX10_count 21 = .ok (.aload_n 0, 1) := by decide +kernel
theorem dX10_count_22 : decode cX10_count 22 = .ok (.getfield 13, 3) := by decide +kernel
theorem dX10_count_25 : decode cX10_count 25 = .ok (.iload_n 1, 1) := by decide +kernel
theorem dX10_count_26 : decode cX10_count 26 = .ok (.iaload, 1) := by decide +kernel
theorem dX10_count_27 : decode cX10_count 27 = .ok (.ifCond .ne 52, 3) := by decide +kernel
theorem dX10_count_30 : decode cX10_count 30 = .ok (.aload_n 0, 1) := by decide +kernel
theorem dX10_count_31 : decode cX10_count 31 = .ok (.getfield 106, 3) := by decide +kernel
theorem dX10_count_34 : decode cX10_count 34 = .ok (.iload 6, 2) := by decide +kernel
theorem dX10_count_36 : decode cX10_count 36 = .ok (.aload_n 0, 1) := by decide +kernel
theorem dX10_count_37 : decode cX10_count 37 = .ok (.getfield 106, 3) := by decide +kernel
theorem dX10_count_40 : decode cX10_count 40 = .ok (.iload 6, 2) := by decide +kernel
theorem dX10_count_42 : decode cX10_count 42 = .ok (.laload, 1) := by decide +kernel
theorem dX10_count_43 : decode cX10_count 43 = .ok (.aload_n 0, 1) := by decide +kernel
theorem dX10_count_44 : decode cX10_count 44 = .ok (.getfield 229, 3) := by decide +kernel
theorem dX10_count_47 : decode cX10_count 47 = .ok (.ifCond .eq 22, 3) := by decide +kernel
theorem dX10_count_50 : decode cX10_count 50 = .ok (.aload_n 0, 1) := by decide +kernel
theorem dX10_count_51 : decode cX10_count 51 = .ok (.iload_n 2, 1) := by decide +kernel
theorem dX10_count_52 : decode cX10_count 52 = .ok (.iload_n 3, 1) := by decide +kernel
theorem dX10_count_53 : decode cX10_count 53 = .ok (.iload 4, 2) := by decide +kernel
theorem dX10_count_55 : decode cX10_count 55 = .ok (.iload 5, 2) := by decide +kernel
theorem dX10_count_57 : decode cX10_count 57 = .ok (.aload_n 0, 1) := by decide +kernel
theorem dX10_count_58 : decode cX10_count 58 = .ok (.getfield 19, 3) := by decide +kernel
theorem dX10_count_61 : decode cX10_count 61 = .ok (.iload_n 1, 1) := by decide +kernel
theorem dX10_count_62 : decode cX10_count 62 = .ok (.iaload, 1) := by decide +kernel
theorem dX10_count_63 : decode cX10_count 63 = .ok (.invokevirtual 237, 3) := by decide +kernel
theorem dX10_count_66 : decode cX10_count 66 = .ok (.ifCond .eq 7, 3) := by decide +kernel
theorem dX10_count_69 : decode cX10_count 69 = .ok (.lconst 1, 1) := by decide +kernel
theorem dX10_count_70 : decode cX10_count 70 = .ok (.goto 4, 3) := by decide +kernel
theorem dX10_count_73 : decode cX10_count 73 = .ok (.lconst 0, 1) := by decide +kernel
theorem dX10_count_74 : decode cX10_count 74 = .ok (.invokestatic 241, 3) := by decide +kernel
theorem dX10_count_77 : decode cX10_count 77 = .ok (.lastore, 1) := by decide +kernel
theorem dX10_count_78 : decode cX10_count 78 = .ok (.return_, 1) := by decide +kernel
theorem dX10_count_79 : decode cX10_count 79 = .ok (.aload_n 0, 1) := by decide +kernel
theorem dX10_count_80 : decode cX10_count 80 = .ok (.getfield 173, 3) := by decide +kernel
theorem dX10_count_83 : decode cX10_count 83 = .ok (.iconst 1, 1) := by decide +kernel
theorem dX10_count_84 : decode cX10_count 84 = .ok (.if_icmp .ne 25, 3) := by decide +kernel
theorem dX10_count_87 : decode cX10_count 87 = .ok (.aload_n 0, 1) := by decide +kernel
theorem dX10_count_88 : decode cX10_count 88 = .ok (.getfield 109, 3) := by decide +kernel
theorem dX10_count_91 : decode cX10_count 91 = .ok (.bipush 8, 2) := by decide +kernel
theorem dX10_count_93 : decode cX10_count 93 = .ok (.iload 6, 2) := by decide +kernel
theorem dX10_count_95 : decode cX10_count 95 = .ok (.imul, 1) := by decide +kernel
theorem dX10_count_96 : decode cX10_count 96 = .ok (.aload_n 0, 1) := by decide +kernel
theorem dX10_count_97 : decode cX10_count 97 = .ok (.getfield 53, 3) := by decide +kernel
theorem dX10_count_100 : decode cX10_count 100 = .ok (.iconst 0, 1) := by decide +kernel
theorem dX10_count_101 : decode cX10_count 101 = .ok (.iaload, 1) := by decide +kernel
theorem dX10_count_102 : decode cX10_count 102 = .ok (.iadd, 1) := by decide +kernel
theorem dX10_count_103 : decode cX10_count 103 = .ok (.dup2, 1) := by decide +kernel
theorem dX10_count_104 : decode cX10_count 104 = .ok (.iaload, 1) := by decide +kernel
theorem dX10_count_105 : decode cX10_count 105 = .ok (.iconst 1, 1) := by decide +kernel
theorem dX10_count_106 : decode cX10_count 106 = .ok (.iadd, 1) := by decide +kernel
theorem dX10_count_107 : decode cX10_count 107 = .ok (.iastore, 1) := by decide +kernel
theorem dX10_count_108 : decode cX10_count 108 = .ok (.return_, 1) := by decide +kernel
theorem dX10_count_109 : decode cX10_count 109 = .ok (.aload_n 0, 1) := by decide +kernel
theorem dX10_count_110 : decode cX10_count 110 = .ok (.iload_n 1, 1) := by decide +kernel
theorem dX10_count_111 : decode cX10_count 111 = .ok (.invokevirtual 176, 3) := by decide +kernel
theorem dX10_count_114 : decode cX10_count 114 = .ok (.istore 7, 2) := by decide +kernel
theorem dX10_count_116 : decode cX10_count 116 = .ok (.lconst 1, 1) := by decide +kernel
theorem dX10_count_117 : decode cX10_count 117 = .ok (.lstore 8, 2) := by decide +kernel
theorem dX10_count_119 : decode cX10_count 119 = .ok (.iconst 0, 1) := by decide +kernel
theorem dX10_count_120 : decode cX10_count 120 = .ok (.istore 10, 2) := by decide +kernel
theorem dX10_count_122 : decode cX10_count 122 = .ok (.iload 10, 2) := by decide +kernel
theorem dX10_count_124 : decode cX10_count 124 = .ok (.aload_n 0, 1) := by decide +kernel
theorem dX10_count_125 : decode cX10_count 125 = .ok (.getfield 173, 3) := by decide +kernel
theorem dX10_count_128 : decode cX10_count 128 = .ok (.if_icmp .ge 87, 3) := by decide +kernel
theorem dX10_count_131 : decode cX10_count 131 = .ok (.iload 7, 2) := by decide +kernel
theorem dX10_count_133 : decode cX10_count 133 = .ok (.ifCond .eq 29, 3) := by decide +kernel
theorem dX10_count_136 : decode cX10_count 136 = .ok (.aload_n 0, 1) := by decide +kernel
theorem dX10_count_137 : decode cX10_count 137 = .ok (.iload_n 2, 1) := by decide +kernel
theorem dX10_count_138 : decode cX10_count 138 = .ok (.iload_n 3, 1) := by decide +kernel
theorem dX10_count_139 : decode cX10_count 139 = .ok (.aload_n 0, 1) := by decide +kernel
theorem dX10_count_140 : decode cX10_count 140 = .ok (.getfield 47, 3) := by decide +kernel
theorem dX10_count_143 : decode cX10_count 143 = .ok (.iload 10, 2) := by decide +kernel
theorem dX10_count_145 : decode cX10_count 145 = .ok (.iaload, 1) := by decide +kernel
theorem dX10_count_146 : decode cX10_count 146 = .ok (.iadd, 1) := by decide +kernel
theorem dX10_count_147 : decode cX10_count 147 = .ok (.iload 4, 2) := by decide +kernel
theorem dX10_count_149 : decode cX10_count 149 = .ok (.aload_n 0, 1) := by decide +kernel
theorem dX10_count_150 : decode cX10_count 150 = .ok (.getfield 50, 3) := by decide +kernel
theorem dX10_count_153 : decode cX10_count 153 = .ok (.iload 10, 2) := by decide +kernel
theorem dX10_count_155 : decode cX10_count 155 = .ok (.iaload, 1) := by decide +kernel
theorem dX10_count_156 : decode cX10_count 156 = .ok (.invokevirtual 245, 3) := by decide +kernel
theorem dX10_count_159 : decode cX10_count 159 = .ok (.goto 26, 3) := by decide +kernel
theorem dX10_count_162 : decode cX10_count 162 = .ok (.aload_n 0, 1) := by decide +kernel
theorem dX10_count_163 : decode cX10_count 163 = .ok (.iload_n 2, 1) := by decide +kernel
theorem dX10_count_164 : decode cX10_count 164 = .ok (.aload_n 0, 1) := by decide +kernel
theorem dX10_count_165 : decode cX10_count 165 = .ok (.getfield 47, 3) := by decide +kernel
theorem dX10_count_168 : decode cX10_count 168 = .ok (.iload 10, 2) := by decide +kernel
theorem dX10_count_170 : decode cX10_count 170 = .ok (.iaload, 1) := by decide +kernel
theorem dX10_count_171 : decode cX10_count 171 = .ok (.iadd, 1) := by decide +kernel
theorem dX10_count_172 : decode cX10_count 172 = .ok (.iload_n 3, 1) := by decide +kernel
theorem dX10_count_173 : decode cX10_count 173 = .ok (.aload_n 0, 1) := by decide +kernel
theorem dX10_count_174 : decode cX10_count 174 = .ok (.getfield 50, 3) := by decide +kernel
theorem dX10_count_177 : decode cX10_count 177 = .ok (.iload 10, 2) := by decide +kernel
theorem dX10_count_179 : decode cX10_count 179 = .ok (.iaload, 1) := by decide +kernel
theorem dX10_count_180 : decode cX10_count 180 = .ok (.iload 5, 2) := by decide +kernel
theorem dX10_count_182 : decode cX10_count 182 = .ok (.invokevirtual 245, 3) := by decide +kernel
theorem dX10_count_185 : decode cX10_count 185 = .ok (.istore 11, 2) := by decide +kernel
theorem dX10_count_187 : decode cX10_count 187 = .ok (.lload 8, 2) := by decide +kernel
theorem dX10_count_189 : decode cX10_count 189 = .ok (.aload_n 0, 1) := by decide +kernel
theorem dX10_count_190 : decode cX10_count 190 = .ok (.getfield 93, 3) := by decide +kernel
theorem dX10_count_193 : decode cX10_count 193 = .ok (.iload 11, 2) := by decide +kernel
theorem dX10_count_195 : decode cX10_count 195 = .ok (.aload_n 0, 1) := by decide +kernel
theorem dX10_count_196 : decode cX10_count 196 = .ok (.getfield 53, 3) := by decide +kernel
theorem dX10_count_199 : decode cX10_count 199 = .ok (.iload 10, 2) := by decide +kernel
theorem dX10_count_201 : decode cX10_count 201 = .ok (.iaload, 1) := by decide +kernel
theorem dX10_count_202 : decode cX10_count 202 = .ok (.iadd, 1) := by decide +kernel
theorem dX10_count_203 : decode cX10_count 203 = .ok (.laload, 1) := by decide +kernel
theorem dX10_count_204 : decode cX10_count 204 = .ok (.invokestatic 248, 3) := by decide +kernel
theorem dX10_count_207 : decode cX10_count 207 = .ok (.lstore 8, 2) := by decide +kernel
theorem dX10_count_209 : decode cX10_count 209 = .ok (.iinc 10 1, 3) := by decide +kernel
theorem dX10_count_212 : decode cX10_count 212 = .ok (.goto (-90), 3) := by decide +kernel
theorem dX10_count_215 : decode cX10_count 215 = .ok (.aload_n 0, 1) := by decide +kernel
theorem dX10_count_216 : decode cX10_count 216 = .ok (.getfield 106, 3) := by decide +kernel
theorem dX10_count_219 : decode cX10_count 219 = .ok (.iload 6, 2) := by decide +kernel
theorem dX10_count_221 : decode cX10_count 221 = .ok (.aload_n 0, 1) := by decide +kernel
theorem dX10_count_222 : decode cX10_count 222 = .ok (.getfield 106, 3) := by decide +kernel
theorem dX10_count_225 : decode cX10_count 225 = .ok (.iload 6, 2) := by decide +kernel
theorem dX10_count_227 : decode cX10_count 227 = .ok (.laload, 1) := by decide +kernel
theorem dX10_count_228 : decode cX10_count 228 = .ok (.lload 8, 2) := by decide +kernel
theorem dX10_count_230 : decode cX10_count 230 = .ok (.invokestatic 241, 3) := by decide +kernel
theorem dX10_count_233 : decode cX10_count 233 = .ok (.lastore, 1) := by decide +kernel
theorem dX10_count_234 : decode cX10_count 234 = .ok (.return_, 1) := by decide +kernel
theorem dX10_findMade_0 : decode cX10_findMade 0 = .ok (.iconst 0, 1) := by decide +kernel
theorem dX10_findMade_1 : decode cX10_findMade 1 = .ok (.istore_n 1, 1) := by decide +kernel
theorem dX10_findMade_2 : decode cX10_findMade 2 = .ok (.iload_n 1, 1) := by decide +kernel
theorem dX10_findMade_3 : decode cX10_findMade 3 = .ok (.bipush 8, 2) := by decide +kernel
theorem dX10_findMade_5 : decode cX10_findMade 5 = .ok (.if_icmp .ge 31, 3) := by decide +kernel
theorem dX10_findMade_8 : decode cX10_findMade 8 = .ok (.aload_n 0, 1) := by decide +kernel
theorem dX10_findMade_9 : decode cX10_findMade 9 = .ok (.getfield 112, 3) := by decide +kernel
theorem dX10_findMade_12 : decode cX10_findMade 12 = .ok (.iload_n 1, 1) := by decide +kernel
theorem dX10_findMade_13 : decode cX10_findMade 13 = .ok (.aload_n 0, 1) := by decide +kernel
theorem dX10_findMade_14 : decode cX10_findMade 14 = .ok (.getfield 106, 3) := by decide +kernel
theorem dX10_findMade_17 : decode cX10_findMade 17 = .ok (.iload_n 1, 1) := by decide +kernel
theorem dX10_findMade_18 : decode cX10_findMade 18 = .ok (.laload, 1) := by decide +kernel
theorem dX10_findMade_19 : decode cX10_findMade 19 = .ok (.lconst 0, 1) := by decide +kernel
theorem dX10_findMade_20 : decode cX10_findMade 20 = .ok (.lcmp, 1) := by decide +kernel
theorem dX10_findMade_21 : decode cX10_findMade 21 = .ok (.ifCond .eq 7, 3) := by decide +kernel
theorem dX10_findMade_24 : decode cX10_findMade 24 = .ok (.iconst 1, 1) := by decide +kernel
theorem dX10_findMade_25 : decode cX10_findMade 25 = .ok (.goto 4, 3) := by decide +kernel
theorem dX10_findMade_28 : decode cX10_findMade 28 = .ok (.iconst 0, 1) := by decide +kernel
theorem dX10_findMade_29 : decode cX10_findMade 29 = .ok (.bastore, 1) := by decide +kernel
theorem dX10_findMade_30 : decode cX10_findMade 30 = .ok (.iinc 1 1, 3) := by decide +kernel
theorem dX10_findMade_33 : decode cX10_findMade 33 = .ok (.goto (-31), 3) := by decide +kernel
theorem dX10_findMade_36 : decode cX10_findMade 36 = .ok (.iconst 0, 1) := by decide +kernel
theorem dX10_findMade_37 : decode cX10_findMade 37 = .ok (.istore_n 1, 1) := by decide +kernel
theorem dX10_findMade_38 : decode cX10_findMade 38 = .ok (.iload_n 1, 1) := by decide +kernel
theorem dX10_findMade_39 : decode cX10_findMade 39 = .ok (.bipush 8, 2) := by decide +kernel
theorem dX10_findMade_41 : decode cX10_findMade 41 = .ok (.if_icmp .ge 70, 3) := by decide +kernel
theorem dX10_findMade_44 : decode cX10_findMade 44 = .ok (.iconst 0, 1) := by decide +kernel
theorem dX10_findMade_45 : decode cX10_findMade 45 = .ok (.istore_n 2, 1) := by decide +kernel
theorem dX10_findMade_46 : decode cX10_findMade 46 = .ok (.iload_n 2, 1) := by decide +kernel
theorem dX10_findMade_47 : decode cX10_findMade 47 = .ok (.bipush 64, 2) := by decide +kernel
theorem dX10_findMade_49 : decode cX10_findMade 49 = .ok (.if_icmp .ge 56, 3) := by decide +kernel
theorem dX10_findMade_52 : decode cX10_findMade 52 = .ok (.aload_n 0, 1) := by decide +kernel
theorem dX10_findMade_53 : decode cX10_findMade 53 = .ok (.getfield 112, 3) := by decide +kernel
theorem dX10_findMade_56 : decode cX10_findMade 56 = .ok (.iload_n 2, 1) := by decide +kernel
theorem dX10_findMade_57 : decode cX10_findMade 57 = .ok (.bipush 8, 2) := by decide +kernel
theorem dX10_findMade_59 : decode cX10_findMade 59 = .ok (.idiv, 1) := by decide +kernel
theorem dX10_findMade_60 : decode cX10_findMade 60 = .ok (.aload_n 0, 1) := by decide +kernel
theorem dX10_findMade_61 : decode cX10_findMade 61 = .ok (.getfield 112, 3) := by decide +kernel
theorem dX10_findMade_64 : decode cX10_findMade 64 = .ok (.iload_n 2, 1) := by decide +kernel
theorem dX10_findMade_65 : decode cX10_findMade 65 = .ok (.bipush 8, 2) := by decide +kernel
theorem dX10_findMade_67 : decode cX10_findMade 67 = .ok (.idiv, 1) := by decide +kernel
theorem dX10_findMade_68 : decode cX10_findMade 68 = .ok (.baload, 1) := by decide +kernel
theorem dX10_findMade_69 : decode cX10_findMade 69 = .ok (.ifCond .ne 24, 3) := by decide +kernel
theorem dX10_findMade_72 : decode cX10_findMade 72 = .ok (.aload_n 0, 1) := by decide +kernel
theorem dX10_findMade_73 : decode cX10_findMade 73 = .ok (.getfield 109, 3) := by decide +kernel
theorem dX10_findMade_76 : decode cX10_findMade 76 = .ok (.iload_n 2, 1) := by decide +kernel
theorem dX10_findMade_77 : decode cX10_findMade 77 = .ok (.iaload, 1) := by decide +kernel
theorem dX10_findMade_78 : decode cX10_findMade 78 = .ok (.ifCond .le 19, 3) := by decide +kernel
theorem dX10_findMade_81 : decode cX10_findMade 81 = .ok (.aload_n 0, 1) := by decide +kernel
theorem dX10_findMade_82 : decode cX10_findMade 82 = .ok (.getfield 112, 3) := by decide +kernel
theorem dX10_findMade_85 : decode cX10_findMade 85 = .ok (.iload_n 2, 1) := by decide +kernel
theorem dX10_findMade_86 : decode cX10_findMade 86 = .ok (.bipush 8, 2) := by decide +kernel
theorem dX10_findMade_88 : decode cX10_findMade 88 = .ok (.irem, 1) := by decide +kernel
theorem dX10_findMade_89 : decode cX10_findMade 89 = .ok (.baload, 1) := by decide +kernel
theorem dX10_findMade_90 : decode cX10_findMade 90 = .ok (.ifCond .eq 7, 3) := by decide +kernel
theorem dX10_findMade_93 : decode cX10_findMade 93 = .ok (.iconst 1, 1) := by decide +kernel
theorem dX10_findMade_94 : decode cX10_findMade 94 = .ok (.goto 4, 3) := by decide +kernel
theorem dX10_findMade_97 : decode cX10_findMade 97 = .ok (.iconst 0, 1) := by decide +kernel
theorem dX10_findMade_98 : decode cX10_findMade 98 = .ok (.bastore, 1) := by decide +kernel
theorem dX10_findMade_99 : decode cX10_findMade 99 = .ok (.iinc 2 1, 3) := by decide +kernel
theorem dX10_findMade_102 : decode cX10_findMade 102 = .ok (.goto (-56), 3) := by decide +kernel
theorem dX10_findMade_105 : decode cX10_findMade 105 = .ok (.iinc 1 1, 3) := by decide +kernel
theorem dX10_findMade_108 : decode cX10_findMade 108 = .ok (.goto (-70), 3) := by decide +kernel
theorem dX10_findMade_111 : decode cX10_findMade 111 = .ok (.iconst 0, 1) := by decide +kernel
theorem dX10_findMade_112 : decode cX10_findMade 112 = .ok (.istore_n 1, 1) := by decide +kernel
theorem dX10_findMade_113 : decode cX10_findMade 113 = .ok (.iload_n 1, 1) := by decide +kernel
theorem dX10_findMade_114 : decode cX10_findMade 114 = .ok (.bipush 64, 2) := by decide +kernel
theorem dX10_findMade_116 : decode cX10_findMade 116 = .ok (.if_icmp .ge 53, 3) := by decide +kernel
theorem dX10_findMade_119 : decode cX10_findMade 119 = .ok (.aload_n 0, 1) := by decide +kernel
theorem dX10_findMade_120 : decode cX10_findMade 120 = .ok (.getfield 115, 3) := by decide +kernel
theorem dX10_findMade_123 : decode cX10_findMade 123 = .ok (.iload_n 1, 1) := by decide +kernel
theorem dX10_findMade_124 : decode cX10_findMade 124 = .ok (.aload_n 0, 1) := by decide +kernel
theorem dX10_findMade_125 : decode cX10_findMade 125 = .ok (.getfield 109, 3) := by decide +kernel
theorem dX10_findMade_128 : decode cX10_findMade 128 = .ok (.iload_n 1, 1) := by decide +kernel
theorem dX10_findMade_129 : decode cX10_findMade 129 = .ok (.iaload, 1) := by decide +kernel
theorem dX10_findMade_130 : decode cX10_findMade 130 = .ok (.ifCond .le 31, 3) := by decide +kernel
theorem dX10_findMade_133 : decode cX10_findMade 133 = .ok (.aload_n 0, 1) := by decide +kernel
theorem dX10_findMade_134 : decode cX10_findMade 134 = .ok (.getfield 112, 3) := by decide +kernel
theorem dX10_findMade_137 : decode cX10_findMade 137 = .ok (.iload_n 1, 1) := by decide +kernel
theorem dX10_findMade_138 : decode cX10_findMade 138 = .ok (.bipush 8, 2) := by decide +kernel
theorem dX10_findMade_140 : decode cX10_findMade 140 = .ok (.idiv, 1) := by decide +kernel
theorem dX10_findMade_141 : decode cX10_findMade 141 = .ok (.baload, 1) := by decide +kernel
theorem dX10_findMade_142 : decode cX10_findMade 142 = .ok (.ifCond .eq 19, 3) := by decide +kernel
theorem dX10_findMade_145 : decode cX10_findMade 145 = .ok (.aload_n 0, 1) := by decide +kernel
theorem dX10_findMade_146 : decode cX10_findMade 146 = .ok (.getfield 112, 3) := by decide +kernel
theorem dX10_findMade_149 : decode cX10_findMade 149 = .ok (.iload_n 1, 1) := by decide +kernel
theorem dX10_findMade_150 : decode cX10_findMade 150 = .ok (.bipush 8, 2) := by decide +kernel
theorem dX10_findMade_152 : decode cX10_findMade 152 = .ok (.irem, 1) := by decide +kernel
theorem dX10_findMade_153 : decode cX10_findMade 153 = .ok (.baload, 1) := by decide +kernel
theorem dX10_findMade_154 : decode cX10_findMade 154 = .ok (.ifCond .eq 7, 3) := by decide +kernel
theorem dX10_findMade_157 : decode cX10_findMade 157 = .ok (.iconst 1, 1) := by decide +kernel
theorem dX10_findMade_158 : decode cX10_findMade 158 = .ok (.goto 4, 3) := by decide +kernel
theorem dX10_findMade_161 : decode cX10_findMade 161 = .ok (.iconst 0, 1) := by decide +kernel
theorem dX10_findMade_162 : decode cX10_findMade 162 = .ok (.bastore, 1) := by decide +kernel
theorem dX10_findMade_163 : decode cX10_findMade 163 = .ok (.iinc 1 1, 3) := by decide +kernel
theorem dX10_findMade_166 : decode cX10_findMade 166 = .ok (.goto (-53), 3) := by decide +kernel
theorem dX10_findMade_169 : decode cX10_findMade 169 = .ok (.iconst 0, 1) := by decide +kernel
theorem dX10_findMade_170 : decode cX10_findMade 170 = .ok (.istore_n 1, 1) := by decide +kernel
theorem dX10_findMade_171 : decode cX10_findMade 171 = .ok (.iload_n 1, 1) := by decide +kernel
theorem dX10_findMade_172 : decode cX10_findMade 172 = .ok (.bipush 8, 2) := by decide +kernel
theorem dX10_findMade_174 : decode cX10_findMade 174 = .ok (.if_icmp .ge 77, 3) := by decide +kernel
theorem dX10_findMade_177 : decode cX10_findMade 177 = .ok (.iconst 0, 1) := by decide +kernel
theorem dX10_findMade_178 : decode cX10_findMade 178 = .ok (.istore_n 2, 1) := by decide +kernel
theorem dX10_findMade_179 : decode cX10_findMade 179 = .ok (.iload_n 2, 1) := by decide +kernel
theorem dX10_findMade_180 : decode cX10_findMade 180 = .ok (.bipush 64, 2) := by decide +kernel
theorem dX10_findMade_182 : decode cX10_findMade 182 = .ok (.if_icmp .ge 63, 3) := by decide +kernel
theorem dX10_findMade_185 : decode cX10_findMade 185 = .ok (.aload_n 0, 1) := by decide +kernel
theorem dX10_findMade_186 : decode cX10_findMade 186 = .ok (.getfield 115, 3) := by decide +kernel
theorem dX10_findMade_189 : decode cX10_findMade 189 = .ok (.iload_n 2, 1) := by decide +kernel
theorem dX10_findMade_190 : decode cX10_findMade 190 = .ok (.aload_n 0, 1) := by decide +kernel
theorem dX10_findMade_191 : decode cX10_findMade 191 = .ok (.getfield 115, 3) := by decide +kernel
theorem dX10_findMade_194 : decode cX10_findMade 194 = .ok (.iload_n 2, 1) := by decide +kernel
theorem dX10_findMade_195 : decode cX10_findMade 195 = .ok (.baload, 1) := by decide +kernel
theorem dX10_findMade_196 : decode cX10_findMade 196 = .ok (.ifCond .ne 37, 3) := by decide +kernel
theorem dX10_findMade_199 : decode cX10_findMade 199 = .ok (.aload_n 0, 1) := by decide +kernel
theorem dX10_findMade_200 : decode cX10_findMade 200 = .ok (.getfield 115, 3) := by decide +kernel
theorem dX10_findMade_203 : decode cX10_findMade 203 = .ok (.iload_n 2, 1) := by decide +kernel
theorem dX10_findMade_204 : decode cX10_findMade 204 = .ok (.bipush 8, 2) := by decide +kernel
