theorem dX5_layRepeat_12 : decode cX5_layRepeat 12 = .ok (.iload_n 3, 1) := by decide +kernel
theorem dX5_layRepeat_13 : decode cX5_layRepeat 13 = .ok (.idiv, 1) := by decide +kernel
theorem dX5_layRepeat_14 : decode cX5_layRepeat 14 = .ok (.goto 4, 3) := by decide +kernel
theorem dX5_layRepeat_17 : decode cX5_layRepeat 17 = .ok (.iconst 0, 1) := by decide +kernel
theorem dX5_layRepeat_18 : decode cX5_layRepeat 18 = .ok (.istore 4, 2) := by decide +kernel
theorem dX5_layRepeat_20 : decode cX5_layRepeat 20 = .ok (.iload 4, 2) := by decide +kernel
theorem dX5_layRepeat_22 : decode cX5_layRepeat 22 = .ok (.iconst 1, 1) := by decide +kernel
theorem dX5_layRepeat_23 : decode cX5_layRepeat 23 = .ok (.if_icmp .lt 10, 3) := by decide +kernel
theorem dX5_layRepeat_26 : decode cX5_layRepeat 26 = .ok (.iload 4, 2) := by decide +kernel
theorem dX5_layRepeat_28 : decode cX5_layRepeat 28 = .ok (.bipush 20, 2) := by decide +kernel
theorem dX5_layRepeat_30 : decode cX5_layRepeat 30 = .ok (.if_icmp .le 5, 3) := by decide +kernel
theorem dX5_layRepeat_33 : decode cX5_layRepeat 33 = .ok (.iconst 0, 1) := by decide +kernel
theorem dX5_layRepeat_34 : decode cX5_layRepeat 34 = .ok (.ireturn, 1) := by decide +kernel
theorem dX5_layRepeat_35 : decode cX5_layRepeat 35 = .ok (.aload_n 0, 1) := by decide +kernel
theorem dX5_layRepeat_36 : decode cX5_layRepeat 36 = .ok (.iload 4, 2) := by decide +kernel
theorem dX5_layRepeat_38 : decode cX5_layRepeat 38 = .ok (.putfield 21, 3) := by decide +kernel
theorem dX5_layRepeat_41 : decode cX5_layRepeat 41 = .ok (.iconst 0, 1) := by decide +kernel
theorem dX5_layRepeat_42 : decode cX5_layRepeat 42 = .ok (.istore 5, 2) := by decide +kernel
theorem dX5_layRepeat_44 : decode cX5_layRepeat 44 = .ok (.iload 5, 2) := by decide +kernel
theorem dX5_layRepeat_46 : decode cX5_layRepeat 46 = .ok (.aload_n 0, 1) := by decide +kernel
theorem dX5_layRepeat_47 : decode cX5_layRepeat 47 = .ok (.getfield 21, 3) := by decide +kernel
theorem dX5_layRepeat_50 : decode cX5_layRepeat 50 = .ok (.if_icmp .ge 48, 3) := by decide +kernel
theorem dX5_layRepeat_53 : decode cX5_layRepeat 53 = .ok (.aload_n 0, 1) := by decide +kernel
theorem dX5_layRepeat_54 : decode cX5_layRepeat 54 = .ok (.getfield 9, 3) := by decide +kernel
theorem dX5_layRepeat_57 : decode cX5_layRepeat 57 = .ok (.iload 5, 2) := by decide +kernel
theorem dX5_layRepeat_59 : decode cX5_layRepeat 59 = .ok (.aload_n 1, 1) := by decide +kernel
theorem dX5_layRepeat_60 : decode cX5_layRepeat 60 = .ok (.getfield 64, 3) := by decide +kernel
theorem dX5_layRepeat_63 : decode cX5_layRepeat 63 = .ok (.iconst 0, 1) := by decide +kernel
theorem dX5_layRepeat_64 : decode cX5_layRepeat 64 = .ok (.iaload, 1) := by decide +kernel
theorem dX5_layRepeat_65 : decode cX5_layRepeat 65 = .ok (.iastore, 1) := by decide +kernel
theorem dX5_layRepeat_66 : decode cX5_layRepeat 66 = .ok (.aload_n 0, 1) := by decide +kernel
theorem dX5_layRepeat_67 : decode cX5_layRepeat 67 = .ok (.getfield 18, 3) := by decide +kernel
theorem dX5_layRepeat_70 : decode cX5_layRepeat 70 = .ok (.iload 5, 2) := by decide +kernel
theorem dX5_layRepeat_72 : decode cX5_layRepeat 72 = .ok (.iload_n 2, 1) := by decide +kernel
theorem dX5_layRepeat_73 : decode cX5_layRepeat 73 = .ok (.iload 4, 2) := by decide +kernel
theorem dX5_layRepeat_75 : decode cX5_layRepeat 75 = .ok (.idiv, 1) := by decide +kernel
theorem dX5_layRepeat_76 : decode cX5_layRepeat 76 = .ok (.iload 5, 2) := by decide +kernel
theorem dX5_layRepeat_78 : decode cX5_layRepeat 78 = .ok (.iload_n 2, 1) := by decide +kernel
theorem dX5_layRepeat_79 : decode cX5_layRepeat 79 = .ok (.iload 4, 2) := by decide +kernel
theorem dX5_layRepeat_81 : decode cX5_layRepeat 81 = .ok (.irem, 1) := by decide +kernel
theorem dX5_layRepeat_82 : decode cX5_layRepeat 82 = .ok (.if_icmp .ge 7, 3) := by decide +kernel
theorem dX5_layRepeat_85 : decode cX5_layRepeat 85 = .ok (.iconst 1, 1) := by decide +kernel
theorem dX5_layRepeat_86 : decode cX5_layRepeat 86 = .ok (.goto 4, 3) := by decide +kernel
theorem dX5_layRepeat_89 : decode cX5_layRepeat 89 = .ok (.iconst 0, 1) := by decide +kernel
theorem dX5_layRepeat_90 : decode cX5_layRepeat 90 = .ok (.iadd, 1) := by decide +kernel
theorem dX5_layRepeat_91 : decode cX5_layRepeat 91 = .ok (.iastore, 1) := by decide +kernel
theorem dX5_layRepeat_92 : decode cX5_layRepeat 92 = .ok (.iinc 5 1, 3) := by decide +kernel
theorem dX5_layRepeat_95 : decode cX5_layRepeat 95 = .ok (.goto (-51), 3) := by decide +kernel
theorem dX5_layRepeat_98 : decode cX5_layRepeat 98 = .ok (.aload_n 0, 1) := by decide +kernel
theorem dX5_layRepeat_99 : decode cX5_layRepeat 99 = .ok (.invokevirtual 68, 3) := by decide +kernel
theorem dX5_layRepeat_102 : decode cX5_layRepeat 102 = .ok (.ireturn, 1) := by decide +kernel
theorem dX5_laidOneAfterAnother_0 : decode cX5_laidOneAfterAnother 0 = .ok (.iconst 0, 1) := by decide +kernel
theorem dX5_laidOneAfterAnother_1 : decode cX5_laidOneAfterAnother 1 = .ok (.istore_n 1, 1) := by decide +kernel
theorem dX5_laidOneAfterAnother_2 : decode cX5_laidOneAfterAnother 2 = .ok (.iconst 0, 1) := by decide +kernel
theorem dX5_laidOneAfterAnother_3 : decode cX5_laidOneAfterAnother 3 = .ok (.istore_n 2, 1) := by decide +kernel
theorem dX5_laidOneAfterAnother_4 : decode cX5_laidOneAfterAnother 4 = .ok (.iload_n 2, 1) := by decide +kernel
theorem dX5_laidOneAfterAnother_5 : decode cX5_laidOneAfterAnother 5 = .ok (.aload_n 0, 1) := by decide +kernel
theorem dX5_laidOneAfterAnother_6 : decode cX5_laidOneAfterAnother 6 = .ok (.getfield 21, 3) := by decide +kernel
theorem dX5_laidOneAfterAnother_9 : decode cX5_laidOneAfterAnother 9 = .ok (.if_icmp .ge 37, 3) := by decide +kernel
theorem dX5_laidOneAfterAnother_12 : decode cX5_laidOneAfterAnother 12 = .ok (.aload_n 0, 1) := by decide +kernel
theorem dX5_laidOneAfterAnother_13 : decode cX5_laidOneAfterAnother 13 = .ok (.getfield 18, 3) := by decide +kernel
theorem dX5_laidOneAfterAnother_16 : decode cX5_laidOneAfterAnother 16 = .ok (.iload_n 2, 1) := by decide +kernel
theorem dX5_laidOneAfterAnother_17 : decode cX5_laidOneAfterAnother 17 = .ok (.iaload, 1) := by decide +kernel
theorem dX5_laidOneAfterAnother_18 : decode cX5_laidOneAfterAnother 18 = .ok (.iconst 1, 1) := by decide +kernel
theorem dX5_laidOneAfterAnother_19 : decode cX5_laidOneAfterAnother 19 = .ok (.if_icmp .ge 5, 3) := by decide +kernel
theorem dX5_laidOneAfterAnother_22 : decode cX5_laidOneAfterAnother 22 = .ok (.iconst 0, 1) := by decide +kernel
theorem dX5_laidOneAfterAnother_23 : decode cX5_laidOneAfterAnother 23 = .ok (.ireturn, 1) := by decide +kernel
theorem dX5_laidOneAfterAnother_24 : decode cX5_laidOneAfterAnother 24 = .ok (.aload_n 0, 1) := by decide +kernel
theorem dX5_laidOneAfterAnother_25 : decode cX5_laidOneAfterAnother 25 = .ok (.getfield 15, 3) := by decide +kernel
theorem dX5_laidOneAfterAnother_28 : decode cX5_laidOneAfterAnother 28 = .ok (.iload_n 2, 1) := by decide +kernel
theorem dX5_laidOneAfterAnother_29 : decode cX5_laidOneAfterAnother 29 = .ok (.iload_n 1, 1) := by decide +kernel
theorem dX5_laidOneAfterAnother_30 : decode cX5_laidOneAfterAnother 30 = .ok (.iastore, 1) := by decide +kernel
theorem dX5_laidOneAfterAnother_31 : decode cX5_laidOneAfterAnother 31 = .ok (.iload_n 1, 1) := by decide +kernel
theorem dX5_laidOneAfterAnother_32 : decode cX5_laidOneAfterAnother 32 = .ok (.aload_n 0, 1) := by decide +kernel
theorem dX5_laidOneAfterAnother_33 : decode cX5_laidOneAfterAnother 33 = .ok (.getfield 18, 3) := by decide +kernel
theorem dX5_laidOneAfterAnother_36 : decode cX5_laidOneAfterAnother 36 = .ok (.iload_n 2, 1) := by decide +kernel
theorem dX5_laidOneAfterAnother_37 : decode cX5_laidOneAfterAnother 37 = .ok (.iaload, 1) := by decide +kernel
theorem dX5_laidOneAfterAnother_38 : decode cX5_laidOneAfterAnother 38 = .ok (.iadd, 1) := by decide +kernel
theorem dX5_laidOneAfterAnother_39 : decode cX5_laidOneAfterAnother 39 = .ok (.istore_n 1, 1) := by decide +kernel
theorem dX5_laidOneAfterAnother_40 : decode cX5_laidOneAfterAnother 40 = .ok (.iinc 2 1, 3) := by decide +kernel
theorem dX5_laidOneAfterAnother_43 : decode cX5_laidOneAfterAnother 43 = .ok (.goto (-39), 3) := by decide +kernel
theorem dX5_laidOneAfterAnother_46 : decode cX5_laidOneAfterAnother 46 = .ok (.iconst 1, 1) := by decide +kernel
theorem dX5_laidOneAfterAnother_47 : decode cX5_laidOneAfterAnother 47 = .ok (.ireturn, 1) := by decide +kernel
theorem dX6_init_0 : decode cX6_init 0 = .ok (.aload_n 0, 1) := by decide +kernel
theorem dX6_init_1 : decode cX6_init 1 = .ok (.invokespecial 3, 3) := by decide +kernel
theorem dX6_init_4 : decode cX6_init 4 = .ok (.aload_n 0, 1) := by decide +kernel
theorem dX6_init_5 : decode cX6_init 5 = .ok (.bipush 6, 2) := by decide +kernel
theorem dX6_init_7 : decode cX6_init 7 = .ok (.newarray .int, 2) := by decide +kernel
theorem dX6_init_9 : decode cX6_init 9 = .ok (.putfield 9, 3) := by decide +kernel
theorem dX6_init_12 : decode cX6_init 12 = .ok (.aload_n 0, 1) := by decide +kernel
theorem dX6_init_13 : decode cX6_init 13 = .ok (.bipush 6, 2) := by decide +kernel
theorem dX6_init_15 : decode cX6_init 15 = .ok (.newarray .int, 2) := by decide +kernel
theorem dX6_init_17 : decode cX6_init 17 = .ok (.putfield 15, 3) := by decide +kernel
theorem dX6_init_20 : decode cX6_init 20 = .ok (.aload_n 0, 1) := by decide +kernel
theorem dX6_init_21 : decode cX6_init 21 = .ok (.bipush 6, 2) := by decide +kernel
theorem dX6_init_23 : decode cX6_init 23 = .ok (.newarray .int, 2) := by decide +kernel
theorem dX6_init_25 : decode cX6_init 25 = .ok (.putfield 18, 3) := by decide +kernel
theorem dX6_init_28 : decode cX6_init 28 = .ok (.aload_n 0, 1) := by decide +kernel
theorem dX6_init_29 : decode cX6_init 29 = .ok (.iconst 0, 1) := by decide +kernel
theorem dX6_init_30 : decode cX6_init 30 = .ok (.putfield 21, 3) := by decide +kernel
theorem dX6_init_33 : decode cX6_init 33 = .ok (.aload_n 0, 1) := by decide +kernel
theorem dX6_init_34 : decode cX6_init 34 = .ok (.iconst 0, 1) := by decide +kernel
theorem dX6_init_35 : decode cX6_init 35 = .ok (.putfield 25, 3) := by decide +kernel
theorem dX6_init_38 : decode cX6_init 38 = .ok (.aload_n 0, 1) := by decide +kernel
theorem dX6_init_39 : decode cX6_init 39 = .ok (.iconst 0, 1) := by decide +kernel
theorem dX6_init_40 : decode cX6_init 40 = .ok (.putfield 28, 3) := by decide +kernel
theorem dX6_init_43 : decode cX6_init 43 = .ok (.return_, 1) := by decide +kernel
theorem dX6_empty_0 : decode cX6_empty 0 = .ok (.aload_n 0, 1) := by decide +kernel
theorem dX6_empty_1 : decode cX6_empty 1 = .ok (.iconst 0, 1) := by decide +kernel
theorem dX6_empty_2 : decode cX6_empty 2 = .ok (.putfield 21, 3) := by decide +kernel
theorem dX6_empty_5 : decode cX6_empty 5 = .ok (.aload_n 0, 1) := by decide +kernel
theorem dX6_empty_6 : decode cX6_empty 6 = .ok (.iconst 0, 1) := by decide +kernel
theorem dX6_empty_7 : decode cX6_empty 7 = .ok (.putfield 25, 3) := by decide +kernel
theorem dX6_empty_10 : decode cX6_empty 10 = .ok (.aload_n 0, 1) := by decide +kernel
theorem dX6_empty_11 : decode cX6_empty 11 = .ok (.iconst 0, 1) := by decide +kernel
theorem dX6_empty_12 : decode cX6_empty 12 = .ok (.putfield 28, 3) := by decide +kernel
theorem dX6_empty_15 : decode cX6_empty 15 = .ok (.return_, 1) := by decide +kernel
theorem dX6_add_0 : decode cX6_add 0 = .ok (.aload_n 0, 1) := by decide +kernel
theorem dX6_add_1 : decode cX6_add 1 = .ok (.getfield 21, 3) := by decide +kernel
theorem dX6_add_4 : decode cX6_add 4 = .ok (.bipush 6, 2) := by decide +kernel
theorem dX6_add_6 : decode cX6_add 6 = .ok (.if_icmp .lt 4, 3) := by decide +kernel
theorem dX6_add_9 : decode cX6_add 9 = .ok (.return_, 1) := by decide +kernel
theorem dX6_add_10 : decode cX6_add 10 = .ok (.aload_n 0, 1) := by decide +kernel
theorem dX6_add_11 : decode cX6_add 11 = .ok (.getfield 9, 3) := by decide +kernel
theorem dX6_add_14 : decode cX6_add 14 = .ok (.aload_n 0, 1) := by decide +kernel
theorem dX6_add_15 : decode cX6_add 15 = .ok (.getfield 21, 3) := by decide +kernel
theorem dX6_add_18 : decode cX6_add 18 = .ok (.iload_n 1, 1) := by decide +kernel
theorem dX6_add_19 : decode cX6_add 19 = .ok (.iastore, 1) := by decide +kernel
theorem dX6_add_20 : decode cX6_add 20 = .ok (.aload_n 0, 1) := by decide +kernel
theorem dX6_add_21 : decode cX6_add 21 = .ok (.getfield 15, 3) := by decide +kernel
theorem dX6_add_24 : decode cX6_add 24 = .ok (.aload_n 0, 1) := by decide +kernel
theorem dX6_add_25 : decode cX6_add 25 = .ok (.getfield 21, 3) := by decide +kernel
theorem dX6_add_28 : decode cX6_add 28 = .ok (.iload_n 2, 1) := by decide +kernel
theorem dX6_add_29 : decode cX6_add 29 = .ok (.iastore, 1) := by decide +kernel
theorem dX6_add_30 : decode cX6_add 30 = .ok (.aload_n 0, 1) := by decide +kernel
theorem dX6_add_31 : decode cX6_add 31 = .ok (.getfield 18, 3) := by decide +kernel
theorem dX6_add_34 : decode cX6_add 34 = .ok (.aload_n 0, 1) := by decide +kernel
theorem dX6_add_35 : decode cX6_add 35 = .ok (.getfield 21, 3) := by decide +kernel
theorem dX6_add_38 : decode cX6_add 38 = .ok (.iload_n 3, 1) := by decide +kernel
theorem dX6_add_39 : decode cX6_add 39 = .ok (.iastore, 1) := by decide +kernel
theorem dX6_add_40 : decode cX6_add 40 = .ok (.aload_n 0, 1) := by decide +kernel
theorem dX6_add_41 : decode cX6_add 41 = .ok (.dup, 1) := by decide +kernel
theorem dX6_add_42 : decode cX6_add 42 = .ok (.getfield 25, 3) := by decide +kernel
theorem dX6_add_45 : decode cX6_add 45 = .ok (.iload_n 2, 1) := by decide +kernel
theorem dX6_add_46 : decode cX6_add 46 = .ok (.iadd, 1) := by decide +kernel
theorem dX6_add_47 : decode cX6_add 47 = .ok (.putfield 25, 3) := by decide +kernel
theorem dX6_add_50 : decode cX6_add 50 = .ok (.aload_n 0, 1) := by decide +kernel
theorem dX6_add_51 : decode cX6_add 51 = .ok (.dup, 1) := by decide +kernel
theorem dX6_add_52 : decode cX6_add 52 = .ok (.getfield 28, 3) := by decide +kernel
theorem dX6_add_55 : decode cX6_add 55 = .ok (.iload_n 3, 1) := by decide +kernel
theorem dX6_add_56 : decode cX6_add 56 = .ok (.iadd, 1) := by decide +kernel
theorem dX6_add_57 : decode cX6_add 57 = .ok (.putfield 28, 3) := by decide +kernel
theorem dX6_add_60 : decode cX6_add 60 = .ok (.aload_n 0, 1) := by decide +kernel
theorem dX6_add_61 : decode cX6_add 61 = .ok (.dup, 1) := by decide +kernel
theorem dX6_add_62 : decode cX6_add 62 = .ok (.getfield 21, 3) := by decide +kernel
theorem dX6_add_65 : decode cX6_add 65 = .ok (.iconst 1, 1) := by decide +kernel
theorem dX6_add_66 : decode cX6_add 66 = .ok (.iadd, 1) := by decide +kernel
theorem dX6_add_67 : decode cX6_add 67 = .ok (.putfield 21, 3) := by decide +kernel
theorem dX6_add_70 : decode cX6_add 70 = .ok (.return_, 1) := by decide +kernel
theorem dX6_copy_0 : decode cX6_copy 0 = .ok (.aload_n 0, 1) := by decide +kernel
theorem dX6_copy_1 : decode cX6_copy 1 = .ok (.invokevirtual 31, 3) := by decide +kernel
theorem dX6_copy_4 : decode cX6_copy 4 = .ok (.iconst 0, 1) := by decide +kernel
theorem dX6_copy_5 : decode cX6_copy 5 = .ok (.istore_n 2, 1) := by decide +kernel
theorem dX6_copy_6 : decode cX6_copy 6 = .ok (.iload_n 2, 1) := by decide +kernel
theorem dX6_copy_7 : decode cX6_copy 7 = .ok (.aload_n 1, 1) := by decide +kernel
theorem dX6_copy_8 : decode cX6_copy 8 = .ok (.getfield 21, 3) := by decide +kernel
theorem dX6_copy_11 : decode cX6_copy 11 = .ok (.if_icmp .ge 37, 3) := by decide +kernel
theorem dX6_copy_14 : decode cX6_copy 14 = .ok (.iload_n 2, 1) := by decide +kernel
theorem dX6_copy_15 : decode cX6_copy 15 = .ok (.bipush 6, 2) := by decide +kernel
theorem dX6_copy_17 : decode cX6_copy 17 = .ok (.if_icmp .ge 31, 3) := by decide +kernel
theorem dX6_copy_20 : decode cX6_copy 20 = .ok (.aload_n 0, 1) := by decide +kernel
theorem dX6_copy_21 : decode cX6_copy 21 = .ok (.aload_n 1, 1) := by decide +kernel
theorem dX6_copy_22 : decode cX6_copy 22 = .ok (.getfield 9, 3) := by decide +kernel
theorem dX6_copy_25 : decode cX6_copy 25 = .ok (.iload_n 2, 1) := by decide +kernel
theorem dX6_copy_26 : decode cX6_copy 26 = .ok (.iaload, 1) := by decide +kernel
theorem dX6_copy_27 : decode cX6_copy 27 = .ok (.aload_n 1, 1) := by decide +kernel
theorem dX6_copy_28 : decode cX6_copy 28 = .ok (.getfield 15, 3) := by decide +kernel
theorem dX6_copy_31 : decode cX6_copy 31 = .ok (.iload_n 2, 1) := by decide +kernel
theorem dX6_copy_32 : decode cX6_copy 32 = .ok (.iaload, 1) := by decide +kernel
theorem dX6_copy_33 : decode cX6_copy 33 = .ok (.aload_n 1, 1) := by decide +kernel
theorem dX6_copy_34 : decode cX6_copy 34 = .ok (.getfield 18, 3) := by decide +kernel
theorem dX6_copy_37 : decode cX6_copy 37 = .ok (.iload_n 2, 1) := by decide +kernel
theorem dX6_copy_38 : decode cX6_copy 38 = .ok (.iaload, 1) := by decide +kernel
theorem dX6_copy_39 : decode cX6_copy 39 = .ok (.invokevirtual 34, 3) := by decide +kernel
theorem dX6_copy_42 : decode cX6_copy 42 = .ok (.iinc 2 1, 3) := by decide +kernel
theorem dX6_copy_45 : decode cX6_copy 45 = .ok (.goto (-39), 3) := by decide +kernel
theorem dX6_copy_48 : decode cX6_copy 48 = .ok (.return_, 1) := by decide +kernel
theorem dX7_init_0 : decode cX7_init 0 = .ok (.aload_n 0, 1) := by decide +kernel
theorem dX7_init_1 : decode cX7_init 1 = .ok (.invokespecial 3, 3) := by decide +kernel
theorem dX7_init_4 : decode cX7_init 4 = .ok (.aload_n 0, 1) := by decide +kernel
theorem dX7_init_5 : decode cX7_init 5 = .ok (.new 9, 3) := by decide +kernel
theorem dX7_init_8 : decode cX7_init 8 = .ok (.dup, 1) := by decide +kernel
theorem dX7_init_9 : decode cX7_init 9 = .ok (.invokespecial 11, 3) := by decide +kernel
theorem dX7_init_12 : decode cX7_init 12 = .ok (.putfield 12, 3) := by decide +kernel
theorem dX7_init_15 : decode cX7_init 15 = .ok (.aload_n 0, 1) := by decide +kernel
theorem dX7_init_16 : decode cX7_init 16 = .ok (.iconst 0, 1) := by decide +kernel
theorem dX7_init_17 : decode cX7_init 17 = .ok (.putfield 18, 3) := by decide +kernel
theorem dX7_init_20 : decode cX7_init 20 = .ok (.aload_n 0, 1) := by decide +kernel
theorem dX7_init_21 : decode cX7_init 21 = .ok (.iconst 0, 1) := by decide +kernel
theorem dX7_init_22 : decode cX7_init 22 = .ok (.putfield 22, 3) := by decide +kernel
theorem dX7_init_25 : decode cX7_init 25 = .ok (.aload_n 0, 1) := by decide +kernel
theorem dX7_init_26 : decode cX7_init 26 = .ok (.iconst 0, 1) := by decide +kernel
theorem dX7_init_27 : decode cX7_init 27 = .ok (.putfield 25, 3) := by decide +kernel
theorem dX7_init_30 : decode cX7_init 30 = .ok (.aload_n 0, 1) := by decide +kernel
theorem dX7_init_31 : decode cX7_init 31 = .ok (.bipush (-9), 2) := by decide +kernel
theorem dX7_init_33 : decode cX7_init 33 = .ok (.putfield 28, 3) := by decide +kernel
theorem dX7_init_36 : decode cX7_init 36 = .ok (.aload_n 0, 1) := by decide +kernel
theorem dX7_init_37 : decode cX7_init 37 = .ok (.iconst 1, 1) := by decide +kernel
theorem dX7_init_38 : decode cX7_init 38 = .ok (.putfield 31, 3) := by decide +kernel
theorem dX7_init_41 : decode cX7_init 41 = .ok (.aload_n 0, 1) := by decide +kernel
theorem dX7_init_42 : decode cX7_init 42 = .ok (.bipush 20, 2) := by decide +kernel
theorem dX7_init_44 : decode cX7_init 44 = .ok (.putfield 34, 3) := by decide +kernel
theorem dX7_init_47 : decode cX7_init 47 = .ok (.aload_n 0, 1) := by decide +kernel
theorem dX7_init_48 : decode cX7_init 48 = .ok (.iconst 1, 1) := by decide +kernel
theorem dX7_init_49 : decode cX7_init 49 = .ok (.putfield 37, 3) := by decide +kernel
theorem dX7_init_52 : decode cX7_init 52 = .ok (.aload_n 0, 1) := by decide +kernel
theorem dX7_init_53 : decode cX7_init 53 = .ok (.bipush 20, 2) := by decide +kernel
theorem dX7_init_55 : decode cX7_init 55 = .ok (.putfield 40, 3) := by decide +kernel
theorem dX7_init_58 : decode cX7_init 58 = .ok (.return_, 1) := by decide +kernel
theorem dX7_begin_0 : decode cX7_begin 0 = .ok (.aload_n 0, 1) := by decide +kernel
theorem dX7_begin_1 : decode cX7_begin 1 = .ok (.iload_n 1, 1) := by decide +kernel
theorem dX7_begin_2 : decode cX7_begin 2 = .ok (.putfield 18, 3) := by decide +kernel
theorem dX7_begin_5 : decode cX7_begin 5 = .ok (.aload_n 0, 1) := by decide +kernel
theorem dX7_begin_6 : decode cX7_begin 6 = .ok (.iload_n 2, 1) := by decide +kernel
theorem dX7_begin_7 : decode cX7_begin 7 = .ok (.putfield 22, 3) := by decide +kernel
theorem dX7_begin_10 : decode cX7_begin 10 = .ok (.aload_n 0, 1) := by decide +kernel
theorem dX7_begin_11 : decode cX7_begin 11 = .ok (.iload_n 3, 1) := by decide +kernel
theorem dX7_begin_12 : decode cX7_begin 12 = .ok (.putfield 25, 3) := by decide +kernel
theorem dX7_begin_15 : decode cX7_begin 15 = .ok (.aload_n 0, 1) := by decide +kernel
theorem dX7_begin_16 : decode cX7_begin 16 = .ok (.bipush (-9), 2) := by decide +kernel
theorem dX7_begin_18 : decode cX7_begin 18 = .ok (.putfield 28, 3) := by decide +kernel
theorem dX7_begin_21 : decode cX7_begin 21 = .ok (.aload_n 0, 1) := by decide +kernel
theorem dX7_begin_22 : decode cX7_begin 22 = .ok (.getfield 12, 3) := by decide +kernel
theorem dX7_begin_25 : decode cX7_begin 25 = .ok (.invokevirtual 43, 3) := by decide +kernel
theorem dX7_begin_28 : decode cX7_begin 28 = .ok (.aload_n 0, 1) := by decide +kernel
theorem dX7_begin_29 : decode cX7_begin 29 = .ok (.iconst 0, 1) := by decide +kernel
theorem dX7_begin_30 : decode cX7_begin 30 = .ok (.iconst 1, 1) := by decide +kernel
theorem dX7_begin_31 : decode cX7_begin 31 = .ok (.bipush 20, 2) := by decide +kernel
theorem dX7_begin_33 : decode cX7_begin 33 = .ok (.invokevirtual 46, 3) := by decide +kernel
theorem dX7_begin_36 : decode cX7_begin 36 = .ok (.aload_n 0, 1) := by decide +kernel
theorem dX7_begin_37 : decode cX7_begin 37 = .ok (.iconst 1, 1) := by decide +kernel
theorem dX7_begin_38 : decode cX7_begin 38 = .ok (.iconst 1, 1) := by decide +kernel
theorem dX7_begin_39 : decode cX7_begin 39 = .ok (.bipush 20, 2) := by decide +kernel
theorem dX7_begin_41 : decode cX7_begin 41 = .ok (.invokevirtual 46, 3) := by decide +kernel
theorem dX7_begin_44 : decode cX7_begin 44 = .ok (.return_, 1) := by decide +kernel
theorem dX7_limit_0 : decode cX7_limit 0 = .ok (.iload_n 1, 1) := by decide +kernel
theorem dX7_limit_1 : decode cX7_limit 1 = .ok (.ifCond .eq 16, 3) := by decide +kernel
theorem dX7_limit_4 : decode cX7_limit 4 = .ok (.aload_n 0, 1) := by decide +kernel
theorem dX7_limit_5 : decode cX7_limit 5 = .ok (.iload_n 2, 1) := by decide +kernel
theorem dX7_limit_6 : decode cX7_limit 6 = .ok (.putfield 37, 3) := by decide +kernel
theorem dX7_limit_9 : decode cX7_limit 9 = .ok (.aload_n 0, 1) := by decide +kernel
theorem dX7_limit_10 : decode cX7_limit 10 = .ok (.iload_n 3, 1) := by decide +kernel
theorem dX7_limit_11 : decode cX7_limit 11 = .ok (.putfield 40, 3) := by decide +kernel
theorem dX7_limit_14 : decode cX7_limit 14 = .ok (.goto 13, 3) := by decide +kernel
theorem dX7_limit_17 : decode cX7_limit 17 = .ok (.aload_n 0, 1) := by decide +kernel
theorem dX7_limit_18 : decode cX7_limit 18 = .ok (.iload_n 2, 1) := by decide +kernel
theorem dX7_limit_19 : decode cX7_limit 19 = .ok (.putfield 31, 3) := by decide +kernel
theorem dX7_limit_22 : decode cX7_limit 22 = .ok (.aload_n 0, 1) := by decide +kernel
theorem dX7_limit_23 : decode cX7_limit 23 = .ok (.iload_n 3, 1) := by decide +kernel
theorem dX7_limit_24 : decode cX7_limit 24 = .ok (.putfield 34, 3) := by decide +kernel
theorem dX7_limit_27 : decode cX7_limit 27 = .ok (.return_, 1) := by decide +kernel
theorem dX7_admits_0 : decode cX7_admits 0 = .ok (.iload_n 1, 1) := by decide +kernel
theorem dX7_admits_1 : decode cX7_admits 1 = .ok (.aload_n 0, 1) := by decide +kernel
theorem dX7_admits_2 : decode cX7_admits 2 = .ok (.getfield 31, 3) := by decide +kernel
theorem dX7_admits_5 : decode cX7_admits 5 = .ok (.aload_n 0, 1) := by decide +kernel
theorem dX7_admits_6 : decode cX7_admits 6 = .ok (.getfield 34, 3) := by decide +kernel
theorem dX7_admits_9 : decode cX7_admits 9 = .ok (.invokestatic 50, 3) := by decide +kernel
theorem dX7_admits_12 : decode cX7_admits 12 = .ok (.ifCond .eq 22, 3) := by decide +kernel
theorem dX7_admits_15 : decode cX7_admits 15 = .ok (.iload_n 2, 1) := by decide +kernel
theorem dX7_admits_16 : decode cX7_admits 16 = .ok (.aload_n 0, 1) := by decide +kernel
theorem dX7_admits_17 : decode cX7_admits 17 = .ok (.getfield 37, 3) := by decide +kernel
theorem dX7_admits_20 : decode cX7_admits 20 = .ok (.aload_n 0, 1) := by decide +kernel
theorem dX7_admits_21 : decode cX7_admits 21 = .ok (.getfield 40, 3) := by decide +kernel
theorem dX7_admits_24 : decode cX7_admits 24 = .ok (.invokestatic 50, 3) := by decide +kernel
theorem dX7_admits_27 : decode cX7_admits 27 = .ok (.ifCond .eq 7, 3) := by decide +kernel
theorem dX7_admits_30 : decode cX7_admits 30 = .ok (.iconst 1, 1) := by decide +kernel
theorem dX7_admits_31 : decode cX7_admits 31 = .ok (.goto 4, 3) := by decide +kernel
theorem dX7_admits_34 : decode cX7_admits 34 = .ok (.iconst 0, 1) := by decide +kernel
theorem dX7_admits_35 : decode cX7_admits 35 = .ok (.ireturn, 1) := by decide +kernel
theorem dX7_isAlongY_0 : decode cX7_isAlongY 0 = .ok (.aload_n 0, 1) := by decide +kernel
theorem dX7_isAlongY_1 : decode cX7_isAlongY 1 = .ok (.getfield 22, 3) := by decide +kernel
theorem dX7_isAlongY_4 : decode cX7_isAlongY 4 = .ok (.iconst 2, 1) := by decide +kernel
theorem dX7_isAlongY_5 : decode cX7_isAlongY 5 = .ok (.if_icmp .eq 11, 3) := by decide +kernel
theorem dX7_isAlongY_8 : decode cX7_isAlongY 8 = .ok (.aload_n 0, 1) := by decide +kernel
theorem dX7_isAlongY_9 : decode cX7_isAlongY 9 = .ok (.getfield 22, 3) := by decide +kernel
theorem dX7_isAlongY_12 : decode cX7_isAlongY 12 = .ok (.iconst 4, 1) := by decide +kernel
theorem dX7_isAlongY_13 : decode cX7_isAlongY 13 = .ok (.if_icmp .ne 7, 3) := by decide +kernel
theorem dX7_isAlongY_16 : decode cX7_isAlongY 16 = .ok (.iconst 1, 1) := by decide +kernel
theorem dX7_isAlongY_17 : decode cX7_isAlongY 17 = .ok (.goto 4, 3) := by decide +kernel
theorem dX7_isAlongY_20 : decode cX7_isAlongY 20 = .ok (.iconst 0, 1) := by decide +kernel
theorem dX7_isAlongY_21 : decode cX7_isAlongY 21 = .ok (.ireturn, 1) := by decide +kernel
theorem dX7_isRepeat_0 : decode cX7_isRepeat 0 = .ok (.aload_n 0, 1) := by decide +kernel
theorem dX7_isRepeat_1 : decode cX7_isRepeat 1 = .ok (.getfield 22, 3) := by decide +kernel
theorem dX7_isRepeat_4 : decode cX7_isRepeat 4 = .ok (.iconst 3, 1) := by decide +kernel
theorem dX7_isRepeat_5 : decode cX7_isRepeat 5 = .ok (.if_icmp .eq 11, 3) := by decide +kernel
theorem dX7_isRepeat_8 : decode cX7_isRepeat 8 = .ok (.aload_n 0, 1) := by decide +kernel
theorem dX7_isRepeat_9 : decode cX7_isRepeat 9 = .ok (.getfield 22, 3) := by decide +kernel
theorem dX7_isRepeat_12 : decode cX7_isRepeat 12 = .ok (.iconst 4, 1) := by decide +kernel
theorem dX7_isRepeat_13 : decode cX7_isRepeat 13 = .ok (.if_icmp .ne 7, 3) := by decide +kernel
theorem dX7_isRepeat_16 : decode cX7_isRepeat 16 = .ok (.iconst 1, 1) := by decide +kernel
theorem dX7_isRepeat_17 : decode cX7_isRepeat 17 = .ok (.goto 4, 3) := by decide +kernel
theorem dX7_isRepeat_20 : decode cX7_isRepeat 20 = .ok (.iconst 0, 1) := by decide +kernel
theorem dX7_isRepeat_21 : decode cX7_isRepeat 21 = .ok (.ireturn, 1) := by decide +kernel
theorem dX7_weight_0 : decode cX7_weight 0 = .ok (.aload_n 0, 1) := by decide +kernel
theorem dX7_weight_1 : decode cX7_weight 1 = .ok (.getfield 25, 3) := by decide +kernel
theorem dX7_weight_4 : decode cX7_weight 4 = .ok (.i2l, 1) := by decide +kernel
theorem dX7_weight_5 : decode cX7_weight 5 = .ok (.ldc2_w 54, 3) := by decide +kernel
theorem dX7_weight_8 : decode cX7_weight 8 = .ok (.lmul, 1) := by decide +kernel
theorem dX7_weight_9 : decode cX7_weight 9 = .ok (.lconst 1, 1) := by decide +kernel
theorem dX7_weight_10 : decode cX7_weight 10 = .ok (.ladd, 1) := by decide +kernel
theorem dX7_weight_11 : decode cX7_weight 11 = .ok (.lreturn, 1) := by decide +kernel
theorem dX8_init_0 : decode cX8_init 0 = .ok (.aload_n 0, 1) := by decide +kernel
theorem dX8_init_1 : decode cX8_init 1 = .ok (.invokespecial 3, 3) := by decide +kernel
theorem dX8_init_4 : decode cX8_init 4 = .ok (.aload_n 0, 1) := by decide +kernel
theorem dX8_init_5 : decode cX8_init 5 = .ok (.bipush 7, 2) := by decide +kernel
theorem dX8_init_7 : decode cX8_init 7 = .ok (.sipush 400, 3) := by decide +kernel
theorem dX8_init_10 : decode cX8_init 10 = .ok (.multianewarray 9 2, 4) := by decide +kernel
theorem dX8_init_14 : decode cX8_init 14 = .ok (.putfield 11, 3) := by decide +kernel
theorem dX8_init_17 : decode cX8_init 17 = .ok (.aload_n 0, 1) := by decide +kernel
theorem dX8_init_18 : decode cX8_init 18 = .ok (.bipush 40, 2) := by decide +kernel
theorem dX8_init_20 : decode cX8_init 20 = .ok (.newarray .int, 2) := by decide +kernel
theorem dX8_init_22 : decode cX8_init 22 = .ok (.putfield 16, 3) := by decide +kernel
theorem dX8_init_25 : decode cX8_init 25 = .ok (.aload_n 0, 1) := by decide +kernel
theorem dX8_init_26 : decode cX8_init 26 = .ok (.iconst 0, 1) := by decide +kernel
theorem dX8_init_27 : decode cX8_init 27 = .ok (.putfield 20, 3) := by decide +kernel
theorem dX8_init_30 : decode cX8_init 30 = .ok (.aload_n 0, 1) := by decide +kernel
theorem dX8_init_31 : decode cX8_init 31 = .ok (.iconst 0, 1) := by decide +kernel
theorem dX8_init_32 : decode cX8_init 32 = .ok (.putfield 24, 3) := by decide +kernel
theorem dX8_init_35 : decode cX8_init 35 = .ok (.aload_n 0, 1) := by decide +kernel
theorem dX8_init_36 : decode cX8_init 36 = .ok (.iconst 0, 1) := by decide +kernel
theorem dX8_init_37 : decode cX8_init 37 = .ok (.putfield 27, 3) := by decide +kernel
theorem dX8_init_40 : decode cX8_init 40 = .ok (.aload_n 0, 1) := by decide +kernel
theorem dX8_init_41 : decode cX8_init 41 = .ok (.iconst 0, 1) := by decide +kernel
theorem dX8_init_42 : decode cX8_init 42 = .ok (.putfield 30, 3) := by decide +kernel
theorem dX8_init_45 : decode cX8_init 45 = .ok (.aload_n 0, 1) := by decide +kernel
theorem dX8_init_46 : decode cX8_init 46 = .ok (.iconst 0, 1) := by decide +kernel
theorem dX8_init_47 : decode cX8_init 47 = .ok (.putfield 33, 3) := by decide +kernel
theorem dX8_init_50 : decode cX8_init 50 = .ok (.aload_n 0, 1) := by decide +kernel
theorem dX8_init_51 : decode cX8_init 51 = .ok (.iconst 0, 1) := by decide +kernel
theorem dX8_init_52 : decode cX8_init 52 = .ok (.putfield 36, 3) := by decide +kernel
theorem dX8_init_55 : decode cX8_init 55 = .ok (.aload_n 0, 1) := by decide +kernel
theorem dX8_init_56 : decode cX8_init 56 = .ok (.iconst 0, 1) := by decide +kernel
theorem dX8_init_57 : decode cX8_init 57 = .ok (.putfield 39, 3) := by decide +kernel
theorem dX8_init_60 : decode cX8_init 60 = .ok (.aload_n 0, 1) := by decide +kernel
theorem dX8_init_61 : decode cX8_init 61 = .ok (.iconst 0, 1) := by decide +kernel
theorem dX8_init_62 : decode cX8_init 62 = .ok (.putfield 42, 3) := by decide +kernel
theorem dX8_init_65 : decode cX8_init 65 = .ok (.aload_n 0, 1) := by decide +kernel
theorem dX8_init_66 : decode cX8_init 66 = .ok (.aload_n 1, 1) := by decide +kernel
theorem dX8_init_67 : decode cX8_init 67 = .ok (.putfield 45, 3) := by decide +kernel
theorem dX8_init_70 : decode cX8_init 70 = .ok (.aload_n 0, 1) := by decide +kernel
theorem dX8_init_71 : decode cX8_init 71 = .ok (.aload_n 2, 1) := by decide +kernel
theorem dX8_init_72 : decode cX8_init 72 = .ok (.putfield 49, 3) := by decide +kernel
theorem dX8_init_75 : decode cX8_init 75 = .ok (.return_, 1) := by decide +kernel
theorem dX8_begin_0 : decode cX8_begin 0 = .ok (.aload_n 0, 1) := by decide +kernel
theorem dX8_begin_1 : decode cX8_begin 1 = .ok (.iconst 0, 1) := by decide +kernel
theorem dX8_begin_2 : decode cX8_begin 2 = .ok (.putfield 20, 3) := by decide +kernel
theorem dX8_begin_5 : decode cX8_begin 5 = .ok (.aload_n 0, 1) := by decide +kernel
theorem dX8_begin_6 : decode cX8_begin 6 = .ok (.iconst 0, 1) := by decide +kernel
theorem dX8_begin_7 : decode cX8_begin 7 = .ok (.iconst 0, 1) := by decide +kernel
theorem dX8_begin_8 : decode cX8_begin 8 = .ok (.iconst 0, 1) := by decide +kernel
theorem dX8_begin_9 : decode cX8_begin 9 = .ok (.iload_n 1, 1) := by decide +kernel
theorem dX8_begin_10 : decode cX8_begin 10 = .ok (.iload_n 2, 1) := by decide +kernel
theorem dX8_begin_11 : decode cX8_begin 11 = .ok (.iload_n 3, 1) := by decide +kernel
theorem dX8_begin_12 : decode cX8_begin 12 = .ok (.iconst 0, 1) := by decide +kernel
theorem dX8_begin_13 : decode cX8_begin 13 = .ok (.invokevirtual 53, 3) := by decide +kernel
theorem dX8_begin_16 : decode cX8_begin 16 = .ok (.return_, 1) := by decide +kernel
theorem dX8_push_0 : decode cX8_push 0 = .ok (.aload_n 0, 1) := by decide +kernel
theorem dX8_push_1 : decode cX8_push 1 = .ok (.getfield 20, 3) := by decide +kernel
theorem dX8_push_4 : decode cX8_push 4 = .ok (.sipush 400, 3) := by decide +kernel
theorem dX8_push_7 : decode cX8_push 7 = .ok (.if_icmp .lt 4, 3) := by decide +kernel
theorem dX8_push_10 : decode cX8_push 10 = .ok (.return_, 1) := by decide +kernel
theorem dX8_push_11 : decode cX8_push 11 = .ok (.aload_n 0, 1) := by decide +kernel
theorem dX8_push_12 : decode cX8_push 12 = .ok (.getfield 11, 3) := by decide +kernel
theorem dX8_push_15 : decode cX8_push 15 = .ok (.iconst 0, 1) := by decide +kernel
theorem dX8_push_16 : decode cX8_push 16 = .ok (.aaload, 1) := by decide +kernel
theorem dX8_push_17 : decode cX8_push 17 = .ok (.aload_n 0, 1) := by decide +kernel
theorem dX8_push_18 : decode cX8_push 18 = .ok (.getfield 20, 3) := by decide +kernel
theorem dX8_push_21 : decode cX8_push 21 = .ok (.iload_n 1, 1) := by decide +kernel
theorem dX8_push_22 : decode cX8_push 22 = .ok (.iastore, 1) := by decide +kernel
theorem dX8_push_23 : decode cX8_push 23 = .ok (.aload_n 0, 1) := by decide +kernel
theorem dX8_push_24 : decode cX8_push 24 = .ok (.getfield 11, 3) := by decide +kernel
theorem dX8_push_27 : decode cX8_push 27 = .ok (.iconst 1, 1) := by decide +kernel
theorem dX8_push_28 : decode cX8_push 28 = .ok (.aaload, 1) := by decide +kernel
theorem dX8_push_29 : decode cX8_push 29 = .ok (.aload_n 0, 1) := by decide +kernel
theorem dX8_push_30 : decode cX8_push 30 = .ok (.getfield 20, 3) := by decide +kernel
theorem dX8_push_33 : decode cX8_push 33 = .ok (.iload_n 2, 1) := by decide +kernel
theorem dX8_push_34 : decode cX8_push 34 = .ok (.iastore, 1) := by decide +kernel
theorem dX8_push_35 : decode cX8_push 35 = .ok (.aload_n 0, 1) := by decide +kernel
theorem dX8_push_36 : decode cX8_push 36 = .ok (.getfield 11, 3) := by decide +kernel
theorem dX8_push_39 : decode cX8_push 39 = .ok (.iconst 2, 1) := by decide +kernel
theorem dX8_push_40 : decode cX8_push 40 = .ok (.aaload, 1) := by decide +kernel
theorem dX8_push_41 : decode cX8_push 41 = .ok (.aload_n 0, 1) := by decide +kernel
theorem dX8_push_42 : decode cX8_push 42 = .ok (.getfield 20, 3) := by decide +kernel
theorem dX8_push_45 : decode cX8_push 45 = .ok (.iload_n 3, 1) := by decide +kernel
theorem dX8_push_46 : decode cX8_push 46 = .ok (.iastore, 1) := by decide +kernel
theorem dX8_push_47 : decode cX8_push 47 = .ok (.aload_n 0, 1) := by decide +kernel
theorem dX8_push_48 : decode cX8_push 48 = .ok (.getfield 11, 3) := by decide +kernel
theorem dX8_push_51 : decode cX8_push 51 = .ok (.iconst 3, 1) := by decide +kernel
theorem dX8_push_52 : decode cX8_push 52 = .ok (.aaload, 1) := by decide +kernel
theorem dX8_push_53 : decode cX8_push 53 = .ok (.aload_n 0, 1) := by decide +kernel
theorem dX8_push_54 : decode cX8_push 54 = .ok (.getfield 20, 3) := by decide +kernel
theorem dX8_push_57 : decode cX8_push 57 = .ok (.iload 4, 2) := by decide +kernel
theorem dX8_push_59 : decode cX8_push 59 = .ok (.iastore, 1) := by decide +kernel
theorem dX8_push_60 : decode cX8_push 60 = .ok (.aload_n 0, 1) := by decide +kernel
theorem dX8_push_61 : decode cX8_push 61 = .ok (.getfield 11, 3) := by decide +kernel
theorem dX8_push_64 : decode cX8_push 64 = .ok (.iconst 4, 1) := by decide +kernel
theorem dX8_push_65 : decode cX8_push 65 = .ok (.aaload, 1) := by decide +kernel
theorem dX8_push_66 : decode cX8_push 66 = .ok (.aload_n 0, 1) := by decide +kernel
theorem dX8_push_67 : decode cX8_push 67 = .ok (.getfield 20, 3) := by decide +kernel
theorem dX8_push_70 : decode cX8_push 70 = .ok (.iload 5, 2) := by decide +kernel
theorem dX8_push_72 : decode cX8_push 72 = .ok (.iastore, 1) := by decide +kernel
theorem dX8_push_73 : decode cX8_push 73 = .ok (.aload_n 0, 1) := by decide +kernel
theorem dX8_push_74 : decode cX8_push 74 = .ok (.getfield 11, 3) := by decide +kernel
theorem dX8_push_77 : decode cX8_push 77 = .ok (.iconst 5, 1) := by decide +kernel
theorem dX8_push_78 : decode cX8_push 78 = .ok (.aaload, 1) := by decide +kernel
theorem dX8_push_79 : decode cX8_push 79 = .ok (.aload_n 0, 1) := by decide +kernel
theorem dX8_push_80 : decode cX8_push 80 = .ok (.getfield 20, 3) := by decide +kernel
theorem dX8_push_83 : decode cX8_push 83 = .ok (.iload 6, 2) := by decide +kernel
theorem dX8_push_85 : decode cX8_push 85 = .ok (.iastore, 1) := by decide +kernel
theorem dX8_push_86 : decode cX8_push 86 = .ok (.aload_n 0, 1) := by decide +kernel
theorem dX8_push_87 : decode cX8_push 87 = .ok (.getfield 11, 3) := by decide +kernel
theorem dX8_push_90 : decode cX8_push 90 = .ok (.bipush 6, 2) := by decide +kernel
theorem dX8_push_92 : decode cX8_push 92 = .ok (.aaload, 1) := by decide +kernel
theorem dX8_push_93 : decode cX8_push 93 = .ok (.aload_n 0, 1) := by decide +kernel
theorem dX8_push_94 : decode cX8_push 94 = .ok (.getfield 20, 3) := by decide +kernel
theorem dX8_push_97 : decode cX8_push 97 = .ok (.iload 7, 2) := by decide +kernel
theorem dX8_push_99 : decode cX8_push 99 = .ok (.iastore, 1) := by decide +kernel
theorem dX8_push_100 : decode cX8_push 100 = .ok (.aload_n 0, 1) := by decide +kernel
theorem dX8_push_101 : decode cX8_push 101 = .ok (.dup, 1) := by decide +kernel
theorem dX8_push_102 : decode cX8_push 102 = .ok (.getfield 20, 3) := by decide +kernel
theorem dX8_push_105 : decode cX8_push 105 = .ok (.iconst 1, 1) := by decide +kernel
theorem dX8_push_106 : decode cX8_push 106 = .ok (.iadd, 1) := by decide +kernel
theorem dX8_push_107 : decode cX8_push 107 = .ok (.putfield 20, 3) := by decide +kernel
theorem dX8_push_110 : decode cX8_push 110 = .ok (.return_, 1) := by decide +kernel
theorem dX8_next_0 : decode cX8_next 0 = .ok (.aload_n 0, 1) := by decide +kernel
theorem dX8_next_1 : decode cX8_next 1 = .ok (.getfield 20, 3) := by decide +kernel
theorem dX8_next_4 : decode cX8_next 4 = .ok (.ifCond .gt 5, 3) := by decide +kernel
theorem dX8_next_7 : decode cX8_next 7 = .ok (.iconst 0, 1) := by decide +kernel
theorem dX8_next_8 : decode cX8_next 8 = .ok (.ireturn, 1) := by decide +kernel
theorem dX8_next_9 : decode cX8_next 9 = .ok (.aload_n 0, 1) := by decide +kernel
theorem dX8_next_10 : decode cX8_next 10 = .ok (.dup, 1) := by decide +kernel
theorem dX8_next_11 : decode cX8_next 11 = .ok (.getfield 20, 3) := by decide +kernel
theorem dX8_next_14 : decode cX8_next 14 = .ok (.iconst 1, 1) := by decide +kernel
theorem dX8_next_15 : decode cX8_next 15 = .ok (.isub, 1) := by decide +kernel
theorem dX8_next_16 : decode cX8_next 16 = .ok (.putfield 20, 3) := by decide +kernel
theorem dX8_next_19 : decode cX8_next 19 = .ok (.aload_n 0, 1) := by decide +kernel
theorem dX8_next_20 : decode cX8_next 20 = .ok (.aload_n 0, 1) := by decide +kernel
theorem dX8_next_21 : decode cX8_next 21 = .ok (.getfield 11, 3) := by decide +kernel
theorem dX8_next_24 : decode cX8_next 24 = .ok (.iconst 0, 1) := by decide +kernel
theorem dX8_next_25 : decode cX8_next 25 = .ok (.aaload, 1) := by decide +kernel
theorem dX8_next_26 : decode cX8_next 26 = .ok (.aload_n 0, 1) := by decide +kernel
theorem dX8_next_27 : decode cX8_next 27 = .ok (.getfield 20, 3) := by decide +kernel
theorem dX8_next_30 : decode cX8_next 30 = .ok (.iaload, 1) := by decide +kernel
theorem dX8_next_31 : decode cX8_next 31 = .ok (.putfield 24, 3) := by decide +kernel
theorem dX8_next_34 : decode cX8_next 34 = .ok (.aload_n 0, 1) := by decide +kernel
theorem dX8_next_35 : decode cX8_next 35 = .ok (.aload_n 0, 1) := by decide +kernel
theorem dX8_next_36 : decode cX8_next 36 = .ok (.getfield 11, 3) := by decide +kernel
theorem dX8_next_39 : decode cX8_next 39 = .ok (.iconst 1, 1) := by decide +kernel
theorem dX8_next_40 : decode cX8_next 40 = .ok (.aaload, 1) := by decide +kernel
theorem dX8_next_41 : decode cX8_next 41 = .ok (.aload_n 0, 1) := by decide +kernel
theorem dX8_next_42 : decode cX8_next 42 = .ok (.getfield 20, 3) := by decide +kernel
theorem dX8_next_45 : decode cX8_next 45 = .ok (.iaload, 1) := by decide +kernel
theorem dX8_next_46 : decode cX8_next 46 = .ok (.putfield 27, 3) := by decide +kernel
theorem dX8_next_49 : decode cX8_next 49 = .ok (.aload_n 0, 1) := by decide +kernel
theorem dX8_next_50 : decode cX8_next 50 = .ok (.aload_n 0, 1) := by decide +kernel
theorem dX8_next_51 : decode cX8_next 51 = .ok (.getfield 11, 3) := by decide +kernel
theorem dX8_next_54 : decode cX8_next 54 = .ok (.iconst 2, 1) := by decide +kernel
theorem dX8_next_55 : decode cX8_next 55 = .ok (.aaload, 1) := by decide +kernel
theorem dX8_next_56 : decode cX8_next 56 = .ok (.aload_n 0, 1) := by decide +kernel
theorem dX8_next_57 : decode cX8_next 57 = .ok (.getfield 20, 3) := by decide +kernel
theorem dX8_next_60 : decode cX8_next 60 = .ok (.iaload, 1) := by decide +kernel
theorem dX8_next_61 : decode cX8_next 61 = .ok (.putfield 30, 3) := by decide +kernel
theorem dX8_next_64 : decode cX8_next 64 = .ok (.aload_n 0, 1) := by decide +kernel
theorem dX8_next_65 : decode cX8_next 65 = .ok (.aload_n 0, 1) := by decide +kernel
theorem dX8_next_66 : decode cX8_next 66 = .ok (.getfield 11, 3) := by decide +kernel
theorem dX8_next_69 : decode cX8_next 69 = .ok (.iconst 3, 1) := by decide +kernel
theorem dX8_next_70 : decode cX8_next 70 = .ok (.aaload, 1) := by decide +kernel
theorem dX8_next_71 : decode cX8_next 71 = .ok (.aload_n 0, 1) := by decide +kernel
theorem dX8_next_72 : decode cX8_next 72 = .ok (.getfield 20, 3) := by decide +kernel
theorem dX8_next_75 : decode cX8_next 75 = .ok (.iaload, 1) := by decide +kernel
theorem dX8_next_76 : decode cX8_next 76 = .ok (.putfield 33, 3) := by decide +kernel
theorem dX8_next_79 : decode cX8_next 79 = .ok (.aload_n 0, 1) := by decide +kernel
theorem dX8_next_80 : decode cX8_next 80 = .ok (.aload_n 0, 1) := by decide +kernel
theorem dX8_next_81 : decode cX8_next 81 = .ok (.getfield 11, 3) := by decide +kernel
theorem dX8_next_84 : decode cX8_next 84 = .ok (.iconst 4, 1) := by decide +kernel
theorem dX8_next_85 : decode cX8_next 85 = .ok (.aaload, 1) := by decide +kernel
theorem dX8_next_86 : decode cX8_next 86 = .ok (.aload_n 0, 1) := by decide +kernel
theorem dX8_next_87 : decode cX8_next 87 = .ok (.getfield 20, 3) := by decide +kernel
theorem dX8_next_90 : decode cX8_next 90 = .ok (.iaload, 1) := by decide +kernel
theorem dX8_next_91 : decode cX8_next 91 = .ok (.putfield 36, 3) := by decide +kernel
theorem dX8_next_94 : decode cX8_next 94 = .ok (.aload_n 0, 1) := by decide +kernel
theorem dX8_next_95 : decode cX8_next 95 = .ok (.aload_n 0, 1) := by decide +kernel
theorem dX8_next_96 : decode cX8_next 96 = .ok (.getfield 11, 3) := by decide +kernel
theorem dX8_next_99 : decode cX8_next 99 = .ok (.iconst 5, 1) := by decide +kernel
theorem dX8_next_100 : decode cX8_next 100 = .ok (.aaload, 1) := by decide +kernel
theorem dX8_next_101 : decode cX8_next 101 = .ok (.aload_n 0, 1) := by decide +kernel
theorem dX8_next_102 : decode cX8_next 102 = .ok (.getfield 20, 3) := by decide +kernel
theorem dX8_next_105 : decode cX8_next 105 = .ok (.iaload, 1) := by decide +kernel
theorem dX8_next_106 : decode cX8_next 106 = .ok (.putfield 39, 3) := by decide +kernel
theorem dX8_next_109 : decode cX8_next 109 = .ok (.aload_n 0, 1) := by decide +kernel
theorem dX8_next_110 : decode cX8_next 110 = .ok (.aload_n 0, 1) := by decide +kernel
theorem dX8_next_111 : decode cX8_next 111 = .ok (.getfield 11, 3) := by decide +kernel
theorem dX8_next_114 : decode cX8_next 114 = .ok (.bipush 6, 2) := by decide +kernel
theorem dX8_next_116 : decode cX8_next 116 = .ok (.aaload, 1) := by decide +kernel
theorem dX8_next_117 : decode cX8_next 117 = .ok (.aload_n 0, 1) := by decide +kernel
theorem dX8_next_118 : decode cX8_next 118 = .ok (.getfield 20, 3) := by decide +kernel
theorem dX8_next_121 : decode cX8_next 121 = .ok (.iaload, 1) := by decide +kernel
theorem dX8_next_122 : decode cX8_next 122 = .ok (.putfield 42, 3) := by decide +kernel
theorem dX8_next_125 : decode cX8_next 125 = .ok (.iconst 1, 1) := by decide +kernel
theorem dX8_next_126 : decode cX8_next 126 = .ok (.ireturn, 1) := by decide +kernel
theorem dX8_spread_0 : decode cX8_spread 0 = .ok (.aload_n 0, 1) := by decide +kernel
theorem dX8_spread_1 : decode cX8_spread 1 = .ok (.getfield 49, 3) := by decide +kernel
theorem dX8_spread_4 : decode cX8_spread 4 = .ok (.aload_n 1, 1) := by decide +kernel
theorem dX8_spread_5 : decode cX8_spread 5 = .ok (.aload_n 0, 1) := by decide +kernel
theorem dX8_spread_6 : decode cX8_spread 6 = .ok (.getfield 33, 3) := by decide +kernel
theorem dX8_spread_9 : decode cX8_spread 9 = .ok (.aload_n 0, 1) := by decide +kernel
theorem dX8_spread_10 : decode cX8_spread 10 = .ok (.getfield 36, 3) := by decide +kernel
theorem dX8_spread_13 : decode cX8_spread 13 = .ok (.invokevirtual 57, 3) := by decide +kernel
theorem dX8_spread_16 : decode cX8_spread 16 = .ok (.ifCond .ne 4, 3) := by decide +kernel
theorem dX8_spread_19 : decode cX8_spread 19 = .ok (.return_, 1) := by decide +kernel
theorem dX8_spread_20 : decode cX8_spread 20 = .ok (.aload_n 1, 1) := by decide +kernel
theorem dX8_spread_21 : decode cX8_spread 21 = .ok (.invokevirtual 63, 3) := by decide +kernel
theorem dX8_spread_24 : decode cX8_spread 24 = .ok (.istore_n 2, 1) := by decide +kernel
theorem dX8_spread_25 : decode cX8_spread 25 = .ok (.aload_n 0, 1) := by decide +kernel
theorem dX8_spread_26 : decode cX8_spread 26 = .ok (.getfield 49, 3) := by decide +kernel
theorem dX8_spread_29 : decode cX8_spread 29 = .ok (.getfield 69, 3) := by decide +kernel
theorem dX8_spread_32 : decode cX8_spread 32 = .ok (.iconst 1, 1) := by decide +kernel
theorem dX8_spread_33 : decode cX8_spread 33 = .ok (.isub, 1) := by decide +kernel
theorem dX8_spread_34 : decode cX8_spread 34 = .ok (.istore_n 3, 1) := by decide +kernel
theorem dX8_spread_35 : decode cX8_spread 35 = .ok (.iload_n 3, 1) := by decide +kernel
theorem dX8_spread_36 : decode cX8_spread 36 = .ok (.ifCond .lt 127, 3) := by decide +kernel
theorem dX8_spread_39 : decode cX8_spread 39 = .ok (.aload_n 0, 1) := by decide +kernel
theorem dX8_spread_40 : decode cX8_spread 40 = .ok (.getfield 49, 3) := by decide +kernel
theorem dX8_spread_43 : decode cX8_spread 43 = .ok (.getfield 72, 3) := by decide +kernel
theorem dX8_spread_46 : decode cX8_spread 46 = .ok (.iload_n 3, 1) := by decide +kernel
theorem dX8_spread_47 : decode cX8_spread 47 = .ok (.iaload, 1) := by decide +kernel
theorem dX8_spread_48 : decode cX8_spread 48 = .ok (.istore 4, 2) := by decide +kernel
theorem dX8_spread_50 : decode cX8_spread 50 = .ok (.aload_n 0, 1) := by decide +kernel
theorem dX8_spread_51 : decode cX8_spread 51 = .ok (.getfield 49, 3) := by decide +kernel
theorem dX8_spread_54 : decode cX8_spread 54 = .ok (.getfield 75, 3) := by decide +kernel
theorem dX8_spread_57 : decode cX8_spread 57 = .ok (.iload_n 3, 1) := by decide +kernel
theorem dX8_spread_58 : decode cX8_spread 58 = .ok (.iaload, 1) := by decide +kernel
theorem dX8_spread_59 : decode cX8_spread 59 = .ok (.istore 5, 2) := by decide +kernel
theorem dX8_spread_61 : decode cX8_spread 61 = .ok (.bipush 31, 2) := by decide +kernel
theorem dX8_spread_63 : decode cX8_spread 63 = .ok (.aload_n 0, 1) := by decide +kernel
theorem dX8_spread_64 : decode cX8_spread 64 = .ok (.getfield 39, 3) := by decide +kernel
theorem dX8_spread_67 : decode cX8_spread 67 = .ok (.imul, 1) := by decide +kernel
theorem dX8_spread_68 : decode cX8_spread 68 = .ok (.iload_n 3, 1) := by decide +kernel
theorem dX8_spread_69 : decode cX8_spread 69 = .ok (.iadd, 1) := by decide +kernel
theorem dX8_spread_70 : decode cX8_spread 70 = .ok (.iconst 1, 1) := by decide +kernel
theorem dX8_spread_71 : decode cX8_spread 71 = .ok (.iadd, 1) := by decide +kernel
theorem dX8_spread_72 : decode cX8_spread 72 = .ok (.istore 6, 2) := by decide +kernel
theorem dX8_spread_74 : decode cX8_spread 74 = .ok (.iload_n 2, 1) := by decide +kernel
theorem dX8_spread_75 : decode cX8_spread 75 = .ok (.ifCond .eq 44, 3) := by decide +kernel
theorem dX8_spread_78 : decode cX8_spread 78 = .ok (.aload_n 0, 1) := by decide +kernel
theorem dX8_spread_79 : decode cX8_spread 79 = .ok (.aload_n 0, 1) := by decide +kernel
theorem dX8_spread_80 : decode cX8_spread 80 = .ok (.getfield 49, 3) := by decide +kernel
theorem dX8_spread_83 : decode cX8_spread 83 = .ok (.getfield 78, 3) := by decide +kernel
theorem dX8_spread_86 : decode cX8_spread 86 = .ok (.iload_n 3, 1) := by decide +kernel
theorem dX8_spread_87 : decode cX8_spread 87 = .ok (.iaload, 1) := by decide +kernel
theorem dX8_spread_88 : decode cX8_spread 88 = .ok (.aload_n 0, 1) := by decide +kernel
theorem dX8_spread_89 : decode cX8_spread 89 = .ok (.getfield 27, 3) := by decide +kernel
theorem dX8_spread_92 : decode cX8_spread 92 = .ok (.aload_n 0, 1) := by decide +kernel
theorem dX8_spread_93 : decode cX8_spread 93 = .ok (.getfield 30, 3) := by decide +kernel
theorem dX8_spread_96 : decode cX8_spread 96 = .ok (.iload 4, 2) := by decide +kernel
theorem dX8_spread_98 : decode cX8_spread 98 = .ok (.iadd, 1) := by decide +kernel
theorem dX8_spread_99 : decode cX8_spread 99 = .ok (.aload_n 0, 1) := by decide +kernel
theorem dX8_spread_100 : decode cX8_spread 100 = .ok (.getfield 33, 3) := by decide +kernel
theorem dX8_spread_103 : decode cX8_spread 103 = .ok (.iload 5, 2) := by decide +kernel
theorem dX8_spread_105 : decode cX8_spread 105 = .ok (.iload 6, 2) := by decide +kernel
theorem dX8_spread_107 : decode cX8_spread 107 = .ok (.aload_n 0, 1) := by decide +kernel
theorem dX8_spread_108 : decode cX8_spread 108 = .ok (.getfield 42, 3) := by decide +kernel
theorem dX8_spread_111 : decode cX8_spread 111 = .ok (.iconst 1, 1) := by decide +kernel
theorem dX8_spread_112 : decode cX8_spread 112 = .ok (.iadd, 1) := by decide +kernel
theorem dX8_spread_113 : decode cX8_spread 113 = .ok (.invokevirtual 53, 3) := by decide +kernel
theorem dX8_spread_116 : decode cX8_spread 116 = .ok (.goto 41, 3) := by decide +kernel
theorem dX8_spread_119 : decode cX8_spread 119 = .ok (.aload_n 0, 1) := by decide +kernel
theorem dX8_spread_120 : decode cX8_spread 120 = .ok (.aload_n 0, 1) := by decide +kernel
theorem dX8_spread_121 : decode cX8_spread 121 = .ok (.getfield 49, 3) := by decide +kernel
theorem dX8_spread_124 : decode cX8_spread 124 = .ok (.getfield 78, 3) := by decide +kernel
theorem dX8_spread_127 : decode cX8_spread 127 = .ok (.iload_n 3, 1) := by decide +kernel
theorem dX8_spread_128 : decode cX8_spread 128 = .ok (.iaload, 1) := by decide +kernel
theorem dX8_spread_129 : decode cX8_spread 129 = .ok (.aload_n 0, 1) := by decide +kernel
theorem dX8_spread_130 : decode cX8_spread 130 = .ok (.getfield 27, 3) := by decide +kernel
theorem dX8_spread_133 : decode cX8_spread 133 = .ok (.iload 4, 2) := by decide +kernel
theorem dX8_spread_135 : decode cX8_spread 135 = .ok (.iadd, 1) := by decide +kernel
theorem dX8_spread_136 : decode cX8_spread 136 = .ok (.aload_n 0, 1) := by decide +kernel
theorem dX8_spread_137 : decode cX8_spread 137 = .ok (.getfield 30, 3) := by decide +kernel
theorem dX8_spread_140 : decode cX8_spread 140 = .ok (.iload 5, 2) := by decide +kernel
theorem dX8_spread_142 : decode cX8_spread 142 = .ok (.aload_n 0, 1) := by decide +kernel
theorem dX8_spread_143 : decode cX8_spread 143 = .ok (.getfield 36, 3) := by decide +kernel
theorem dX8_spread_146 : decode cX8_spread 146 = .ok (.iload 6, 2) := by decide +kernel
theorem dX8_spread_148 : decode cX8_spread 148 = .ok (.aload_n 0, 1) := by decide +kernel
theorem dX8_spread_149 : decode cX8_spread 149 = .ok (.getfield 42, 3) := by decide +kernel
theorem dX8_spread_152 : decode cX8_spread 152 = .ok (.iconst 1, 1) := by decide +kernel
theorem dX8_spread_153 : decode cX8_spread 153 = .ok (.iadd, 1) := by decide +kernel
theorem dX8_spread_154 : decode cX8_spread 154 = .ok (.invokevirtual 53, 3) := by decide +kernel
theorem dX8_spread_157 : decode cX8_spread 157 = .ok (.iinc 3 (-1), 3) := by decide +kernel
theorem dX8_spread_160 : decode cX8_spread 160 = .ok (.goto (-125), 3) := by decide +kernel
theorem dX8_spread_163 : decode cX8_spread 163 = .ok (.return_, 1) := by decide +kernel
theorem dX8_grow_0 : decode cX8_grow 0 = .ok (.aload_n 1, 1) := by decide +kernel
theorem dX8_grow_1 : decode cX8_grow 1 = .ok (.iload_n 3, 1) := by decide +kernel
theorem dX8_grow_2 : decode cX8_grow 2 = .ok (.iload 4, 2) := by decide +kernel
theorem dX8_grow_4 : decode cX8_grow 4 = .ok (.invokevirtual 80, 3) := by decide +kernel
theorem dX8_grow_7 : decode cX8_grow 7 = .ok (.aload_n 0, 1) := by decide +kernel
theorem dX8_grow_8 : decode cX8_grow 8 = .ok (.iload_n 3, 1) := by decide +kernel
theorem dX8_grow_9 : decode cX8_grow 9 = .ok (.iload 4, 2) := by decide +kernel
theorem dX8_grow_11 : decode cX8_grow 11 = .ok (.iload_n 2, 1) := by decide +kernel
theorem dX8_grow_12 : decode cX8_grow 12 = .ok (.invokevirtual 85, 3) := by decide +kernel
theorem dX8_grow_15 : decode cX8_grow 15 = .ok (.iconst 0, 1) := by decide +kernel
theorem dX8_grow_16 : decode cX8_grow 16 = .ok (.istore 5, 2) := by decide +kernel
theorem dX8_grow_18 : decode cX8_grow 18 = .ok (.iload 5, 2) := by decide +kernel
theorem dX8_grow_20 : decode cX8_grow 20 = .ok (.sipush 8000, 3) := by decide +kernel
theorem dX8_grow_23 : decode cX8_grow 23 = .ok (.if_icmp .gt 112, 3) := by decide +kernel
theorem dX8_grow_26 : decode cX8_grow 26 = .ok (.aload_n 0, 1) := by decide +kernel
theorem dX8_grow_27 : decode cX8_grow 27 = .ok (.invokevirtual 88, 3) := by decide +kernel
theorem dX8_grow_30 : decode cX8_grow 30 = .ok (.ifCond .eq 105, 3) := by decide +kernel
theorem dX8_grow_33 : decode cX8_grow 33 = .ok (.aload_n 0, 1) := by decide +kernel
theorem dX8_grow_34 : decode cX8_grow 34 = .ok (.getfield 42, 3) := by decide +kernel
theorem dX8_grow_37 : decode cX8_grow 37 = .ok (.bipush 20, 2) := by decide +kernel
theorem dX8_grow_39 : decode cX8_grow 39 = .ok (.if_icmp .lt 5, 3) := by decide +kernel
theorem dX8_grow_42 : decode cX8_grow 42 = .ok (.iconst 2, 1) := by decide +kernel
theorem dX8_grow_43 : decode cX8_grow 43 = .ok (.ireturn, 1) := by decide +kernel
theorem dX8_grow_44 : decode cX8_grow 44 = .ok (.aload_n 0, 1) := by decide +kernel
theorem dX8_grow_45 : decode cX8_grow 45 = .ok (.invokevirtual 91, 3) := by decide +kernel
theorem dX8_grow_48 : decode cX8_grow 48 = .ok (.istore 6, 2) := by decide +kernel
theorem dX8_grow_50 : decode cX8_grow 50 = .ok (.aload_n 0, 1) := by decide +kernel
theorem dX8_grow_51 : decode cX8_grow 51 = .ok (.getfield 45, 3) := by decide +kernel
theorem dX8_grow_54 : decode cX8_grow 54 = .ok (.iload 6, 2) := by decide +kernel
theorem dX8_grow_56 : decode cX8_grow 56 = .ok (.invokevirtual 95, 3) := by decide +kernel
theorem dX8_grow_59 : decode cX8_grow 59 = .ok (.ifCond .ne 5, 3) := by decide +kernel
theorem dX8_grow_62 : decode cX8_grow 62 = .ok (.iconst 1, 1) := by decide +kernel
theorem dX8_grow_63 : decode cX8_grow 63 = .ok (.ireturn, 1) := by decide +kernel
theorem dX8_grow_64 : decode cX8_grow 64 = .ok (.aload_n 0, 1) := by decide +kernel
theorem dX8_grow_65 : decode cX8_grow 65 = .ok (.getfield 45, 3) := by decide +kernel
theorem dX8_grow_68 : decode cX8_grow 68 = .ok (.getfield 101, 3) := by decide +kernel
theorem dX8_grow_71 : decode cX8_grow 71 = .ok (.iload 6, 2) := by decide +kernel
theorem dX8_grow_73 : decode cX8_grow 73 = .ok (.aaload, 1) := by decide +kernel
theorem dX8_grow_74 : decode cX8_grow 74 = .ok (.astore 7, 2) := by decide +kernel
theorem dX8_grow_76 : decode cX8_grow 76 = .ok (.aload_n 1, 1) := by decide +kernel
theorem dX8_grow_77 : decode cX8_grow 77 = .ok (.iload 6, 2) := by decide +kernel
theorem dX8_grow_79 : decode cX8_grow 79 = .ok (.aload 7, 2) := by decide +kernel
theorem dX8_grow_81 : decode cX8_grow 81 = .ok (.getfield 105, 3) := by decide +kernel
theorem dX8_grow_84 : decode cX8_grow 84 = .ok (.invokevirtual 108, 3) := by decide +kernel
theorem dX8_grow_87 : decode cX8_grow 87 = .ok (.aload 7, 2) := by decide +kernel
theorem dX8_grow_89 : decode cX8_grow 89 = .ok (.getfield 111, 3) := by decide +kernel
theorem dX8_grow_92 : decode cX8_grow 92 = .ok (.ifCond .ne 31, 3) := by decide +kernel
theorem dX8_grow_95 : decode cX8_grow 95 = .ok (.aload_n 1, 1) := by decide +kernel
theorem dX8_grow_96 : decode cX8_grow 96 = .ok (.aload_n 0, 1) := by decide +kernel
theorem dX8_grow_97 : decode cX8_grow 97 = .ok (.getfield 27, 3) := by decide +kernel
theorem dX8_grow_100 : decode cX8_grow 100 = .ok (.aload_n 0, 1) := by decide +kernel
theorem dX8_grow_101 : decode cX8_grow 101 = .ok (.getfield 30, 3) := by decide +kernel
theorem dX8_grow_104 : decode cX8_grow 104 = .ok (.aload_n 0, 1) := by decide +kernel
theorem dX8_grow_105 : decode cX8_grow 105 = .ok (.getfield 33, 3) := by decide +kernel
theorem dX8_grow_108 : decode cX8_grow 108 = .ok (.aload_n 0, 1) := by decide +kernel
theorem dX8_grow_109 : decode cX8_grow 109 = .ok (.getfield 36, 3) := by decide +kernel
theorem dX8_grow_112 : decode cX8_grow 112 = .ok (.aload 7, 2) := by decide +kernel
theorem dX8_grow_114 : decode cX8_grow 114 = .ok (.getfield 114, 3) := by decide +kernel
theorem dX8_grow_117 : decode cX8_grow 117 = .ok (.invokevirtual 117, 3) := by decide +kernel
theorem dX8_grow_120 : decode cX8_grow 120 = .ok (.goto 9, 3) := by decide +kernel
theorem dX8_grow_123 : decode cX8_grow 123 = .ok (.aload_n 0, 1) := by decide +kernel
theorem dX8_grow_124 : decode cX8_grow 124 = .ok (.aload 7, 2) := by decide +kernel
theorem dX8_grow_126 : decode cX8_grow 126 = .ok (.invokevirtual 121, 3) := by decide +kernel
theorem dX8_grow_129 : decode cX8_grow 129 = .ok (.iinc 5 1, 3) := by decide +kernel
theorem dX8_grow_132 : decode cX8_grow 132 = .ok (.goto (-114), 3) := by decide +kernel
theorem dX8_grow_135 : decode cX8_grow 135 = .ok (.iconst 0, 1) := by decide +kernel
theorem dX8_grow_136 : decode cX8_grow 136 = .ok (.ireturn, 1) := by decide +kernel
theorem dX8_choose_0 : decode cX8_choose 0 = .ok (.iconst 0, 1) := by decide +kernel
theorem dX8_choose_1 : decode cX8_choose 1 = .ok (.istore_n 1, 1) := by decide +kernel
theorem dX8_choose_2 : decode cX8_choose 2 = .ok (.iconst 0, 1) := by decide +kernel
theorem dX8_choose_3 : decode cX8_choose 3 = .ok (.istore_n 2, 1) := by decide +kernel
theorem dX8_choose_4 : decode cX8_choose 4 = .ok (.iload_n 2, 1) := by decide +kernel
theorem dX8_choose_5 : decode cX8_choose 5 = .ok (.aload_n 0, 1) := by decide +kernel
theorem dX8_choose_6 : decode cX8_choose 6 = .ok (.getfield 45, 3) := by decide +kernel
theorem dX8_choose_9 : decode cX8_choose 9 = .ok (.getfield 125, 3) := by decide +kernel
theorem dX8_choose_12 : decode cX8_choose 12 = .ok (.if_icmp .ge 65, 3) := by decide +kernel
theorem dX8_choose_15 : decode cX8_choose 15 = .ok (.iload_n 2, 1) := by decide +kernel
theorem dX8_choose_16 : decode cX8_choose 16 = .ok (.bipush 40, 2) := by decide +kernel
theorem dX8_choose_18 : decode cX8_choose 18 = .ok (.if_icmp .ge 59, 3) := by decide +kernel
theorem dX8_choose_21 : decode cX8_choose 21 = .ok (.aload_n 0, 1) := by decide +kernel
theorem dX8_choose_22 : decode cX8_choose 22 = .ok (.getfield 45, 3) := by decide +kernel
theorem dX8_choose_25 : decode cX8_choose 25 = .ok (.getfield 101, 3) := by decide +kernel
theorem dX8_choose_28 : decode cX8_choose 28 = .ok (.iload_n 2, 1) := by decide +kernel
theorem dX8_choose_29 : decode cX8_choose 29 = .ok (.aaload, 1) := by decide +kernel
theorem dX8_choose_30 : decode cX8_choose 30 = .ok (.astore_n 3, 1) := by decide +kernel
theorem dX8_choose_31 : decode cX8_choose 31 = .ok (.aload_n 3, 1) := by decide +kernel
theorem dX8_choose_32 : decode cX8_choose 32 = .ok (.getfield 126, 3) := by decide +kernel
theorem dX8_choose_35 : decode cX8_choose 35 = .ok (.aload_n 0, 1) := by decide +kernel
theorem dX8_choose_36 : decode cX8_choose 36 = .ok (.getfield 24, 3) := by decide +kernel
theorem dX8_choose_39 : decode cX8_choose 39 = .ok (.if_icmp .ne 32, 3) := by decide +kernel
theorem dX8_choose_42 : decode cX8_choose 42 = .ok (.aload_n 0, 1) := by decide +kernel
theorem dX8_choose_43 : decode cX8_choose 43 = .ok (.getfield 49, 3) := by decide +kernel
theorem dX8_choose_46 : decode cX8_choose 46 = .ok (.aload_n 3, 1) := by decide +kernel
theorem dX8_choose_47 : decode cX8_choose 47 = .ok (.aload_n 0, 1) := by decide +kernel
theorem dX8_choose_48 : decode cX8_choose 48 = .ok (.getfield 33, 3) := by decide +kernel
theorem dX8_choose_51 : decode cX8_choose 51 = .ok (.aload_n 0, 1) := by decide +kernel
theorem dX8_choose_52 : decode cX8_choose 52 = .ok (.getfield 36, 3) := by decide +kernel
theorem dX8_choose_55 : decode cX8_choose 55 = .ok (.invokevirtual 57, 3) := by decide +kernel
theorem dX8_choose_58 : decode cX8_choose 58 = .ok (.ifCond .eq 13, 3) := by decide +kernel
theorem dX8_choose_61 : decode cX8_choose 61 = .ok (.aload_n 0, 1) := by decide +kernel
theorem dX8_choose_62 : decode cX8_choose 62 = .ok (.getfield 16, 3) := by decide +kernel
theorem dX8_choose_65 : decode cX8_choose 65 = .ok (.iload_n 1, 1) := by decide +kernel
theorem dX8_choose_66 : decode cX8_choose 66 = .ok (.iload_n 2, 1) := by decide +kernel
theorem dX8_choose_67 : decode cX8_choose 67 = .ok (.iastore, 1) := by decide +kernel
theorem dX8_choose_68 : decode cX8_choose 68 = .ok (.iinc 1 1, 3) := by decide +kernel
theorem dX8_choose_71 : decode cX8_choose 71 = .ok (.iinc 2 1, 3) := by decide +kernel
theorem dX8_choose_74 : decode cX8_choose 74 = .ok (.goto (-70), 3) := by decide +kernel
theorem dX8_choose_77 : decode cX8_choose 77 = .ok (.iload_n 1, 1) := by decide +kernel
theorem dX8_choose_78 : decode cX8_choose 78 = .ok (.ifCond .ne 8, 3) := by decide +kernel
theorem dX8_choose_81 : decode cX8_choose 81 = .ok (.bipush (-9), 2) := by decide +kernel
theorem dX8_choose_83 : decode cX8_choose 83 = .ok (.goto 28, 3) := by decide +kernel
theorem dX8_choose_86 : decode cX8_choose 86 = .ok (.aload_n 0, 1) := by decide +kernel
theorem dX8_choose_87 : decode cX8_choose 87 = .ok (.getfield 16, 3) := by decide +kernel
theorem dX8_choose_90 : decode cX8_choose 90 = .ok (.aload_n 0, 1) := by decide +kernel
theorem dX8_choose_91 : decode cX8_choose 91 = .ok (.getfield 39, 3) := by decide +kernel
theorem dX8_choose_94 : decode cX8_choose 94 = .ok (.ldc 127, 2) := by decide +kernel
theorem dX8_choose_96 : decode cX8_choose 96 = .ok (.imul, 1) := by decide +kernel
theorem dX8_choose_97 : decode cX8_choose 97 = .ok (.sipush 12345, 3) := by decide +kernel
theorem dX8_choose_100 : decode cX8_choose 100 = .ok (.iadd, 1) := by decide +kernel
theorem dX8_choose_101 : decode cX8_choose 101 = .ok (.bipush 16, 2) := by decide +kernel
theorem dX8_choose_103 : decode cX8_choose 103 = .ok (.iushr, 1) := by decide +kernel
theorem dX8_choose_104 : decode cX8_choose 104 = .ok (.sipush 32767, 3) := by decide +kernel
theorem dX8_choose_107 : decode cX8_choose 107 = .ok (.iand, 1) := by decide +kernel
theorem dX8_choose_108 : decode cX8_choose 108 = .ok (.iload_n 1, 1) := by decide +kernel
theorem dX8_choose_109 : decode cX8_choose 109 = .ok (.irem, 1) := by decide +kernel
theorem dX8_choose_110 : decode cX8_choose 110 = .ok (.iaload, 1) := by decide +kernel
theorem dX8_choose_111 : decode cX8_choose 111 = .ok (.ireturn, 1) := by decide +kernel
theorem dX9_init_0 : decode cX9_init 0 = .ok (.aload_n 0, 1) := by decide +kernel
theorem dX9_init_1 : decode cX9_init 1 = .ok (.invokespecial 3, 3) := by decide +kernel
theorem dX9_init_4 : decode cX9_init 4 = .ok (.aload_n 0, 1) := by decide +kernel
theorem dX9_init_5 : decode cX9_init 5 = .ok (.new 9, 3) := by decide +kernel
theorem dX9_init_8 : decode cX9_init 8 = .ok (.dup, 1) := by decide +kernel
theorem dX9_init_9 : decode cX9_init 9 = .ok (.invokespecial 11, 3) := by decide +kernel
theorem dX9_init_12 : decode cX9_init 12 = .ok (.putfield 12, 3) := by decide +kernel
theorem dX9_init_15 : decode cX9_init 15 = .ok (.aload_n 0, 1) := by decide +kernel
theorem dX9_init_16 : decode cX9_init 16 = .ok (.new 16, 3) := by decide +kernel
theorem dX9_init_19 : decode cX9_init 19 = .ok (.dup, 1) := by decide +kernel
theorem dX9_init_20 : decode cX9_init 20 = .ok (.invokespecial 18, 3) := by decide +kernel
theorem dX9_init_23 : decode cX9_init 23 = .ok (.putfield 19, 3) := by decide +kernel
theorem dX9_init_26 : decode cX9_init 26 = .ok (.aload_n 0, 1) := by decide +kernel
theorem dX9_init_27 : decode cX9_init 27 = .ok (.new 23, 3) := by decide +kernel
theorem dX9_init_30 : decode cX9_init 30 = .ok (.dup, 1) := by decide +kernel
theorem dX9_init_31 : decode cX9_init 31 = .ok (.invokespecial 25, 3) := by decide +kernel
theorem dX9_init_34 : decode cX9_init 34 = .ok (.putfield 26, 3) := by decide +kernel
theorem dX9_init_37 : decode cX9_init 37 = .ok (.aload_n 0, 1) := by decide +kernel
theorem dX9_init_38 : decode cX9_init 38 = .ok (.new 30, 3) := by decide +kernel
theorem dX9_init_41 : decode cX9_init 41 = .ok (.dup, 1) := by decide +kernel
theorem dX9_init_42 : decode cX9_init 42 = .ok (.aload_n 0, 1) := by decide +kernel
theorem dX9_init_43 : decode cX9_init 43 = .ok (.getfield 12, 3) := by decide +kernel
theorem dX9_init_46 : decode cX9_init 46 = .ok (.aload_n 0, 1) := by decide +kernel
theorem dX9_init_47 : decode cX9_init 47 = .ok (.getfield 19, 3) := by decide +kernel
theorem dX9_init_50 : decode cX9_init 50 = .ok (.aload_n 0, 1) := by decide +kernel
theorem dX9_init_51 : decode cX9_init 51 = .ok (.getfield 26, 3) := by decide +kernel
theorem dX9_init_54 : decode cX9_init 54 = .ok (.iconst 0, 1) := by decide +kernel
theorem dX9_init_55 : decode cX9_init 55 = .ok (.invokespecial 32, 3) := by decide +kernel
theorem dX9_init_58 : decode cX9_init 58 = .ok (.putfield 35, 3) := by decide +kernel
theorem dX9_init_61 : decode cX9_init 61 = .ok (.aload_n 0, 1) := by decide +kernel
theorem dX9_init_62 : decode cX9_init 62 = .ok (.new 30, 3) := by decide +kernel
theorem dX9_init_65 : decode cX9_init 65 = .ok (.dup, 1) := by decide +kernel
theorem dX9_init_66 : decode cX9_init 66 = .ok (.aload_n 0, 1) := by decide +kernel
theorem dX9_init_67 : decode cX9_init 67 = .ok (.getfield 12, 3) := by decide +kernel
theorem dX9_init_70 : decode cX9_init 70 = .ok (.aload_n 0, 1) := by decide +kernel
theorem dX9_init_71 : decode cX9_init 71 = .ok (.getfield 19, 3) := by decide +kernel
theorem dX9_init_74 : decode cX9_init 74 = .ok (.aload_n 0, 1) := by decide +kernel
theorem dX9_init_75 : decode cX9_init 75 = .ok (.getfield 26, 3) := by decide +kernel
theorem dX9_init_78 : decode cX9_init 78 = .ok (.iconst 1, 1) := by decide +kernel
theorem dX9_init_79 : decode cX9_init 79 = .ok (.invokespecial 32, 3) := by decide +kernel
theorem dX9_init_82 : decode cX9_init 82 = .ok (.putfield 39, 3) := by decide +kernel
theorem dX9_init_85 : decode cX9_init 85 = .ok (.aload_n 0, 1) := by decide +kernel
theorem dX9_init_86 : decode cX9_init 86 = .ok (.new 42, 3) := by decide +kernel
theorem dX9_init_89 : decode cX9_init 89 = .ok (.dup, 1) := by decide +kernel
theorem dX9_init_90 : decode cX9_init 90 = .ok (.aload_n 0, 1) := by decide +kernel
theorem dX9_init_91 : decode cX9_init 91 = .ok (.getfield 12, 3) := by decide +kernel
theorem dX9_init_94 : decode cX9_init 94 = .ok (.aload_n 0, 1) := by decide +kernel
theorem dX9_init_95 : decode cX9_init 95 = .ok (.getfield 19, 3) := by decide +kernel
theorem dX9_init_98 : decode cX9_init 98 = .ok (.invokespecial 44, 3) := by decide +kernel
theorem dX9_init_101 : decode cX9_init 101 = .ok (.putfield 47, 3) := by decide +kernel
theorem dX9_init_104 : decode cX9_init 104 = .ok (.aload_n 0, 1) := by decide +kernel
theorem dX9_init_105 : decode cX9_init 105 = .ok (.new 51, 3) := by decide +kernel
theorem dX9_init_108 : decode cX9_init 108 = .ok (.dup, 1) := by decide +kernel
theorem dX9_init_109 : decode cX9_init 109 = .ok (.invokespecial 53, 3) := by decide +kernel
theorem dX9_init_112 : decode cX9_init 112 = .ok (.putfield 54, 3) := by decide +kernel
theorem dX9_init_115 : decode cX9_init 115 = .ok (.aload_n 0, 1) := by decide +kernel
theorem dX9_init_116 : decode cX9_init 116 = .ok (.new 51, 3) := by decide +kernel
theorem dX9_init_119 : decode cX9_init 119 = .ok (.dup, 1) := by decide +kernel
theorem dX9_init_120 : decode cX9_init 120 = .ok (.invokespecial 53, 3) := by decide +kernel
theorem dX9_init_123 : decode cX9_init 123 = .ok (.putfield 58, 3) := by decide +kernel
theorem dX9_init_126 : decode cX9_init 126 = .ok (.aload_n 0, 1) := by decide +kernel
theorem dX9_init_127 : decode cX9_init 127 = .ok (.iconst 0, 1) := by decide +kernel
theorem dX9_init_128 : decode cX9_init 128 = .ok (.putfield 61, 3) := by decide +kernel
theorem dX9_init_131 : decode cX9_init 131 = .ok (.return_, 1) := by decide +kernel
theorem dX9_fill_0 : decode cX9_fill 0 = .ok (.iload_n 1, 1) := by decide +kernel
theorem dX9_fill_1 : decode cX9_fill 1 = .ok (.invokestatic 65, 3) := by decide +kernel
theorem dX9_fill_4 : decode cX9_fill 4 = .ok (.ifCond .ne 5, 3) := by decide +kernel
theorem dX9_fill_7 : decode cX9_fill 7 = .ok (.iconst (-1), 1) := by decide +kernel
theorem dX9_fill_8 : decode cX9_fill 8 = .ok (.ireturn, 1) := by decide +kernel
theorem dX9_fill_9 : decode cX9_fill 9 = .ok (.iload_n 2, 1) := by decide +kernel
theorem dX9_fill_10 : decode cX9_fill 10 = .ok (.iconst 0, 1) := by decide +kernel
theorem dX9_fill_11 : decode cX9_fill 11 = .ok (.bipush 25, 2) := by decide +kernel
theorem dX9_fill_13 : decode cX9_fill 13 = .ok (.invokestatic 69, 3) := by decide +kernel
theorem dX9_fill_16 : decode cX9_fill 16 = .ok (.ifCond .eq 10, 3) := by decide +kernel
theorem dX9_fill_19 : decode cX9_fill 19 = .ok (.iload_n 3, 1) := by decide +kernel
theorem dX9_fill_20 : decode cX9_fill 20 = .ok (.invokestatic 73, 3) := by decide +kernel
theorem dX9_fill_23 : decode cX9_fill 23 = .ok (.ifCond .ne 6, 3) := by decide +kernel
theorem dX9_fill_26 : decode cX9_fill 26 = .ok (.bipush (-2), 2) := by decide +kernel
theorem dX9_fill_28 : decode cX9_fill 28 = .ok (.ireturn, 1) := by decide +kernel
theorem dX9_fill_29 : decode cX9_fill 29 = .ok (.aload_n 0, 1) := by decide +kernel
theorem dX9_fill_30 : decode cX9_fill 30 = .ok (.getfield 12, 3) := by decide +kernel
theorem dX9_fill_33 : decode cX9_fill 33 = .ok (.invokevirtual 76, 3) := by decide +kernel
theorem dX9_fill_36 : decode cX9_fill 36 = .ok (.ifCond .eq 6, 3) := by decide +kernel
theorem dX9_fill_39 : decode cX9_fill 39 = .ok (.bipush (-4), 2) := by decide +kernel
theorem dX9_fill_41 : decode cX9_fill 41 = .ok (.ireturn, 1) := by decide +kernel
theorem dX9_fill_42 : decode cX9_fill 42 = .ok (.aload_n 0, 1) := by decide +kernel
theorem dX9_fill_43 : decode cX9_fill 43 = .ok (.invokevirtual 80, 3) := by decide +kernel
theorem dX9_fill_46 : decode cX9_fill 46 = .ok (.aload_n 0, 1) := by decide +kernel
theorem dX9_fill_47 : decode cX9_fill 47 = .ok (.getfield 12, 3) := by decide +kernel
theorem dX9_fill_50 : decode cX9_fill 50 = .ok (.iload_n 1, 1) := by decide +kernel
theorem dX9_fill_51 : decode cX9_fill 51 = .ok (.iload_n 2, 1) := by decide +kernel
theorem dX9_fill_52 : decode cX9_fill 52 = .ok (.iload_n 3, 1) := by decide +kernel
theorem dX9_fill_53 : decode cX9_fill 53 = .ok (.invokevirtual 83, 3) := by decide +kernel
theorem dX9_fill_56 : decode cX9_fill 56 = .ok (.ireturn, 1) := by decide +kernel
theorem dX9_part_0 : decode cX9_part 0 = .ok (.iload_n 1, 1) := by decide +kernel
theorem dX9_part_1 : decode cX9_part 1 = .ok (.invokestatic 65, 3) := by decide +kernel
theorem dX9_part_4 : decode cX9_part 4 = .ok (.ifCond .ne 5, 3) := by decide +kernel
theorem dX9_part_7 : decode cX9_part 7 = .ok (.iconst (-1), 1) := by decide +kernel
theorem dX9_part_8 : decode cX9_part 8 = .ok (.ireturn, 1) := by decide +kernel
theorem dX9_part_9 : decode cX9_part 9 = .ok (.iload_n 2, 1) := by decide +kernel
theorem dX9_part_10 : decode cX9_part 10 = .ok (.iconst 1, 1) := by decide +kernel
theorem dX9_part_11 : decode cX9_part 11 = .ok (.iload_n 3, 1) := by decide +kernel
theorem dX9_part_12 : decode cX9_part 12 = .ok (.ifCond .eq 8, 3) := by decide +kernel
theorem dX9_part_15 : decode cX9_part 15 = .ok (.bipush 9, 2) := by decide +kernel
theorem dX9_part_17 : decode cX9_part 17 = .ok (.goto 5, 3) := by decide +kernel
theorem dX9_part_20 : decode cX9_part 20 = .ok (.bipush 20, 2) := by decide +kernel
theorem dX9_part_22 : decode cX9_part 22 = .ok (.invokestatic 69, 3) := by decide +kernel
theorem dX9_part_25 : decode cX9_part 25 = .ok (.ifCond .ne 6, 3) := by decide +kernel
theorem dX9_part_28 : decode cX9_part 28 = .ok (.bipush (-2), 2) := by decide +kernel
theorem dX9_part_30 : decode cX9_part 30 = .ok (.ireturn, 1) := by decide +kernel
theorem dX9_part_31 : decode cX9_part 31 = .ok (.aload_n 0, 1) := by decide +kernel
theorem dX9_part_32 : decode cX9_part 32 = .ok (.getfield 12, 3) := by decide +kernel
theorem dX9_part_35 : decode cX9_part 35 = .ok (.getfield 87, 3) := by decide +kernel
theorem dX9_part_38 : decode cX9_part 38 = .ok (.getfield 91, 3) := by decide +kernel
theorem dX9_part_41 : decode cX9_part 41 = .ok (.bipush 6, 2) := by decide +kernel
theorem dX9_part_43 : decode cX9_part 43 = .ok (.if_icmp .lt 6, 3) := by decide +kernel
theorem dX9_part_46 : decode cX9_part 46 = .ok (.bipush (-4), 2) := by decide +kernel
theorem dX9_part_48 : decode cX9_part 48 = .ok (.ireturn, 1) := by decide +kernel
theorem dX9_part_49 : decode cX9_part 49 = .ok (.aload_n 0, 1) := by decide +kernel
theorem dX9_part_50 : decode cX9_part 50 = .ok (.getfield 12, 3) := by decide +kernel
theorem dX9_part_53 : decode cX9_part 53 = .ok (.getfield 87, 3) := by decide +kernel
theorem dX9_part_56 : decode cX9_part 56 = .ok (.iload_n 1, 1) := by decide +kernel
theorem dX9_part_57 : decode cX9_part 57 = .ok (.iload_n 3, 1) := by decide +kernel
theorem dX9_part_58 : decode cX9_part 58 = .ok (.ifCond .eq 7, 3) := by decide +kernel
theorem dX9_part_61 : decode cX9_part 61 = .ok (.iconst 0, 1) := by decide +kernel
theorem dX9_part_62 : decode cX9_part 62 = .ok (.goto 4, 3) := by decide +kernel
theorem dX9_part_65 : decode cX9_part 65 = .ok (.iload_n 2, 1) := by decide +kernel
theorem dX9_part_66 : decode cX9_part 66 = .ok (.iload_n 3, 1) := by decide +kernel
theorem dX9_part_67 : decode cX9_part 67 = .ok (.ifCond .eq 7, 3) := by decide +kernel
theorem dX9_part_70 : decode cX9_part 70 = .ok (.iload_n 2, 1) := by decide +kernel
theorem dX9_part_71 : decode cX9_part 71 = .ok (.goto 4, 3) := by decide +kernel
theorem dX9_part_74 : decode cX9_part 74 = .ok (.iconst 0, 1) := by decide +kernel
theorem dX9_part_75 : decode cX9_part 75 = .ok (.invokevirtual 96, 3) := by decide +kernel
theorem dX9_part_78 : decode cX9_part 78 = .ok (.aload_n 0, 1) := by decide +kernel
theorem dX9_part_79 : decode cX9_part 79 = .ok (.getfield 12, 3) := by decide +kernel
theorem dX9_part_82 : decode cX9_part 82 = .ok (.getfield 87, 3) := by decide +kernel
theorem dX9_part_85 : decode cX9_part 85 = .ok (.getfield 91, 3) := by decide +kernel
theorem dX9_part_88 : decode cX9_part 88 = .ok (.ireturn, 1) := by decide +kernel
theorem dX9_split_0 : decode cX9_split 0 = .ok (.iload_n 1, 1) := by decide +kernel
theorem dX9_split_1 : decode cX9_split 1 = .ok (.invokestatic 65, 3) := by decide +kernel
theorem dX9_split_4 : decode cX9_split 4 = .ok (.ifCond .ne 5, 3) := by decide +kernel
theorem dX9_split_7 : decode cX9_split 7 = .ok (.iconst (-1), 1) := by decide +kernel
theorem dX9_split_8 : decode cX9_split 8 = .ok (.ireturn, 1) := by decide +kernel
theorem dX9_split_9 : decode cX9_split 9 = .ok (.iload_n 3, 1) := by decide +kernel
theorem dX9_split_10 : decode cX9_split 10 = .ok (.invokestatic 73, 3) := by decide +kernel
theorem dX9_split_13 : decode cX9_split 13 = .ok (.ifCond .ne 6, 3) := by decide +kernel
theorem dX9_split_16 : decode cX9_split 16 = .ok (.bipush (-2), 2) := by decide +kernel
theorem dX9_split_18 : decode cX9_split 18 = .ok (.ireturn, 1) := by decide +kernel
theorem dX9_split_19 : decode cX9_split 19 = .ok (.aload_n 0, 1) := by decide +kernel
theorem dX9_split_20 : decode cX9_split 20 = .ok (.getfield 12, 3) := by decide +kernel
theorem dX9_split_23 : decode cX9_split 23 = .ok (.getfield 87, 3) := by decide +kernel
theorem dX9_split_26 : decode cX9_split 26 = .ok (.getfield 91, 3) := by decide +kernel
theorem dX9_split_29 : decode cX9_split 29 = .ok (.ifCond .ne 6, 3) := by decide +kernel
theorem dX9_split_32 : decode cX9_split 32 = .ok (.bipush (-3), 2) := by decide +kernel
theorem dX9_split_34 : decode cX9_split 34 = .ok (.ireturn, 1) := by decide +kernel
theorem dX9_split_35 : decode cX9_split 35 = .ok (.aload_n 0, 1) := by decide +kernel
theorem dX9_split_36 : decode cX9_split 36 = .ok (.getfield 12, 3) := by decide +kernel
theorem dX9_split_39 : decode cX9_split 39 = .ok (.invokevirtual 76, 3) := by decide +kernel
theorem dX9_split_42 : decode cX9_split 42 = .ok (.ifCond .eq 6, 3) := by decide +kernel
theorem dX9_split_45 : decode cX9_split 45 = .ok (.bipush (-4), 2) := by decide +kernel
theorem dX9_split_47 : decode cX9_split 47 = .ok (.ireturn, 1) := by decide +kernel
theorem dX9_split_48 : decode cX9_split 48 = .ok (.aload_n 0, 1) := by decide +kernel
theorem dX9_split_49 : decode cX9_split 49 = .ok (.invokevirtual 80, 3) := by decide +kernel
theorem dX9_split_52 : decode cX9_split 52 = .ok (.aload_n 0, 1) := by decide +kernel
theorem dX9_split_53 : decode cX9_split 53 = .ok (.getfield 12, 3) := by decide +kernel
theorem dX9_split_56 : decode cX9_split 56 = .ok (.iload_n 1, 1) := by decide +kernel
theorem dX9_split_57 : decode cX9_split 57 = .ok (.iload_n 2, 1) := by decide +kernel
theorem dX9_split_58 : decode cX9_split 58 = .ok (.iload_n 3, 1) := by decide +kernel
theorem dX9_split_59 : decode cX9_split 59 = .ok (.invokevirtual 100, 3) := by decide +kernel
theorem dX9_split_62 : decode cX9_split 62 = .ok (.ireturn, 1) := by decide +kernel
theorem dX9_repeat_0 : decode cX9_repeat 0 = .ok (.iload_n 1, 1) := by decide +kernel
theorem dX9_repeat_1 : decode cX9_repeat 1 = .ok (.invokestatic 65, 3) := by decide +kernel
theorem dX9_repeat_4 : decode cX9_repeat 4 = .ok (.ifCond .eq 10, 3) := by decide +kernel
theorem dX9_repeat_7 : decode cX9_repeat 7 = .ok (.iload_n 2, 1) := by decide +kernel
theorem dX9_repeat_8 : decode cX9_repeat 8 = .ok (.invokestatic 65, 3) := by decide +kernel
theorem dX9_repeat_11 : decode cX9_repeat 11 = .ok (.ifCond .ne 5, 3) := by decide +kernel
theorem dX9_repeat_14 : decode cX9_repeat 14 = .ok (.iconst (-1), 1) := by decide +kernel
theorem dX9_repeat_15 : decode cX9_repeat 15 = .ok (.ireturn, 1) := by decide +kernel
theorem dX9_repeat_16 : decode cX9_repeat 16 = .ok (.iload_n 3, 1) := by decide +kernel
theorem dX9_repeat_17 : decode cX9_repeat 17 = .ok (.iconst 1, 1) := by decide +kernel
theorem dX9_repeat_18 : decode cX9_repeat 18 = .ok (.bipush 20, 2) := by decide +kernel
theorem dX9_repeat_20 : decode cX9_repeat 20 = .ok (.invokestatic 69, 3) := by decide +kernel
theorem dX9_repeat_23 : decode cX9_repeat 23 = .ok (.ifCond .eq 11, 3) := by decide +kernel
theorem dX9_repeat_26 : decode cX9_repeat 26 = .ok (.iload 5, 2) := by decide +kernel
theorem dX9_repeat_28 : decode cX9_repeat 28 = .ok (.invokestatic 73, 3) := by decide +kernel
theorem dX9_repeat_31 : decode cX9_repeat 31 = .ok (.ifCond .ne 6, 3) := by decide +kernel
theorem dX9_repeat_34 : decode cX9_repeat 34 = .ok (.bipush (-2), 2) := by decide +kernel
theorem dX9_repeat_36 : decode cX9_repeat 36 = .ok (.ireturn, 1) := by decide +kernel
theorem dX9_repeat_37 : decode cX9_repeat 37 = .ok (.aload_n 0, 1) := by decide +kernel
theorem dX9_repeat_38 : decode cX9_repeat 38 = .ok (.getfield 12, 3) := by decide +kernel
theorem dX9_repeat_41 : decode cX9_repeat 41 = .ok (.invokevirtual 76, 3) := by decide +kernel
theorem dX9_repeat_44 : decode cX9_repeat 44 = .ok (.ifCond .eq 6, 3) := by decide +kernel
theorem dX9_repeat_47 : decode cX9_repeat 47 = .ok (.bipush (-4), 2) := by decide +kernel
theorem dX9_repeat_49 : decode cX9_repeat 49 = .ok (.ireturn, 1) := by decide +kernel
theorem dX9_repeat_50 : decode cX9_repeat 50 = .ok (.aload_n 0, 1) := by decide +kernel
theorem dX9_repeat_51 : decode cX9_repeat 51 = .ok (.invokevirtual 80, 3) := by decide +kernel
theorem dX9_repeat_54 : decode cX9_repeat 54 = .ok (.aload_n 0, 1) := by decide +kernel
theorem dX9_repeat_55 : decode cX9_repeat 55 = .ok (.getfield 12, 3) := by decide +kernel
theorem dX9_repeat_58 : decode cX9_repeat 58 = .ok (.iload_n 1, 1) := by decide +kernel
theorem dX9_repeat_59 : decode cX9_repeat 59 = .ok (.iload_n 2, 1) := by decide +kernel
theorem dX9_repeat_60 : decode cX9_repeat 60 = .ok (.iload_n 3, 1) := by decide +kernel
theorem dX9_repeat_61 : decode cX9_repeat 61 = .ok (.iload 4, 2) := by decide +kernel
theorem dX9_repeat_63 : decode cX9_repeat 63 = .ok (.iload 5, 2) := by decide +kernel
theorem dX9_repeat_65 : decode cX9_repeat 65 = .ok (.invokevirtual 104, 3) := by decide +kernel
theorem dX9_repeat_68 : decode cX9_repeat 68 = .ok (.ireturn, 1) := by decide +kernel
theorem dX9_only_0 : decode cX9_only 0 = .ok (.aload_n 0, 1) := by decide +kernel
theorem dX9_only_1 : decode cX9_only 1 = .ok (.getfield 12, 3) := by decide +kernel
theorem dX9_only_4 : decode cX9_only 4 = .ok (.iload_n 1, 1) := by decide +kernel
theorem dX9_only_5 : decode cX9_only 5 = .ok (.invokevirtual 108, 3) := by decide +kernel
theorem dX9_only_8 : decode cX9_only 8 = .ok (.ifCond .ne 5, 3) := by decide +kernel
theorem dX9_only_11 : decode cX9_only 11 = .ok (.iconst (-1), 1) := by decide +kernel
theorem dX9_only_12 : decode cX9_only 12 = .ok (.ireturn, 1) := by decide +kernel
theorem dX9_only_13 : decode cX9_only 13 = .ok (.iload_n 3, 1) := by decide +kernel
theorem dX9_only_14 : decode cX9_only 14 = .ok (.iconst 1, 1) := by decide +kernel
theorem dX9_only_15 : decode cX9_only 15 = .ok (.if_icmp .lt 16, 3) := by decide +kernel
theorem dX9_only_18 : decode cX9_only 18 = .ok (.iload 4, 2) := by decide +kernel
theorem dX9_only_20 : decode cX9_only 20 = .ok (.bipush 20, 2) := by decide +kernel
theorem dX9_only_22 : decode cX9_only 22 = .ok (.if_icmp .gt 9, 3) := by decide +kernel
theorem dX9_only_25 : decode cX9_only 25 = .ok (.iload_n 3, 1) := by decide +kernel
theorem dX9_only_26 : decode cX9_only 26 = .ok (.iload 4, 2) := by decide +kernel
theorem dX9_only_28 : decode cX9_only 28 = .ok (.if_icmp .le 6, 3) := by decide +kernel
theorem dX9_only_31 : decode cX9_only 31 = .ok (.bipush (-2), 2) := by decide +kernel
theorem dX9_only_33 : decode cX9_only 33 = .ok (.ireturn, 1) := by decide +kernel
theorem dX9_only_34 : decode cX9_only 34 = .ok (.aload_n 0, 1) := by decide +kernel
theorem dX9_only_35 : decode cX9_only 35 = .ok (.getfield 12, 3) := by decide +kernel
theorem dX9_only_38 : decode cX9_only 38 = .ok (.getfield 111, 3) := by decide +kernel
theorem dX9_only_41 : decode cX9_only 41 = .ok (.iload_n 1, 1) := by decide +kernel
theorem dX9_only_42 : decode cX9_only 42 = .ok (.aaload, 1) := by decide +kernel
theorem dX9_only_43 : decode cX9_only 43 = .ok (.iload_n 2, 1) := by decide +kernel
theorem dX9_only_44 : decode cX9_only 44 = .ok (.iload_n 3, 1) := by decide +kernel
theorem dX9_only_45 : decode cX9_only 45 = .ok (.iload 4, 2) := by decide +kernel
theorem dX9_only_47 : decode cX9_only 47 = .ok (.invokevirtual 115, 3) := by decide +kernel
theorem dX9_only_50 : decode cX9_only 50 = .ok (.aload_n 0, 1) := by decide +kernel
theorem dX9_only_51 : decode cX9_only 51 = .ok (.invokevirtual 80, 3) := by decide +kernel
theorem dX9_only_54 : decode cX9_only 54 = .ok (.iconst 1, 1) := by decide +kernel
theorem dX9_only_55 : decode cX9_only 55 = .ok (.ireturn, 1) := by decide +kernel
theorem dX9_clear_0 : decode cX9_clear 0 = .ok (.aload_n 0, 1) := by decide +kernel
theorem dX9_clear_1 : decode cX9_clear 1 = .ok (.getfield 12, 3) := by decide +kernel
theorem dX9_clear_4 : decode cX9_clear 4 = .ok (.getfield 121, 3) := by decide +kernel
theorem dX9_clear_7 : decode cX9_clear 7 = .ok (.istore_n 1, 1) := by decide +kernel
theorem dX9_clear_8 : decode cX9_clear 8 = .ok (.aload_n 0, 1) := by decide +kernel
theorem dX9_clear_9 : decode cX9_clear 9 = .ok (.getfield 12, 3) := by decide +kernel
theorem dX9_clear_12 : decode cX9_clear 12 = .ok (.invokevirtual 122, 3) := by decide +kernel
theorem dX9_clear_15 : decode cX9_clear 15 = .ok (.aload_n 0, 1) := by decide +kernel
theorem dX9_clear_16 : decode cX9_clear 16 = .ok (.getfield 54, 3) := by decide +kernel
theorem dX9_clear_19 : decode cX9_clear 19 = .ok (.invokevirtual 125, 3) := by decide +kernel
theorem dX9_clear_22 : decode cX9_clear 22 = .ok (.aload_n 0, 1) := by decide +kernel
theorem dX9_clear_23 : decode cX9_clear 23 = .ok (.invokevirtual 80, 3) := by decide +kernel
theorem dX9_clear_26 : decode cX9_clear 26 = .ok (.iload_n 1, 1) := by decide +kernel
theorem dX9_clear_27 : decode cX9_clear 27 = .ok (.ireturn, 1) := by decide +kernel
theorem dX9_rule_0 : decode cX9_rule 0 = .ok (.aload_n 0, 1) := by decide +kernel
theorem dX9_rule_1 : decode cX9_rule 1 = .ok (.getfield 12, 3) := by decide +kernel
theorem dX9_rule_4 : decode cX9_rule 4 = .ok (.iload_n 1, 1) := by decide +kernel
theorem dX9_rule_5 : decode cX9_rule 5 = .ok (.invokevirtual 108, 3) := by decide +kernel
theorem dX9_rule_8 : decode cX9_rule 8 = .ok (.ifCond .ne 5, 3) := by decide +kernel
theorem dX9_rule_11 : decode cX9_rule 11 = .ok (.iconst (-1), 1) := by decide +kernel
theorem dX9_rule_12 : decode cX9_rule 12 = .ok (.ireturn, 1) := by decide +kernel
theorem dX9_rule_13 : decode cX9_rule 13 = .ok (.aload_n 0, 1) := by decide +kernel
theorem dX9_rule_14 : decode cX9_rule 14 = .ok (.getfield 12, 3) := by decide +kernel
theorem dX9_rule_17 : decode cX9_rule 17 = .ok (.getfield 111, 3) := by decide +kernel
theorem dX9_rule_20 : decode cX9_rule 20 = .ok (.iload_n 1, 1) := by decide +kernel
theorem dX9_rule_21 : decode cX9_rule 21 = .ok (.aaload, 1) := by decide +kernel
theorem dX9_rule_22 : decode cX9_rule 22 = .ok (.astore_n 3, 1) := by decide +kernel
theorem dX9_rule_23 : decode cX9_rule 23 = .ok (.iload_n 2, 1) := by decide +kernel
theorem dX9_rule_24 : decode cX9_rule 24 = .ok (.tableswitch 64 0 4 #[36, 41, 46, 51, 59], 36) := by decide +kernel
theorem dX9_rule_60 : decode cX9_rule 60 = .ok (.aload_n 3, 1) := by decide +kernel
theorem dX9_rule_61 : decode cX9_rule 61 = .ok (.getfield 126, 3) := by decide +kernel
theorem dX9_rule_64 : decode cX9_rule 64 = .ok (.ireturn, 1) := by decide +kernel
theorem dX9_rule_65 : decode cX9_rule 65 = .ok (.aload_n 3, 1) := by decide +kernel
theorem dX9_rule_66 : decode cX9_rule 66 = .ok (.getfield 129, 3) := by decide +kernel
theorem dX9_rule_69 : decode cX9_rule 69 = .ok (.ireturn, 1) := by decide +kernel
theorem dX9_rule_70 : decode cX9_rule 70 = .ok (.aload_n 3, 1) := by decide +kernel
theorem dX9_rule_71 : decode cX9_rule 71 = .ok (.getfield 132, 3) := by decide +kernel
theorem dX9_rule_74 : decode cX9_rule 74 = .ok (.ireturn, 1) := by decide +kernel
theorem dX9_rule_75 : decode cX9_rule 75 = .ok (.aload_n 3, 1) := by decide +kernel
theorem dX9_rule_76 : decode cX9_rule 76 = .ok (.getfield 135, 3) := by decide +kernel
theorem dX9_rule_79 : decode cX9_rule 79 = .ok (.getfield 91, 3) := by decide +kernel
theorem dX9_rule_82 : decode cX9_rule 82 = .ok (.ireturn, 1) := by decide +kernel
theorem dX9_rule_83 : decode cX9_rule 83 = .ok (.aload_n 3, 1) := by decide +kernel
theorem dX9_rule_84 : decode cX9_rule 84 = .ok (.getfield 138, 3) := by decide +kernel
theorem dX9_rule_87 : decode cX9_rule 87 = .ok (.ireturn, 1) := by decide +kernel
theorem dX9_rule_88 : decode cX9_rule 88 = .ok (.bipush (-2), 2) := by decide +kernel
theorem dX9_rule_90 : decode cX9_rule 90 = .ok (.ireturn, 1) := by decide +kernel
theorem dX9_holds_0 : decode cX9_holds 0 = .ok (.aload_n 0, 1) := by decide +kernel
theorem dX9_holds_1 : decode cX9_holds 1 = .ok (.getfield 12, 3) := by decide +kernel
theorem dX9_holds_4 : decode cX9_holds 4 = .ok (.iload_n 1, 1) := by decide +kernel
theorem dX9_holds_5 : decode cX9_holds 5 = .ok (.invokevirtual 108, 3) := by decide +kernel
theorem dX9_holds_8 : decode cX9_holds 8 = .ok (.ifCond .ne 5, 3) := by decide +kernel
theorem dX9_holds_11 : decode cX9_holds 11 = .ok (.iconst (-1), 1) := by decide +kernel
theorem dX9_holds_12 : decode cX9_holds 12 = .ok (.ireturn, 1) := by decide +kernel
theorem dX9_holds_13 : decode cX9_holds 13 = .ok (.iload_n 2, 1) := by decide +kernel
theorem dX9_holds_14 : decode cX9_holds 14 = .ok (.iload_n 3, 1) := by decide +kernel
theorem dX9_holds_15 : decode cX9_holds 15 = .ok (.invokestatic 141, 3) := by decide +kernel
theorem dX9_holds_18 : decode cX9_holds 18 = .ok (.ifCond .ne 6, 3) := by decide +kernel
theorem dX9_holds_21 : decode cX9_holds 21 = .ok (.bipush (-2), 2) := by decide +kernel
theorem dX9_holds_23 : decode cX9_holds 23 = .ok (.ireturn, 1) := by decide +kernel
theorem dX9_holds_24 : decode cX9_holds 24 = .ok (.aload_n 0, 1) := by decide +kernel
theorem dX9_holds_25 : decode cX9_holds 25 = .ok (.getfield 19, 3) := by decide +kernel
theorem dX9_holds_28 : decode cX9_holds 28 = .ok (.aload_n 0, 1) := by decide +kernel
theorem dX9_holds_29 : decode cX9_holds 29 = .ok (.getfield 12, 3) := by decide +kernel
theorem dX9_holds_32 : decode cX9_holds 32 = .ok (.getfield 111, 3) := by decide +kernel
theorem dX9_holds_35 : decode cX9_holds 35 = .ok (.iload_n 1, 1) := by decide +kernel
theorem dX9_holds_36 : decode cX9_holds 36 = .ok (.aaload, 1) := by decide +kernel
theorem dX9_holds_37 : decode cX9_holds 37 = .ok (.iload_n 2, 1) := by decide +kernel
theorem dX9_holds_38 : decode cX9_holds 38 = .ok (.iload_n 3, 1) := by decide +kernel
theorem dX9_holds_39 : decode cX9_holds 39 = .ok (.invokevirtual 145, 3) := by decide +kernel
theorem dX9_holds_42 : decode cX9_holds 42 = .ok (.ifCond .eq 7, 3) := by decide +kernel
theorem dX9_holds_45 : decode cX9_holds 45 = .ok (.iconst 1, 1) := by decide +kernel
theorem dX9_holds_46 : decode cX9_holds 46 = .ok (.goto 4, 3) := by decide +kernel
theorem dX9_holds_49 : decode cX9_holds 49 = .ok (.iconst 0, 1) := by decide +kernel
theorem dX9_holds_50 : decode cX9_holds 50 = .ok (.ireturn, 1) := by decide +kernel
theorem dX9_piece_0 : decode cX9_piece 0 = .ok (.aload_n 0, 1) := by decide +kernel
theorem dX9_piece_1 : decode cX9_piece 1 = .ok (.getfield 12, 3) := by decide +kernel
theorem dX9_piece_4 : decode cX9_piece 4 = .ok (.iload_n 1, 1) := by decide +kernel
theorem dX9_piece_5 : decode cX9_piece 5 = .ok (.invokevirtual 108, 3) := by decide +kernel
theorem dX9_piece_8 : decode cX9_piece 8 = .ok (.ifCond .ne 5, 3) := by decide +kernel
theorem dX9_piece_11 : decode cX9_piece 11 = .ok (.iconst (-1), 1) := by decide +kernel
theorem dX9_piece_12 : decode cX9_piece 12 = .ok (.ireturn, 1) := by decide +kernel
theorem dX9_piece_13 : decode cX9_piece 13 = .ok (.iload_n 2, 1) := by decide +kernel
theorem dX9_piece_14 : decode cX9_piece 14 = .ok (.iload_n 3, 1) := by decide +kernel
theorem dX9_piece_15 : decode cX9_piece 15 = .ok (.invokestatic 141, 3) := by decide +kernel
theorem dX9_piece_18 : decode cX9_piece 18 = .ok (.ifCond .ne 6, 3) := by decide +kernel
theorem dX9_piece_21 : decode cX9_piece 21 = .ok (.bipush (-2), 2) := by decide +kernel
theorem dX9_piece_23 : decode cX9_piece 23 = .ok (.ireturn, 1) := by decide +kernel
theorem dX9_piece_24 : decode cX9_piece 24 = .ok (.aload_n 0, 1) := by decide +kernel
theorem dX9_piece_25 : decode cX9_piece 25 = .ok (.getfield 19, 3) := by decide +kernel
theorem dX9_piece_28 : decode cX9_piece 28 = .ok (.aload_n 0, 1) := by decide +kernel
theorem dX9_piece_29 : decode cX9_piece 29 = .ok (.getfield 12, 3) := by decide +kernel
theorem dX9_piece_32 : decode cX9_piece 32 = .ok (.getfield 111, 3) := by decide +kernel
theorem dX9_piece_35 : decode cX9_piece 35 = .ok (.iload_n 1, 1) := by decide +kernel
theorem dX9_piece_36 : decode cX9_piece 36 = .ok (.aaload, 1) := by decide +kernel
theorem dX9_piece_37 : decode cX9_piece 37 = .ok (.iload_n 2, 1) := by decide +kernel
theorem dX9_piece_38 : decode cX9_piece 38 = .ok (.iload_n 3, 1) := by decide +kernel
theorem dX9_piece_39 : decode cX9_piece 39 = .ok (.invokevirtual 145, 3) := by decide +kernel
theorem dX9_piece_42 : decode cX9_piece 42 = .ok (.ifCond .ne 6, 3) := by decide +kernel
theorem dX9_piece_45 : decode cX9_piece 45 = .ok (.bipush (-3), 2) := by decide +kernel
theorem dX9_piece_47 : decode cX9_piece 47 = .ok (.ireturn, 1) := by decide +kernel
theorem dX9_piece_48 : decode cX9_piece 48 = .ok (.iload 4, 2) := by decide +kernel
theorem dX9_piece_50 : decode cX9_piece 50 = .ok (.ifCond .lt 15, 3) := by decide +kernel
theorem dX9_piece_53 : decode cX9_piece 53 = .ok (.iload 4, 2) := by decide +kernel
theorem dX9_piece_55 : decode cX9_piece 55 = .ok (.aload_n 0, 1) := by decide +kernel
theorem dX9_piece_56 : decode cX9_piece 56 = .ok (.getfield 19, 3) := by decide +kernel
theorem dX9_piece_59 : decode cX9_piece 59 = .ok (.getfield 149, 3) := by decide +kernel
theorem dX9_piece_62 : decode cX9_piece 62 = .ok (.if_icmp .lt 6, 3) := by decide +kernel
theorem dX9_piece_65 : decode cX9_piece 65 = .ok (.bipush (-9), 2) := by decide +kernel
theorem dX9_piece_67 : decode cX9_piece 67 = .ok (.ireturn, 1) := by decide +kernel
theorem dX9_piece_68 : decode cX9_piece 68 = .ok (.iload 5, 2) := by decide +kernel
theorem dX9_piece_70 : decode cX9_piece 70 = .ok (.ifCond .eq 16, 3) := by decide +kernel
theorem dX9_piece_73 : decode cX9_piece 73 = .ok (.aload_n 0, 1) := by decide +kernel
theorem dX9_piece_74 : decode cX9_piece 74 = .ok (.getfield 19, 3) := by decide +kernel
theorem dX9_piece_77 : decode cX9_piece 77 = .ok (.getfield 150, 3) := by decide +kernel
theorem dX9_piece_80 : decode cX9_piece 80 = .ok (.iload 4, 2) := by decide +kernel
theorem dX9_piece_82 : decode cX9_piece 82 = .ok (.iaload, 1) := by decide +kernel
theorem dX9_piece_83 : decode cX9_piece 83 = .ok (.goto 13, 3) := by decide +kernel
theorem dX9_piece_86 : decode cX9_piece 86 = .ok (.aload_n 0, 1) := by decide +kernel
theorem dX9_piece_87 : decode cX9_piece 87 = .ok (.getfield 19, 3) := by decide +kernel
theorem dX9_piece_90 : decode cX9_piece 90 = .ok (.getfield 154, 3) := by decide +kernel
theorem dX9_piece_93 : decode cX9_piece 93 = .ok (.iload 4, 2) := by decide +kernel
theorem dX9_piece_95 : decode cX9_piece 95 = .ok (.iaload, 1) := by decide +kernel
theorem dX9_piece_96 : decode cX9_piece 96 = .ok (.ireturn, 1) := by decide +kernel
theorem dX9_draw_0 : decode cX9_draw 0 = .ok (.iload_n 2, 1) := by decide +kernel
theorem dX9_draw_1 : decode cX9_draw 1 = .ok (.iload_n 3, 1) := by decide +kernel
theorem dX9_draw_2 : decode cX9_draw 2 = .ok (.invokestatic 141, 3) := by decide +kernel
theorem dX9_draw_5 : decode cX9_draw 5 = .ok (.ifCond .ne 6, 3) := by decide +kernel
theorem dX9_draw_8 : decode cX9_draw 8 = .ok (.bipush (-2), 2) := by decide +kernel
theorem dX9_draw_10 : decode cX9_draw 10 = .ok (.ireturn, 1) := by decide +kernel
theorem dX9_draw_11 : decode cX9_draw 11 = .ok (.aload_n 0, 1) := by decide +kernel
theorem dX9_draw_12 : decode cX9_draw 12 = .ok (.getfield 47, 3) := by decide +kernel
theorem dX9_draw_15 : decode cX9_draw 15 = .ok (.aload_n 0, 1) := by decide +kernel
theorem dX9_draw_16 : decode cX9_draw 16 = .ok (.getfield 58, 3) := by decide +kernel
theorem dX9_draw_19 : decode cX9_draw 19 = .ok (.iload_n 1, 1) := by decide +kernel
theorem dX9_draw_20 : decode cX9_draw 20 = .ok (.iload_n 2, 1) := by decide +kernel
theorem dX9_draw_21 : decode cX9_draw 21 = .ok (.iload_n 3, 1) := by decide +kernel
theorem dX9_draw_22 : decode cX9_draw 22 = .ok (.invokevirtual 157, 3) := by decide +kernel
theorem dX9_draw_25 : decode cX9_draw 25 = .ok (.istore 4, 2) := by decide +kernel
theorem dX9_draw_27 : decode cX9_draw 27 = .ok (.iload 4, 2) := by decide +kernel
theorem dX9_draw_29 : decode cX9_draw 29 = .ok (.ifCond .eq 20, 3) := by decide +kernel
theorem dX9_draw_32 : decode cX9_draw 32 = .ok (.aload_n 0, 1) := by decide +kernel
theorem dX9_draw_33 : decode cX9_draw 33 = .ok (.aload_n 0, 1) := by decide +kernel
theorem dX9_draw_34 : decode cX9_draw 34 = .ok (.getfield 47, 3) := by decide +kernel
theorem dX9_draw_37 : decode cX9_draw 37 = .ok (.getfield 161, 3) := by decide +kernel
theorem dX9_draw_40 : decode cX9_draw 40 = .ok (.putfield 61, 3) := by decide +kernel
theorem dX9_draw_43 : decode cX9_draw 43 = .ok (.bipush (-100), 2) := by decide +kernel
theorem dX9_draw_45 : decode cX9_draw 45 = .ok (.iload 4, 2) := by decide +kernel
theorem dX9_draw_47 : decode cX9_draw 47 = .ok (.isub, 1) := by decide +kernel
theorem dX9_draw_48 : decode cX9_draw 48 = .ok (.ireturn, 1) := by decide +kernel
theorem dX9_draw_49 : decode cX9_draw 49 = .ok (.aload_n 0, 1) := by decide +kernel
theorem dX9_draw_50 : decode cX9_draw 50 = .ok (.iconst 0, 1) := by decide +kernel
theorem dX9_draw_51 : decode cX9_draw 51 = .ok (.putfield 61, 3) := by decide +kernel
theorem dX9_draw_54 : decode cX9_draw 54 = .ok (.aload_n 0, 1) := by decide +kernel
theorem dX9_draw_55 : decode cX9_draw 55 = .ok (.getfield 54, 3) := by decide +kernel
theorem dX9_draw_58 : decode cX9_draw 58 = .ok (.astore 5, 2) := by decide +kernel
theorem dX9_draw_60 : decode cX9_draw 60 = .ok (.aload_n 0, 1) := by decide +kernel
theorem dX9_draw_61 : decode cX9_draw 61 = .ok (.aload_n 0, 1) := by decide +kernel
theorem dX9_draw_62 : decode cX9_draw 62 = .ok (.getfield 58, 3) := by decide +kernel
theorem dX9_draw_65 : decode cX9_draw 65 = .ok (.putfield 54, 3) := by decide +kernel
theorem dX9_draw_68 : decode cX9_draw 68 = .ok (.aload_n 0, 1) := by decide +kernel
theorem dX9_draw_69 : decode cX9_draw 69 = .ok (.aload 5, 2) := by decide +kernel
theorem dX9_draw_71 : decode cX9_draw 71 = .ok (.putfield 58, 3) := by decide +kernel
theorem dX9_draw_74 : decode cX9_draw 74 = .ok (.aload_n 0, 1) := by decide +kernel
theorem dX9_draw_75 : decode cX9_draw 75 = .ok (.getfield 54, 3) := by decide +kernel
theorem dX9_draw_78 : decode cX9_draw 78 = .ok (.getfield 164, 3) := by decide +kernel
theorem dX9_draw_81 : decode cX9_draw 81 = .ok (.ireturn, 1) := by decide +kernel
theorem dX9_at_0 : decode cX9_at 0 = .ok (.iload_n 1, 1) := by decide +kernel
theorem dX9_at_1 : decode cX9_at 1 = .ok (.ifCond .lt 29, 3) := by decide +kernel
theorem dX9_at_4 : decode cX9_at 4 = .ok (.iload_n 1, 1) := by decide +kernel
theorem dX9_at_5 : decode cX9_at 5 = .ok (.aload_n 0, 1) := by decide +kernel
theorem dX9_at_6 : decode cX9_at 6 = .ok (.getfield 54, 3) := by decide +kernel
theorem dX9_at_9 : decode cX9_at 9 = .ok (.getfield 165, 3) := by decide +kernel
theorem dX9_at_12 : decode cX9_at 12 = .ok (.if_icmp .ge 18, 3) := by decide +kernel
theorem dX9_at_15 : decode cX9_at 15 = .ok (.iload_n 2, 1) := by decide +kernel
theorem dX9_at_16 : decode cX9_at 16 = .ok (.ifCond .lt 14, 3) := by decide +kernel
theorem dX9_at_19 : decode cX9_at 19 = .ok (.iload_n 2, 1) := by decide +kernel
theorem dX9_at_20 : decode cX9_at 20 = .ok (.aload_n 0, 1) := by decide +kernel
theorem dX9_at_21 : decode cX9_at 21 = .ok (.getfield 54, 3) := by decide +kernel
theorem dX9_at_24 : decode cX9_at 24 = .ok (.getfield 168, 3) := by decide +kernel
theorem dX9_at_27 : decode cX9_at 27 = .ok (.if_icmp .lt 6, 3) := by decide +kernel
theorem dX9_at_30 : decode cX9_at 30 = .ok (.bipush (-9), 2) := by decide +kernel
theorem dX9_at_32 : decode cX9_at 32 = .ok (.ireturn, 1) := by decide +kernel
theorem dX9_at_33 : decode cX9_at 33 = .ok (.aload_n 0, 1) := by decide +kernel
theorem dX9_at_34 : decode cX9_at 34 = .ok (.getfield 54, 3) := by decide +kernel
theorem dX9_at_37 : decode cX9_at 37 = .ok (.iload_n 1, 1) := by decide +kernel
theorem dX9_at_38 : decode cX9_at 38 = .ok (.iload_n 2, 1) := by decide +kernel
theorem dX9_at_39 : decode cX9_at 39 = .ok (.invokevirtual 171, 3) := by decide +kernel
theorem dX9_at_42 : decode cX9_at 42 = .ok (.ireturn, 1) := by decide +kernel
theorem dX9_step_0 : decode cX9_step 0 = .ok (.iload_n 1, 1) := by decide +kernel
theorem dX9_step_1 : decode cX9_step 1 = .ok (.ifCond .lt 14, 3) := by decide +kernel
theorem dX9_step_4 : decode cX9_step 4 = .ok (.iload_n 1, 1) := by decide +kernel
theorem dX9_step_5 : decode cX9_step 5 = .ok (.aload_n 0, 1) := by decide +kernel
theorem dX9_step_6 : decode cX9_step 6 = .ok (.getfield 54, 3) := by decide +kernel
theorem dX9_step_9 : decode cX9_step 9 = .ok (.getfield 164, 3) := by decide +kernel
theorem dX9_step_12 : decode cX9_step 12 = .ok (.if_icmp .lt 6, 3) := by decide +kernel
theorem dX9_step_15 : decode cX9_step 15 = .ok (.bipush (-9), 2) := by decide +kernel
theorem dX9_step_17 : decode cX9_step 17 = .ok (.ireturn, 1) := by decide +kernel
theorem dX9_step_18 : decode cX9_step 18 = .ok (.aload_n 0, 1) := by decide +kernel
theorem dX9_step_19 : decode cX9_step 19 = .ok (.getfield 54, 3) := by decide +kernel
theorem dX9_step_22 : decode cX9_step 22 = .ok (.getfield 175, 3) := by decide +kernel
theorem dX9_step_25 : decode cX9_step 25 = .ok (.iload_n 1, 1) := by decide +kernel
theorem dX9_step_26 : decode cX9_step 26 = .ok (.baload, 1) := by decide +kernel
theorem dX9_step_27 : decode cX9_step 27 = .ok (.ireturn, 1) := by decide +kernel
theorem dX9_drawn_0 : decode cX9_drawn 0 = .ok (.aload_n 0, 1) := by decide +kernel
theorem dX9_drawn_1 : decode cX9_drawn 1 = .ok (.getfield 54, 3) := by decide +kernel
theorem dX9_drawn_4 : decode cX9_drawn 4 = .ok (.getfield 165, 3) := by decide +kernel
theorem dX9_drawn_7 : decode cX9_drawn 7 = .ok (.ifCond .ne 8, 3) := by decide +kernel
theorem dX9_drawn_10 : decode cX9_drawn 10 = .ok (.bipush (-9), 2) := by decide +kernel
theorem dX9_drawn_12 : decode cX9_drawn 12 = .ok (.goto 10, 3) := by decide +kernel
theorem dX9_drawn_15 : decode cX9_drawn 15 = .ok (.aload_n 0, 1) := by decide +kernel
theorem dX9_drawn_16 : decode cX9_drawn 16 = .ok (.getfield 54, 3) := by decide +kernel
theorem dX9_drawn_19 : decode cX9_drawn 19 = .ok (.getfield 178, 3) := by decide +kernel
theorem dX9_drawn_22 : decode cX9_drawn 22 = .ok (.ireturn, 1) := by decide +kernel
theorem dX9_fault_0 : decode cX9_fault 0 = .ok (.aload_n 0, 1) := by decide +kernel
theorem dX9_fault_1 : decode cX9_fault 1 = .ok (.getfield 61, 3) := by decide +kernel
theorem dX9_fault_4 : decode cX9_fault 4 = .ok (.ireturn, 1) := by decide +kernel
theorem dX9_take_0 : decode cX9_take 0 = .ok (.aload_n 0, 1) := by decide +kernel
theorem dX9_take_1 : decode cX9_take 1 = .ok (.getfield 54, 3) := by decide +kernel
theorem dX9_take_4 : decode cX9_take 4 = .ok (.getfield 165, 3) := by decide +kernel
theorem dX9_take_7 : decode cX9_take 7 = .ok (.ifCond .eq 27, 3) := by decide +kernel
theorem dX9_take_10 : decode cX9_take 10 = .ok (.aload_n 0, 1) := by decide +kernel
theorem dX9_take_11 : decode cX9_take 11 = .ok (.getfield 54, 3) := by decide +kernel
theorem dX9_take_14 : decode cX9_take 14 = .ok (.getfield 165, 3) := by decide +kernel
theorem dX9_take_17 : decode cX9_take 17 = .ok (.bipush 9, 2) := by decide +kernel
theorem dX9_take_19 : decode cX9_take 19 = .ok (.if_icmp .gt 15, 3) := by decide +kernel
theorem dX9_take_22 : decode cX9_take 22 = .ok (.aload_n 0, 1) := by decide +kernel
theorem dX9_take_23 : decode cX9_take 23 = .ok (.getfield 54, 3) := by decide +kernel
theorem dX9_take_26 : decode cX9_take 26 = .ok (.getfield 168, 3) := by decide +kernel
theorem dX9_take_29 : decode cX9_take 29 = .ok (.bipush 9, 2) := by decide +kernel
theorem dX9_take_31 : decode cX9_take 31 = .ok (.if_icmp .le 6, 3) := by decide +kernel
theorem dX9_take_34 : decode cX9_take 34 = .ok (.bipush (-3), 2) := by decide +kernel
theorem dX9_take_36 : decode cX9_take 36 = .ok (.ireturn, 1) := by decide +kernel
theorem dX9_take_37 : decode cX9_take 37 = .ok (.aload_n 0, 1) := by decide +kernel
theorem dX9_take_38 : decode cX9_take 38 = .ok (.getfield 26, 3) := by decide +kernel
theorem dX9_take_41 : decode cX9_take 41 = .ok (.aload_n 0, 1) := by decide +kernel
theorem dX9_take_42 : decode cX9_take 42 = .ok (.getfield 54, 3) := by decide +kernel
theorem dX9_take_45 : decode cX9_take 45 = .ok (.getfield 165, 3) := by decide +kernel
theorem dX9_take_48 : decode cX9_take 48 = .ok (.aload_n 0, 1) := by decide +kernel
theorem dX9_take_49 : decode cX9_take 49 = .ok (.getfield 54, 3) := by decide +kernel
theorem dX9_take_52 : decode cX9_take 52 = .ok (.getfield 168, 3) := by decide +kernel
theorem dX9_take_55 : decode cX9_take 55 = .ok (.invokevirtual 179, 3) := by decide +kernel
theorem dX9_take_58 : decode cX9_take 58 = .ok (.iconst 0, 1) := by decide +kernel
theorem dX9_take_59 : decode cX9_take 59 = .ok (.istore_n 1, 1) := by decide +kernel
theorem dX9_take_60 : decode cX9_take 60 = .ok (.iload_n 1, 1) := by decide +kernel
theorem dX9_take_61 : decode cX9_take 61 = .ok (.aload_n 0, 1) := by decide +kernel
theorem dX9_take_62 : decode cX9_take 62 = .ok (.getfield 54, 3) := by decide +kernel
theorem dX9_take_65 : decode cX9_take 65 = .ok (.getfield 168, 3) := by decide +kernel
theorem dX9_take_68 : decode cX9_take 68 = .ok (.if_icmp .ge 46, 3) := by decide +kernel
theorem dX9_take_71 : decode cX9_take 71 = .ok (.iconst 0, 1) := by decide +kernel
theorem dX9_take_72 : decode cX9_take 72 = .ok (.istore_n 2, 1) := by decide +kernel
theorem dX9_take_73 : decode cX9_take 73 = .ok (.iload_n 2, 1) := by decide +kernel
theorem dX9_take_74 : decode cX9_take 74 = .ok (.aload_n 0, 1) := by decide +kernel
theorem dX9_take_75 : decode cX9_take 75 = .ok (.getfield 54, 3) := by decide +kernel
theorem dX9_take_78 : decode cX9_take 78 = .ok (.getfield 165, 3) := by decide +kernel
theorem dX9_take_81 : decode cX9_take 81 = .ok (.if_icmp .ge 27, 3) := by decide +kernel
theorem dX9_take_84 : decode cX9_take 84 = .ok (.aload_n 0, 1) := by decide +kernel
theorem dX9_take_85 : decode cX9_take 85 = .ok (.getfield 26, 3) := by decide +kernel
theorem dX9_take_88 : decode cX9_take 88 = .ok (.iload_n 2, 1) := by decide +kernel
theorem dX9_take_89 : decode cX9_take 89 = .ok (.iload_n 1, 1) := by decide +kernel
theorem dX9_take_90 : decode cX9_take 90 = .ok (.aload_n 0, 1) := by decide +kernel
theorem dX9_take_91 : decode cX9_take 91 = .ok (.getfield 54, 3) := by decide +kernel
theorem dX9_take_94 : decode cX9_take 94 = .ok (.iload_n 2, 1) := by decide +kernel
theorem dX9_take_95 : decode cX9_take 95 = .ok (.iload_n 1, 1) := by decide +kernel
theorem dX9_take_96 : decode cX9_take 96 = .ok (.invokevirtual 171, 3) := by decide +kernel
theorem dX9_take_99 : decode cX9_take 99 = .ok (.invokevirtual 182, 3) := by decide +kernel
theorem dX9_take_102 : decode cX9_take 102 = .ok (.iinc 2 1, 3) := by decide +kernel
theorem dX9_take_105 : decode cX9_take 105 = .ok (.goto (-32), 3) := by decide +kernel
theorem dX9_take_108 : decode cX9_take 108 = .ok (.iinc 1 1, 3) := by decide +kernel
theorem dX9_take_111 : decode cX9_take 111 = .ok (.goto (-51), 3) := by decide +kernel
theorem dX9_take_114 : decode cX9_take 114 = .ok (.aload_n 0, 1) := by decide +kernel
theorem dX9_take_115 : decode cX9_take 115 = .ok (.getfield 39, 3) := by decide +kernel
theorem dX9_take_118 : decode cX9_take 118 = .ok (.iconst 1, 1) := by decide +kernel
theorem dX9_take_119 : decode cX9_take 119 = .ok (.putfield 185, 3) := by decide +kernel
theorem dX9_take_122 : decode cX9_take 122 = .ok (.iconst 1, 1) := by decide +kernel
theorem dX9_take_123 : decode cX9_take 123 = .ok (.ireturn, 1) := by decide +kernel
theorem dX9_ways_0 : decode cX9_ways 0 = .ok (.iload_n 1, 1) := by decide +kernel
theorem dX9_ways_1 : decode cX9_ways 1 = .ok (.invokestatic 65, 3) := by decide +kernel
theorem dX9_ways_4 : decode cX9_ways 4 = .ok (.ifCond .ne 7, 3) := by decide +kernel
theorem dX9_ways_7 : decode cX9_ways 7 = .ok (.ldc2_w 189, 3) := by decide +kernel
theorem dX9_ways_10 : decode cX9_ways 10 = .ok (.lreturn, 1) := by decide +kernel
theorem dX9_ways_11 : decode cX9_ways 11 = .ok (.iload_n 2, 1) := by decide +kernel
theorem dX9_ways_12 : decode cX9_ways 12 = .ok (.iload_n 3, 1) := by decide +kernel
theorem dX9_ways_13 : decode cX9_ways 13 = .ok (.invokestatic 141, 3) := by decide +kernel
theorem dX9_ways_16 : decode cX9_ways 16 = .ok (.ifCond .ne 7, 3) := by decide +kernel
theorem dX9_ways_19 : decode cX9_ways 19 = .ok (.ldc2_w 191, 3) := by decide +kernel
theorem dX9_ways_22 : decode cX9_ways 22 = .ok (.lreturn, 1) := by decide +kernel
theorem dX9_ways_23 : decode cX9_ways 23 = .ok (.aload_n 0, 1) := by decide +kernel
theorem dX9_ways_24 : decode cX9_ways 24 = .ok (.getfield 35, 3) := by decide +kernel
theorem dX9_ways_27 : decode cX9_ways 27 = .ok (.aload_n 0, 1) := by decide +kernel
theorem dX9_ways_28 : decode cX9_ways 28 = .ok (.getfield 35, 3) := by decide +kernel
theorem dX9_ways_31 : decode cX9_ways 31 = .ok (.iload_n 1, 1) := by decide +kernel
theorem dX9_ways_32 : decode cX9_ways 32 = .ok (.iconst 0, 1) := by decide +kernel
theorem dX9_ways_33 : decode cX9_ways 33 = .ok (.iconst 0, 1) := by decide +kernel
theorem dX9_ways_34 : decode cX9_ways 34 = .ok (.iload_n 2, 1) := by decide +kernel
theorem dX9_ways_35 : decode cX9_ways 35 = .ok (.iload_n 3, 1) := by decide +kernel
theorem dX9_ways_36 : decode cX9_ways 36 = .ok (.invokevirtual 193, 3) := by decide +kernel
theorem dX9_ways_39 : decode cX9_ways 39 = .ok (.invokevirtual 197, 3) := by decide +kernel
theorem dX9_ways_42 : decode cX9_ways 42 = .ok (.lreturn, 1) := by decide +kernel
theorem dX9_least_0 : decode cX9_least 0 = .ok (.iload_n 1, 1) := by decide +kernel
theorem dX9_least_1 : decode cX9_least 1 = .ok (.invokestatic 65, 3) := by decide +kernel
theorem dX9_least_4 : decode cX9_least 4 = .ok (.ifCond .ne 5, 3) := by decide +kernel
theorem dX9_least_7 : decode cX9_least 7 = .ok (.iconst (-1), 1) := by decide +kernel
theorem dX9_least_8 : decode cX9_least 8 = .ok (.ireturn, 1) := by decide +kernel
theorem dX9_least_9 : decode cX9_least 9 = .ok (.iload_n 2, 1) := by decide +kernel
theorem dX9_least_10 : decode cX9_least 10 = .ok (.iload_n 3, 1) := by decide +kernel
theorem dX9_least_11 : decode cX9_least 11 = .ok (.invokestatic 141, 3) := by decide +kernel
theorem dX9_least_14 : decode cX9_least 14 = .ok (.ifCond .ne 6, 3) := by decide +kernel
theorem dX9_least_17 : decode cX9_least 17 = .ok (.bipush (-2), 2) := by decide +kernel
theorem dX9_least_19 : decode cX9_least 19 = .ok (.ireturn, 1) := by decide +kernel
theorem dX9_least_20 : decode cX9_least 20 = .ok (.aload_n 0, 1) := by decide +kernel
theorem dX9_least_21 : decode cX9_least 21 = .ok (.getfield 35, 3) := by decide +kernel
theorem dX9_least_24 : decode cX9_least 24 = .ok (.aload_n 0, 1) := by decide +kernel
theorem dX9_least_25 : decode cX9_least 25 = .ok (.getfield 35, 3) := by decide +kernel
theorem dX9_least_28 : decode cX9_least 28 = .ok (.iload_n 1, 1) := by decide +kernel
theorem dX9_least_29 : decode cX9_least 29 = .ok (.iconst 0, 1) := by decide +kernel
theorem dX9_least_30 : decode cX9_least 30 = .ok (.iconst 0, 1) := by decide +kernel
theorem dX9_least_31 : decode cX9_least 31 = .ok (.iload_n 2, 1) := by decide +kernel
theorem dX9_least_32 : decode cX9_least 32 = .ok (.iload_n 3, 1) := by decide +kernel
theorem dX9_least_33 : decode cX9_least 33 = .ok (.invokevirtual 193, 3) := by decide +kernel
theorem dX9_least_36 : decode cX9_least 36 = .ok (.invokevirtual 201, 3) := by decide +kernel
theorem dX9_least_39 : decode cX9_least 39 = .ok (.ireturn, 1) := by decide +kernel
theorem dX9_board_0 : decode cX9_board 0 = .ok (.iload_n 1, 1) := by decide +kernel
theorem dX9_board_1 : decode cX9_board 1 = .ok (.iconst 1, 1) := by decide +kernel
theorem dX9_board_2 : decode cX9_board 2 = .ok (.bipush 9, 2) := by decide +kernel
theorem dX9_board_4 : decode cX9_board 4 = .ok (.invokestatic 69, 3) := by decide +kernel
theorem dX9_board_7 : decode cX9_board 7 = .ok (.ifCond .eq 13, 3) := by decide +kernel
theorem dX9_board_10 : decode cX9_board 10 = .ok (.iload_n 2, 1) := by decide +kernel
theorem dX9_board_11 : decode cX9_board 11 = .ok (.iconst 1, 1) := by decide +kernel
theorem dX9_board_12 : decode cX9_board 12 = .ok (.bipush 9, 2) := by decide +kernel
theorem dX9_board_14 : decode cX9_board 14 = .ok (.invokestatic 69, 3) := by decide +kernel
theorem dX9_board_17 : decode cX9_board 17 = .ok (.ifCond .ne 6, 3) := by decide +kernel
theorem dX9_board_20 : decode cX9_board 20 = .ok (.bipush (-2), 2) := by decide +kernel
theorem dX9_board_22 : decode cX9_board 22 = .ok (.ireturn, 1) := by decide +kernel
theorem dX9_board_23 : decode cX9_board 23 = .ok (.aload_n 0, 1) := by decide +kernel
theorem dX9_board_24 : decode cX9_board 24 = .ok (.getfield 26, 3) := by decide +kernel
theorem dX9_board_27 : decode cX9_board 27 = .ok (.iload_n 1, 1) := by decide +kernel
theorem dX9_board_28 : decode cX9_board 28 = .ok (.iload_n 2, 1) := by decide +kernel
theorem dX9_board_29 : decode cX9_board 29 = .ok (.invokevirtual 179, 3) := by decide +kernel
theorem dX9_board_32 : decode cX9_board 32 = .ok (.aload_n 0, 1) := by decide +kernel
theorem dX9_board_33 : decode cX9_board 33 = .ok (.getfield 39, 3) := by decide +kernel
theorem dX9_board_36 : decode cX9_board 36 = .ok (.iconst 1, 1) := by decide +kernel
theorem dX9_board_37 : decode cX9_board 37 = .ok (.putfield 185, 3) := by decide +kernel
theorem dX9_board_40 : decode cX9_board 40 = .ok (.iconst 1, 1) := by decide +kernel
theorem dX9_board_41 : decode cX9_board 41 = .ok (.ireturn, 1) := by decide +kernel
theorem dX9_put_0 : decode cX9_put 0 = .ok (.aload_n 0, 1) := by decide +kernel
theorem dX9_put_1 : decode cX9_put 1 = .ok (.getfield 26, 3) := by decide +kernel
theorem dX9_put_4 : decode cX9_put 4 = .ok (.iload_n 1, 1) := by decide +kernel
theorem dX9_put_5 : decode cX9_put 5 = .ok (.invokevirtual 205, 3) := by decide +kernel
theorem dX9_put_8 : decode cX9_put 8 = .ok (.ifCond .ne 5, 3) := by decide +kernel
theorem dX9_put_11 : decode cX9_put 11 = .ok (.iconst (-1), 1) := by decide +kernel
theorem dX9_put_12 : decode cX9_put 12 = .ok (.ireturn, 1) := by decide +kernel
theorem dX9_put_13 : decode cX9_put 13 = .ok (.iload_n 2, 1) := by decide +kernel
theorem dX9_put_14 : decode cX9_put 14 = .ok (.iconst 0, 1) := by decide +kernel
theorem dX9_put_15 : decode cX9_put 15 = .ok (.bipush 25, 2) := by decide +kernel
theorem dX9_put_17 : decode cX9_put 17 = .ok (.invokestatic 69, 3) := by decide +kernel
theorem dX9_put_20 : decode cX9_put 20 = .ok (.ifCond .ne 6, 3) := by decide +kernel
theorem dX9_put_23 : decode cX9_put 23 = .ok (.bipush (-2), 2) := by decide +kernel
theorem dX9_put_25 : decode cX9_put 25 = .ok (.ireturn, 1) := by decide +kernel
theorem dX9_put_26 : decode cX9_put 26 = .ok (.aload_n 0, 1) := by decide +kernel
theorem dX9_put_27 : decode cX9_put 27 = .ok (.getfield 26, 3) := by decide +kernel
theorem dX9_put_30 : decode cX9_put 30 = .ok (.getfield 206, 3) := by decide +kernel
theorem dX9_put_33 : decode cX9_put 33 = .ok (.iload_n 1, 1) := by decide +kernel
theorem dX9_put_34 : decode cX9_put 34 = .ok (.baload, 1) := by decide +kernel
theorem dX9_put_35 : decode cX9_put 35 = .ok (.istore_n 3, 1) := by decide +kernel
theorem dX9_put_36 : decode cX9_put 36 = .ok (.aload_n 0, 1) := by decide +kernel
theorem dX9_put_37 : decode cX9_put 37 = .ok (.getfield 26, 3) := by decide +kernel
theorem dX9_put_40 : decode cX9_put 40 = .ok (.getfield 206, 3) := by decide +kernel
theorem dX9_put_43 : decode cX9_put 43 = .ok (.iload_n 1, 1) := by decide +kernel
theorem dX9_put_44 : decode cX9_put 44 = .ok (.iload_n 2, 1) := by decide +kernel
theorem dX9_put_45 : decode cX9_put 45 = .ok (.i2b, 1) := by decide +kernel
theorem dX9_put_46 : decode cX9_put 46 = .ok (.bastore, 1) := by decide +kernel
theorem dX9_put_47 : decode cX9_put 47 = .ok (.aload_n 0, 1) := by decide +kernel
theorem dX9_put_48 : decode cX9_put 48 = .ok (.getfield 39, 3) := by decide +kernel
theorem dX9_put_51 : decode cX9_put 51 = .ok (.iconst 1, 1) := by decide +kernel
theorem dX9_put_52 : decode cX9_put 52 = .ok (.putfield 185, 3) := by decide +kernel
theorem dX9_put_55 : decode cX9_put 55 = .ok (.iload_n 3, 1) := by decide +kernel
theorem dX9_put_56 : decode cX9_put 56 = .ok (.ireturn, 1) := by decide +kernel
theorem dX9_parses_0 : decode cX9_parses 0 = .ok (.aload_n 0, 1) := by decide +kernel
theorem dX9_parses_1 : decode cX9_parses 1 = .ok (.getfield 39, 3) := by decide +kernel
theorem dX9_parses_4 : decode cX9_parses 4 = .ok (.aload_n 0, 1) := by decide +kernel
theorem dX9_parses_5 : decode cX9_parses 5 = .ok (.invokevirtual 209, 3) := by decide +kernel
theorem dX9_parses_8 : decode cX9_parses 8 = .ok (.invokevirtual 197, 3) := by decide +kernel
theorem dX9_parses_11 : decode cX9_parses 11 = .ok (.lreturn, 1) := by decide +kernel
theorem dX9_best_0 : decode cX9_best 0 = .ok (.aload_n 0, 1) := by decide +kernel
theorem dX9_best_1 : decode cX9_best 1 = .ok (.getfield 39, 3) := by decide +kernel
theorem dX9_best_4 : decode cX9_best 4 = .ok (.aload_n 0, 1) := by decide +kernel
theorem dX9_best_5 : decode cX9_best 5 = .ok (.invokevirtual 209, 3) := by decide +kernel
theorem dX9_best_8 : decode cX9_best 8 = .ok (.invokevirtual 201, 3) := by decide +kernel
theorem dX9_best_11 : decode cX9_best 11 = .ok (.ireturn, 1) := by decide +kernel
theorem dX9_bestStep_0 : decode cX9_bestStep 0 = .ok (.iload_n 1, 1) := by decide +kernel
theorem dX9_bestStep_1 : decode cX9_bestStep 1 = .ok (.ifCond .lt 18, 3) := by decide +kernel
theorem dX9_bestStep_4 : decode cX9_bestStep 4 = .ok (.iload_n 1, 1) := by decide +kernel
theorem dX9_bestStep_5 : decode cX9_bestStep 5 = .ok (.aload_n 0, 1) := by decide +kernel
theorem dX9_bestStep_6 : decode cX9_bestStep 6 = .ok (.getfield 39, 3) := by decide +kernel
theorem dX9_bestStep_9 : decode cX9_bestStep 9 = .ok (.aload_n 0, 1) := by decide +kernel
theorem dX9_bestStep_10 : decode cX9_bestStep 10 = .ok (.invokevirtual 209, 3) := by decide +kernel
theorem dX9_bestStep_13 : decode cX9_bestStep 13 = .ok (.invokevirtual 213, 3) := by decide +kernel
theorem dX9_bestStep_16 : decode cX9_bestStep 16 = .ok (.if_icmp .lt 6, 3) := by decide +kernel
theorem dX9_bestStep_19 : decode cX9_bestStep 19 = .ok (.bipush (-9), 2) := by decide +kernel
theorem dX9_bestStep_21 : decode cX9_bestStep 21 = .ok (.ireturn, 1) := by decide +kernel
theorem dX9_bestStep_22 : decode cX9_bestStep 22 = .ok (.aload_n 0, 1) := by decide +kernel
theorem dX9_bestStep_23 : decode cX9_bestStep 23 = .ok (.getfield 47, 3) := by decide +kernel
theorem dX9_bestStep_26 : decode cX9_bestStep 26 = .ok (.aload_n 0, 1) := by decide +kernel
theorem dX9_bestStep_27 : decode cX9_bestStep 27 = .ok (.getfield 26, 3) := by decide +kernel
theorem dX9_bestStep_30 : decode cX9_bestStep 30 = .ok (.getfield 216, 3) := by decide +kernel
theorem dX9_bestStep_33 : decode cX9_bestStep 33 = .ok (.aload_n 0, 1) := by decide +kernel
theorem dX9_bestStep_34 : decode cX9_bestStep 34 = .ok (.getfield 26, 3) := by decide +kernel
theorem dX9_bestStep_37 : decode cX9_bestStep 37 = .ok (.getfield 217, 3) := by decide +kernel
theorem dX9_bestStep_40 : decode cX9_bestStep 40 = .ok (.iconst 0, 1) := by decide +kernel
theorem dX9_bestStep_41 : decode cX9_bestStep 41 = .ok (.invokevirtual 218, 3) := by decide +kernel
theorem dX9_bestStep_44 : decode cX9_bestStep 44 = .ok (.iconst 0, 1) := by decide +kernel
theorem dX9_bestStep_45 : decode cX9_bestStep 45 = .ok (.istore_n 2, 1) := by decide +kernel
theorem dX9_bestStep_46 : decode cX9_bestStep 46 = .ok (.iload_n 2, 1) := by decide +kernel
theorem dX9_bestStep_47 : decode cX9_bestStep 47 = .ok (.iload_n 1, 1) := by decide +kernel
theorem dX9_bestStep_48 : decode cX9_bestStep 48 = .ok (.if_icmp .gt 106, 3) := by decide +kernel
theorem dX9_bestStep_51 : decode cX9_bestStep 51 = .ok (.aload_n 0, 1) := by decide +kernel
theorem dX9_bestStep_52 : decode cX9_bestStep 52 = .ok (.getfield 47, 3) := by decide +kernel
theorem dX9_bestStep_55 : decode cX9_bestStep 55 = .ok (.invokevirtual 220, 3) := by decide +kernel
theorem dX9_bestStep_58 : decode cX9_bestStep 58 = .ok (.ifCond .eq 96, 3) := by decide +kernel
theorem dX9_bestStep_61 : decode cX9_bestStep 61 = .ok (.aload_n 0, 1) := by decide +kernel
theorem dX9_bestStep_62 : decode cX9_bestStep 62 = .ok (.getfield 39, 3) := by decide +kernel
theorem dX9_bestStep_65 : decode cX9_bestStep 65 = .ok (.aload_n 0, 1) := by decide +kernel
theorem dX9_bestStep_66 : decode cX9_bestStep 66 = .ok (.getfield 39, 3) := by decide +kernel
theorem dX9_bestStep_69 : decode cX9_bestStep 69 = .ok (.aload_n 0, 1) := by decide +kernel
theorem dX9_bestStep_70 : decode cX9_bestStep 70 = .ok (.getfield 47, 3) := by decide +kernel
theorem dX9_bestStep_73 : decode cX9_bestStep 73 = .ok (.getfield 223, 3) := by decide +kernel
theorem dX9_bestStep_76 : decode cX9_bestStep 76 = .ok (.aload_n 0, 1) := by decide +kernel
theorem dX9_bestStep_77 : decode cX9_bestStep 77 = .ok (.getfield 47, 3) := by decide +kernel
theorem dX9_bestStep_80 : decode cX9_bestStep 80 = .ok (.getfield 224, 3) := by decide +kernel
theorem dX9_bestStep_83 : decode cX9_bestStep 83 = .ok (.aload_n 0, 1) := by decide +kernel
theorem dX9_bestStep_84 : decode cX9_bestStep 84 = .ok (.getfield 47, 3) := by decide +kernel
theorem dX9_bestStep_87 : decode cX9_bestStep 87 = .ok (.getfield 227, 3) := by decide +kernel
theorem dX9_bestStep_90 : decode cX9_bestStep 90 = .ok (.aload_n 0, 1) := by decide +kernel
theorem dX9_bestStep_91 : decode cX9_bestStep 91 = .ok (.getfield 47, 3) := by decide +kernel
theorem dX9_bestStep_94 : decode cX9_bestStep 94 = .ok (.getfield 230, 3) := by decide +kernel
theorem dX9_bestStep_97 : decode cX9_bestStep 97 = .ok (.aload_n 0, 1) := by decide +kernel
theorem dX9_bestStep_98 : decode cX9_bestStep 98 = .ok (.getfield 47, 3) := by decide +kernel
theorem dX9_bestStep_101 : decode cX9_bestStep 101 = .ok (.getfield 231, 3) := by decide +kernel
theorem dX9_bestStep_104 : decode cX9_bestStep 104 = .ok (.invokevirtual 193, 3) := by decide +kernel
theorem dX9_bestStep_107 : decode cX9_bestStep 107 = .ok (.invokevirtual 232, 3) := by decide +kernel
theorem dX9_bestStep_110 : decode cX9_bestStep 110 = .ok (.istore_n 3, 1) := by decide +kernel
theorem dX9_bestStep_111 : decode cX9_bestStep 111 = .ok (.aload_n 0, 1) := by decide +kernel
theorem dX9_bestStep_112 : decode cX9_bestStep 112 = .ok (.getfield 12, 3) := by decide +kernel
theorem dX9_bestStep_115 : decode cX9_bestStep 115 = .ok (.iload_n 3, 1) := by decide +kernel
theorem dX9_bestStep_116 : decode cX9_bestStep 116 = .ok (.invokevirtual 108, 3) := by decide +kernel
theorem dX9_bestStep_119 : decode cX9_bestStep 119 = .ok (.ifCond .ne 6, 3) := by decide +kernel
theorem dX9_bestStep_122 : decode cX9_bestStep 122 = .ok (.bipush (-9), 2) := by decide +kernel
theorem dX9_bestStep_124 : decode cX9_bestStep 124 = .ok (.ireturn, 1) := by decide +kernel
theorem dX9_bestStep_125 : decode cX9_bestStep 125 = .ok (.iload_n 2, 1) := by decide +kernel
theorem dX9_bestStep_126 : decode cX9_bestStep 126 = .ok (.iload_n 1, 1) := by decide +kernel
theorem dX9_bestStep_127 : decode cX9_bestStep 127 = .ok (.if_icmp .ne 5, 3) := by decide +kernel
theorem dX9_bestStep_130 : decode cX9_bestStep 130 = .ok (.iload_n 3, 1) := by decide +kernel
theorem dX9_bestStep_131 : decode cX9_bestStep 131 = .ok (.ireturn, 1) := by decide +kernel
theorem dX9_bestStep_132 : decode cX9_bestStep 132 = .ok (.aload_n 0, 1) := by decide +kernel
theorem dX9_bestStep_133 : decode cX9_bestStep 133 = .ok (.getfield 47, 3) := by decide +kernel
theorem dX9_bestStep_136 : decode cX9_bestStep 136 = .ok (.aload_n 0, 1) := by decide +kernel
theorem dX9_bestStep_137 : decode cX9_bestStep 137 = .ok (.getfield 12, 3) := by decide +kernel
theorem dX9_bestStep_140 : decode cX9_bestStep 140 = .ok (.getfield 111, 3) := by decide +kernel
theorem dX9_bestStep_143 : decode cX9_bestStep 143 = .ok (.iload_n 3, 1) := by decide +kernel
theorem dX9_bestStep_144 : decode cX9_bestStep 144 = .ok (.aaload, 1) := by decide +kernel
theorem dX9_bestStep_145 : decode cX9_bestStep 145 = .ok (.invokevirtual 235, 3) := by decide +kernel
theorem dX9_bestStep_148 : decode cX9_bestStep 148 = .ok (.iinc 2 1, 3) := by decide +kernel
theorem dX9_bestStep_151 : decode cX9_bestStep 151 = .ok (.goto (-105), 3) := by decide +kernel
theorem dX9_bestStep_154 : decode cX9_bestStep 154 = .ok (.bipush (-9), 2) := by decide +kernel
theorem dX9_bestStep_156 : decode cX9_bestStep 156 = .ok (.ireturn, 1) := by decide +kernel
theorem dX9_stands_0 : decode cX9_stands 0 = .ok (.iload_n 1, 1) := by decide +kernel
theorem dX9_stands_1 : decode cX9_stands 1 = .ok (.invokestatic 65, 3) := by decide +kernel
theorem dX9_stands_4 : decode cX9_stands 4 = .ok (.ifCond .eq 14, 3) := by decide +kernel
theorem dX9_stands_7 : decode cX9_stands 7 = .ok (.aload_n 0, 1) := by decide +kernel
theorem dX9_stands_8 : decode cX9_stands 8 = .ok (.getfield 26, 3) := by decide +kernel
theorem dX9_stands_11 : decode cX9_stands 11 = .ok (.iload_n 2, 1) := by decide +kernel
theorem dX9_stands_12 : decode cX9_stands 12 = .ok (.invokevirtual 205, 3) := by decide +kernel
theorem dX9_stands_15 : decode cX9_stands 15 = .ok (.ifCond .ne 7, 3) := by decide +kernel
theorem dX9_stands_18 : decode cX9_stands 18 = .ok (.ldc2_w 189, 3) := by decide +kernel
theorem dX9_stands_21 : decode cX9_stands 21 = .ok (.lreturn, 1) := by decide +kernel
theorem dX9_stands_22 : decode cX9_stands 22 = .ok (.iload_n 2, 1) := by decide +kernel
theorem dX9_stands_23 : decode cX9_stands 23 = .ok (.bipush 9, 2) := by decide +kernel
theorem dX9_stands_25 : decode cX9_stands 25 = .ok (.irem, 1) := by decide +kernel
theorem dX9_stands_26 : decode cX9_stands 26 = .ok (.istore 5, 2) := by decide +kernel
theorem dX9_stands_28 : decode cX9_stands 28 = .ok (.iload_n 2, 1) := by decide +kernel
theorem dX9_stands_29 : decode cX9_stands 29 = .ok (.bipush 9, 2) := by decide +kernel
theorem dX9_stands_31 : decode cX9_stands 31 = .ok (.idiv, 1) := by decide +kernel
theorem dX9_stands_32 : decode cX9_stands 32 = .ok (.istore 6, 2) := by decide +kernel
theorem dX9_stands_34 : decode cX9_stands 34 = .ok (.iload_n 3, 1) := by decide +kernel
theorem dX9_stands_35 : decode cX9_stands 35 = .ok (.iconst 1, 1) := by decide +kernel
theorem dX9_stands_36 : decode cX9_stands 36 = .ok (.aload_n 0, 1) := by decide +kernel
theorem dX9_stands_37 : decode cX9_stands 37 = .ok (.getfield 26, 3) := by decide +kernel
theorem dX9_stands_40 : decode cX9_stands 40 = .ok (.getfield 216, 3) := by decide +kernel
theorem dX9_stands_43 : decode cX9_stands 43 = .ok (.iload 5, 2) := by decide +kernel
theorem dX9_stands_45 : decode cX9_stands 45 = .ok (.isub, 1) := by decide +kernel
theorem dX9_stands_46 : decode cX9_stands 46 = .ok (.invokestatic 69, 3) := by decide +kernel
theorem dX9_stands_49 : decode cX9_stands 49 = .ok (.ifCond .eq 22, 3) := by decide +kernel
theorem dX9_stands_52 : decode cX9_stands 52 = .ok (.iload 4, 2) := by decide +kernel
theorem dX9_stands_54 : decode cX9_stands 54 = .ok (.iconst 1, 1) := by decide +kernel
theorem dX9_stands_55 : decode cX9_stands 55 = .ok (.aload_n 0, 1) := by decide +kernel
theorem dX9_stands_56 : decode cX9_stands 56 = .ok (.getfield 26, 3) := by decide +kernel
theorem dX9_stands_59 : decode cX9_stands 59 = .ok (.getfield 217, 3) := by decide +kernel
theorem dX9_stands_62 : decode cX9_stands 62 = .ok (.iload 6, 2) := by decide +kernel
theorem dX9_stands_64 : decode cX9_stands 64 = .ok (.isub, 1) := by decide +kernel
theorem dX9_stands_65 : decode cX9_stands 65 = .ok (.invokestatic 69, 3) := by decide +kernel
theorem dX9_stands_68 : decode cX9_stands 68 = .ok (.ifCond .ne 7, 3) := by decide +kernel
theorem dX9_stands_71 : decode cX9_stands 71 = .ok (.ldc2_w 191, 3) := by decide +kernel
theorem dX9_stands_74 : decode cX9_stands 74 = .ok (.lreturn, 1) := by decide +kernel
theorem dX9_stands_75 : decode cX9_stands 75 = .ok (.aload_n 0, 1) := by decide +kernel
theorem dX9_stands_76 : decode cX9_stands 76 = .ok (.getfield 39, 3) := by decide +kernel
theorem dX9_stands_79 : decode cX9_stands 79 = .ok (.aload_n 0, 1) := by decide +kernel
theorem dX9_stands_80 : decode cX9_stands 80 = .ok (.getfield 39, 3) := by decide +kernel
theorem dX9_stands_83 : decode cX9_stands 83 = .ok (.iload_n 1, 1) := by decide +kernel
theorem dX9_stands_84 : decode cX9_stands 84 = .ok (.iload 5, 2) := by decide +kernel
theorem dX9_stands_86 : decode cX9_stands 86 = .ok (.iload 6, 2) := by decide +kernel
theorem dX9_stands_88 : decode cX9_stands 88 = .ok (.iload_n 3, 1) := by decide +kernel
theorem dX9_stands_89 : decode cX9_stands 89 = .ok (.iload 4, 2) := by decide +kernel
theorem dX9_stands_91 : decode cX9_stands 91 = .ok (.invokevirtual 193, 3) := by decide +kernel
theorem dX9_stands_94 : decode cX9_stands 94 = .ok (.invokevirtual 197, 3) := by decide +kernel
theorem dX9_stands_97 : decode cX9_stands 97 = .ok (.lreturn, 1) := by decide +kernel
theorem dX9_count_0 : decode cX9_count 0 = .ok (.iload_n 1, 1) := by decide +kernel
theorem dX9_count_1 : decode cX9_count 1 = .ok (.tableswitch 90 0 5 #[39, 47, 58, 66, 74, 82], 39) := by decide +kernel
theorem dX9_count_40 : decode cX9_count 40 = .ok (.aload_n 0, 1) := by decide +kernel
theorem dX9_count_41 : decode cX9_count 41 = .ok (.getfield 12, 3) := by decide +kernel
theorem dX9_count_44 : decode cX9_count 44 = .ok (.getfield 121, 3) := by decide +kernel
theorem dX9_count_47 : decode cX9_count 47 = .ok (.ireturn, 1) := by decide +kernel
theorem dX9_count_48 : decode cX9_count 48 = .ok (.aload_n 0, 1) := by decide +kernel
theorem dX9_count_49 : decode cX9_count 49 = .ok (.getfield 12, 3) := by decide +kernel
theorem dX9_count_52 : decode cX9_count 52 = .ok (.getfield 87, 3) := by decide +kernel
theorem dX9_count_55 : decode cX9_count 55 = .ok (.getfield 91, 3) := by decide +kernel
theorem dX9_count_58 : decode cX9_count 58 = .ok (.ireturn, 1) := by decide +kernel
theorem dX9_count_59 : decode cX9_count 59 = .ok (.aload_n 0, 1) := by decide +kernel
theorem dX9_count_60 : decode cX9_count 60 = .ok (.getfield 26, 3) := by decide +kernel
theorem dX9_count_63 : decode cX9_count 63 = .ok (.getfield 216, 3) := by decide +kernel
theorem dX9_count_66 : decode cX9_count 66 = .ok (.ireturn, 1) := by decide +kernel
theorem dX9_count_67 : decode cX9_count 67 = .ok (.aload_n 0, 1) := by decide +kernel
theorem dX9_count_68 : decode cX9_count 68 = .ok (.getfield 26, 3) := by decide +kernel
theorem dX9_count_71 : decode cX9_count 71 = .ok (.getfield 217, 3) := by decide +kernel
theorem dX9_count_74 : decode cX9_count 74 = .ok (.ireturn, 1) := by decide +kernel
theorem dX9_count_75 : decode cX9_count 75 = .ok (.aload_n 0, 1) := by decide +kernel
theorem dX9_count_76 : decode cX9_count 76 = .ok (.getfield 54, 3) := by decide +kernel
theorem dX9_count_79 : decode cX9_count 79 = .ok (.getfield 165, 3) := by decide +kernel
theorem dX9_count_82 : decode cX9_count 82 = .ok (.ireturn, 1) := by decide +kernel
theorem dX9_count_83 : decode cX9_count 83 = .ok (.aload_n 0, 1) := by decide +kernel
theorem dX9_count_84 : decode cX9_count 84 = .ok (.getfield 54, 3) := by decide +kernel
theorem dX9_count_87 : decode cX9_count 87 = .ok (.getfield 168, 3) := by decide +kernel
theorem dX9_count_90 : decode cX9_count 90 = .ok (.ireturn, 1) := by decide +kernel
theorem dX9_count_91 : decode cX9_count 91 = .ok (.bipush (-2), 2) := by decide +kernel
theorem dX9_count_93 : decode cX9_count 93 = .ok (.ireturn, 1) := by decide +kernel
theorem dX9_settleBoard_0 : decode cX9_settleBoard 0 = .ok (.aload_n 0, 1) := by decide +kernel
theorem dX9_settleBoard_1 : decode cX9_settleBoard 1 = .ok (.getfield 39, 3) := by decide +kernel
theorem dX9_settleBoard_4 : decode cX9_settleBoard 4 = .ok (.iconst 0, 1) := by decide +kernel
theorem dX9_settleBoard_5 : decode cX9_settleBoard 5 = .ok (.iconst 0, 1) := by decide +kernel
theorem dX9_settleBoard_6 : decode cX9_settleBoard 6 = .ok (.iconst 0, 1) := by decide +kernel
theorem dX9_settleBoard_7 : decode cX9_settleBoard 7 = .ok (.aload_n 0, 1) := by decide +kernel
theorem dX9_settleBoard_8 : decode cX9_settleBoard 8 = .ok (.getfield 26, 3) := by decide +kernel
theorem dX9_settleBoard_11 : decode cX9_settleBoard 11 = .ok (.getfield 216, 3) := by decide +kernel
theorem dX9_settleBoard_14 : decode cX9_settleBoard 14 = .ok (.aload_n 0, 1) := by decide +kernel
theorem dX9_settleBoard_15 : decode cX9_settleBoard 15 = .ok (.getfield 26, 3) := by decide +kernel
theorem dX9_settleBoard_18 : decode cX9_settleBoard 18 = .ok (.getfield 217, 3) := by decide +kernel
theorem dX9_settleBoard_21 : decode cX9_settleBoard 21 = .ok (.invokevirtual 193, 3) := by decide +kernel
theorem dX9_settleBoard_24 : decode cX9_settleBoard 24 = .ok (.ireturn, 1) := by decide +kernel
theorem dX9_forgetParses_0 : decode cX9_forgetParses 0 = .ok (.aload_n 0, 1) := by decide +kernel
theorem dX9_forgetParses_1 : decode cX9_forgetParses 1 = .ok (.getfield 35, 3) := by decide +kernel
theorem dX9_forgetParses_4 : decode cX9_forgetParses 4 = .ok (.iconst 1, 1) := by decide +kernel
theorem dX9_forgetParses_5 : decode cX9_forgetParses 5 = .ok (.putfield 185, 3) := by decide +kernel
theorem dX9_forgetParses_8 : decode cX9_forgetParses 8 = .ok (.aload_n 0, 1) := by decide +kernel
theorem dX9_forgetParses_9 : decode cX9_forgetParses 9 = .ok (.getfield 39, 3) := by decide +kernel
theorem dX9_forgetParses_12 : decode cX9_forgetParses 12 = .ok (.iconst 1, 1) := by decide +kernel
theorem dX9_forgetParses_13 : decode cX9_forgetParses 13 = .ok (.putfield 185, 3) := by decide +kernel
theorem dX9_forgetParses_16 : decode cX9_forgetParses 16 = .ok (.return_, 1) := by decide +kernel
theorem dX9_isName_0 : decode cX9_isName 0 = .ok (.iload_n 0, 1) := by decide +kernel
theorem dX9_isName_1 : decode cX9_isName 1 = .ok (.iconst 0, 1) := by decide +kernel
theorem dX9_isName_2 : decode cX9_isName 2 = .ok (.bipush 7, 2) := by decide +kernel
theorem dX9_isName_4 : decode cX9_isName 4 = .ok (.invokestatic 69, 3) := by decide +kernel
theorem dX9_isName_7 : decode cX9_isName 7 = .ok (.ireturn, 1) := by decide +kernel
theorem dX9_isCost_0 : decode cX9_isCost 0 = .ok (.iload_n 0, 1) := by decide +kernel
theorem dX9_isCost_1 : decode cX9_isCost 1 = .ok (.iconst 0, 1) := by decide +kernel
theorem dX9_isCost_2 : decode cX9_isCost 2 = .ok (.bipush 99, 2) := by decide +kernel
theorem dX9_isCost_4 : decode cX9_isCost 4 = .ok (.invokestatic 69, 3) := by decide +kernel
theorem dX9_isCost_7 : decode cX9_isCost 7 = .ok (.ireturn, 1) := by decide +kernel
theorem dX9_isScope_0 : decode cX9_isScope 0 = .ok (.iload_n 0, 1) := by decide +kernel
theorem dX9_isScope_1 : decode cX9_isScope 1 = .ok (.iconst 1, 1) := by decide +kernel
theorem dX9_isScope_2 : decode cX9_isScope 2 = .ok (.bipush 20, 2) := by decide +kernel
theorem dX9_isScope_4 : decode cX9_isScope 4 = .ok (.invokestatic 69, 3) := by decide +kernel
theorem dX9_isScope_7 : decode cX9_isScope 7 = .ok (.ifCond .eq 17, 3) := by decide +kernel
theorem dX9_isScope_10 : decode cX9_isScope 10 = .ok (.iload_n 1, 1) := by decide +kernel
theorem dX9_isScope_11 : decode cX9_isScope 11 = .ok (.iconst 1, 1) := by decide +kernel
theorem dX9_isScope_12 : decode cX9_isScope 12 = .ok (.bipush 20, 2) := by decide +kernel
theorem dX9_isScope_14 : decode cX9_isScope 14 = .ok (.invokestatic 69, 3) := by decide +kernel
theorem dX9_isScope_17 : decode cX9_isScope 17 = .ok (.ifCond .eq 7, 3) := by decide +kernel
theorem dX9_isScope_20 : decode cX9_isScope 20 = .ok (.iconst 1, 1) := by decide +kernel
theorem dX9_isScope_21 : decode cX9_isScope 21 = .ok (.goto 4, 3) := by decide +kernel
theorem dX9_isScope_24 : decode cX9_isScope 24 = .ok (.iconst 0, 1) := by decide +kernel
theorem dX9_isScope_25 : decode cX9_isScope 25 = .ok (.ireturn, 1) := by decide +kernel
theorem dX9_isWithin_0 : decode cX9_isWithin 0 = .ok (.iload_n 0, 1) := by decide +kernel
theorem dX9_isWithin_1 : decode cX9_isWithin 1 = .ok (.iload_n 1, 1) := by decide +kernel
theorem dX9_isWithin_2 : decode cX9_isWithin 2 = .ok (.if_icmp .lt 12, 3) := by decide +kernel
theorem dX9_isWithin_5 : decode cX9_isWithin 5 = .ok (.iload_n 0, 1) := by decide +kernel
theorem dX9_isWithin_6 : decode cX9_isWithin 6 = .ok (.iload_n 2, 1) := by decide +kernel
theorem dX9_isWithin_7 : decode cX9_isWithin 7 = .ok (.if_icmp .gt 7, 3) := by decide +kernel
theorem dX9_isWithin_10 : decode cX9_isWithin 10 = .ok (.iconst 1, 1) := by decide +kernel
theorem dX9_isWithin_11 : decode cX9_isWithin 11 = .ok (.goto 4, 3) := by decide +kernel
theorem dX9_isWithin_14 : decode cX9_isWithin 14 = .ok (.iconst 0, 1) := by decide +kernel
theorem dX9_isWithin_15 : decode cX9_isWithin 15 = .ok (.ireturn, 1) := by decide +kernel
theorem dX10_init_0 : decode cX10_init 0 = .ok (.aload_n 0, 1) := by decide +kernel
theorem dX10_init_1 : decode cX10_init 1 = .ok (.invokespecial 1, 3) := by decide +kernel
theorem dX10_init_4 : decode cX10_init 4 = .ok (.aload_n 0, 1) := by decide +kernel
theorem dX10_init_5 : decode cX10_init 5 = .ok (.bipush 40, 2) := by decide +kernel
theorem dX10_init_7 : decode cX10_init 7 = .ok (.newarray .int, 2) := by decide +kernel
theorem dX10_init_9 : decode cX10_init 9 = .ok (.putfield 7, 3) := by decide +kernel
theorem dX10_init_12 : decode cX10_init 12 = .ok (.aload_n 0, 1) := by decide +kernel
theorem dX10_init_13 : decode cX10_init 13 = .ok (.bipush 40, 2) := by decide +kernel
theorem dX10_init_15 : decode cX10_init 15 = .ok (.newarray .int, 2) := by decide +kernel
theorem dX10_init_17 : decode cX10_init 17 = .ok (.putfield 13, 3) := by decide +kernel
theorem dX10_init_20 : decode cX10_init 20 = .ok (.aload_n 0, 1) := by decide +kernel
theorem dX10_init_21 : decode cX10_init 21 = .ok (.bipush 40, 2) := by decide +kernel
theorem dX10_init_23 : decode cX10_init 23 = .ok (.newarray .int, 2) := by decide +kernel
theorem dX10_init_25 : decode cX10_init 25 = .ok (.putfield 16, 3) := by decide +kernel
theorem dX10_init_28 : decode cX10_init 28 = .ok (.aload_n 0, 1) := by decide +kernel
theorem dX10_init_29 : decode cX10_init 29 = .ok (.bipush 40, 2) := by decide +kernel
theorem dX10_init_31 : decode cX10_init 31 = .ok (.newarray .int, 2) := by decide +kernel
theorem dX10_init_33 : decode cX10_init 33 = .ok (.putfield 19, 3) := by decide +kernel
theorem dX10_init_36 : decode cX10_init 36 = .ok (.aload_n 0, 1) := by decide +kernel
theorem dX10_init_37 : decode cX10_init 37 = .ok (.bipush 40, 2) := by decide +kernel
theorem dX10_init_39 : decode cX10_init 39 = .ok (.newarray .int, 2) := by decide +kernel
theorem dX10_init_41 : decode cX10_init 41 = .ok (.putfield 22, 3) := by decide +kernel
theorem dX10_init_44 : decode cX10_init 44 = .ok (.aload_n 0, 1) := by decide +kernel
theorem dX10_init_45 : decode cX10_init 45 = .ok (.sipush 240, 3) := by decide +kernel
theorem dX10_init_48 : decode cX10_init 48 = .ok (.newarray .int, 2) := by decide +kernel
theorem dX10_init_50 : decode cX10_init 50 = .ok (.putfield 25, 3) := by decide +kernel
theorem dX10_init_53 : decode cX10_init 53 = .ok (.aload_n 0, 1) := by decide +kernel
theorem dX10_init_54 : decode cX10_init 54 = .ok (.sipush 240, 3) := by decide +kernel
theorem dX10_init_57 : decode cX10_init 57 = .ok (.newarray .int, 2) := by decide +kernel
theorem dX10_init_59 : decode cX10_init 59 = .ok (.putfield 28, 3) := by decide +kernel
theorem dX10_init_62 : decode cX10_init 62 = .ok (.aload_n 0, 1) := by decide +kernel
theorem dX10_init_63 : decode cX10_init 63 = .ok (.sipush 240, 3) := by decide +kernel
theorem dX10_init_66 : decode cX10_init 66 = .ok (.newarray .boolean, 2) := by decide +kernel
theorem dX10_init_68 : decode cX10_init 68 = .ok (.putfield 31, 3) := by decide +kernel
theorem dX10_init_71 : decode cX10_init 71 = .ok (.aload_n 0, 1) := by decide +kernel
theorem dX10_init_72 : decode cX10_init 72 = .ok (.sipush 160, 3) := by decide +kernel
theorem dX10_init_75 : decode cX10_init 75 = .ok (.newarray .int, 2) := by decide +kernel
theorem dX10_init_77 : decode cX10_init 77 = .ok (.putfield 35, 3) := by decide +kernel
theorem dX10_init_80 : decode cX10_init 80 = .ok (.aload_n 0, 1) := by decide +kernel
theorem dX10_init_81 : decode cX10_init 81 = .ok (.bipush 6, 2) := by decide +kernel
theorem dX10_init_83 : decode cX10_init 83 = .ok (.newarray .int, 2) := by decide +kernel
theorem dX10_init_85 : decode cX10_init 85 = .ok (.putfield 38, 3) := by decide +kernel
theorem dX10_init_88 : decode cX10_init 88 = .ok (.aload_n 0, 1) := by decide +kernel
theorem dX10_init_89 : decode cX10_init 89 = .ok (.bipush 6, 2) := by decide +kernel
theorem dX10_init_91 : decode cX10_init 91 = .ok (.newarray .int, 2) := by decide +kernel
theorem dX10_init_93 : decode cX10_init 93 = .ok (.putfield 41, 3) := by decide +kernel
theorem dX10_init_96 : decode cX10_init 96 = .ok (.aload_n 0, 1) := by decide +kernel
theorem dX10_init_97 : decode cX10_init 97 = .ok (.bipush 6, 2) := by decide +kernel
theorem dX10_init_99 : decode cX10_init 99 = .ok (.newarray .boolean, 2) := by decide +kernel
theorem dX10_init_101 : decode cX10_init 101 = .ok (.putfield 44, 3) := by decide +kernel
theorem dX10_init_104 : decode cX10_init 104 = .ok (.aload_n 0, 1) := by decide +kernel
theorem dX10_init_105 : decode cX10_init 105 = .ok (.bipush 20, 2) := by decide +kernel
theorem dX10_init_107 : decode cX10_init 107 = .ok (.newarray .int, 2) := by decide +kernel
theorem dX10_init_109 : decode cX10_init 109 = .ok (.putfield 47, 3) := by decide +kernel
theorem dX10_init_112 : decode cX10_init 112 = .ok (.aload_n 0, 1) := by decide +kernel
theorem dX10_init_113 : decode cX10_init 113 = .ok (.bipush 20, 2) := by decide +kernel
theorem dX10_init_115 : decode cX10_init 115 = .ok (.newarray .int, 2) := by decide +kernel
theorem dX10_init_117 : decode cX10_init 117 = .ok (.putfield 50, 3) := by decide +kernel
theorem dX10_init_120 : decode cX10_init 120 = .ok (.aload_n 0, 1) := by decide +kernel
theorem dX10_init_121 : decode cX10_init 121 = .ok (.bipush 20, 2) := by decide +kernel
theorem dX10_init_123 : decode cX10_init 123 = .ok (.newarray .int, 2) := by decide +kernel
theorem dX10_init_125 : decode cX10_init 125 = .ok (.putfield 53, 3) := by decide +kernel
theorem dX10_init_128 : decode cX10_init 128 = .ok (.aload_n 0, 1) := by decide +kernel
theorem dX10_init_129 : decode cX10_init 129 = .ok (.sipush 8000, 3) := by decide +kernel
theorem dX10_init_132 : decode cX10_init 132 = .ok (.newarray .int, 2) := by decide +kernel
theorem dX10_init_134 : decode cX10_init 134 = .ok (.putfield 56, 3) := by decide +kernel
theorem dX10_init_137 : decode cX10_init 137 = .ok (.aload_n 0, 1) := by decide +kernel
theorem dX10_init_138 : decode cX10_init 138 = .ok (.sipush 400, 3) := by decide +kernel
theorem dX10_init_141 : decode cX10_init 141 = .ok (.newarray .int, 2) := by decide +kernel
theorem dX10_init_143 : decode cX10_init 143 = .ok (.putfield 59, 3) := by decide +kernel
theorem dX10_init_146 : decode cX10_init 146 = .ok (.aload_n 0, 1) := by decide +kernel
theorem dX10_init_147 : decode cX10_init 147 = .ok (.sipush 400, 3) := by decide +kernel
theorem dX10_init_150 : decode cX10_init 150 = .ok (.newarray .int, 2) := by decide +kernel
theorem dX10_init_152 : decode cX10_init 152 = .ok (.putfield 62, 3) := by decide +kernel
theorem dX10_init_155 : decode cX10_init 155 = .ok (.aload_n 0, 1) := by decide +kernel
theorem dX10_init_156 : decode cX10_init 156 = .ok (.sipush 8000, 3) := by decide +kernel
theorem dX10_init_159 : decode cX10_init 159 = .ok (.newarray .int, 2) := by decide +kernel
theorem dX10_init_161 : decode cX10_init 161 = .ok (.putfield 65, 3) := by decide +kernel
theorem dX10_init_164 : decode cX10_init 164 = .ok (.aload_n 0, 1) := by decide +kernel
theorem dX10_init_165 : decode cX10_init 165 = .ok (.sipush 600, 3) := by decide +kernel
theorem dX10_init_168 : decode cX10_init 168 = .ok (.newarray .int, 2) := by decide +kernel
theorem dX10_init_170 : decode cX10_init 170 = .ok (.putfield 68, 3) := by decide +kernel
theorem dX10_init_173 : decode cX10_init 173 = .ok (.aload_n 0, 1) := by decide +kernel
theorem dX10_init_174 : decode cX10_init 174 = .ok (.sipush 600, 3) := by decide +kernel
theorem dX10_init_177 : decode cX10_init 177 = .ok (.newarray .int, 2) := by decide +kernel
theorem dX10_init_179 : decode cX10_init 179 = .ok (.putfield 71, 3) := by decide +kernel
theorem dX10_init_182 : decode cX10_init 182 = .ok (.aload_n 0, 1) := by decide +kernel
theorem dX10_init_183 : decode cX10_init 183 = .ok (.sipush 600, 3) := by decide +kernel
theorem dX10_init_186 : decode cX10_init 186 = .ok (.newarray .int, 2) := by decide +kernel
theorem dX10_init_188 : decode cX10_init 188 = .ok (.putfield 74, 3) := by decide +kernel
theorem dX10_init_191 : decode cX10_init 191 = .ok (.aload_n 0, 1) := by decide +kernel
theorem dX10_init_192 : decode cX10_init 192 = .ok (.sipush 600, 3) := by decide +kernel
theorem dX10_init_195 : decode cX10_init 195 = .ok (.newarray .int, 2) := by decide +kernel
theorem dX10_init_197 : decode cX10_init 197 = .ok (.putfield 77, 3) := by decide +kernel
theorem dX10_init_200 : decode cX10_init 200 = .ok (.aload_n 0, 1) := by decide +kernel
theorem dX10_init_201 : decode cX10_init 201 = .ok (.sipush 600, 3) := by decide +kernel
theorem dX10_init_204 : decode cX10_init 204 = .ok (.newarray .int, 2) := by decide +kernel
theorem dX10_init_206 : decode cX10_init 206 = .ok (.putfield 80, 3) := by decide +kernel
theorem dX10_init_209 : decode cX10_init 209 = .ok (.aload_n 0, 1) := by decide +kernel
theorem dX10_init_210 : decode cX10_init 210 = .ok (.sipush 600, 3) := by decide +kernel
theorem dX10_init_213 : decode cX10_init 213 = .ok (.newarray .int, 2) := by decide +kernel
theorem dX10_init_215 : decode cX10_init 215 = .ok (.putfield 83, 3) := by decide +kernel
theorem dX10_init_218 : decode cX10_init 218 = .ok (.aload_n 0, 1) := by decide +kernel
theorem dX10_init_219 : decode cX10_init 219 = .ok (.sipush 600, 3) := by decide +kernel
theorem dX10_init_222 : decode cX10_init 222 = .ok (.newarray .int, 2) := by decide +kernel
theorem dX10_init_224 : decode cX10_init 224 = .ok (.putfield 86, 3) := by decide +kernel
theorem dX10_init_227 : decode cX10_init 227 = .ok (.aload_n 0, 1) := by decide +kernel
theorem dX10_init_228 : decode cX10_init 228 = .ok (.bipush 81, 2) := by decide +kernel
theorem dX10_init_230 : decode cX10_init 230 = .ok (.newarray .int, 2) := by decide +kernel
theorem dX10_init_232 : decode cX10_init 232 = .ok (.putfield 89, 3) := by decide +kernel
theorem dX10_init_235 : decode cX10_init 235 = .ok (.aload_n 0, 1) := by decide +kernel
theorem dX10_init_236 : decode cX10_init 236 = .ok (.ldc 92, 2) := by decide +kernel
theorem dX10_init_238 : decode cX10_init 238 = .ok (.newarray .long, 2) := by decide +kernel
theorem dX10_init_240 : decode cX10_init 240 = .ok (.putfield 93, 3) := by decide +kernel
theorem dX10_init_243 : decode cX10_init 243 = .ok (.aload_n 0, 1) := by decide +kernel
theorem dX10_init_244 : decode cX10_init 244 = .ok (.ldc 92, 2) := by decide +kernel
theorem dX10_init_246 : decode cX10_init 246 = .ok (.newarray .int, 2) := by decide +kernel
theorem dX10_init_248 : decode cX10_init 248 = .ok (.putfield 97, 3) := by decide +kernel
theorem dX10_init_251 : decode cX10_init 251 = .ok (.aload_n 0, 1) := by decide +kernel
theorem dX10_init_252 : decode cX10_init 252 = .ok (.ldc 92, 2) := by decide +kernel
theorem dX10_init_254 : decode cX10_init 254 = .ok (.newarray .int, 2) := by decide +kernel
theorem dX10_init_256 : decode cX10_init 256 = .ok (.putfield 100, 3) := by decide +kernel
theorem dX10_init_259 : decode cX10_init 259 = .ok (.aload_n 0, 1) := by decide +kernel
theorem dX10_init_260 : decode cX10_init 260 = .ok (.ldc 92, 2) := by decide +kernel
theorem dX10_init_262 : decode cX10_init 262 = .ok (.newarray .int, 2) := by decide +kernel
theorem dX10_init_264 : decode cX10_init 264 = .ok (.putfield 103, 3) := by decide +kernel
theorem dX10_init_267 : decode cX10_init 267 = .ok (.aload_n 0, 1) := by decide +kernel
theorem dX10_init_268 : decode cX10_init 268 = .ok (.bipush 8, 2) := by decide +kernel
theorem dX10_init_270 : decode cX10_init 270 = .ok (.newarray .long, 2) := by decide +kernel
theorem dX10_init_272 : decode cX10_init 272 = .ok (.putfield 106, 3) := by decide +kernel
theorem dX10_init_275 : decode cX10_init 275 = .ok (.aload_n 0, 1) := by decide +kernel
theorem dX10_init_276 : decode cX10_init 276 = .ok (.bipush 64, 2) := by decide +kernel
theorem dX10_init_278 : decode cX10_init 278 = .ok (.newarray .int, 2) := by decide +kernel
theorem dX10_init_280 : decode cX10_init 280 = .ok (.putfield 109, 3) := by decide +kernel
theorem dX10_init_283 : decode cX10_init 283 = .ok (.aload_n 0, 1) := by decide +kernel
theorem dX10_init_284 : decode cX10_init 284 = .ok (.bipush 8, 2) := by decide +kernel
theorem dX10_init_286 : decode cX10_init 286 = .ok (.newarray .boolean, 2) := by decide +kernel
theorem dX10_init_288 : decode cX10_init 288 = .ok (.putfield 112, 3) := by decide +kernel
theorem dX10_init_291 : decode cX10_init 291 = .ok (.aload_n 0, 1) := by decide +kernel
theorem dX10_init_292 : decode cX10_init 292 = .ok (.bipush 64, 2) := by decide +kernel
theorem dX10_init_294 : decode cX10_init 294 = .ok (.newarray .boolean, 2) := by decide +kernel
theorem dX10_init_296 : decode cX10_init 296 = .ok (.putfield 115, 3) := by decide +kernel
theorem dX10_init_299 : decode cX10_init 299 = .ok (.aload_n 0, 1) := by decide +kernel
theorem dX10_init_300 : decode cX10_init 300 = .ok (.iconst 1, 1) := by decide +kernel
theorem dX10_init_301 : decode cX10_init 301 = .ok (.iconst 1, 1) := by decide +kernel
theorem dX10_init_302 : decode cX10_init 302 = .ok (.invokevirtual 118, 3) := by decide +kernel
theorem dX10_init_305 : decode cX10_init 305 = .ok (.return_, 1) := by decide +kernel
theorem dX10_in_0 : decode cX10_in 0 = .ok (.lload_n 0, 1) := by decide +kernel
theorem dX10_in_1 : decode cX10_in 1 = .ok (.lload_n 2, 1) := by decide +kernel
theorem dX10_in_2 : decode cX10_in 2 = .ok (.lcmp, 1) := by decide +kernel
theorem dX10_in_3 : decode cX10_in 3 = .ok (.ifCond .lt 14, 3) := by decide +kernel
theorem dX10_in_6 : decode cX10_in 6 = .ok (.lload_n 0, 1) := by decide +kernel
theorem dX10_in_7 : decode cX10_in 7 = .ok (.lload 4, 2) := by decide +kernel
theorem dX10_in_9 : decode cX10_in 9 = .ok (.lcmp, 1) := by decide +kernel
theorem dX10_in_10 : decode cX10_in 10 = .ok (.ifCond .gt 7, 3) := by decide +kernel
theorem dX10_in_13 : decode cX10_in 13 = .ok (.iconst 1, 1) := by decide +kernel
theorem dX10_in_14 : decode cX10_in 14 = .ok (.goto 4, 3) := by decide +kernel
theorem dX10_in_17 : decode cX10_in 17 = .ok (.iconst 0, 1) := by decide +kernel
theorem dX10_in_18 : decode cX10_in 18 = .ok (.ireturn, 1) := by decide +kernel
theorem dX10_isName_0 : decode cX10_isName 0 = .ok (.iload_n 0, 1) := by decide +kernel
theorem dX10_isName_1 : decode cX10_isName 1 = .ok (.i2l, 1) := by decide +kernel
theorem dX10_isName_2 : decode cX10_isName 2 = .ok (.lconst 0, 1) := by decide +kernel
theorem dX10_isName_3 : decode cX10_isName 3 = .ok (.ldc2_w 122, 3) := by decide +kernel
theorem dX10_isName_6 : decode cX10_isName 6 = .ok (.invokestatic 124, 3) := by decide +kernel
theorem dX10_isName_9 : decode cX10_isName 9 = .ok (.ireturn, 1) := by decide +kernel
theorem dX10_add_0 : decode cX10_add 0 = .ok (.aload_n 0, 1) := by decide +kernel
theorem dX10_add_1 : decode cX10_add 1 = .ok (.getfield 7, 3) := by decide +kernel
theorem dX10_add_4 : decode cX10_add 4 = .ok (.aload_n 0, 1) := by decide +kernel
theorem dX10_add_5 : decode cX10_add 5 = .ok (.getfield 128, 3) := by decide +kernel
theorem dX10_add_8 : decode cX10_add 8 = .ok (.iload_n 1, 1) := by decide +kernel
theorem dX10_add_9 : decode cX10_add 9 = .ok (.iastore, 1) := by decide +kernel
theorem dX10_add_10 : decode cX10_add 10 = .ok (.aload_n 0, 1) := by decide +kernel
theorem dX10_add_11 : decode cX10_add 11 = .ok (.getfield 13, 3) := by decide +kernel
theorem dX10_add_14 : decode cX10_add 14 = .ok (.aload_n 0, 1) := by decide +kernel
theorem dX10_add_15 : decode cX10_add 15 = .ok (.getfield 128, 3) := by decide +kernel
theorem dX10_add_18 : decode cX10_add 18 = .ok (.iload_n 2, 1) := by decide +kernel
theorem dX10_add_19 : decode cX10_add 19 = .ok (.iastore, 1) := by decide +kernel
theorem dX10_add_20 : decode cX10_add 20 = .ok (.aload_n 0, 1) := by decide +kernel
theorem dX10_add_21 : decode cX10_add 21 = .ok (.getfield 16, 3) := by decide +kernel
theorem dX10_add_24 : decode cX10_add 24 = .ok (.aload_n 0, 1) := by decide +kernel
theorem dX10_add_25 : decode cX10_add 25 = .ok (.getfield 128, 3) := by decide +kernel
theorem dX10_add_28 : decode cX10_add 28 = .ok (.iload_n 3, 1) := by decide +kernel
theorem dX10_add_29 : decode cX10_add 29 = .ok (.iastore, 1) := by decide +kernel
theorem dX10_add_30 : decode cX10_add 30 = .ok (.aload_n 0, 1) := by decide +kernel
theorem dX10_add_31 : decode cX10_add 31 = .ok (.getfield 19, 3) := by decide +kernel
theorem dX10_add_34 : decode cX10_add 34 = .ok (.aload_n 0, 1) := by decide +kernel
theorem dX10_add_35 : decode cX10_add 35 = .ok (.getfield 128, 3) := by decide +kernel
theorem dX10_add_38 : decode cX10_add 38 = .ok (.iload 4, 2) := by decide +kernel
theorem dX10_add_40 : decode cX10_add 40 = .ok (.iastore, 1) := by decide +kernel
theorem dX10_add_41 : decode cX10_add 41 = .ok (.aload_n 0, 1) := by decide +kernel
theorem dX10_add_42 : decode cX10_add 42 = .ok (.getfield 22, 3) := by decide +kernel
theorem dX10_add_45 : decode cX10_add 45 = .ok (.aload_n 0, 1) := by decide +kernel
theorem dX10_add_46 : decode cX10_add 46 = .ok (.getfield 128, 3) := by decide +kernel
theorem dX10_add_49 : decode cX10_add 49 = .ok (.iconst 0, 1) := by decide +kernel
theorem dX10_add_50 : decode cX10_add 50 = .ok (.iastore, 1) := by decide +kernel
theorem dX10_add_51 : decode cX10_add 51 = .ok (.iconst 0, 1) := by decide +kernel
theorem dX10_add_52 : decode cX10_add 52 = .ok (.istore 5, 2) := by decide +kernel
theorem dX10_add_54 : decode cX10_add 54 = .ok (.iload 5, 2) := by decide +kernel
theorem dX10_add_56 : decode cX10_add 56 = .ok (.iconst 4, 1) := by decide +kernel
theorem dX10_add_57 : decode cX10_add 57 = .ok (.if_icmp .ge 36, 3) := by decide +kernel
theorem dX10_add_60 : decode cX10_add 60 = .ok (.aload_n 0, 1) := by decide +kernel
theorem dX10_add_61 : decode cX10_add 61 = .ok (.getfield 35, 3) := by decide +kernel
theorem dX10_add_64 : decode cX10_add 64 = .ok (.iconst 4, 1) := by decide +kernel
theorem dX10_add_65 : decode cX10_add 65 = .ok (.aload_n 0, 1) := by decide +kernel
theorem dX10_add_66 : decode cX10_add 66 = .ok (.getfield 128, 3) := by decide +kernel
theorem dX10_add_69 : decode cX10_add 69 = .ok (.imul, 1) := by decide +kernel
theorem dX10_add_70 : decode cX10_add 70 = .ok (.iload 5, 2) := by decide +kernel
theorem dX10_add_72 : decode cX10_add 72 = .ok (.iadd, 1) := by decide +kernel
theorem dX10_add_73 : decode cX10_add 73 = .ok (.iload 5, 2) := by decide +kernel
theorem dX10_add_75 : decode cX10_add 75 = .ok (.iconst 2, 1) := by decide +kernel
theorem dX10_add_76 : decode cX10_add 76 = .ok (.irem, 1) := by decide +kernel
theorem dX10_add_77 : decode cX10_add 77 = .ok (.ifCond .ne 7, 3) := by decide +kernel
theorem dX10_add_80 : decode cX10_add 80 = .ok (.iconst 1, 1) := by decide +kernel
theorem dX10_add_81 : decode cX10_add 81 = .ok (.goto 5, 3) := by decide +kernel
theorem dX10_add_84 : decode cX10_add 84 = .ok (.bipush 20, 2) := by decide +kernel
theorem dX10_add_86 : decode cX10_add 86 = .ok (.iastore, 1) := by decide +kernel
theorem dX10_add_87 : decode cX10_add 87 = .ok (.iinc 5 1, 3) := by decide +kernel
theorem dX10_add_90 : decode cX10_add 90 = .ok (.goto (-36), 3) := by decide +kernel
theorem dX10_add_93 : decode cX10_add 93 = .ok (.aload_n 0, 1) := by decide +kernel
theorem dX10_add_94 : decode cX10_add 94 = .ok (.dup, 1) := by decide +kernel
theorem dX10_add_95 : decode cX10_add 95 = .ok (.getfield 128, 3) := by decide +kernel
theorem dX10_add_98 : decode cX10_add 98 = .ok (.iconst 1, 1) := by decide +kernel
theorem dX10_add_99 : decode cX10_add 99 = .ok (.iadd, 1) := by decide +kernel
theorem dX10_add_100 : decode cX10_add 100 = .ok (.putfield 128, 3) := by decide +kernel
theorem dX10_add_103 : decode cX10_add 103 = .ok (.aload_n 0, 1) := by decide +kernel
theorem dX10_add_104 : decode cX10_add 104 = .ok (.invokevirtual 132, 3) := by decide +kernel
theorem dX10_add_107 : decode cX10_add 107 = .ok (.aload_n 0, 1) := by decide +kernel
theorem dX10_add_108 : decode cX10_add 108 = .ok (.getfield 128, 3) := by decide +kernel
theorem dX10_add_111 : decode cX10_add 111 = .ok (.iconst 1, 1) := by decide +kernel
theorem dX10_add_112 : decode cX10_add 112 = .ok (.isub, 1) := by decide +kernel
theorem dX10_add_113 : decode cX10_add 113 = .ok (.ireturn, 1) := by decide +kernel
theorem dX10_addPart_0 : decode cX10_addPart 0 = .ok (.bipush 6, 2) := by decide +kernel
theorem dX10_addPart_2 : decode cX10_addPart 2 = .ok (.iload_n 1, 1) := by decide +kernel
theorem dX10_addPart_3 : decode cX10_addPart 3 = .ok (.imul, 1) := by decide +kernel
theorem dX10_addPart_4 : decode cX10_addPart 4 = .ok (.aload_n 0, 1) := by decide +kernel
theorem dX10_addPart_5 : decode cX10_addPart 5 = .ok (.getfield 22, 3) := by decide +kernel
