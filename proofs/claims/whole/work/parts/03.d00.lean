theorem dX0_init_0 : decode cX0_init 0 = .ok (.aload_n 0, 1) := by decide +kernel
theorem dX0_init_1 : decode cX0_init 1 = .ok (.invokespecial 3, 3) := by decide +kernel
theorem dX0_init_4 : decode cX0_init 4 = .ok (.aload_n 0, 1) := by decide +kernel
theorem dX0_init_5 : decode cX0_init 5 = .ok (.bipush 16, 2) := by decide +kernel
theorem dX0_init_7 : decode cX0_init 7 = .ok (.newarray .int, 2) := by decide +kernel
theorem dX0_init_9 : decode cX0_init 9 = .ok (.putfield 11, 3) := by decide +kernel
theorem dX0_init_12 : decode cX0_init 12 = .ok (.return_, 1) := by decide +kernel
theorem dX0_limitOf_0 : decode cX0_limitOf 0 = .ok (.aload_n 0, 1) := by decide +kernel
theorem dX0_limitOf_1 : decode cX0_limitOf 1 = .ok (.getfield 11, 3) := by decide +kernel
theorem dX0_limitOf_4 : decode cX0_limitOf 4 = .ok (.iload_n 1, 1) := by decide +kernel
theorem dX0_limitOf_5 : decode cX0_limitOf 5 = .ok (.iconst 4, 1) := by decide +kernel
theorem dX0_limitOf_6 : decode cX0_limitOf 6 = .ok (.imul, 1) := by decide +kernel
theorem dX0_limitOf_7 : decode cX0_limitOf 7 = .ok (.iload_n 2, 1) := by decide +kernel
theorem dX0_limitOf_8 : decode cX0_limitOf 8 = .ok (.iadd, 1) := by decide +kernel
theorem dX0_limitOf_9 : decode cX0_limitOf 9 = .ok (.iaload, 1) := by decide +kernel
theorem dX0_limitOf_10 : decode cX0_limitOf 10 = .ok (.ireturn, 1) := by decide +kernel
theorem dX0_limit_0 : decode cX0_limit 0 = .ok (.aload_n 0, 1) := by decide +kernel
theorem dX0_limit_1 : decode cX0_limit 1 = .ok (.getfield 11, 3) := by decide +kernel
theorem dX0_limit_4 : decode cX0_limit 4 = .ok (.iload_n 1, 1) := by decide +kernel
theorem dX0_limit_5 : decode cX0_limit 5 = .ok (.iconst 4, 1) := by decide +kernel
theorem dX0_limit_6 : decode cX0_limit 6 = .ok (.imul, 1) := by decide +kernel
theorem dX0_limit_7 : decode cX0_limit 7 = .ok (.iload_n 2, 1) := by decide +kernel
theorem dX0_limit_8 : decode cX0_limit 8 = .ok (.iadd, 1) := by decide +kernel
theorem dX0_limit_9 : decode cX0_limit 9 = .ok (.iload_n 3, 1) := by decide +kernel
theorem dX0_limit_10 : decode cX0_limit 10 = .ok (.iastore, 1) := by decide +kernel
theorem dX0_limit_11 : decode cX0_limit 11 = .ok (.return_, 1) := by decide +kernel
theorem dX0_ticksOf_0 : decode cX0_ticksOf 0 = .ok (.lload_n 0, 1) := by decide +kernel
theorem dX0_ticksOf_1 : decode cX0_ticksOf 1 = .ok (.iconst 4, 1) := by decide +kernel
theorem dX0_ticksOf_2 : decode cX0_ticksOf 2 = .ok (.iload_n 2, 1) := by decide +kernel
theorem dX0_ticksOf_3 : decode cX0_ticksOf 3 = .ok (.iconst 4, 1) := by decide +kernel
theorem dX0_ticksOf_4 : decode cX0_ticksOf 4 = .ok (.imul, 1) := by decide +kernel
theorem dX0_ticksOf_5 : decode cX0_ticksOf 5 = .ok (.iload_n 3, 1) := by decide +kernel
theorem dX0_ticksOf_6 : decode cX0_ticksOf 6 = .ok (.iadd, 1) := by decide +kernel
theorem dX0_ticksOf_7 : decode cX0_ticksOf 7 = .ok (.imul, 1) := by decide +kernel
theorem dX0_ticksOf_8 : decode cX0_ticksOf 8 = .ok (.lshr, 1) := by decide +kernel
theorem dX0_ticksOf_9 : decode cX0_ticksOf 9 = .ok (.l2i, 1) := by decide +kernel
theorem dX0_ticksOf_10 : decode cX0_ticksOf 10 = .ok (.bipush 15, 2) := by decide +kernel
theorem dX0_ticksOf_12 : decode cX0_ticksOf 12 = .ok (.iand, 1) := by decide +kernel
theorem dX0_ticksOf_13 : decode cX0_ticksOf 13 = .ok (.ireturn, 1) := by decide +kernel
theorem dX0_behind_0 : decode cX0_behind 0 = .ok (.lload_n 1, 1) := by decide +kernel
theorem dX0_behind_1 : decode cX0_behind 1 = .ok (.lstore 4, 2) := by decide +kernel
theorem dX0_behind_3 : decode cX0_behind 3 = .ok (.iconst 0, 1) := by decide +kernel
theorem dX0_behind_4 : decode cX0_behind 4 = .ok (.istore 6, 2) := by decide +kernel
theorem dX0_behind_6 : decode cX0_behind 6 = .ok (.iload 6, 2) := by decide +kernel
theorem dX0_behind_8 : decode cX0_behind 8 = .ok (.bipush 16, 2) := by decide +kernel
theorem dX0_behind_10 : decode cX0_behind 10 = .ok (.if_icmp .ge 107, 3) := by decide +kernel
theorem dX0_behind_13 : decode cX0_behind 13 = .ok (.aload_n 0, 1) := by decide +kernel
theorem dX0_behind_14 : decode cX0_behind 14 = .ok (.getfield 11, 3) := by decide +kernel
theorem dX0_behind_17 : decode cX0_behind 17 = .ok (.iload 6, 2) := by decide +kernel
theorem dX0_behind_19 : decode cX0_behind 19 = .ok (.iaload, 1) := by decide +kernel
theorem dX0_behind_20 : decode cX0_behind 20 = .ok (.ifCond .ne 6, 3) := by decide +kernel
theorem dX0_behind_23 : decode cX0_behind 23 = .ok (.goto 88, 3) := by decide +kernel
theorem dX0_behind_26 : decode cX0_behind 26 = .ok (.iload 6, 2) := by decide +kernel
theorem dX0_behind_28 : decode cX0_behind 28 = .ok (.iconst 4, 1) := by decide +kernel
theorem dX0_behind_29 : decode cX0_behind 29 = .ok (.idiv, 1) := by decide +kernel
theorem dX0_behind_30 : decode cX0_behind 30 = .ok (.istore 7, 2) := by decide +kernel
theorem dX0_behind_32 : decode cX0_behind 32 = .ok (.iload 6, 2) := by decide +kernel
theorem dX0_behind_34 : decode cX0_behind 34 = .ok (.iconst 4, 1) := by decide +kernel
theorem dX0_behind_35 : decode cX0_behind 35 = .ok (.irem, 1) := by decide +kernel
theorem dX0_behind_36 : decode cX0_behind 36 = .ok (.istore 8, 2) := by decide +kernel
theorem dX0_behind_38 : decode cX0_behind 38 = .ok (.iload_n 3, 1) := by decide +kernel
theorem dX0_behind_39 : decode cX0_behind 39 = .ok (.iload 8, 2) := by decide +kernel
theorem dX0_behind_41 : decode cX0_behind 41 = .ok (.ishr, 1) := by decide +kernel
theorem dX0_behind_42 : decode cX0_behind 42 = .ok (.iconst 1, 1) := by decide +kernel
theorem dX0_behind_43 : decode cX0_behind 43 = .ok (.iand, 1) := by decide +kernel
theorem dX0_behind_44 : decode cX0_behind 44 = .ok (.iconst 1, 1) := by decide +kernel
theorem dX0_behind_45 : decode cX0_behind 45 = .ok (.if_icmp .ne 23, 3) := by decide +kernel
theorem dX0_behind_48 : decode cX0_behind 48 = .ok (.lload 4, 2) := by decide +kernel
theorem dX0_behind_50 : decode cX0_behind 50 = .ok (.ldc2_w 15, 3) := by decide +kernel
theorem dX0_behind_53 : decode cX0_behind 53 = .ok (.iconst 4, 1) := by decide +kernel
theorem dX0_behind_54 : decode cX0_behind 54 = .ok (.iload 6, 2) := by decide +kernel
theorem dX0_behind_56 : decode cX0_behind 56 = .ok (.imul, 1) := by decide +kernel
theorem dX0_behind_57 : decode cX0_behind 57 = .ok (.lshl, 1) := by decide +kernel
theorem dX0_behind_58 : decode cX0_behind 58 = .ok (.ldc2_w 17, 3) := by decide +kernel
theorem dX0_behind_61 : decode cX0_behind 61 = .ok (.lxor, 1) := by decide +kernel
theorem dX0_behind_62 : decode cX0_behind 62 = .ok (.land, 1) := by decide +kernel
theorem dX0_behind_63 : decode cX0_behind 63 = .ok (.lstore 4, 2) := by decide +kernel
theorem dX0_behind_65 : decode cX0_behind 65 = .ok (.goto 46, 3) := by decide +kernel
theorem dX0_behind_68 : decode cX0_behind 68 = .ok (.iload_n 3, 1) := by decide +kernel
theorem dX0_behind_69 : decode cX0_behind 69 = .ok (.iload 7, 2) := by decide +kernel
theorem dX0_behind_71 : decode cX0_behind 71 = .ok (.ishr, 1) := by decide +kernel
theorem dX0_behind_72 : decode cX0_behind 72 = .ok (.iconst 1, 1) := by decide +kernel
theorem dX0_behind_73 : decode cX0_behind 73 = .ok (.iand, 1) := by decide +kernel
theorem dX0_behind_74 : decode cX0_behind 74 = .ok (.iconst 1, 1) := by decide +kernel
theorem dX0_behind_75 : decode cX0_behind 75 = .ok (.if_icmp .ne 36, 3) := by decide +kernel
theorem dX0_behind_78 : decode cX0_behind 78 = .ok (.lload_n 1, 1) := by decide +kernel
theorem dX0_behind_79 : decode cX0_behind 79 = .ok (.iload 7, 2) := by decide +kernel
theorem dX0_behind_81 : decode cX0_behind 81 = .ok (.iload 8, 2) := by decide +kernel
theorem dX0_behind_83 : decode cX0_behind 83 = .ok (.invokestatic 19, 3) := by decide +kernel
theorem dX0_behind_86 : decode cX0_behind 86 = .ok (.aload_n 0, 1) := by decide +kernel
theorem dX0_behind_87 : decode cX0_behind 87 = .ok (.getfield 11, 3) := by decide +kernel
theorem dX0_behind_90 : decode cX0_behind 90 = .ok (.iload 6, 2) := by decide +kernel
theorem dX0_behind_92 : decode cX0_behind 92 = .ok (.iaload, 1) := by decide +kernel
theorem dX0_behind_93 : decode cX0_behind 93 = .ok (.if_icmp .lt 7, 3) := by decide +kernel
theorem dX0_behind_96 : decode cX0_behind 96 = .ok (.ldc2_w 17, 3) := by decide +kernel
theorem dX0_behind_99 : decode cX0_behind 99 = .ok (.lreturn, 1) := by decide +kernel
theorem dX0_behind_100 : decode cX0_behind 100 = .ok (.lload 4, 2) := by decide +kernel
theorem dX0_behind_102 : decode cX0_behind 102 = .ok (.lconst 1, 1) := by decide +kernel
theorem dX0_behind_103 : decode cX0_behind 103 = .ok (.iconst 4, 1) := by decide +kernel
theorem dX0_behind_104 : decode cX0_behind 104 = .ok (.iload 6, 2) := by decide +kernel
theorem dX0_behind_106 : decode cX0_behind 106 = .ok (.imul, 1) := by decide +kernel
theorem dX0_behind_107 : decode cX0_behind 107 = .ok (.lshl, 1) := by decide +kernel
theorem dX0_behind_108 : decode cX0_behind 108 = .ok (.ladd, 1) := by decide +kernel
theorem dX0_behind_109 : decode cX0_behind 109 = .ok (.lstore 4, 2) := by decide +kernel
theorem dX0_behind_111 : decode cX0_behind 111 = .ok (.iinc 6 1, 3) := by decide +kernel
theorem dX0_behind_114 : decode cX0_behind 114 = .ok (.goto (-108), 3) := by decide +kernel
theorem dX0_behind_117 : decode cX0_behind 117 = .ok (.lload 4, 2) := by decide +kernel
theorem dX0_behind_119 : decode cX0_behind 119 = .ok (.lreturn, 1) := by decide +kernel
theorem dX1_size_0 : decode cX1_size 0 = .ok (.iconst 0, 1) := by decide +kernel
theorem dX1_size_1 : decode cX1_size 1 = .ok (.istore_n 1, 1) := by decide +kernel
theorem dX1_size_2 : decode cX1_size 2 = .ok (.iconst 0, 1) := by decide +kernel
theorem dX1_size_3 : decode cX1_size 3 = .ok (.istore_n 2, 1) := by decide +kernel
theorem dX1_size_4 : decode cX1_size 4 = .ok (.iload_n 2, 1) := by decide +kernel
theorem dX1_size_5 : decode cX1_size 5 = .ok (.aload_n 0, 1) := by decide +kernel
theorem dX1_size_6 : decode cX1_size 6 = .ok (.getfield 9, 3) := by decide +kernel
theorem dX1_size_9 : decode cX1_size 9 = .ok (.if_icmp .ge 20, 3) := by decide +kernel
theorem dX1_size_12 : decode cX1_size 12 = .ok (.aload_n 0, 1) := by decide +kernel
theorem dX1_size_13 : decode cX1_size 13 = .ok (.iload_n 2, 1) := by decide +kernel
theorem dX1_size_14 : decode cX1_size 14 = .ok (.invokestatic 15, 3) := by decide +kernel
theorem dX1_size_17 : decode cX1_size 17 = .ok (.ifCond .eq 6, 3) := by decide +kernel
theorem dX1_size_20 : decode cX1_size 20 = .ok (.iinc 1 1, 3) := by decide +kernel
theorem dX1_size_23 : decode cX1_size 23 = .ok (.iinc 2 1, 3) := by decide +kernel
theorem dX1_size_26 : decode cX1_size 26 = .ok (.goto (-22), 3) := by decide +kernel
theorem dX1_size_29 : decode cX1_size 29 = .ok (.iload_n 1, 1) := by decide +kernel
theorem dX1_size_30 : decode cX1_size 30 = .ok (.ireturn, 1) := by decide +kernel
theorem dX1_keeperOf_0 : decode cX1_keeperOf 0 = .ok (.iload_n 1, 1) := by decide +kernel
theorem dX1_keeperOf_1 : decode cX1_keeperOf 1 = .ok (.istore_n 2, 1) := by decide +kernel
theorem dX1_keeperOf_2 : decode cX1_keeperOf 2 = .ok (.iconst 0, 1) := by decide +kernel
theorem dX1_keeperOf_3 : decode cX1_keeperOf 3 = .ok (.istore_n 3, 1) := by decide +kernel
theorem dX1_keeperOf_4 : decode cX1_keeperOf 4 = .ok (.iload_n 3, 1) := by decide +kernel
theorem dX1_keeperOf_5 : decode cX1_keeperOf 5 = .ok (.aload_n 0, 1) := by decide +kernel
theorem dX1_keeperOf_6 : decode cX1_keeperOf 6 = .ok (.getfield 9, 3) := by decide +kernel
theorem dX1_keeperOf_9 : decode cX1_keeperOf 9 = .ok (.if_icmp .ge 26, 3) := by decide +kernel
theorem dX1_keeperOf_12 : decode cX1_keeperOf 12 = .ok (.aload_n 0, 1) := by decide +kernel
theorem dX1_keeperOf_13 : decode cX1_keeperOf 13 = .ok (.iload_n 3, 1) := by decide +kernel
theorem dX1_keeperOf_14 : decode cX1_keeperOf 14 = .ok (.invokestatic 15, 3) := by decide +kernel
theorem dX1_keeperOf_17 : decode cX1_keeperOf 17 = .ok (.ifCond .eq 12, 3) := by decide +kernel
theorem dX1_keeperOf_20 : decode cX1_keeperOf 20 = .ok (.iload_n 2, 1) := by decide +kernel
theorem dX1_keeperOf_21 : decode cX1_keeperOf 21 = .ok (.ifCond .ne 5, 3) := by decide +kernel
theorem dX1_keeperOf_24 : decode cX1_keeperOf 24 = .ok (.iload_n 3, 1) := by decide +kernel
theorem dX1_keeperOf_25 : decode cX1_keeperOf 25 = .ok (.ireturn, 1) := by decide +kernel
theorem dX1_keeperOf_26 : decode cX1_keeperOf 26 = .ok (.iinc 2 (-1), 3) := by decide +kernel
theorem dX1_keeperOf_29 : decode cX1_keeperOf 29 = .ok (.iinc 3 1, 3) := by decide +kernel
theorem dX1_keeperOf_32 : decode cX1_keeperOf 32 = .ok (.goto (-28), 3) := by decide +kernel
theorem dX1_keeperOf_35 : decode cX1_keeperOf 35 = .ok (.iconst (-1), 1) := by decide +kernel
theorem dX1_keeperOf_36 : decode cX1_keeperOf 36 = .ok (.ireturn, 1) := by decide +kernel
theorem dX1_kindOf_0 : decode cX1_kindOf 0 = .ok (.aload_n 0, 1) := by decide +kernel
theorem dX1_kindOf_1 : decode cX1_kindOf 1 = .ok (.getfield 21, 3) := by decide +kernel
theorem dX1_kindOf_4 : decode cX1_kindOf 4 = .ok (.iload_n 1, 1) := by decide +kernel
theorem dX1_kindOf_5 : decode cX1_kindOf 5 = .ok (.iaload, 1) := by decide +kernel
theorem dX1_kindOf_6 : decode cX1_kindOf 6 = .ok (.istore_n 2, 1) := by decide +kernel
theorem dX1_kindOf_7 : decode cX1_kindOf 7 = .ok (.aload_n 0, 1) := by decide +kernel
theorem dX1_kindOf_8 : decode cX1_kindOf 8 = .ok (.iload_n 1, 1) := by decide +kernel
theorem dX1_kindOf_9 : decode cX1_kindOf 9 = .ok (.invokestatic 25, 3) := by decide +kernel
theorem dX1_kindOf_12 : decode cX1_kindOf 12 = .ok (.ifCond .eq 5, 3) := by decide +kernel
theorem dX1_kindOf_15 : decode cX1_kindOf 15 = .ok (.iconst 0, 1) := by decide +kernel
theorem dX1_kindOf_16 : decode cX1_kindOf 16 = .ok (.ireturn, 1) := by decide +kernel
theorem dX1_kindOf_17 : decode cX1_kindOf 17 = .ok (.aload_n 0, 1) := by decide +kernel
theorem dX1_kindOf_18 : decode cX1_kindOf 18 = .ok (.iload_n 1, 1) := by decide +kernel
theorem dX1_kindOf_19 : decode cX1_kindOf 19 = .ok (.invokestatic 28, 3) := by decide +kernel
theorem dX1_kindOf_22 : decode cX1_kindOf 22 = .ok (.ifCond .eq 5, 3) := by decide +kernel
theorem dX1_kindOf_25 : decode cX1_kindOf 25 = .ok (.iconst 1, 1) := by decide +kernel
theorem dX1_kindOf_26 : decode cX1_kindOf 26 = .ok (.ireturn, 1) := by decide +kernel
theorem dX1_kindOf_27 : decode cX1_kindOf 27 = .ok (.aload_n 0, 1) := by decide +kernel
theorem dX1_kindOf_28 : decode cX1_kindOf 28 = .ok (.iload_n 1, 1) := by decide +kernel
theorem dX1_kindOf_29 : decode cX1_kindOf 29 = .ok (.iload_n 2, 1) := by decide +kernel
theorem dX1_kindOf_30 : decode cX1_kindOf 30 = .ok (.invokestatic 31, 3) := by decide +kernel
theorem dX1_kindOf_33 : decode cX1_kindOf 33 = .ok (.ifCond .eq 5, 3) := by decide +kernel
theorem dX1_kindOf_36 : decode cX1_kindOf 36 = .ok (.iconst 2, 1) := by decide +kernel
theorem dX1_kindOf_37 : decode cX1_kindOf 37 = .ok (.ireturn, 1) := by decide +kernel
theorem dX1_kindOf_38 : decode cX1_kindOf 38 = .ok (.aload_n 0, 1) := by decide +kernel
theorem dX1_kindOf_39 : decode cX1_kindOf 39 = .ok (.iload_n 2, 1) := by decide +kernel
theorem dX1_kindOf_40 : decode cX1_kindOf 40 = .ok (.invokevirtual 35, 3) := by decide +kernel
theorem dX1_kindOf_43 : decode cX1_kindOf 43 = .ok (.ifCond .eq 7, 3) := by decide +kernel
theorem dX1_kindOf_46 : decode cX1_kindOf 46 = .ok (.iconst 3, 1) := by decide +kernel
theorem dX1_kindOf_47 : decode cX1_kindOf 47 = .ok (.goto 4, 3) := by decide +kernel
theorem dX1_kindOf_50 : decode cX1_kindOf 50 = .ok (.iconst 4, 1) := by decide +kernel
theorem dX1_kindOf_51 : decode cX1_kindOf 51 = .ok (.ireturn, 1) := by decide +kernel
theorem dX1_meets_0 : decode cX1_meets 0 = .ok (.aload_n 0, 1) := by decide +kernel
theorem dX1_meets_1 : decode cX1_meets 1 = .ok (.iload_n 1, 1) := by decide +kernel
theorem dX1_meets_2 : decode cX1_meets 2 = .ok (.invokestatic 28, 3) := by decide +kernel
theorem dX1_meets_5 : decode cX1_meets 5 = .ok (.ifCond .ne 5, 3) := by decide +kernel
theorem dX1_meets_8 : decode cX1_meets 8 = .ok (.iconst 0, 1) := by decide +kernel
theorem dX1_meets_9 : decode cX1_meets 9 = .ok (.ireturn, 1) := by decide +kernel
theorem dX1_meets_10 : decode cX1_meets 10 = .ok (.iconst 0, 1) := by decide +kernel
theorem dX1_meets_11 : decode cX1_meets 11 = .ok (.istore_n 2, 1) := by decide +kernel
theorem dX1_meets_12 : decode cX1_meets 12 = .ok (.iload_n 2, 1) := by decide +kernel
theorem dX1_meets_13 : decode cX1_meets 13 = .ok (.aload_n 0, 1) := by decide +kernel
theorem dX1_meets_14 : decode cX1_meets 14 = .ok (.getfield 9, 3) := by decide +kernel
theorem dX1_meets_17 : decode cX1_meets 17 = .ok (.if_icmp .ge 54, 3) := by decide +kernel
theorem dX1_meets_20 : decode cX1_meets 20 = .ok (.iload_n 2, 1) := by decide +kernel
theorem dX1_meets_21 : decode cX1_meets 21 = .ok (.iload_n 1, 1) := by decide +kernel
theorem dX1_meets_22 : decode cX1_meets 22 = .ok (.if_icmp .eq 43, 3) := by decide +kernel
theorem dX1_meets_25 : decode cX1_meets 25 = .ok (.aload_n 0, 1) := by decide +kernel
theorem dX1_meets_26 : decode cX1_meets 26 = .ok (.iload_n 2, 1) := by decide +kernel
theorem dX1_meets_27 : decode cX1_meets 27 = .ok (.invokestatic 28, 3) := by decide +kernel
theorem dX1_meets_30 : decode cX1_meets 30 = .ok (.ifCond .eq 35, 3) := by decide +kernel
theorem dX1_meets_33 : decode cX1_meets 33 = .ok (.aload_n 0, 1) := by decide +kernel
theorem dX1_meets_34 : decode cX1_meets 34 = .ok (.getfield 39, 3) := by decide +kernel
theorem dX1_meets_37 : decode cX1_meets 37 = .ok (.iload_n 2, 1) := by decide +kernel
theorem dX1_meets_38 : decode cX1_meets 38 = .ok (.iaload, 1) := by decide +kernel
theorem dX1_meets_39 : decode cX1_meets 39 = .ok (.aload_n 0, 1) := by decide +kernel
theorem dX1_meets_40 : decode cX1_meets 40 = .ok (.getfield 39, 3) := by decide +kernel
theorem dX1_meets_43 : decode cX1_meets 43 = .ok (.iload_n 1, 1) := by decide +kernel
theorem dX1_meets_44 : decode cX1_meets 44 = .ok (.iaload, 1) := by decide +kernel
theorem dX1_meets_45 : decode cX1_meets 45 = .ok (.if_icmp .ne 20, 3) := by decide +kernel
theorem dX1_meets_48 : decode cX1_meets 48 = .ok (.aload_n 0, 1) := by decide +kernel
theorem dX1_meets_49 : decode cX1_meets 49 = .ok (.getfield 21, 3) := by decide +kernel
theorem dX1_meets_52 : decode cX1_meets 52 = .ok (.iload_n 2, 1) := by decide +kernel
theorem dX1_meets_53 : decode cX1_meets 53 = .ok (.iaload, 1) := by decide +kernel
theorem dX1_meets_54 : decode cX1_meets 54 = .ok (.aload_n 0, 1) := by decide +kernel
theorem dX1_meets_55 : decode cX1_meets 55 = .ok (.getfield 21, 3) := by decide +kernel
theorem dX1_meets_58 : decode cX1_meets 58 = .ok (.iload_n 1, 1) := by decide +kernel
theorem dX1_meets_59 : decode cX1_meets 59 = .ok (.iaload, 1) := by decide +kernel
theorem dX1_meets_60 : decode cX1_meets 60 = .ok (.if_icmp .ne 5, 3) := by decide +kernel
theorem dX1_meets_63 : decode cX1_meets 63 = .ok (.iconst 1, 1) := by decide +kernel
theorem dX1_meets_64 : decode cX1_meets 64 = .ok (.ireturn, 1) := by decide +kernel
theorem dX1_meets_65 : decode cX1_meets 65 = .ok (.iinc 2 1, 3) := by decide +kernel
theorem dX1_meets_68 : decode cX1_meets 68 = .ok (.goto (-56), 3) := by decide +kernel
theorem dX1_meets_71 : decode cX1_meets 71 = .ok (.iconst 0, 1) := by decide +kernel
theorem dX1_meets_72 : decode cX1_meets 72 = .ok (.ireturn, 1) := by decide +kernel
theorem dX1_isBad_0 : decode cX1_isBad 0 = .ok (.aload_n 0, 1) := by decide +kernel
theorem dX1_isBad_1 : decode cX1_isBad 1 = .ok (.iload_n 1, 1) := by decide +kernel
theorem dX1_isBad_2 : decode cX1_isBad 2 = .ok (.invokestatic 42, 3) := by decide +kernel
theorem dX1_isBad_5 : decode cX1_isBad 5 = .ok (.iconst 3, 1) := by decide +kernel
theorem dX1_isBad_6 : decode cX1_isBad 6 = .ok (.if_icmp .ge 11, 3) := by decide +kernel
theorem dX1_isBad_9 : decode cX1_isBad 9 = .ok (.aload_n 0, 1) := by decide +kernel
theorem dX1_isBad_10 : decode cX1_isBad 10 = .ok (.iload_n 1, 1) := by decide +kernel
theorem dX1_isBad_11 : decode cX1_isBad 11 = .ok (.invokestatic 46, 3) := by decide +kernel
theorem dX1_isBad_14 : decode cX1_isBad 14 = .ok (.ifCond .eq 7, 3) := by decide +kernel
theorem dX1_isBad_17 : decode cX1_isBad 17 = .ok (.iconst 1, 1) := by decide +kernel
theorem dX1_isBad_18 : decode cX1_isBad 18 = .ok (.goto 4, 3) := by decide +kernel
theorem dX1_isBad_21 : decode cX1_isBad 21 = .ok (.iconst 0, 1) := by decide +kernel
theorem dX1_isBad_22 : decode cX1_isBad 22 = .ok (.ireturn, 1) := by decide +kernel
theorem dX1_crosses_0 : decode cX1_crosses 0 = .ok (.aload_n 0, 1) := by decide +kernel
theorem dX1_crosses_1 : decode cX1_crosses 1 = .ok (.iload_n 1, 1) := by decide +kernel
theorem dX1_crosses_2 : decode cX1_crosses 2 = .ok (.invokevirtual 49, 3) := by decide +kernel
theorem dX1_crosses_5 : decode cX1_crosses 5 = .ok (.ifCond .eq 15, 3) := by decide +kernel
theorem dX1_crosses_8 : decode cX1_crosses 8 = .ok (.aload_n 0, 1) := by decide +kernel
theorem dX1_crosses_9 : decode cX1_crosses 9 = .ok (.iload_n 1, 1) := by decide +kernel
theorem dX1_crosses_10 : decode cX1_crosses 10 = .ok (.invokevirtual 52, 3) := by decide +kernel
theorem dX1_crosses_13 : decode cX1_crosses 13 = .ok (.ifCond .eq 7, 3) := by decide +kernel
theorem dX1_crosses_16 : decode cX1_crosses 16 = .ok (.iconst 1, 1) := by decide +kernel
theorem dX1_crosses_17 : decode cX1_crosses 17 = .ok (.goto 4, 3) := by decide +kernel
theorem dX1_crosses_20 : decode cX1_crosses 20 = .ok (.iconst 0, 1) := by decide +kernel
theorem dX1_crosses_21 : decode cX1_crosses 21 = .ok (.ireturn, 1) := by decide +kernel
theorem dX1_isStill_0 : decode cX1_isStill 0 = .ok (.aload_n 0, 1) := by decide +kernel
theorem dX1_isStill_1 : decode cX1_isStill 1 = .ok (.iload_n 1, 1) := by decide +kernel
theorem dX1_isStill_2 : decode cX1_isStill 2 = .ok (.invokevirtual 52, 3) := by decide +kernel
theorem dX1_isStill_5 : decode cX1_isStill 5 = .ok (.aload_n 0, 1) := by decide +kernel
theorem dX1_isStill_6 : decode cX1_isStill 6 = .ok (.getfield 56, 3) := by decide +kernel
theorem dX1_isStill_9 : decode cX1_isStill 9 = .ok (.iconst (-1), 1) := by decide +kernel
theorem dX1_isStill_10 : decode cX1_isStill 10 = .ok (.ixor, 1) := by decide +kernel
theorem dX1_isStill_11 : decode cX1_isStill 11 = .ok (.iand, 1) := by decide +kernel
theorem dX1_isStill_12 : decode cX1_isStill 12 = .ok (.ifCond .ne 7, 3) := by decide +kernel
theorem dX1_isStill_15 : decode cX1_isStill 15 = .ok (.iconst 1, 1) := by decide +kernel
theorem dX1_isStill_16 : decode cX1_isStill 16 = .ok (.goto 4, 3) := by decide +kernel
theorem dX1_isStill_19 : decode cX1_isStill 19 = .ok (.iconst 0, 1) := by decide +kernel
theorem dX1_isStill_20 : decode cX1_isStill 20 = .ok (.ireturn, 1) := by decide +kernel
theorem dX1_isTwice_0 : decode cX1_isTwice 0 = .ok (.aload_n 0, 1) := by decide +kernel
theorem dX1_isTwice_1 : decode cX1_isTwice 1 = .ok (.iload_n 1, 1) := by decide +kernel
theorem dX1_isTwice_2 : decode cX1_isTwice 2 = .ok (.invokestatic 15, 3) := by decide +kernel
theorem dX1_isTwice_5 : decode cX1_isTwice 5 = .ok (.ifCond .eq 36, 3) := by decide +kernel
theorem dX1_isTwice_8 : decode cX1_isTwice 8 = .ok (.aload_n 0, 1) := by decide +kernel
theorem dX1_isTwice_9 : decode cX1_isTwice 9 = .ok (.iload_n 1, 1) := by decide +kernel
theorem dX1_isTwice_10 : decode cX1_isTwice 10 = .ok (.invokestatic 25, 3) := by decide +kernel
theorem dX1_isTwice_13 : decode cX1_isTwice 13 = .ok (.ifCond .ne 28, 3) := by decide +kernel
theorem dX1_isTwice_16 : decode cX1_isTwice 16 = .ok (.aload_n 0, 1) := by decide +kernel
theorem dX1_isTwice_17 : decode cX1_isTwice 17 = .ok (.aload_n 0, 1) := by decide +kernel
theorem dX1_isTwice_18 : decode cX1_isTwice 18 = .ok (.getfield 21, 3) := by decide +kernel
theorem dX1_isTwice_21 : decode cX1_isTwice 21 = .ok (.iload_n 1, 1) := by decide +kernel
theorem dX1_isTwice_22 : decode cX1_isTwice 22 = .ok (.iaload, 1) := by decide +kernel
theorem dX1_isTwice_23 : decode cX1_isTwice 23 = .ok (.invokevirtual 35, 3) := by decide +kernel
theorem dX1_isTwice_26 : decode cX1_isTwice 26 = .ok (.ifCond .eq 15, 3) := by decide +kernel
theorem dX1_isTwice_29 : decode cX1_isTwice 29 = .ok (.aload_n 0, 1) := by decide +kernel
theorem dX1_isTwice_30 : decode cX1_isTwice 30 = .ok (.iload_n 1, 1) := by decide +kernel
theorem dX1_isTwice_31 : decode cX1_isTwice 31 = .ok (.invokestatic 59, 3) := by decide +kernel
theorem dX1_isTwice_34 : decode cX1_isTwice 34 = .ok (.ifCond .eq 7, 3) := by decide +kernel
theorem dX1_isTwice_37 : decode cX1_isTwice 37 = .ok (.iconst 1, 1) := by decide +kernel
theorem dX1_isTwice_38 : decode cX1_isTwice 38 = .ok (.goto 4, 3) := by decide +kernel
theorem dX1_isTwice_41 : decode cX1_isTwice 41 = .ok (.iconst 0, 1) := by decide +kernel
theorem dX1_isTwice_42 : decode cX1_isTwice 42 = .ok (.ireturn, 1) := by decide +kernel
theorem dX1_isPassedOn_0 : decode cX1_isPassedOn 0 = .ok (.iconst 0, 1) := by decide +kernel
theorem dX1_isPassedOn_1 : decode cX1_isPassedOn 1 = .ok (.istore_n 2, 1) := by decide +kernel
theorem dX1_isPassedOn_2 : decode cX1_isPassedOn 2 = .ok (.iconst 0, 1) := by decide +kernel
theorem dX1_isPassedOn_3 : decode cX1_isPassedOn 3 = .ok (.istore_n 3, 1) := by decide +kernel
theorem dX1_isPassedOn_4 : decode cX1_isPassedOn 4 = .ok (.iload_n 3, 1) := by decide +kernel
theorem dX1_isPassedOn_5 : decode cX1_isPassedOn 5 = .ok (.aload_n 0, 1) := by decide +kernel
theorem dX1_isPassedOn_6 : decode cX1_isPassedOn 6 = .ok (.getfield 9, 3) := by decide +kernel
theorem dX1_isPassedOn_9 : decode cX1_isPassedOn 9 = .ok (.if_icmp .ge 72, 3) := by decide +kernel
theorem dX1_isPassedOn_12 : decode cX1_isPassedOn 12 = .ok (.aload_n 0, 1) := by decide +kernel
theorem dX1_isPassedOn_13 : decode cX1_isPassedOn 13 = .ok (.getfield 21, 3) := by decide +kernel
theorem dX1_isPassedOn_16 : decode cX1_isPassedOn 16 = .ok (.iload_n 3, 1) := by decide +kernel
theorem dX1_isPassedOn_17 : decode cX1_isPassedOn 17 = .ok (.iaload, 1) := by decide +kernel
theorem dX1_isPassedOn_18 : decode cX1_isPassedOn 18 = .ok (.iload_n 1, 1) := by decide +kernel
theorem dX1_isPassedOn_19 : decode cX1_isPassedOn 19 = .ok (.if_icmp .eq 23, 3) := by decide +kernel
theorem dX1_isPassedOn_22 : decode cX1_isPassedOn 22 = .ok (.aload_n 0, 1) := by decide +kernel
theorem dX1_isPassedOn_23 : decode cX1_isPassedOn 23 = .ok (.getfield 62, 3) := by decide +kernel
theorem dX1_isPassedOn_26 : decode cX1_isPassedOn 26 = .ok (.iload_n 3, 1) := by decide +kernel
theorem dX1_isPassedOn_27 : decode cX1_isPassedOn 27 = .ok (.iaload, 1) := by decide +kernel
theorem dX1_isPassedOn_28 : decode cX1_isPassedOn 28 = .ok (.iload_n 1, 1) := by decide +kernel
theorem dX1_isPassedOn_29 : decode cX1_isPassedOn 29 = .ok (.if_icmp .eq 13, 3) := by decide +kernel
theorem dX1_isPassedOn_32 : decode cX1_isPassedOn 32 = .ok (.aload_n 0, 1) := by decide +kernel
theorem dX1_isPassedOn_33 : decode cX1_isPassedOn 33 = .ok (.getfield 65, 3) := by decide +kernel
theorem dX1_isPassedOn_36 : decode cX1_isPassedOn 36 = .ok (.iload_n 3, 1) := by decide +kernel
theorem dX1_isPassedOn_37 : decode cX1_isPassedOn 37 = .ok (.iaload, 1) := by decide +kernel
theorem dX1_isPassedOn_38 : decode cX1_isPassedOn 38 = .ok (.iload_n 1, 1) := by decide +kernel
theorem dX1_isPassedOn_39 : decode cX1_isPassedOn 39 = .ok (.if_icmp .ne 36, 3) := by decide +kernel
theorem dX1_isPassedOn_42 : decode cX1_isPassedOn 42 = .ok (.iload_n 3, 1) := by decide +kernel
theorem dX1_isPassedOn_43 : decode cX1_isPassedOn 43 = .ok (.iload_n 1, 1) := by decide +kernel
theorem dX1_isPassedOn_44 : decode cX1_isPassedOn 44 = .ok (.if_icmp .eq 26, 3) := by decide +kernel
theorem dX1_isPassedOn_47 : decode cX1_isPassedOn 47 = .ok (.aload_n 0, 1) := by decide +kernel
theorem dX1_isPassedOn_48 : decode cX1_isPassedOn 48 = .ok (.iload_n 3, 1) := by decide +kernel
theorem dX1_isPassedOn_49 : decode cX1_isPassedOn 49 = .ok (.invokevirtual 49, 3) := by decide +kernel
theorem dX1_isPassedOn_52 : decode cX1_isPassedOn 52 = .ok (.ifCond .eq 18, 3) := by decide +kernel
theorem dX1_isPassedOn_55 : decode cX1_isPassedOn 55 = .ok (.aload_n 0, 1) := by decide +kernel
theorem dX1_isPassedOn_56 : decode cX1_isPassedOn 56 = .ok (.getfield 39, 3) := by decide +kernel
theorem dX1_isPassedOn_59 : decode cX1_isPassedOn 59 = .ok (.iload_n 3, 1) := by decide +kernel
theorem dX1_isPassedOn_60 : decode cX1_isPassedOn 60 = .ok (.iaload, 1) := by decide +kernel
theorem dX1_isPassedOn_61 : decode cX1_isPassedOn 61 = .ok (.aload_n 0, 1) := by decide +kernel
theorem dX1_isPassedOn_62 : decode cX1_isPassedOn 62 = .ok (.getfield 39, 3) := by decide +kernel
theorem dX1_isPassedOn_65 : decode cX1_isPassedOn 65 = .ok (.iload_n 1, 1) := by decide +kernel
theorem dX1_isPassedOn_66 : decode cX1_isPassedOn 66 = .ok (.iaload, 1) := by decide +kernel
theorem dX1_isPassedOn_67 : decode cX1_isPassedOn 67 = .ok (.if_icmp .eq 5, 3) := by decide +kernel
theorem dX1_isPassedOn_70 : decode cX1_isPassedOn 70 = .ok (.iconst 0, 1) := by decide +kernel
theorem dX1_isPassedOn_71 : decode cX1_isPassedOn 71 = .ok (.ireturn, 1) := by decide +kernel
theorem dX1_isPassedOn_72 : decode cX1_isPassedOn 72 = .ok (.iinc 2 1, 3) := by decide +kernel
theorem dX1_isPassedOn_75 : decode cX1_isPassedOn 75 = .ok (.iinc 3 1, 3) := by decide +kernel
theorem dX1_isPassedOn_78 : decode cX1_isPassedOn 78 = .ok (.goto (-74), 3) := by decide +kernel
theorem dX1_isPassedOn_81 : decode cX1_isPassedOn 81 = .ok (.iload_n 2, 1) := by decide +kernel
theorem dX1_isPassedOn_82 : decode cX1_isPassedOn 82 = .ok (.iconst 1, 1) := by decide +kernel
theorem dX1_isPassedOn_83 : decode cX1_isPassedOn 83 = .ok (.if_icmp .ne 7, 3) := by decide +kernel
theorem dX1_isPassedOn_86 : decode cX1_isPassedOn 86 = .ok (.iconst 1, 1) := by decide +kernel
theorem dX1_isPassedOn_87 : decode cX1_isPassedOn 87 = .ok (.goto 4, 3) := by decide +kernel
theorem dX1_isPassedOn_90 : decode cX1_isPassedOn 90 = .ok (.iconst 0, 1) := by decide +kernel
theorem dX1_isPassedOn_91 : decode cX1_isPassedOn 91 = .ok (.ireturn, 1) := by decide +kernel
theorem dX1_isHeld_0 : decode cX1_isHeld 0 = .ok (.aload_n 0, 1) := by decide +kernel
theorem dX1_isHeld_1 : decode cX1_isHeld 1 = .ok (.getfield 68, 3) := by decide +kernel
theorem dX1_isHeld_4 : decode cX1_isHeld 4 = .ok (.iload_n 2, 1) := by decide +kernel
theorem dX1_isHeld_5 : decode cX1_isHeld 5 = .ok (.iaload, 1) := by decide +kernel
theorem dX1_isHeld_6 : decode cX1_isHeld 6 = .ok (.iconst 4, 1) := by decide +kernel
theorem dX1_isHeld_7 : decode cX1_isHeld 7 = .ok (.if_icmp .ne 13, 3) := by decide +kernel
theorem dX1_isHeld_10 : decode cX1_isHeld 10 = .ok (.aload_n 0, 1) := by decide +kernel
theorem dX1_isHeld_11 : decode cX1_isHeld 11 = .ok (.getfield 65, 3) := by decide +kernel
theorem dX1_isHeld_14 : decode cX1_isHeld 14 = .ok (.iload_n 2, 1) := by decide +kernel
theorem dX1_isHeld_15 : decode cX1_isHeld 15 = .ok (.iaload, 1) := by decide +kernel
theorem dX1_isHeld_16 : decode cX1_isHeld 16 = .ok (.iload_n 1, 1) := by decide +kernel
theorem dX1_isHeld_17 : decode cX1_isHeld 17 = .ok (.if_icmp .eq 5, 3) := by decide +kernel
theorem dX1_isHeld_20 : decode cX1_isHeld 20 = .ok (.iconst 0, 1) := by decide +kernel
theorem dX1_isHeld_21 : decode cX1_isHeld 21 = .ok (.ireturn, 1) := by decide +kernel
theorem dX1_isHeld_22 : decode cX1_isHeld 22 = .ok (.aload_n 0, 1) := by decide +kernel
theorem dX1_isHeld_23 : decode cX1_isHeld 23 = .ok (.getfield 21, 3) := by decide +kernel
theorem dX1_isHeld_26 : decode cX1_isHeld 26 = .ok (.iload_n 2, 1) := by decide +kernel
theorem dX1_isHeld_27 : decode cX1_isHeld 27 = .ok (.iaload, 1) := by decide +kernel
theorem dX1_isHeld_28 : decode cX1_isHeld 28 = .ok (.istore_n 3, 1) := by decide +kernel
theorem dX1_isHeld_29 : decode cX1_isHeld 29 = .ok (.aload_n 0, 1) := by decide +kernel
theorem dX1_isHeld_30 : decode cX1_isHeld 30 = .ok (.getfield 62, 3) := by decide +kernel
theorem dX1_isHeld_33 : decode cX1_isHeld 33 = .ok (.iload_n 2, 1) := by decide +kernel
theorem dX1_isHeld_34 : decode cX1_isHeld 34 = .ok (.iaload, 1) := by decide +kernel
theorem dX1_isHeld_35 : decode cX1_isHeld 35 = .ok (.istore 4, 2) := by decide +kernel
theorem dX1_isHeld_37 : decode cX1_isHeld 37 = .ok (.aload_n 0, 1) := by decide +kernel
theorem dX1_isHeld_38 : decode cX1_isHeld 38 = .ok (.iload 4, 2) := by decide +kernel
theorem dX1_isHeld_40 : decode cX1_isHeld 40 = .ok (.invokevirtual 35, 3) := by decide +kernel
theorem dX1_isHeld_43 : decode cX1_isHeld 43 = .ok (.ifCond .eq 59, 3) := by decide +kernel
theorem dX1_isHeld_46 : decode cX1_isHeld 46 = .ok (.aload_n 0, 1) := by decide +kernel
theorem dX1_isHeld_47 : decode cX1_isHeld 47 = .ok (.getfield 39, 3) := by decide +kernel
theorem dX1_isHeld_50 : decode cX1_isHeld 50 = .ok (.iload 4, 2) := by decide +kernel
theorem dX1_isHeld_52 : decode cX1_isHeld 52 = .ok (.iaload, 1) := by decide +kernel
theorem dX1_isHeld_53 : decode cX1_isHeld 53 = .ok (.aload_n 0, 1) := by decide +kernel
theorem dX1_isHeld_54 : decode cX1_isHeld 54 = .ok (.getfield 39, 3) := by decide +kernel
theorem dX1_isHeld_57 : decode cX1_isHeld 57 = .ok (.iload_n 1, 1) := by decide +kernel
theorem dX1_isHeld_58 : decode cX1_isHeld 58 = .ok (.iaload, 1) := by decide +kernel
theorem dX1_isHeld_59 : decode cX1_isHeld 59 = .ok (.if_icmp .eq 43, 3) := by decide +kernel
theorem dX1_isHeld_62 : decode cX1_isHeld 62 = .ok (.aload_n 0, 1) := by decide +kernel
theorem dX1_isHeld_63 : decode cX1_isHeld 63 = .ok (.iload_n 3, 1) := by decide +kernel
theorem dX1_isHeld_64 : decode cX1_isHeld 64 = .ok (.invokevirtual 49, 3) := by decide +kernel
theorem dX1_isHeld_67 : decode cX1_isHeld 67 = .ok (.ifCond .eq 35, 3) := by decide +kernel
theorem dX1_isHeld_70 : decode cX1_isHeld 70 = .ok (.aload_n 0, 1) := by decide +kernel
theorem dX1_isHeld_71 : decode cX1_isHeld 71 = .ok (.getfield 39, 3) := by decide +kernel
theorem dX1_isHeld_74 : decode cX1_isHeld 74 = .ok (.iload_n 3, 1) := by decide +kernel
theorem dX1_isHeld_75 : decode cX1_isHeld 75 = .ok (.iaload, 1) := by decide +kernel
theorem dX1_isHeld_76 : decode cX1_isHeld 76 = .ok (.aload_n 0, 1) := by decide +kernel
theorem dX1_isHeld_77 : decode cX1_isHeld 77 = .ok (.getfield 39, 3) := by decide +kernel
theorem dX1_isHeld_80 : decode cX1_isHeld 80 = .ok (.iload_n 1, 1) := by decide +kernel
theorem dX1_isHeld_81 : decode cX1_isHeld 81 = .ok (.iaload, 1) := by decide +kernel
theorem dX1_isHeld_82 : decode cX1_isHeld 82 = .ok (.if_icmp .ne 20, 3) := by decide +kernel
theorem dX1_isHeld_85 : decode cX1_isHeld 85 = .ok (.aload_n 0, 1) := by decide +kernel
theorem dX1_isHeld_86 : decode cX1_isHeld 86 = .ok (.aload_n 0, 1) := by decide +kernel
theorem dX1_isHeld_87 : decode cX1_isHeld 87 = .ok (.getfield 21, 3) := by decide +kernel
theorem dX1_isHeld_90 : decode cX1_isHeld 90 = .ok (.iload_n 3, 1) := by decide +kernel
theorem dX1_isHeld_91 : decode cX1_isHeld 91 = .ok (.iaload, 1) := by decide +kernel
theorem dX1_isHeld_92 : decode cX1_isHeld 92 = .ok (.invokestatic 28, 3) := by decide +kernel
theorem dX1_isHeld_95 : decode cX1_isHeld 95 = .ok (.ifCond .eq 7, 3) := by decide +kernel
theorem dX1_isHeld_98 : decode cX1_isHeld 98 = .ok (.iconst 1, 1) := by decide +kernel
theorem dX1_isHeld_99 : decode cX1_isHeld 99 = .ok (.goto 4, 3) := by decide +kernel
theorem dX1_isHeld_102 : decode cX1_isHeld 102 = .ok (.iconst 0, 1) := by decide +kernel
theorem dX1_isHeld_103 : decode cX1_isHeld 103 = .ok (.ireturn, 1) := by decide +kernel
theorem dX2_init_0 : decode cX2_init 0 = .ok (.aload_n 0, 1) := by decide +kernel
theorem dX2_init_1 : decode cX2_init 1 = .ok (.invokespecial 1, 3) := by decide +kernel
theorem dX2_init_4 : decode cX2_init 4 = .ok (.return_, 1) := by decide +kernel
theorem dX3_init_0 : decode cX3_init 0 = .ok (.aload_n 0, 1) := by decide +kernel
theorem dX3_init_1 : decode cX3_init 1 = .ok (.invokespecial 3, 3) := by decide +kernel
theorem dX3_init_4 : decode cX3_init 4 = .ok (.aload_n 0, 1) := by decide +kernel
theorem dX3_init_5 : decode cX3_init 5 = .ok (.iload_n 2, 1) := by decide +kernel
theorem dX3_init_6 : decode cX3_init 6 = .ok (.putfield 9, 3) := by decide +kernel
theorem dX3_init_9 : decode cX3_init 9 = .ok (.aload_n 0, 1) := by decide +kernel
theorem dX3_init_10 : decode cX3_init 10 = .ok (.aload_n 1, 1) := by decide +kernel
theorem dX3_init_11 : decode cX3_init 11 = .ok (.getfield 15, 3) := by decide +kernel
theorem dX3_init_14 : decode cX3_init 14 = .ok (.iload_n 2, 1) := by decide +kernel
theorem dX3_init_15 : decode cX3_init 15 = .ok (.iaload, 1) := by decide +kernel
theorem dX3_init_16 : decode cX3_init 16 = .ok (.putfield 21, 3) := by decide +kernel
theorem dX3_init_19 : decode cX3_init 19 = .ok (.aload_n 0, 1) := by decide +kernel
theorem dX3_init_20 : decode cX3_init 20 = .ok (.aload_n 1, 1) := by decide +kernel
theorem dX3_init_21 : decode cX3_init 21 = .ok (.getfield 23, 3) := by decide +kernel
theorem dX3_init_24 : decode cX3_init 24 = .ok (.iload_n 2, 1) := by decide +kernel
theorem dX3_init_25 : decode cX3_init 25 = .ok (.iaload, 1) := by decide +kernel
theorem dX3_init_26 : decode cX3_init 26 = .ok (.putfield 26, 3) := by decide +kernel
theorem dX3_init_29 : decode cX3_init 29 = .ok (.aload_n 0, 1) := by decide +kernel
theorem dX3_init_30 : decode cX3_init 30 = .ok (.aload_n 1, 1) := by decide +kernel
theorem dX3_init_31 : decode cX3_init 31 = .ok (.getfield 28, 3) := by decide +kernel
theorem dX3_init_34 : decode cX3_init 34 = .ok (.iload_n 2, 1) := by decide +kernel
theorem dX3_init_35 : decode cX3_init 35 = .ok (.iaload, 1) := by decide +kernel
theorem dX3_init_36 : decode cX3_init 36 = .ok (.putfield 31, 3) := by decide +kernel
theorem dX3_init_39 : decode cX3_init 39 = .ok (.return_, 1) := by decide +kernel
theorem dX3_weigh_0 : decode cX3_weigh 0 = .ok (.aload_n 0, 1) := by decide +kernel
theorem dX3_weigh_1 : decode cX3_weigh 1 = .ok (.getfield 21, 3) := by decide +kernel
theorem dX3_weigh_4 : decode cX3_weigh 4 = .ok (.tableswitch 67 4 6 #[55, 45, 28], 28) := by decide +kernel
theorem dX3_weigh_32 : decode cX3_weigh 32 = .ok (.aload_n 0, 1) := by decide +kernel
theorem dX3_weigh_33 : decode cX3_weigh 33 = .ok (.getfield 9, 3) := by decide +kernel
theorem dX3_weigh_36 : decode cX3_weigh 36 = .ok (.iconst 1, 1) := by decide +kernel
theorem dX3_weigh_37 : decode cX3_weigh 37 = .ok (.iadd, 1) := by decide +kernel
theorem dX3_weigh_38 : decode cX3_weigh 38 = .ok (.bipush 100, 2) := by decide +kernel
theorem dX3_weigh_40 : decode cX3_weigh 40 = .ok (.iadd, 1) := by decide +kernel
theorem dX3_weigh_41 : decode cX3_weigh 41 = .ok (.iconst 5, 1) := by decide +kernel
theorem dX3_weigh_42 : decode cX3_weigh 42 = .ok (.iadd, 1) := by decide +kernel
theorem dX3_weigh_43 : decode cX3_weigh 43 = .ok (.aload_n 0, 1) := by decide +kernel
theorem dX3_weigh_44 : decode cX3_weigh 44 = .ok (.getfield 31, 3) := by decide +kernel
theorem dX3_weigh_47 : decode cX3_weigh 47 = .ok (.iadd, 1) := by decide +kernel
theorem dX3_weigh_48 : decode cX3_weigh 48 = .ok (.ireturn, 1) := by decide +kernel
theorem dX3_weigh_49 : decode cX3_weigh 49 = .ok (.aload_n 0, 1) := by decide +kernel
theorem dX3_weigh_50 : decode cX3_weigh 50 = .ok (.getfield 9, 3) := by decide +kernel
theorem dX3_weigh_53 : decode cX3_weigh 53 = .ok (.iconst 1, 1) := by decide +kernel
theorem dX3_weigh_54 : decode cX3_weigh 54 = .ok (.iadd, 1) := by decide +kernel
theorem dX3_weigh_55 : decode cX3_weigh 55 = .ok (.bipush 100, 2) := by decide +kernel
theorem dX3_weigh_57 : decode cX3_weigh 57 = .ok (.iadd, 1) := by decide +kernel
theorem dX3_weigh_58 : decode cX3_weigh 58 = .ok (.ireturn, 1) := by decide +kernel
theorem dX3_weigh_59 : decode cX3_weigh 59 = .ok (.iconst 3, 1) := by decide +kernel
theorem dX3_weigh_60 : decode cX3_weigh 60 = .ok (.aload_n 0, 1) := by decide +kernel
theorem dX3_weigh_61 : decode cX3_weigh 61 = .ok (.getfield 9, 3) := by decide +kernel
theorem dX3_weigh_64 : decode cX3_weigh 64 = .ok (.iconst 1, 1) := by decide +kernel
theorem dX3_weigh_65 : decode cX3_weigh 65 = .ok (.iadd, 1) := by decide +kernel
theorem dX3_weigh_66 : decode cX3_weigh 66 = .ok (.bipush 10, 2) := by decide +kernel
theorem dX3_weigh_68 : decode cX3_weigh 68 = .ok (.iadd, 1) := by decide +kernel
theorem dX3_weigh_69 : decode cX3_weigh 69 = .ok (.imul, 1) := by decide +kernel
theorem dX3_weigh_70 : decode cX3_weigh 70 = .ok (.ireturn, 1) := by decide +kernel
theorem dX3_weigh_71 : decode cX3_weigh 71 = .ok (.aload_n 0, 1) := by decide +kernel
theorem dX3_weigh_72 : decode cX3_weigh 72 = .ok (.getfield 9, 3) := by decide +kernel
theorem dX3_weigh_75 : decode cX3_weigh 75 = .ok (.iconst 1, 1) := by decide +kernel
theorem dX3_weigh_76 : decode cX3_weigh 76 = .ok (.iadd, 1) := by decide +kernel
theorem dX3_weigh_77 : decode cX3_weigh 77 = .ok (.bipush 10, 2) := by decide +kernel
theorem dX3_weigh_79 : decode cX3_weigh 79 = .ok (.iadd, 1) := by decide +kernel
theorem dX3_weigh_80 : decode cX3_weigh 80 = .ok (.ireturn, 1) := by decide +kernel
theorem dX3_clockOfFailure_0 : decode cX3_clockOfFailure 0 = .ok (.aload_n 0, 1) := by decide +kernel
theorem dX3_clockOfFailure_1 : decode cX3_clockOfFailure 1 = .ok (.invokevirtual 34, 3) := by decide +kernel
theorem dX3_clockOfFailure_4 : decode cX3_clockOfFailure 4 = .ok (.goto 9, 3) := by decide +kernel
theorem dX3_clockOfFailure_7 : decode cX3_clockOfFailure 7 = .ok (.astore_n 1, 1) := by decide +kernel
theorem dX3_clockOfFailure_8 : decode cX3_clockOfFailure 8 = .ok (.aload_n 0, 1) := by decide +kernel
theorem dX3_clockOfFailure_9 : decode cX3_clockOfFailure 9 = .ok (.getfield 26, 3) := by decide +kernel
theorem dX3_clockOfFailure_12 : decode cX3_clockOfFailure 12 = .ok (.ireturn, 1) := by decide +kernel
theorem dX3_clockOfFailure_13 : decode cX3_clockOfFailure 13 = .ok (.bipush (-15), 2) := by decide +kernel
theorem dX3_clockOfFailure_15 : decode cX3_clockOfFailure 15 = .ok (.ireturn, 1) := by decide +kernel
theorem dX3_fail_0 : decode cX3_fail 0 = .ok (.aload_n 0, 1) := by decide +kernel
theorem dX3_fail_1 : decode cX3_fail 1 = .ok (.getfield 21, 3) := by decide +kernel
theorem dX3_fail_4 : decode cX3_fail 4 = .ok (.iconst 5, 1) := by decide +kernel
theorem dX3_fail_5 : decode cX3_fail 5 = .ok (.if_icmp .lt 13, 3) := by decide +kernel
theorem dX3_fail_8 : decode cX3_fail 8 = .ok (.new 37, 3) := by decide +kernel
theorem dX3_fail_11 : decode cX3_fail 11 = .ok (.dup, 1) := by decide +kernel
theorem dX3_fail_12 : decode cX3_fail 12 = .ok (.ldc 39, 2) := by decide +kernel
theorem dX3_fail_14 : decode cX3_fail 14 = .ok (.invokespecial 41, 3) := by decide +kernel
theorem dX3_fail_17 : decode cX3_fail 17 = .ok (.athrow, 1) := by decide +kernel
theorem dX3_fail_18 : decode cX3_fail 18 = .ok (.return_, 1) := by decide +kernel
theorem dX4_init_0 : decode cX4_init 0 = .ok (.aload_n 0, 1) := by decide +kernel
theorem dX4_init_1 : decode cX4_init 1 = .ok (.invokespecial 3, 3) := by decide +kernel
theorem dX4_init_4 : decode cX4_init 4 = .ok (.aload_n 0, 1) := by decide +kernel
theorem dX4_init_5 : decode cX4_init 5 = .ok (.iconst 0, 1) := by decide +kernel
theorem dX4_init_6 : decode cX4_init 6 = .ok (.putfield 9, 3) := by decide +kernel
theorem dX4_init_9 : decode cX4_init 9 = .ok (.aload_n 0, 1) := by decide +kernel
theorem dX4_init_10 : decode cX4_init 10 = .ok (.iconst 0, 1) := by decide +kernel
theorem dX4_init_11 : decode cX4_init 11 = .ok (.putfield 15, 3) := by decide +kernel
theorem dX4_init_14 : decode cX4_init 14 = .ok (.aload_n 0, 1) := by decide +kernel
theorem dX4_init_15 : decode cX4_init 15 = .ok (.iconst 0, 1) := by decide +kernel
theorem dX4_init_16 : decode cX4_init 16 = .ok (.putfield 18, 3) := by decide +kernel
theorem dX4_init_19 : decode cX4_init 19 = .ok (.aload_n 0, 1) := by decide +kernel
theorem dX4_init_20 : decode cX4_init 20 = .ok (.iconst 0, 1) := by decide +kernel
theorem dX4_init_21 : decode cX4_init 21 = .ok (.putfield 21, 3) := by decide +kernel
theorem dX4_init_24 : decode cX4_init 24 = .ok (.aload_n 0, 1) := by decide +kernel
theorem dX4_init_25 : decode cX4_init 25 = .ok (.iconst 0, 1) := by decide +kernel
theorem dX4_init_26 : decode cX4_init 26 = .ok (.putfield 24, 3) := by decide +kernel
theorem dX4_init_29 : decode cX4_init 29 = .ok (.aload_n 0, 1) := by decide +kernel
theorem dX4_init_30 : decode cX4_init 30 = .ok (.bipush 24, 2) := by decide +kernel
theorem dX4_init_32 : decode cX4_init 32 = .ok (.newarray .int, 2) := by decide +kernel
theorem dX4_init_34 : decode cX4_init 34 = .ok (.putfield 27, 3) := by decide +kernel
theorem dX4_init_37 : decode cX4_init 37 = .ok (.aload_n 0, 1) := by decide +kernel
theorem dX4_init_38 : decode cX4_init 38 = .ok (.bipush 24, 2) := by decide +kernel
theorem dX4_init_40 : decode cX4_init 40 = .ok (.newarray .int, 2) := by decide +kernel
theorem dX4_init_42 : decode cX4_init 42 = .ok (.putfield 31, 3) := by decide +kernel
theorem dX4_init_45 : decode cX4_init 45 = .ok (.aload_n 0, 1) := by decide +kernel
theorem dX4_init_46 : decode cX4_init 46 = .ok (.bipush 24, 2) := by decide +kernel
theorem dX4_init_48 : decode cX4_init 48 = .ok (.newarray .int, 2) := by decide +kernel
theorem dX4_init_50 : decode cX4_init 50 = .ok (.putfield 34, 3) := by decide +kernel
theorem dX4_init_53 : decode cX4_init 53 = .ok (.aload_n 0, 1) := by decide +kernel
theorem dX4_init_54 : decode cX4_init 54 = .ok (.bipush 24, 2) := by decide +kernel
theorem dX4_init_56 : decode cX4_init 56 = .ok (.newarray .int, 2) := by decide +kernel
theorem dX4_init_58 : decode cX4_init 58 = .ok (.putfield 37, 3) := by decide +kernel
theorem dX4_init_61 : decode cX4_init 61 = .ok (.aload_n 0, 1) := by decide +kernel
theorem dX4_init_62 : decode cX4_init 62 = .ok (.bipush 24, 2) := by decide +kernel
theorem dX4_init_64 : decode cX4_init 64 = .ok (.newarray .int, 2) := by decide +kernel
theorem dX4_init_66 : decode cX4_init 66 = .ok (.putfield 40, 3) := by decide +kernel
theorem dX4_init_69 : decode cX4_init 69 = .ok (.aload_n 0, 1) := by decide +kernel
theorem dX4_init_70 : decode cX4_init 70 = .ok (.bipush 24, 2) := by decide +kernel
theorem dX4_init_72 : decode cX4_init 72 = .ok (.newarray .int, 2) := by decide +kernel
theorem dX4_init_74 : decode cX4_init 74 = .ok (.putfield 43, 3) := by decide +kernel
theorem dX4_init_77 : decode cX4_init 77 = .ok (.aload_n 0, 1) := by decide +kernel
theorem dX4_init_78 : decode cX4_init 78 = .ok (.bipush 10, 2) := by decide +kernel
theorem dX4_init_80 : decode cX4_init 80 = .ok (.newarray .int, 2) := by decide +kernel
theorem dX4_init_82 : decode cX4_init 82 = .ok (.putfield 46, 3) := by decide +kernel
theorem dX4_init_85 : decode cX4_init 85 = .ok (.aload_n 0, 1) := by decide +kernel
theorem dX4_init_86 : decode cX4_init 86 = .ok (.iconst 4, 1) := by decide +kernel
theorem dX4_init_87 : decode cX4_init 87 = .ok (.newarray .int, 2) := by decide +kernel
theorem dX4_init_89 : decode cX4_init 89 = .ok (.putfield 49, 3) := by decide +kernel
theorem dX4_init_92 : decode cX4_init 92 = .ok (.aload_n 0, 1) := by decide +kernel
theorem dX4_init_93 : decode cX4_init 93 = .ok (.bipush 24, 2) := by decide +kernel
theorem dX4_init_95 : decode cX4_init 95 = .ok (.newarray .int, 2) := by decide +kernel
theorem dX4_init_97 : decode cX4_init 97 = .ok (.putfield 52, 3) := by decide +kernel
theorem dX4_init_100 : decode cX4_init 100 = .ok (.aload_n 0, 1) := by decide +kernel
theorem dX4_init_101 : decode cX4_init 101 = .ok (.sipush 384, 3) := by decide +kernel
theorem dX4_init_104 : decode cX4_init 104 = .ok (.newarray .long, 2) := by decide +kernel
theorem dX4_init_106 : decode cX4_init 106 = .ok (.putfield 55, 3) := by decide +kernel
theorem dX4_init_109 : decode cX4_init 109 = .ok (.return_, 1) := by decide +kernel
theorem dX4_isCell_0 : decode cX4_isCell 0 = .ok (.iload_n 1, 1) := by decide +kernel
theorem dX4_isCell_1 : decode cX4_isCell 1 = .ok (.ifCond .lt 15, 3) := by decide +kernel
theorem dX4_isCell_4 : decode cX4_isCell 4 = .ok (.iload_n 1, 1) := by decide +kernel
theorem dX4_isCell_5 : decode cX4_isCell 5 = .ok (.aload_n 0, 1) := by decide +kernel
theorem dX4_isCell_6 : decode cX4_isCell 6 = .ok (.getfield 9, 3) := by decide +kernel
theorem dX4_isCell_9 : decode cX4_isCell 9 = .ok (.if_icmp .ge 7, 3) := by decide +kernel
theorem dX4_isCell_12 : decode cX4_isCell 12 = .ok (.iconst 1, 1) := by decide +kernel
theorem dX4_isCell_13 : decode cX4_isCell 13 = .ok (.goto 4, 3) := by decide +kernel
theorem dX4_isCell_16 : decode cX4_isCell 16 = .ok (.iconst 0, 1) := by decide +kernel
theorem dX4_isCell_17 : decode cX4_isCell 17 = .ok (.ireturn, 1) := by decide +kernel
theorem dX4_isBit_0 : decode cX4_isBit 0 = .ok (.aload_n 0, 1) := by decide +kernel
theorem dX4_isBit_1 : decode cX4_isBit 1 = .ok (.iload_n 1, 1) := by decide +kernel
theorem dX4_isBit_2 : decode cX4_isBit 2 = .ok (.invokevirtual 59, 3) := by decide +kernel
theorem dX4_isBit_5 : decode cX4_isBit 5 = .ok (.ifCond .eq 17, 3) := by decide +kernel
theorem dX4_isBit_8 : decode cX4_isBit 8 = .ok (.aload_n 0, 1) := by decide +kernel
theorem dX4_isBit_9 : decode cX4_isBit 9 = .ok (.getfield 27, 3) := by decide +kernel
theorem dX4_isBit_12 : decode cX4_isBit 12 = .ok (.iload_n 1, 1) := by decide +kernel
theorem dX4_isBit_13 : decode cX4_isBit 13 = .ok (.iaload, 1) := by decide +kernel
theorem dX4_isBit_14 : decode cX4_isBit 14 = .ok (.iconst 5, 1) := by decide +kernel
theorem dX4_isBit_15 : decode cX4_isBit 15 = .ok (.if_icmp .lt 7, 3) := by decide +kernel
theorem dX4_isBit_18 : decode cX4_isBit 18 = .ok (.iconst 1, 1) := by decide +kernel
theorem dX4_isBit_19 : decode cX4_isBit 19 = .ok (.goto 4, 3) := by decide +kernel
theorem dX4_isBit_22 : decode cX4_isBit 22 = .ok (.iconst 0, 1) := by decide +kernel
theorem dX4_isBit_23 : decode cX4_isBit 23 = .ok (.ireturn, 1) := by decide +kernel
theorem dX4_isKeeper_0 : decode cX4_isKeeper 0 = .ok (.aload_n 0, 1) := by decide +kernel
theorem dX4_isKeeper_1 : decode cX4_isKeeper 1 = .ok (.iload_n 1, 1) := by decide +kernel
theorem dX4_isKeeper_2 : decode cX4_isKeeper 2 = .ok (.invokevirtual 59, 3) := by decide +kernel
theorem dX4_isKeeper_5 : decode cX4_isKeeper 5 = .ok (.ifCond .eq 18, 3) := by decide +kernel
theorem dX4_isKeeper_8 : decode cX4_isKeeper 8 = .ok (.aload_n 0, 1) := by decide +kernel
theorem dX4_isKeeper_9 : decode cX4_isKeeper 9 = .ok (.getfield 27, 3) := by decide +kernel
theorem dX4_isKeeper_12 : decode cX4_isKeeper 12 = .ok (.iload_n 1, 1) := by decide +kernel
theorem dX4_isKeeper_13 : decode cX4_isKeeper 13 = .ok (.iaload, 1) := by decide +kernel
theorem dX4_isKeeper_14 : decode cX4_isKeeper 14 = .ok (.bipush 6, 2) := by decide +kernel
theorem dX4_isKeeper_16 : decode cX4_isKeeper 16 = .ok (.if_icmp .ne 7, 3) := by decide +kernel
theorem dX4_isKeeper_19 : decode cX4_isKeeper 19 = .ok (.iconst 1, 1) := by decide +kernel
theorem dX4_isKeeper_20 : decode cX4_isKeeper 20 = .ok (.goto 4, 3) := by decide +kernel
theorem dX4_isKeeper_23 : decode cX4_isKeeper 23 = .ok (.iconst 0, 1) := by decide +kernel
theorem dX4_isKeeper_24 : decode cX4_isKeeper 24 = .ok (.ireturn, 1) := by decide +kernel
theorem dX4_takesNoBit_0 : decode cX4_takesNoBit 0 = .ok (.aload_n 0, 1) := by decide +kernel
theorem dX4_takesNoBit_1 : decode cX4_takesNoBit 1 = .ok (.getfield 9, 3) := by decide +kernel
theorem dX4_takesNoBit_4 : decode cX4_takesNoBit 4 = .ok (.bipush 24, 2) := by decide +kernel
theorem dX4_takesNoBit_6 : decode cX4_takesNoBit 6 = .ok (.if_icmp .ge 12, 3) := by decide +kernel
theorem dX4_takesNoBit_9 : decode cX4_takesNoBit 9 = .ok (.aload_n 0, 1) := by decide +kernel
theorem dX4_takesNoBit_10 : decode cX4_takesNoBit 10 = .ok (.getfield 15, 3) := by decide +kernel
theorem dX4_takesNoBit_13 : decode cX4_takesNoBit 13 = .ok (.bipush 10, 2) := by decide +kernel
theorem dX4_takesNoBit_15 : decode cX4_takesNoBit 15 = .ok (.if_icmp .lt 7, 3) := by decide +kernel
theorem dX4_takesNoBit_18 : decode cX4_takesNoBit 18 = .ok (.iconst 1, 1) := by decide +kernel
theorem dX4_takesNoBit_19 : decode cX4_takesNoBit 19 = .ok (.goto 4, 3) := by decide +kernel
theorem dX4_takesNoBit_22 : decode cX4_takesNoBit 22 = .ok (.iconst 0, 1) := by decide +kernel
theorem dX4_takesNoBit_23 : decode cX4_takesNoBit 23 = .ok (.ireturn, 1) := by decide +kernel
theorem dX4_addBit_0 : decode cX4_addBit 0 = .ok (.aload_n 0, 1) := by decide +kernel
theorem dX4_addBit_1 : decode cX4_addBit 1 = .ok (.getfield 9, 3) := by decide +kernel
theorem dX4_addBit_4 : decode cX4_addBit 4 = .ok (.istore 4, 2) := by decide +kernel
theorem dX4_addBit_6 : decode cX4_addBit 6 = .ok (.aload_n 0, 1) := by decide +kernel
theorem dX4_addBit_7 : decode cX4_addBit 7 = .ok (.getfield 15, 3) := by decide +kernel
theorem dX4_addBit_10 : decode cX4_addBit 10 = .ok (.istore 5, 2) := by decide +kernel
theorem dX4_addBit_12 : decode cX4_addBit 12 = .ok (.aload_n 0, 1) := by decide +kernel
theorem dX4_addBit_13 : decode cX4_addBit 13 = .ok (.iload 4, 2) := by decide +kernel
theorem dX4_addBit_15 : decode cX4_addBit 15 = .ok (.iload_n 1, 1) := by decide +kernel
theorem dX4_addBit_16 : decode cX4_addBit 16 = .ok (.iload_n 1, 1) := by decide +kernel
theorem dX4_addBit_17 : decode cX4_addBit 17 = .ok (.bipush 6, 2) := by decide +kernel
theorem dX4_addBit_19 : decode cX4_addBit 19 = .ok (.if_icmp .ne 8, 3) := by decide +kernel
theorem dX4_addBit_22 : decode cX4_addBit 22 = .ok (.iload 4, 2) := by decide +kernel
theorem dX4_addBit_24 : decode cX4_addBit 24 = .ok (.goto 5, 3) := by decide +kernel
theorem dX4_addBit_27 : decode cX4_addBit 27 = .ok (.bipush (-2), 2) := by decide +kernel
theorem dX4_addBit_29 : decode cX4_addBit 29 = .ok (.bipush (-2), 2) := by decide +kernel
theorem dX4_addBit_31 : decode cX4_addBit 31 = .ok (.bipush (-2), 2) := by decide +kernel
theorem dX4_addBit_33 : decode cX4_addBit 33 = .ok (.invokevirtual 63, 3) := by decide +kernel
theorem dX4_addBit_36 : decode cX4_addBit 36 = .ok (.aload_n 0, 1) := by decide +kernel
theorem dX4_addBit_37 : decode cX4_addBit 37 = .ok (.getfield 31, 3) := by decide +kernel
theorem dX4_addBit_40 : decode cX4_addBit 40 = .ok (.iload 4, 2) := by decide +kernel
theorem dX4_addBit_42 : decode cX4_addBit 42 = .ok (.iload_n 2, 1) := by decide +kernel
theorem dX4_addBit_43 : decode cX4_addBit 43 = .ok (.iastore, 1) := by decide +kernel
theorem dX4_addBit_44 : decode cX4_addBit 44 = .ok (.aload_n 0, 1) := by decide +kernel
theorem dX4_addBit_45 : decode cX4_addBit 45 = .ok (.getfield 43, 3) := by decide +kernel
theorem dX4_addBit_48 : decode cX4_addBit 48 = .ok (.iload 4, 2) := by decide +kernel
theorem dX4_addBit_50 : decode cX4_addBit 50 = .ok (.iload 5, 2) := by decide +kernel
theorem dX4_addBit_52 : decode cX4_addBit 52 = .ok (.iastore, 1) := by decide +kernel
theorem dX4_addBit_53 : decode cX4_addBit 53 = .ok (.aload_n 0, 1) := by decide +kernel
theorem dX4_addBit_54 : decode cX4_addBit 54 = .ok (.getfield 46, 3) := by decide +kernel
theorem dX4_addBit_57 : decode cX4_addBit 57 = .ok (.iload 5, 2) := by decide +kernel
theorem dX4_addBit_59 : decode cX4_addBit 59 = .ok (.iload 4, 2) := by decide +kernel
theorem dX4_addBit_61 : decode cX4_addBit 61 = .ok (.iastore, 1) := by decide +kernel
theorem dX4_addBit_62 : decode cX4_addBit 62 = .ok (.aload_n 0, 1) := by decide +kernel
theorem dX4_addBit_63 : decode cX4_addBit 63 = .ok (.getfield 49, 3) := by decide +kernel
theorem dX4_addBit_66 : decode cX4_addBit 66 = .ok (.iload_n 2, 1) := by decide +kernel
theorem dX4_addBit_67 : decode cX4_addBit 67 = .ok (.dup2, 1) := by decide +kernel
theorem dX4_addBit_68 : decode cX4_addBit 68 = .ok (.iaload, 1) := by decide +kernel
theorem dX4_addBit_69 : decode cX4_addBit 69 = .ok (.iconst 1, 1) := by decide +kernel
theorem dX4_addBit_70 : decode cX4_addBit 70 = .ok (.iload 5, 2) := by decide +kernel
theorem dX4_addBit_72 : decode cX4_addBit 72 = .ok (.ishl, 1) := by decide +kernel
theorem dX4_addBit_73 : decode cX4_addBit 73 = .ok (.ior, 1) := by decide +kernel
theorem dX4_addBit_74 : decode cX4_addBit 74 = .ok (.iastore, 1) := by decide +kernel
theorem dX4_addBit_75 : decode cX4_addBit 75 = .ok (.aload_n 0, 1) := by decide +kernel
theorem dX4_addBit_76 : decode cX4_addBit 76 = .ok (.dup, 1) := by decide +kernel
theorem dX4_addBit_77 : decode cX4_addBit 77 = .ok (.getfield 18, 3) := by decide +kernel
theorem dX4_addBit_80 : decode cX4_addBit 80 = .ok (.iload_n 3, 1) := by decide +kernel
theorem dX4_addBit_81 : decode cX4_addBit 81 = .ok (.iload 5, 2) := by decide +kernel
theorem dX4_addBit_83 : decode cX4_addBit 83 = .ok (.ishl, 1) := by decide +kernel
theorem dX4_addBit_84 : decode cX4_addBit 84 = .ok (.ior, 1) := by decide +kernel
theorem dX4_addBit_85 : decode cX4_addBit 85 = .ok (.putfield 18, 3) := by decide +kernel
theorem dX4_addBit_88 : decode cX4_addBit 88 = .ok (.aload_n 0, 1) := by decide +kernel
theorem dX4_addBit_89 : decode cX4_addBit 89 = .ok (.dup, 1) := by decide +kernel
theorem dX4_addBit_90 : decode cX4_addBit 90 = .ok (.getfield 24, 3) := by decide +kernel
theorem dX4_addBit_93 : decode cX4_addBit 93 = .ok (.iload_n 1, 1) := by decide +kernel
theorem dX4_addBit_94 : decode cX4_addBit 94 = .ok (.bipush 6, 2) := by decide +kernel
theorem dX4_addBit_96 : decode cX4_addBit 96 = .ok (.if_icmp .ne 10, 3) := by decide +kernel
theorem dX4_addBit_99 : decode cX4_addBit 99 = .ok (.iconst 1, 1) := by decide +kernel
theorem dX4_addBit_100 : decode cX4_addBit 100 = .ok (.iload 5, 2) := by decide +kernel
theorem dX4_addBit_102 : decode cX4_addBit 102 = .ok (.ishl, 1) := by decide +kernel
theorem dX4_addBit_103 : decode cX4_addBit 103 = .ok (.goto 4, 3) := by decide +kernel
theorem dX4_addBit_106 : decode cX4_addBit 106 = .ok (.iconst 0, 1) := by decide +kernel
theorem dX4_addBit_107 : decode cX4_addBit 107 = .ok (.ior, 1) := by decide +kernel
theorem dX4_addBit_108 : decode cX4_addBit 108 = .ok (.putfield 24, 3) := by decide +kernel
theorem dX4_addBit_111 : decode cX4_addBit 111 = .ok (.aload_n 0, 1) := by decide +kernel
theorem dX4_addBit_112 : decode cX4_addBit 112 = .ok (.getfield 52, 3) := by decide +kernel
theorem dX4_addBit_115 : decode cX4_addBit 115 = .ok (.iload 4, 2) := by decide +kernel
theorem dX4_addBit_117 : decode cX4_addBit 117 = .ok (.iconst 1, 1) := by decide +kernel
theorem dX4_addBit_118 : decode cX4_addBit 118 = .ok (.iload 5, 2) := by decide +kernel
theorem dX4_addBit_120 : decode cX4_addBit 120 = .ok (.ishl, 1) := by decide +kernel
theorem dX4_addBit_121 : decode cX4_addBit 121 = .ok (.iastore, 1) := by decide +kernel
theorem dX4_addBit_122 : decode cX4_addBit 122 = .ok (.iconst 0, 1) := by decide +kernel
theorem dX4_addBit_123 : decode cX4_addBit 123 = .ok (.istore 6, 2) := by decide +kernel
theorem dX4_addBit_125 : decode cX4_addBit 125 = .ok (.iload 6, 2) := by decide +kernel
theorem dX4_addBit_127 : decode cX4_addBit 127 = .ok (.bipush 16, 2) := by decide +kernel
theorem dX4_addBit_129 : decode cX4_addBit 129 = .ok (.if_icmp .ge 29, 3) := by decide +kernel
theorem dX4_addBit_132 : decode cX4_addBit 132 = .ok (.aload_n 0, 1) := by decide +kernel
theorem dX4_addBit_133 : decode cX4_addBit 133 = .ok (.getfield 55, 3) := by decide +kernel
theorem dX4_addBit_136 : decode cX4_addBit 136 = .ok (.iload 4, 2) := by decide +kernel
theorem dX4_addBit_138 : decode cX4_addBit 138 = .ok (.bipush 16, 2) := by decide +kernel
theorem dX4_addBit_140 : decode cX4_addBit 140 = .ok (.imul, 1) := by decide +kernel
theorem dX4_addBit_141 : decode cX4_addBit 141 = .ok (.iload 6, 2) := by decide +kernel
theorem dX4_addBit_143 : decode cX4_addBit 143 = .ok (.iadd, 1) := by decide +kernel
theorem dX4_addBit_144 : decode cX4_addBit 144 = .ok (.iload 5, 2) := by decide +kernel
theorem dX4_addBit_146 : decode cX4_addBit 146 = .ok (.iload 6, 2) := by decide +kernel
theorem dX4_addBit_148 : decode cX4_addBit 148 = .ok (.invokestatic 67, 3) := by decide +kernel
theorem dX4_addBit_151 : decode cX4_addBit 151 = .ok (.lastore, 1) := by decide +kernel
theorem dX4_addBit_152 : decode cX4_addBit 152 = .ok (.iinc 6 1, 3) := by decide +kernel
theorem dX4_addBit_155 : decode cX4_addBit 155 = .ok (.goto (-30), 3) := by decide +kernel
theorem dX4_addBit_158 : decode cX4_addBit 158 = .ok (.aload_n 0, 1) := by decide +kernel
theorem dX4_addBit_159 : decode cX4_addBit 159 = .ok (.dup, 1) := by decide +kernel
theorem dX4_addBit_160 : decode cX4_addBit 160 = .ok (.getfield 15, 3) := by decide +kernel
theorem dX4_addBit_163 : decode cX4_addBit 163 = .ok (.iconst 1, 1) := by decide +kernel
theorem dX4_addBit_164 : decode cX4_addBit 164 = .ok (.iadd, 1) := by decide +kernel
theorem dX4_addBit_165 : decode cX4_addBit 165 = .ok (.putfield 15, 3) := by decide +kernel
theorem dX4_addBit_168 : decode cX4_addBit 168 = .ok (.aload_n 0, 1) := by decide +kernel
theorem dX4_addBit_169 : decode cX4_addBit 169 = .ok (.dup, 1) := by decide +kernel
theorem dX4_addBit_170 : decode cX4_addBit 170 = .ok (.getfield 9, 3) := by decide +kernel
theorem dX4_addBit_173 : decode cX4_addBit 173 = .ok (.iconst 1, 1) := by decide +kernel
theorem dX4_addBit_174 : decode cX4_addBit 174 = .ok (.iadd, 1) := by decide +kernel
theorem dX4_addBit_175 : decode cX4_addBit 175 = .ok (.putfield 9, 3) := by decide +kernel
theorem dX4_addBit_178 : decode cX4_addBit 178 = .ok (.iload 4, 2) := by decide +kernel
theorem dX4_addBit_180 : decode cX4_addBit 180 = .ok (.ireturn, 1) := by decide +kernel
theorem dX4_addGate_0 : decode cX4_addGate 0 = .ok (.aload_n 0, 1) := by decide +kernel
theorem dX4_addGate_1 : decode cX4_addGate 1 = .ok (.getfield 9, 3) := by decide +kernel
theorem dX4_addGate_4 : decode cX4_addGate 4 = .ok (.istore 5, 2) := by decide +kernel
theorem dX4_addGate_6 : decode cX4_addGate 6 = .ok (.aload_n 0, 1) := by decide +kernel
theorem dX4_addGate_7 : decode cX4_addGate 7 = .ok (.iload 5, 2) := by decide +kernel
theorem dX4_addGate_9 : decode cX4_addGate 9 = .ok (.iload_n 1, 1) := by decide +kernel
theorem dX4_addGate_10 : decode cX4_addGate 10 = .ok (.iload_n 2, 1) := by decide +kernel
theorem dX4_addGate_11 : decode cX4_addGate 11 = .ok (.iload_n 3, 1) := by decide +kernel
theorem dX4_addGate_12 : decode cX4_addGate 12 = .ok (.iload 4, 2) := by decide +kernel
theorem dX4_addGate_14 : decode cX4_addGate 14 = .ok (.invokevirtual 63, 3) := by decide +kernel
theorem dX4_addGate_17 : decode cX4_addGate 17 = .ok (.aload_n 0, 1) := by decide +kernel
theorem dX4_addGate_18 : decode cX4_addGate 18 = .ok (.getfield 31, 3) := by decide +kernel
theorem dX4_addGate_21 : decode cX4_addGate 21 = .ok (.iload 5, 2) := by decide +kernel
theorem dX4_addGate_23 : decode cX4_addGate 23 = .ok (.bipush (-2), 2) := by decide +kernel
theorem dX4_addGate_25 : decode cX4_addGate 25 = .ok (.iastore, 1) := by decide +kernel
theorem dX4_addGate_26 : decode cX4_addGate 26 = .ok (.aload_n 0, 1) := by decide +kernel
theorem dX4_addGate_27 : decode cX4_addGate 27 = .ok (.getfield 43, 3) := by decide +kernel
theorem dX4_addGate_30 : decode cX4_addGate 30 = .ok (.iload 5, 2) := by decide +kernel
theorem dX4_addGate_32 : decode cX4_addGate 32 = .ok (.bipush (-2), 2) := by decide +kernel
theorem dX4_addGate_34 : decode cX4_addGate 34 = .ok (.iastore, 1) := by decide +kernel
theorem dX4_addGate_35 : decode cX4_addGate 35 = .ok (.aload_n 0, 1) := by decide +kernel
theorem dX4_addGate_36 : decode cX4_addGate 36 = .ok (.iload 5, 2) := by decide +kernel
theorem dX4_addGate_38 : decode cX4_addGate 38 = .ok (.invokevirtual 71, 3) := by decide +kernel
theorem dX4_addGate_41 : decode cX4_addGate 41 = .ok (.aload_n 0, 1) := by decide +kernel
theorem dX4_addGate_42 : decode cX4_addGate 42 = .ok (.dup, 1) := by decide +kernel
theorem dX4_addGate_43 : decode cX4_addGate 43 = .ok (.getfield 9, 3) := by decide +kernel
theorem dX4_addGate_46 : decode cX4_addGate 46 = .ok (.iconst 1, 1) := by decide +kernel
theorem dX4_addGate_47 : decode cX4_addGate 47 = .ok (.iadd, 1) := by decide +kernel
theorem dX4_addGate_48 : decode cX4_addGate 48 = .ok (.putfield 9, 3) := by decide +kernel
theorem dX4_addGate_51 : decode cX4_addGate 51 = .ok (.iload 5, 2) := by decide +kernel
theorem dX4_addGate_53 : decode cX4_addGate 53 = .ok (.ireturn, 1) := by decide +kernel
theorem dX4_addBehind_0 : decode cX4_addBehind 0 = .ok (.aload_n 0, 1) := by decide +kernel
theorem dX4_addBehind_1 : decode cX4_addBehind 1 = .ok (.bipush 6, 2) := by decide +kernel
theorem dX4_addBehind_3 : decode cX4_addBehind 3 = .ok (.aload_n 0, 1) := by decide +kernel
theorem dX4_addBehind_4 : decode cX4_addBehind 4 = .ok (.getfield 31, 3) := by decide +kernel
theorem dX4_addBehind_7 : decode cX4_addBehind 7 = .ok (.iload_n 1, 1) := by decide +kernel
theorem dX4_addBehind_8 : decode cX4_addBehind 8 = .ok (.iaload, 1) := by decide +kernel
theorem dX4_addBehind_9 : decode cX4_addBehind 9 = .ok (.aload_n 0, 1) := by decide +kernel
theorem dX4_addBehind_10 : decode cX4_addBehind 10 = .ok (.getfield 18, 3) := by decide +kernel
theorem dX4_addBehind_13 : decode cX4_addBehind 13 = .ok (.aload_n 0, 1) := by decide +kernel
theorem dX4_addBehind_14 : decode cX4_addBehind 14 = .ok (.getfield 43, 3) := by decide +kernel
theorem dX4_addBehind_17 : decode cX4_addBehind 17 = .ok (.iload_n 1, 1) := by decide +kernel
theorem dX4_addBehind_18 : decode cX4_addBehind 18 = .ok (.iaload, 1) := by decide +kernel
theorem dX4_addBehind_19 : decode cX4_addBehind 19 = .ok (.ishr, 1) := by decide +kernel
theorem dX4_addBehind_20 : decode cX4_addBehind 20 = .ok (.iconst 1, 1) := by decide +kernel
theorem dX4_addBehind_21 : decode cX4_addBehind 21 = .ok (.iand, 1) := by decide +kernel
theorem dX4_addBehind_22 : decode cX4_addBehind 22 = .ok (.invokevirtual 75, 3) := by decide +kernel
theorem dX4_addBehind_25 : decode cX4_addBehind 25 = .ok (.istore_n 2, 1) := by decide +kernel
theorem dX4_addBehind_26 : decode cX4_addBehind 26 = .ok (.iconst 0, 1) := by decide +kernel
theorem dX4_addBehind_27 : decode cX4_addBehind 27 = .ok (.istore_n 3, 1) := by decide +kernel
theorem dX4_addBehind_28 : decode cX4_addBehind 28 = .ok (.iload_n 3, 1) := by decide +kernel
theorem dX4_addBehind_29 : decode cX4_addBehind 29 = .ok (.aload_n 0, 1) := by decide +kernel
theorem dX4_addBehind_30 : decode cX4_addBehind 30 = .ok (.getfield 9, 3) := by decide +kernel
theorem dX4_addBehind_33 : decode cX4_addBehind 33 = .ok (.if_icmp .ge 102, 3) := by decide +kernel
theorem dX4_addBehind_36 : decode cX4_addBehind 36 = .ok (.aload_n 0, 1) := by decide +kernel
theorem dX4_addBehind_37 : decode cX4_addBehind 37 = .ok (.getfield 34, 3) := by decide +kernel
theorem dX4_addBehind_40 : decode cX4_addBehind 40 = .ok (.iload_n 3, 1) := by decide +kernel
theorem dX4_addBehind_41 : decode cX4_addBehind 41 = .ok (.aload_n 0, 1) := by decide +kernel
theorem dX4_addBehind_42 : decode cX4_addBehind 42 = .ok (.getfield 34, 3) := by decide +kernel
theorem dX4_addBehind_45 : decode cX4_addBehind 45 = .ok (.iload_n 3, 1) := by decide +kernel
theorem dX4_addBehind_46 : decode cX4_addBehind 46 = .ok (.iaload, 1) := by decide +kernel
theorem dX4_addBehind_47 : decode cX4_addBehind 47 = .ok (.iload_n 1, 1) := by decide +kernel
theorem dX4_addBehind_48 : decode cX4_addBehind 48 = .ok (.if_icmp .ne 7, 3) := by decide +kernel
theorem dX4_addBehind_51 : decode cX4_addBehind 51 = .ok (.iload_n 2, 1) := by decide +kernel
theorem dX4_addBehind_52 : decode cX4_addBehind 52 = .ok (.goto 9, 3) := by decide +kernel
theorem dX4_addBehind_55 : decode cX4_addBehind 55 = .ok (.aload_n 0, 1) := by decide +kernel
theorem dX4_addBehind_56 : decode cX4_addBehind 56 = .ok (.getfield 34, 3) := by decide +kernel
theorem dX4_addBehind_59 : decode cX4_addBehind 59 = .ok (.iload_n 3, 1) := by decide +kernel
theorem dX4_addBehind_60 : decode cX4_addBehind 60 = .ok (.iaload, 1) := by decide +kernel
theorem dX4_addBehind_61 : decode cX4_addBehind 61 = .ok (.iastore, 1) := by decide +kernel
theorem dX4_addBehind_62 : decode cX4_addBehind 62 = .ok (.aload_n 0, 1) := by decide +kernel
theorem dX4_addBehind_63 : decode cX4_addBehind 63 = .ok (.getfield 37, 3) := by decide +kernel
theorem dX4_addBehind_66 : decode cX4_addBehind 66 = .ok (.iload_n 3, 1) := by decide +kernel
theorem dX4_addBehind_67 : decode cX4_addBehind 67 = .ok (.aload_n 0, 1) := by decide +kernel
theorem dX4_addBehind_68 : decode cX4_addBehind 68 = .ok (.getfield 37, 3) := by decide +kernel
theorem dX4_addBehind_71 : decode cX4_addBehind 71 = .ok (.iload_n 3, 1) := by decide +kernel
theorem dX4_addBehind_72 : decode cX4_addBehind 72 = .ok (.iaload, 1) := by decide +kernel
theorem dX4_addBehind_73 : decode cX4_addBehind 73 = .ok (.iload_n 1, 1) := by decide +kernel
theorem dX4_addBehind_74 : decode cX4_addBehind 74 = .ok (.if_icmp .ne 7, 3) := by decide +kernel
theorem dX4_addBehind_77 : decode cX4_addBehind 77 = .ok (.iload_n 2, 1) := by decide +kernel
theorem dX4_addBehind_78 : decode cX4_addBehind 78 = .ok (.goto 9, 3) := by decide +kernel
theorem dX4_addBehind_81 : decode cX4_addBehind 81 = .ok (.aload_n 0, 1) := by decide +kernel
theorem dX4_addBehind_82 : decode cX4_addBehind 82 = .ok (.getfield 37, 3) := by decide +kernel
theorem dX4_addBehind_85 : decode cX4_addBehind 85 = .ok (.iload_n 3, 1) := by decide +kernel
theorem dX4_addBehind_86 : decode cX4_addBehind 86 = .ok (.iaload, 1) := by decide +kernel
theorem dX4_addBehind_87 : decode cX4_addBehind 87 = .ok (.iastore, 1) := by decide +kernel
theorem dX4_addBehind_88 : decode cX4_addBehind 88 = .ok (.aload_n 0, 1) := by decide +kernel
theorem dX4_addBehind_89 : decode cX4_addBehind 89 = .ok (.getfield 40, 3) := by decide +kernel
theorem dX4_addBehind_92 : decode cX4_addBehind 92 = .ok (.iload_n 3, 1) := by decide +kernel
theorem dX4_addBehind_93 : decode cX4_addBehind 93 = .ok (.aload_n 0, 1) := by decide +kernel
theorem dX4_addBehind_94 : decode cX4_addBehind 94 = .ok (.getfield 40, 3) := by decide +kernel
theorem dX4_addBehind_97 : decode cX4_addBehind 97 = .ok (.iload_n 3, 1) := by decide +kernel
theorem dX4_addBehind_98 : decode cX4_addBehind 98 = .ok (.iaload, 1) := by decide +kernel
theorem dX4_addBehind_99 : decode cX4_addBehind 99 = .ok (.iload_n 1, 1) := by decide +kernel
theorem dX4_addBehind_100 : decode cX4_addBehind 100 = .ok (.if_icmp .ne 7, 3) := by decide +kernel
theorem dX4_addBehind_103 : decode cX4_addBehind 103 = .ok (.iload_n 2, 1) := by decide +kernel
theorem dX4_addBehind_104 : decode cX4_addBehind 104 = .ok (.goto 9, 3) := by decide +kernel
theorem dX4_addBehind_107 : decode cX4_addBehind 107 = .ok (.aload_n 0, 1) := by decide +kernel
theorem dX4_addBehind_108 : decode cX4_addBehind 108 = .ok (.getfield 40, 3) := by decide +kernel
theorem dX4_addBehind_111 : decode cX4_addBehind 111 = .ok (.iload_n 3, 1) := by decide +kernel
theorem dX4_addBehind_112 : decode cX4_addBehind 112 = .ok (.iaload, 1) := by decide +kernel
theorem dX4_addBehind_113 : decode cX4_addBehind 113 = .ok (.iastore, 1) := by decide +kernel
theorem dX4_addBehind_114 : decode cX4_addBehind 114 = .ok (.aload_n 0, 1) := by decide +kernel
theorem dX4_addBehind_115 : decode cX4_addBehind 115 = .ok (.getfield 27, 3) := by decide +kernel
theorem dX4_addBehind_118 : decode cX4_addBehind 118 = .ok (.iload_n 3, 1) := by decide +kernel
theorem dX4_addBehind_119 : decode cX4_addBehind 119 = .ok (.iaload, 1) := by decide +kernel
theorem dX4_addBehind_120 : decode cX4_addBehind 120 = .ok (.iconst 4, 1) := by decide +kernel
theorem dX4_addBehind_121 : decode cX4_addBehind 121 = .ok (.if_icmp .gt 8, 3) := by decide +kernel
theorem dX4_addBehind_124 : decode cX4_addBehind 124 = .ok (.aload_n 0, 1) := by decide +kernel
theorem dX4_addBehind_125 : decode cX4_addBehind 125 = .ok (.iload_n 3, 1) := by decide +kernel
theorem dX4_addBehind_126 : decode cX4_addBehind 126 = .ok (.invokevirtual 71, 3) := by decide +kernel
theorem dX4_addBehind_129 : decode cX4_addBehind 129 = .ok (.iinc 3 1, 3) := by decide +kernel
theorem dX4_addBehind_132 : decode cX4_addBehind 132 = .ok (.goto (-104), 3) := by decide +kernel
theorem dX4_addBehind_135 : decode cX4_addBehind 135 = .ok (.aload_n 0, 1) := by decide +kernel
theorem dX4_addBehind_136 : decode cX4_addBehind 136 = .ok (.getfield 34, 3) := by decide +kernel
theorem dX4_addBehind_139 : decode cX4_addBehind 139 = .ok (.iload_n 2, 1) := by decide +kernel
theorem dX4_addBehind_140 : decode cX4_addBehind 140 = .ok (.iload_n 1, 1) := by decide +kernel
theorem dX4_addBehind_141 : decode cX4_addBehind 141 = .ok (.iastore, 1) := by decide +kernel
theorem dX4_addBehind_142 : decode cX4_addBehind 142 = .ok (.iload_n 2, 1) := by decide +kernel
theorem dX4_addBehind_143 : decode cX4_addBehind 143 = .ok (.ireturn, 1) := by decide +kernel
theorem dX4_valueOf_0 : decode cX4_valueOf 0 = .ok (.aload_n 0, 1) := by decide +kernel
theorem dX4_valueOf_1 : decode cX4_valueOf 1 = .ok (.getfield 55, 3) := by decide +kernel
theorem dX4_valueOf_4 : decode cX4_valueOf 4 = .ok (.iload_n 1, 1) := by decide +kernel
theorem dX4_valueOf_5 : decode cX4_valueOf 5 = .ok (.bipush 16, 2) := by decide +kernel
theorem dX4_valueOf_7 : decode cX4_valueOf 7 = .ok (.imul, 1) := by decide +kernel
theorem dX4_valueOf_8 : decode cX4_valueOf 8 = .ok (.iload_n 2, 1) := by decide +kernel
theorem dX4_valueOf_9 : decode cX4_valueOf 9 = .ok (.bipush 6, 2) := by decide +kernel
theorem dX4_valueOf_11 : decode cX4_valueOf 11 = .ok (.ishr, 1) := by decide +kernel
theorem dX4_valueOf_12 : decode cX4_valueOf 12 = .ok (.iadd, 1) := by decide +kernel
theorem dX4_valueOf_13 : decode cX4_valueOf 13 = .ok (.laload, 1) := by decide +kernel
theorem dX4_valueOf_14 : decode cX4_valueOf 14 = .ok (.iload_n 2, 1) := by decide +kernel
theorem dX4_valueOf_15 : decode cX4_valueOf 15 = .ok (.bipush 63, 2) := by decide +kernel
theorem dX4_valueOf_17 : decode cX4_valueOf 17 = .ok (.iand, 1) := by decide +kernel
theorem dX4_valueOf_18 : decode cX4_valueOf 18 = .ok (.lushr, 1) := by decide +kernel
theorem dX4_valueOf_19 : decode cX4_valueOf 19 = .ok (.l2i, 1) := by decide +kernel
theorem dX4_valueOf_20 : decode cX4_valueOf 20 = .ok (.iconst 1, 1) := by decide +kernel
theorem dX4_valueOf_21 : decode cX4_valueOf 21 = .ok (.iand, 1) := by decide +kernel
theorem dX4_valueOf_22 : decode cX4_valueOf 22 = .ok (.ireturn, 1) := by decide +kernel
theorem dX4_hasBothValues_0 : decode cX4_hasBothValues 0 = .ok (.iload_n 3, 1) := by decide +kernel
theorem dX4_hasBothValues_1 : decode cX4_hasBothValues 1 = .ok (.bipush 63, 2) := by decide +kernel
theorem dX4_hasBothValues_3 : decode cX4_hasBothValues 3 = .ok (.iand, 1) := by decide +kernel
theorem dX4_hasBothValues_4 : decode cX4_hasBothValues 4 = .ok (.istore 4, 2) := by decide +kernel
theorem dX4_hasBothValues_6 : decode cX4_hasBothValues 6 = .ok (.iload_n 3, 1) := by decide +kernel
theorem dX4_hasBothValues_7 : decode cX4_hasBothValues 7 = .ok (.bipush 6, 2) := by decide +kernel
theorem dX4_hasBothValues_9 : decode cX4_hasBothValues 9 = .ok (.ishr, 1) := by decide +kernel
theorem dX4_hasBothValues_10 : decode cX4_hasBothValues 10 = .ok (.istore 5, 2) := by decide +kernel
theorem dX4_hasBothValues_12 : decode cX4_hasBothValues 12 = .ok (.lconst 1, 1) := by decide +kernel
theorem dX4_hasBothValues_13 : decode cX4_hasBothValues 13 = .ok (.iload_n 2, 1) := by decide +kernel
theorem dX4_hasBothValues_14 : decode cX4_hasBothValues 14 = .ok (.bipush 63, 2) := by decide +kernel
theorem dX4_hasBothValues_16 : decode cX4_hasBothValues 16 = .ok (.iand, 1) := by decide +kernel
theorem dX4_hasBothValues_17 : decode cX4_hasBothValues 17 = .ok (.iload 4, 2) := by decide +kernel
theorem dX4_hasBothValues_19 : decode cX4_hasBothValues 19 = .ok (.iconst (-1), 1) := by decide +kernel
theorem dX4_hasBothValues_20 : decode cX4_hasBothValues 20 = .ok (.ixor, 1) := by decide +kernel
theorem dX4_hasBothValues_21 : decode cX4_hasBothValues 21 = .ok (.iand, 1) := by decide +kernel
theorem dX4_hasBothValues_22 : decode cX4_hasBothValues 22 = .ok (.lshl, 1) := by decide +kernel
theorem dX4_hasBothValues_23 : decode cX4_hasBothValues 23 = .ok (.lstore 6, 2) := by decide +kernel
theorem dX4_hasBothValues_25 : decode cX4_hasBothValues 25 = .ok (.iconst 0, 1) := by decide +kernel
theorem dX4_hasBothValues_26 : decode cX4_hasBothValues 26 = .ok (.istore 8, 2) := by decide +kernel
theorem dX4_hasBothValues_28 : decode cX4_hasBothValues 28 = .ok (.iload 8, 2) := by decide +kernel
theorem dX4_hasBothValues_30 : decode cX4_hasBothValues 30 = .ok (.getstatic 79, 3) := by decide +kernel
theorem dX4_hasBothValues_33 : decode cX4_hasBothValues 33 = .ok (.arraylength, 1) := by decide +kernel
theorem dX4_hasBothValues_34 : decode cX4_hasBothValues 34 = .ok (.if_icmp .ge 32, 3) := by decide +kernel
theorem dX4_hasBothValues_37 : decode cX4_hasBothValues 37 = .ok (.iload 4, 2) := by decide +kernel
theorem dX4_hasBothValues_39 : decode cX4_hasBothValues 39 = .ok (.iload 8, 2) := by decide +kernel
theorem dX4_hasBothValues_41 : decode cX4_hasBothValues 41 = .ok (.ishr, 1) := by decide +kernel
theorem dX4_hasBothValues_42 : decode cX4_hasBothValues 42 = .ok (.iconst 1, 1) := by decide +kernel
theorem dX4_hasBothValues_43 : decode cX4_hasBothValues 43 = .ok (.iand, 1) := by decide +kernel
theorem dX4_hasBothValues_44 : decode cX4_hasBothValues 44 = .ok (.iconst 1, 1) := by decide +kernel
theorem dX4_hasBothValues_45 : decode cX4_hasBothValues 45 = .ok (.if_icmp .ne 15, 3) := by decide +kernel
theorem dX4_hasBothValues_48 : decode cX4_hasBothValues 48 = .ok (.lload 6, 2) := by decide +kernel
theorem dX4_hasBothValues_50 : decode cX4_hasBothValues 50 = .ok (.lload 6, 2) := by decide +kernel
theorem dX4_hasBothValues_52 : decode cX4_hasBothValues 52 = .ok (.iconst 1, 1) := by decide +kernel
theorem dX4_hasBothValues_53 : decode cX4_hasBothValues 53 = .ok (.iload 8, 2) := by decide +kernel
theorem dX4_hasBothValues_55 : decode cX4_hasBothValues 55 = .ok (.ishl, 1) := by decide +kernel
theorem dX4_hasBothValues_56 : decode cX4_hasBothValues 56 = .ok (.lshl, 1) := by decide +kernel
theorem dX4_hasBothValues_57 : decode cX4_hasBothValues 57 = .ok (.lor, 1) := by decide +kernel
theorem dX4_hasBothValues_58 : decode cX4_hasBothValues 58 = .ok (.lstore 6, 2) := by decide +kernel
theorem dX4_hasBothValues_60 : decode cX4_hasBothValues 60 = .ok (.iinc 8 1, 3) := by decide +kernel
theorem dX4_hasBothValues_63 : decode cX4_hasBothValues 63 = .ok (.goto (-35), 3) := by decide +kernel
theorem dX4_hasBothValues_66 : decode cX4_hasBothValues 66 = .ok (.iload_n 1, 1) := by decide +kernel
theorem dX4_hasBothValues_67 : decode cX4_hasBothValues 67 = .ok (.bipush 16, 2) := by decide +kernel
theorem dX4_hasBothValues_69 : decode cX4_hasBothValues 69 = .ok (.imul, 1) := by decide +kernel
theorem dX4_hasBothValues_70 : decode cX4_hasBothValues 70 = .ok (.iload_n 2, 1) := by decide +kernel
theorem dX4_hasBothValues_71 : decode cX4_hasBothValues 71 = .ok (.bipush 6, 2) := by decide +kernel
theorem dX4_hasBothValues_73 : decode cX4_hasBothValues 73 = .ok (.ishr, 1) := by decide +kernel
theorem dX4_hasBothValues_74 : decode cX4_hasBothValues 74 = .ok (.iload 5, 2) := by decide +kernel
theorem dX4_hasBothValues_76 : decode cX4_hasBothValues 76 = .ok (.iconst (-1), 1) := by decide +kernel
theorem dX4_hasBothValues_77 : decode cX4_hasBothValues 77 = .ok (.ixor, 1) := by decide +kernel
theorem dX4_hasBothValues_78 : decode cX4_hasBothValues 78 = .ok (.iand, 1) := by decide +kernel
theorem dX4_hasBothValues_79 : decode cX4_hasBothValues 79 = .ok (.iadd, 1) := by decide +kernel
theorem dX4_hasBothValues_80 : decode cX4_hasBothValues 80 = .ok (.istore 8, 2) := by decide +kernel
theorem dX4_hasBothValues_82 : decode cX4_hasBothValues 82 = .ok (.lconst 0, 1) := by decide +kernel
theorem dX4_hasBothValues_83 : decode cX4_hasBothValues 83 = .ok (.lstore 9, 2) := by decide +kernel
theorem dX4_hasBothValues_85 : decode cX4_hasBothValues 85 = .ok (.lconst 0, 1) := by decide +kernel
theorem dX4_hasBothValues_86 : decode cX4_hasBothValues 86 = .ok (.lstore 11, 2) := by decide +kernel
theorem dX4_hasBothValues_88 : decode cX4_hasBothValues 88 = .ok (.iconst 0, 1) := by decide +kernel
theorem dX4_hasBothValues_89 : decode cX4_hasBothValues 89 = .ok (.istore 13, 2) := by decide +kernel
theorem dX4_hasBothValues_91 : decode cX4_hasBothValues 91 = .ok (.iload 13, 2) := by decide +kernel
theorem dX4_hasBothValues_93 : decode cX4_hasBothValues 93 = .ok (.iload 5, 2) := by decide +kernel
theorem dX4_hasBothValues_95 : decode cX4_hasBothValues 95 = .ok (.if_icmp .gt 55, 3) := by decide +kernel
theorem dX4_hasBothValues_98 : decode cX4_hasBothValues 98 = .ok (.iload 13, 2) := by decide +kernel
theorem dX4_hasBothValues_100 : decode cX4_hasBothValues 100 = .ok (.iload 5, 2) := by decide +kernel
theorem dX4_hasBothValues_102 : decode cX4_hasBothValues 102 = .ok (.iconst (-1), 1) := by decide +kernel
theorem dX4_hasBothValues_103 : decode cX4_hasBothValues 103 = .ok (.ixor, 1) := by decide +kernel
theorem dX4_hasBothValues_104 : decode cX4_hasBothValues 104 = .ok (.iand, 1) := by decide +kernel
theorem dX4_hasBothValues_105 : decode cX4_hasBothValues 105 = .ok (.ifCond .ne 39, 3) := by decide +kernel
theorem dX4_hasBothValues_108 : decode cX4_hasBothValues 108 = .ok (.aload_n 0, 1) := by decide +kernel
theorem dX4_hasBothValues_109 : decode cX4_hasBothValues 109 = .ok (.getfield 55, 3) := by decide +kernel
theorem dX4_hasBothValues_112 : decode cX4_hasBothValues 112 = .ok (.iload 8, 2) := by decide +kernel
theorem dX4_hasBothValues_114 : decode cX4_hasBothValues 114 = .ok (.iload 13, 2) := by decide +kernel
theorem dX4_hasBothValues_116 : decode cX4_hasBothValues 116 = .ok (.iadd, 1) := by decide +kernel
theorem dX4_hasBothValues_117 : decode cX4_hasBothValues 117 = .ok (.laload, 1) := by decide +kernel
theorem dX4_hasBothValues_118 : decode cX4_hasBothValues 118 = .ok (.lstore 14, 2) := by decide +kernel
theorem dX4_hasBothValues_120 : decode cX4_hasBothValues 120 = .ok (.lload 9, 2) := by decide +kernel
theorem dX4_hasBothValues_122 : decode cX4_hasBothValues 122 = .ok (.lload 14, 2) := by decide +kernel
theorem dX4_hasBothValues_124 : decode cX4_hasBothValues 124 = .ok (.lload 6, 2) := by decide +kernel
theorem dX4_hasBothValues_126 : decode cX4_hasBothValues 126 = .ok (.land, 1) := by decide +kernel
theorem dX4_hasBothValues_127 : decode cX4_hasBothValues 127 = .ok (.lor, 1) := by decide +kernel
theorem dX4_hasBothValues_128 : decode cX4_hasBothValues 128 = .ok (.lstore 9, 2) := by decide +kernel
theorem dX4_hasBothValues_130 : decode cX4_hasBothValues 130 = .ok (.lload 11, 2) := by decide +kernel
theorem dX4_hasBothValues_132 : decode cX4_hasBothValues 132 = .ok (.lload 14, 2) := by decide +kernel
theorem dX4_hasBothValues_134 : decode cX4_hasBothValues 134 = .ok (.ldc2_w 82, 3) := by decide +kernel
theorem dX4_hasBothValues_137 : decode cX4_hasBothValues 137 = .ok (.lxor, 1) := by decide +kernel
theorem dX4_hasBothValues_138 : decode cX4_hasBothValues 138 = .ok (.lload 6, 2) := by decide +kernel
theorem dX4_hasBothValues_140 : decode cX4_hasBothValues 140 = .ok (.land, 1) := by decide +kernel
theorem dX4_hasBothValues_141 : decode cX4_hasBothValues 141 = .ok (.lor, 1) := by decide +kernel
theorem dX4_hasBothValues_142 : decode cX4_hasBothValues 142 = .ok (.lstore 11, 2) := by decide +kernel
theorem dX4_hasBothValues_144 : decode cX4_hasBothValues 144 = .ok (.iinc 13 1, 3) := by decide +kernel
theorem dX4_hasBothValues_147 : decode cX4_hasBothValues 147 = .ok (.goto (-56), 3) := by decide +kernel
theorem dX4_hasBothValues_150 : decode cX4_hasBothValues 150 = .ok (.lload 9, 2) := by decide +kernel
theorem dX4_hasBothValues_152 : decode cX4_hasBothValues 152 = .ok (.lconst 0, 1) := by decide +kernel
theorem dX4_hasBothValues_153 : decode cX4_hasBothValues 153 = .ok (.lcmp, 1) := by decide +kernel
theorem dX4_hasBothValues_154 : decode cX4_hasBothValues 154 = .ok (.ifCond .eq 14, 3) := by decide +kernel
theorem dX4_hasBothValues_157 : decode cX4_hasBothValues 157 = .ok (.lload 11, 2) := by decide +kernel
theorem dX4_hasBothValues_159 : decode cX4_hasBothValues 159 = .ok (.lconst 0, 1) := by decide +kernel
theorem dX4_hasBothValues_160 : decode cX4_hasBothValues 160 = .ok (.lcmp, 1) := by decide +kernel
theorem dX4_hasBothValues_161 : decode cX4_hasBothValues 161 = .ok (.ifCond .eq 7, 3) := by decide +kernel
theorem dX4_hasBothValues_164 : decode cX4_hasBothValues 164 = .ok (.iconst 1, 1) := by decide +kernel
theorem dX4_hasBothValues_165 : decode cX4_hasBothValues 165 = .ok (.goto 4, 3) := by decide +kernel
theorem dX4_hasBothValues_168 : decode cX4_hasBothValues 168 = .ok (.iconst 0, 1) := by decide +kernel
theorem dX4_hasBothValues_169 : decode cX4_hasBothValues 169 = .ok (.ireturn, 1) := by decide +kernel
theorem dX4_bitsOfSet_0 : decode cX4_bitsOfSet 0 = .ok (.iconst 0, 1) := by decide +kernel
theorem dX4_bitsOfSet_1 : decode cX4_bitsOfSet 1 = .ok (.istore_n 2, 1) := by decide +kernel
theorem dX4_bitsOfSet_2 : decode cX4_bitsOfSet 2 = .ok (.iconst 0, 1) := by decide +kernel
theorem dX4_bitsOfSet_3 : decode cX4_bitsOfSet 3 = .ok (.istore_n 3, 1) := by decide +kernel
theorem dX4_bitsOfSet_4 : decode cX4_bitsOfSet 4 = .ok (.iload_n 3, 1) := by decide +kernel
theorem dX4_bitsOfSet_5 : decode cX4_bitsOfSet 5 = .ok (.iconst 4, 1) := by decide +kernel
theorem dX4_bitsOfSet_6 : decode cX4_bitsOfSet 6 = .ok (.if_icmp .ge 27, 3) := by decide +kernel
theorem dX4_bitsOfSet_9 : decode cX4_bitsOfSet 9 = .ok (.iload_n 1, 1) := by decide +kernel
theorem dX4_bitsOfSet_10 : decode cX4_bitsOfSet 10 = .ok (.iload_n 3, 1) := by decide +kernel
theorem dX4_bitsOfSet_11 : decode cX4_bitsOfSet 11 = .ok (.ishr, 1) := by decide +kernel
theorem dX4_bitsOfSet_12 : decode cX4_bitsOfSet 12 = .ok (.iconst 1, 1) := by decide +kernel
theorem dX4_bitsOfSet_13 : decode cX4_bitsOfSet 13 = .ok (.iand, 1) := by decide +kernel
theorem dX4_bitsOfSet_14 : decode cX4_bitsOfSet 14 = .ok (.iconst 1, 1) := by decide +kernel
theorem dX4_bitsOfSet_15 : decode cX4_bitsOfSet 15 = .ok (.if_icmp .ne 12, 3) := by decide +kernel
theorem dX4_bitsOfSet_18 : decode cX4_bitsOfSet 18 = .ok (.iload_n 2, 1) := by decide +kernel
theorem dX4_bitsOfSet_19 : decode cX4_bitsOfSet 19 = .ok (.aload_n 0, 1) := by decide +kernel
theorem dX4_bitsOfSet_20 : decode cX4_bitsOfSet 20 = .ok (.getfield 49, 3) := by decide +kernel
theorem dX4_bitsOfSet_23 : decode cX4_bitsOfSet 23 = .ok (.iload_n 3, 1) := by decide +kernel
theorem dX4_bitsOfSet_24 : decode cX4_bitsOfSet 24 = .ok (.iaload, 1) := by decide +kernel
theorem dX4_bitsOfSet_25 : decode cX4_bitsOfSet 25 = .ok (.ior, 1) := by decide +kernel
theorem dX4_bitsOfSet_26 : decode cX4_bitsOfSet 26 = .ok (.istore_n 2, 1) := by decide +kernel
theorem dX4_bitsOfSet_27 : decode cX4_bitsOfSet 27 = .ok (.iinc 3 1, 3) := by decide +kernel
theorem dX4_bitsOfSet_30 : decode cX4_bitsOfSet 30 = .ok (.goto (-26), 3) := by decide +kernel
theorem dX4_bitsOfSet_33 : decode cX4_bitsOfSet 33 = .ok (.iload_n 2, 1) := by decide +kernel
theorem dX4_bitsOfSet_34 : decode cX4_bitsOfSet 34 = .ok (.ireturn, 1) := by decide +kernel
theorem dX4_clocksInUse_0 : decode cX4_clocksInUse 0 = .ok (.iconst 0, 1) := by decide +kernel
theorem dX4_clocksInUse_1 : decode cX4_clocksInUse 1 = .ok (.istore_n 1, 1) := by decide +kernel
theorem dX4_clocksInUse_2 : decode cX4_clocksInUse 2 = .ok (.iconst 0, 1) := by decide +kernel
theorem dX4_clocksInUse_3 : decode cX4_clocksInUse 3 = .ok (.istore_n 2, 1) := by decide +kernel
theorem dX4_clocksInUse_4 : decode cX4_clocksInUse 4 = .ok (.iload_n 2, 1) := by decide +kernel
theorem dX4_clocksInUse_5 : decode cX4_clocksInUse 5 = .ok (.iconst 4, 1) := by decide +kernel
theorem dX4_clocksInUse_6 : decode cX4_clocksInUse 6 = .ok (.if_icmp .ge 28, 3) := by decide +kernel
theorem dX4_clocksInUse_9 : decode cX4_clocksInUse 9 = .ok (.iload_n 1, 1) := by decide +kernel
theorem dX4_clocksInUse_10 : decode cX4_clocksInUse 10 = .ok (.aload_n 0, 1) := by decide +kernel
theorem dX4_clocksInUse_11 : decode cX4_clocksInUse 11 = .ok (.getfield 49, 3) := by decide +kernel
theorem dX4_clocksInUse_14 : decode cX4_clocksInUse 14 = .ok (.iload_n 2, 1) := by decide +kernel
theorem dX4_clocksInUse_15 : decode cX4_clocksInUse 15 = .ok (.iaload, 1) := by decide +kernel
theorem dX4_clocksInUse_16 : decode cX4_clocksInUse 16 = .ok (.ifCond .eq 9, 3) := by decide +kernel
theorem dX4_clocksInUse_19 : decode cX4_clocksInUse 19 = .ok (.iconst 1, 1) := by decide +kernel
theorem dX4_clocksInUse_20 : decode cX4_clocksInUse 20 = .ok (.iload_n 2, 1) := by decide +kernel
theorem dX4_clocksInUse_21 : decode cX4_clocksInUse 21 = .ok (.ishl, 1) := by decide +kernel
theorem dX4_clocksInUse_22 : decode cX4_clocksInUse 22 = .ok (.goto 4, 3) := by decide +kernel
theorem dX4_clocksInUse_25 : decode cX4_clocksInUse 25 = .ok (.iconst 0, 1) := by decide +kernel
theorem dX4_clocksInUse_26 : decode cX4_clocksInUse 26 = .ok (.ior, 1) := by decide +kernel
theorem dX4_clocksInUse_27 : decode cX4_clocksInUse 27 = .ok (.istore_n 1, 1) := by decide +kernel
theorem dX4_clocksInUse_28 : decode cX4_clocksInUse 28 = .ok (.iinc 2 1, 3) := by decide +kernel
theorem dX4_clocksInUse_31 : decode cX4_clocksInUse 31 = .ok (.goto (-27), 3) := by decide +kernel
theorem dX4_clocksInUse_34 : decode cX4_clocksInUse 34 = .ok (.iload_n 1, 1) := by decide +kernel
theorem dX4_clocksInUse_35 : decode cX4_clocksInUse 35 = .ok (.ireturn, 1) := by decide +kernel
theorem dX4_bitsBetween_0 : decode cX4_bitsBetween 0 = .ok (.iconst 0, 1) := by decide +kernel
theorem dX4_bitsBetween_1 : decode cX4_bitsBetween 1 = .ok (.istore_n 3, 1) := by decide +kernel
theorem dX4_bitsBetween_2 : decode cX4_bitsBetween 2 = .ok (.iconst 0, 1) := by decide +kernel
theorem dX4_bitsBetween_3 : decode cX4_bitsBetween 3 = .ok (.istore 4, 2) := by decide +kernel
theorem dX4_bitsBetween_5 : decode cX4_bitsBetween 5 = .ok (.iload 4, 2) := by decide +kernel
theorem dX4_bitsBetween_7 : decode cX4_bitsBetween 7 = .ok (.aload_n 0, 1) := by decide +kernel
theorem dX4_bitsBetween_8 : decode cX4_bitsBetween 8 = .ok (.getfield 15, 3) := by decide +kernel
theorem dX4_bitsBetween_11 : decode cX4_bitsBetween 11 = .ok (.if_icmp .ge 38, 3) := by decide +kernel
theorem dX4_bitsBetween_14 : decode cX4_bitsBetween 14 = .ok (.aload_n 0, 1) := by decide +kernel
theorem dX4_bitsBetween_15 : decode cX4_bitsBetween 15 = .ok (.getfield 46, 3) := by decide +kernel
theorem dX4_bitsBetween_18 : decode cX4_bitsBetween 18 = .ok (.iload 4, 2) := by decide +kernel
theorem dX4_bitsBetween_20 : decode cX4_bitsBetween 20 = .ok (.iaload, 1) := by decide +kernel
theorem dX4_bitsBetween_21 : decode cX4_bitsBetween 21 = .ok (.iload_n 1, 1) := by decide +kernel
theorem dX4_bitsBetween_22 : decode cX4_bitsBetween 22 = .ok (.if_icmp .lt 21, 3) := by decide +kernel
theorem dX4_bitsBetween_25 : decode cX4_bitsBetween 25 = .ok (.aload_n 0, 1) := by decide +kernel
theorem dX4_bitsBetween_26 : decode cX4_bitsBetween 26 = .ok (.getfield 46, 3) := by decide +kernel
theorem dX4_bitsBetween_29 : decode cX4_bitsBetween 29 = .ok (.iload 4, 2) := by decide +kernel
theorem dX4_bitsBetween_31 : decode cX4_bitsBetween 31 = .ok (.iaload, 1) := by decide +kernel
theorem dX4_bitsBetween_32 : decode cX4_bitsBetween 32 = .ok (.iload_n 2, 1) := by decide +kernel
theorem dX4_bitsBetween_33 : decode cX4_bitsBetween 33 = .ok (.if_icmp .gt 10, 3) := by decide +kernel
theorem dX4_bitsBetween_36 : decode cX4_bitsBetween 36 = .ok (.iload_n 3, 1) := by decide +kernel
theorem dX4_bitsBetween_37 : decode cX4_bitsBetween 37 = .ok (.iconst 1, 1) := by decide +kernel
theorem dX4_bitsBetween_38 : decode cX4_bitsBetween 38 = .ok (.iload 4, 2) := by decide +kernel
theorem dX4_bitsBetween_40 : decode cX4_bitsBetween 40 = .ok (.ishl, 1) := by decide +kernel
theorem dX4_bitsBetween_41 : decode cX4_bitsBetween 41 = .ok (.ior, 1) := by decide +kernel
theorem dX4_bitsBetween_42 : decode cX4_bitsBetween 42 = .ok (.istore_n 3, 1) := by decide +kernel
theorem dX4_bitsBetween_43 : decode cX4_bitsBetween 43 = .ok (.iinc 4 1, 3) := by decide +kernel
theorem dX4_bitsBetween_46 : decode cX4_bitsBetween 46 = .ok (.goto (-41), 3) := by decide +kernel
theorem dX4_bitsBetween_49 : decode cX4_bitsBetween 49 = .ok (.iload_n 3, 1) := by decide +kernel
theorem dX4_bitsBetween_50 : decode cX4_bitsBetween 50 = .ok (.ireturn, 1) := by decide +kernel
theorem dX4_foreignBits_0 : decode cX4_foreignBits 0 = .ok (.aload_n 0, 1) := by decide +kernel
theorem dX4_foreignBits_1 : decode cX4_foreignBits 1 = .ok (.getfield 52, 3) := by decide +kernel
theorem dX4_foreignBits_4 : decode cX4_foreignBits 4 = .ok (.aload_n 0, 1) := by decide +kernel
theorem dX4_foreignBits_5 : decode cX4_foreignBits 5 = .ok (.getfield 34, 3) := by decide +kernel
theorem dX4_foreignBits_8 : decode cX4_foreignBits 8 = .ok (.iload_n 1, 1) := by decide +kernel
theorem dX4_foreignBits_9 : decode cX4_foreignBits 9 = .ok (.iaload, 1) := by decide +kernel
theorem dX4_foreignBits_10 : decode cX4_foreignBits 10 = .ok (.iaload, 1) := by decide +kernel
theorem dX4_foreignBits_11 : decode cX4_foreignBits 11 = .ok (.aload_n 0, 1) := by decide +kernel
theorem dX4_foreignBits_12 : decode cX4_foreignBits 12 = .ok (.getfield 49, 3) := by decide +kernel
theorem dX4_foreignBits_15 : decode cX4_foreignBits 15 = .ok (.aload_n 0, 1) := by decide +kernel
theorem dX4_foreignBits_16 : decode cX4_foreignBits 16 = .ok (.getfield 31, 3) := by decide +kernel
theorem dX4_foreignBits_19 : decode cX4_foreignBits 19 = .ok (.iload_n 1, 1) := by decide +kernel
theorem dX4_foreignBits_20 : decode cX4_foreignBits 20 = .ok (.iaload, 1) := by decide +kernel
theorem dX4_foreignBits_21 : decode cX4_foreignBits 21 = .ok (.iaload, 1) := by decide +kernel
theorem dX4_foreignBits_22 : decode cX4_foreignBits 22 = .ok (.iconst (-1), 1) := by decide +kernel
theorem dX4_foreignBits_23 : decode cX4_foreignBits 23 = .ok (.ixor, 1) := by decide +kernel
theorem dX4_foreignBits_24 : decode cX4_foreignBits 24 = .ok (.iand, 1) := by decide +kernel
theorem dX4_foreignBits_25 : decode cX4_foreignBits 25 = .ok (.ireturn, 1) := by decide +kernel
theorem dX4_asCells_0 : decode cX4_asCells 0 = .ok (.iconst 0, 1) := by decide +kernel
theorem dX4_asCells_1 : decode cX4_asCells 1 = .ok (.istore_n 2, 1) := by decide +kernel
theorem dX4_asCells_2 : decode cX4_asCells 2 = .ok (.iconst 0, 1) := by decide +kernel
theorem dX4_asCells_3 : decode cX4_asCells 3 = .ok (.istore_n 3, 1) := by decide +kernel
theorem dX4_asCells_4 : decode cX4_asCells 4 = .ok (.iload_n 3, 1) := by decide +kernel
theorem dX4_asCells_5 : decode cX4_asCells 5 = .ok (.aload_n 0, 1) := by decide +kernel
theorem dX4_asCells_6 : decode cX4_asCells 6 = .ok (.getfield 15, 3) := by decide +kernel
theorem dX4_asCells_9 : decode cX4_asCells 9 = .ok (.if_icmp .ge 24, 3) := by decide +kernel
theorem dX4_asCells_12 : decode cX4_asCells 12 = .ok (.iload_n 2, 1) := by decide +kernel
theorem dX4_asCells_13 : decode cX4_asCells 13 = .ok (.iload_n 1, 1) := by decide +kernel
theorem dX4_asCells_14 : decode cX4_asCells 14 = .ok (.iload_n 3, 1) := by decide +kernel
theorem dX4_asCells_15 : decode cX4_asCells 15 = .ok (.ishr, 1) := by decide +kernel
theorem dX4_asCells_16 : decode cX4_asCells 16 = .ok (.iconst 1, 1) := by decide +kernel
theorem dX4_asCells_17 : decode cX4_asCells 17 = .ok (.iand, 1) := by decide +kernel
theorem dX4_asCells_18 : decode cX4_asCells 18 = .ok (.aload_n 0, 1) := by decide +kernel
theorem dX4_asCells_19 : decode cX4_asCells 19 = .ok (.getfield 46, 3) := by decide +kernel
theorem dX4_asCells_22 : decode cX4_asCells 22 = .ok (.iload_n 3, 1) := by decide +kernel
theorem dX4_asCells_23 : decode cX4_asCells 23 = .ok (.iaload, 1) := by decide +kernel
theorem dX4_asCells_24 : decode cX4_asCells 24 = .ok (.ishl, 1) := by decide +kernel
theorem dX4_asCells_25 : decode cX4_asCells 25 = .ok (.ior, 1) := by decide +kernel
theorem dX4_asCells_26 : decode cX4_asCells 26 = .ok (.istore_n 2, 1) := by decide +kernel
theorem dX4_asCells_27 : decode cX4_asCells 27 = .ok (.iinc 3 1, 3) := by decide +kernel
theorem dX4_asCells_30 : decode cX4_asCells 30 = .ok (.goto (-26), 3) := by decide +kernel
theorem dX4_asCells_33 : decode cX4_asCells 33 = .ok (.iload_n 2, 1) := by decide +kernel
theorem dX4_asCells_34 : decode cX4_asCells 34 = .ok (.ireturn, 1) := by decide +kernel
theorem dX4_put_0 : decode cX4_put 0 = .ok (.aload_n 0, 1) := by decide +kernel
theorem dX4_put_1 : decode cX4_put 1 = .ok (.getfield 27, 3) := by decide +kernel
theorem dX4_put_4 : decode cX4_put 4 = .ok (.iload_n 1, 1) := by decide +kernel
theorem dX4_put_5 : decode cX4_put 5 = .ok (.iload_n 2, 1) := by decide +kernel
theorem dX4_put_6 : decode cX4_put 6 = .ok (.iastore, 1) := by decide +kernel
theorem dX4_put_7 : decode cX4_put 7 = .ok (.aload_n 0, 1) := by decide +kernel
theorem dX4_put_8 : decode cX4_put 8 = .ok (.getfield 34, 3) := by decide +kernel
theorem dX4_put_11 : decode cX4_put 11 = .ok (.iload_n 1, 1) := by decide +kernel
theorem dX4_put_12 : decode cX4_put 12 = .ok (.iload_n 3, 1) := by decide +kernel
theorem dX4_put_13 : decode cX4_put 13 = .ok (.iastore, 1) := by decide +kernel
theorem dX4_put_14 : decode cX4_put 14 = .ok (.aload_n 0, 1) := by decide +kernel
theorem dX4_put_15 : decode cX4_put 15 = .ok (.getfield 37, 3) := by decide +kernel
theorem dX4_put_18 : decode cX4_put 18 = .ok (.iload_n 1, 1) := by decide +kernel
theorem dX4_put_19 : decode cX4_put 19 = .ok (.iload 4, 2) := by decide +kernel
theorem dX4_put_21 : decode cX4_put 21 = .ok (.iastore, 1) := by decide +kernel
theorem dX4_put_22 : decode cX4_put 22 = .ok (.aload_n 0, 1) := by decide +kernel
theorem dX4_put_23 : decode cX4_put 23 = .ok (.getfield 40, 3) := by decide +kernel
theorem dX4_put_26 : decode cX4_put 26 = .ok (.iload_n 1, 1) := by decide +kernel
theorem dX4_put_27 : decode cX4_put 27 = .ok (.iload 5, 2) := by decide +kernel
theorem dX4_put_29 : decode cX4_put 29 = .ok (.iastore, 1) := by decide +kernel
theorem dX4_put_30 : decode cX4_put 30 = .ok (.return_, 1) := by decide +kernel
theorem dX4_workOut_0 : decode cX4_workOut 0 = .ok (.aload_n 0, 1) := by decide +kernel
theorem dX4_workOut_1 : decode cX4_workOut 1 = .ok (.getfield 34, 3) := by decide +kernel
theorem dX4_workOut_4 : decode cX4_workOut 4 = .ok (.iload_n 1, 1) := by decide +kernel
theorem dX4_workOut_5 : decode cX4_workOut 5 = .ok (.iaload, 1) := by decide +kernel
theorem dX4_workOut_6 : decode cX4_workOut 6 = .ok (.istore_n 2, 1) := by decide +kernel
theorem dX4_workOut_7 : decode cX4_workOut 7 = .ok (.aload_n 0, 1) := by decide +kernel
theorem dX4_workOut_8 : decode cX4_workOut 8 = .ok (.getfield 37, 3) := by decide +kernel
theorem dX4_workOut_11 : decode cX4_workOut 11 = .ok (.iload_n 1, 1) := by decide +kernel
theorem dX4_workOut_12 : decode cX4_workOut 12 = .ok (.iaload, 1) := by decide +kernel
theorem dX4_workOut_13 : decode cX4_workOut 13 = .ok (.ifCond .ge 7, 3) := by decide +kernel
theorem dX4_workOut_16 : decode cX4_workOut 16 = .ok (.iload_n 2, 1) := by decide +kernel
theorem dX4_workOut_17 : decode cX4_workOut 17 = .ok (.goto 9, 3) := by decide +kernel
theorem dX4_workOut_20 : decode cX4_workOut 20 = .ok (.aload_n 0, 1) := by decide +kernel
theorem dX4_workOut_21 : decode cX4_workOut 21 = .ok (.getfield 37, 3) := by decide +kernel
theorem dX4_workOut_24 : decode cX4_workOut 24 = .ok (.iload_n 1, 1) := by decide +kernel
theorem dX4_workOut_25 : decode cX4_workOut 25 = .ok (.iaload, 1) := by decide +kernel
theorem dX4_workOut_26 : decode cX4_workOut 26 = .ok (.istore_n 3, 1) := by decide +kernel
theorem dX4_workOut_27 : decode cX4_workOut 27 = .ok (.aload_n 0, 1) := by decide +kernel
theorem dX4_workOut_28 : decode cX4_workOut 28 = .ok (.getfield 40, 3) := by decide +kernel
theorem dX4_workOut_31 : decode cX4_workOut 31 = .ok (.iload_n 1, 1) := by decide +kernel
theorem dX4_workOut_32 : decode cX4_workOut 32 = .ok (.iaload, 1) := by decide +kernel
theorem dX4_workOut_33 : decode cX4_workOut 33 = .ok (.ifCond .ge 7, 3) := by decide +kernel
theorem dX4_workOut_36 : decode cX4_workOut 36 = .ok (.iload_n 2, 1) := by decide +kernel
theorem dX4_workOut_37 : decode cX4_workOut 37 = .ok (.goto 9, 3) := by decide +kernel
