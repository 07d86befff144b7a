theorem dX9_judge_4 : decode cX9_judge 4 = .ok (.aload_n 0, 1) := by decide +kernel
theorem dX9_judge_5 : decode cX9_judge 5 = .ok (.getfield 32, 3) := by decide +kernel
theorem dX9_judge_8 : decode cX9_judge 8 = .ok (.iload 5, 2) := by decide +kernel
theorem dX9_judge_10 : decode cX9_judge 10 = .ok (.iaload, 1) := by decide +kernel
theorem dX9_judge_11 : decode cX9_judge 11 = .ok (.goto 9, 3) := by decide +kernel
theorem dX9_judge_14 : decode cX9_judge 14 = .ok (.aload_n 0, 1) := by decide +kernel
theorem dX9_judge_15 : decode cX9_judge 15 = .ok (.getfield 32, 3) := by decide +kernel
theorem dX9_judge_18 : decode cX9_judge 18 = .ok (.iload_n 1, 1) := by decide +kernel
theorem dX9_judge_19 : decode cX9_judge 19 = .ok (.iaload, 1) := by decide +kernel
theorem dX9_judge_20 : decode cX9_judge 20 = .ok (.istore 6, 2) := by decide +kernel
theorem dX9_judge_22 : decode cX9_judge 22 = .ok (.iconst 0, 1) := by decide +kernel
theorem dX9_judge_23 : decode cX9_judge 23 = .ok (.istore 7, 2) := by decide +kernel
theorem dX9_judge_25 : decode cX9_judge 25 = .ok (.iload 7, 2) := by decide +kernel
theorem dX9_judge_27 : decode cX9_judge 27 = .ok (.aload_n 0, 1) := by decide +kernel
theorem dX9_judge_28 : decode cX9_judge 28 = .ok (.getfield 66, 3) := by decide +kernel
theorem dX9_judge_31 : decode cX9_judge 31 = .ok (.getfield 164, 3) := by decide +kernel
theorem dX9_judge_34 : decode cX9_judge 34 = .ok (.if_icmp .ge 55, 3) := by decide +kernel
theorem dX9_judge_37 : decode cX9_judge 37 = .ok (.aload_n 0, 1) := by decide +kernel
theorem dX9_judge_38 : decode cX9_judge 38 = .ok (.iload 7, 2) := by decide +kernel
theorem dX9_judge_40 : decode cX9_judge 40 = .ok (.invokevirtual 169, 3) := by decide +kernel
theorem dX9_judge_43 : decode cX9_judge 43 = .ok (.ifCond .ne 40, 3) := by decide +kernel
theorem dX9_judge_46 : decode cX9_judge 46 = .ok (.aload_n 0, 1) := by decide +kernel
theorem dX9_judge_47 : decode cX9_judge 47 = .ok (.getfield 66, 3) := by decide +kernel
theorem dX9_judge_50 : decode cX9_judge 50 = .ok (.iload 7, 2) := by decide +kernel
theorem dX9_judge_52 : decode cX9_judge 52 = .ok (.iload 6, 2) := by decide +kernel
theorem dX9_judge_54 : decode cX9_judge 54 = .ok (.aload_n 0, 1) := by decide +kernel
theorem dX9_judge_55 : decode cX9_judge 55 = .ok (.getfield 32, 3) := by decide +kernel
theorem dX9_judge_58 : decode cX9_judge 58 = .ok (.iload 5, 2) := by decide +kernel
theorem dX9_judge_60 : decode cX9_judge 60 = .ok (.iaload, 1) := by decide +kernel
theorem dX9_judge_61 : decode cX9_judge 61 = .ok (.invokevirtual 173, 3) := by decide +kernel
theorem dX9_judge_64 : decode cX9_judge 64 = .ok (.ifCond .ne 19, 3) := by decide +kernel
theorem dX9_judge_67 : decode cX9_judge 67 = .ok (.aload_n 0, 1) := by decide +kernel
theorem dX9_judge_68 : decode cX9_judge 68 = .ok (.getfield 49, 3) := by decide +kernel
theorem dX9_judge_71 : decode cX9_judge 71 = .ok (.iload 7, 2) := by decide +kernel
theorem dX9_judge_73 : decode cX9_judge 73 = .ok (.iload_n 1, 1) := by decide +kernel
theorem dX9_judge_74 : decode cX9_judge 74 = .ok (.iload_n 2, 1) := by decide +kernel
theorem dX9_judge_75 : decode cX9_judge 75 = .ok (.iload_n 3, 1) := by decide +kernel
theorem dX9_judge_76 : decode cX9_judge 76 = .ok (.iload 4, 2) := by decide +kernel
theorem dX9_judge_78 : decode cX9_judge 78 = .ok (.iload 5, 2) := by decide +kernel
theorem dX9_judge_80 : decode cX9_judge 80 = .ok (.invokestatic 99, 3) := by decide +kernel
theorem dX9_judge_83 : decode cX9_judge 83 = .ok (.iinc 7 1, 3) := by decide +kernel
theorem dX9_judge_86 : decode cX9_judge 86 = .ok (.goto (-61), 3) := by decide +kernel
theorem dX9_judge_89 : decode cX9_judge 89 = .ok (.return_, 1) := by decide +kernel
theorem dX9_tell_0 : decode cX9_tell 0 = .ok (.iload_n 1, 1) := by decide +kernel
theorem dX9_tell_1 : decode cX9_tell 1 = .ok (.iconst 5, 1) := by decide +kernel
theorem dX9_tell_2 : decode cX9_tell 2 = .ok (.imul, 1) := by decide +kernel
theorem dX9_tell_3 : decode cX9_tell 3 = .ok (.istore 7, 2) := by decide +kernel
theorem dX9_tell_5 : decode cX9_tell 5 = .ok (.aload_n 0, 1) := by decide +kernel
theorem dX9_tell_6 : decode cX9_tell 6 = .ok (.iload 7, 2) := by decide +kernel
theorem dX9_tell_8 : decode cX9_tell 8 = .ok (.iload_n 2, 1) := by decide +kernel
theorem dX9_tell_9 : decode cX9_tell 9 = .ok (.iastore, 1) := by decide +kernel
theorem dX9_tell_10 : decode cX9_tell 10 = .ok (.aload_n 0, 1) := by decide +kernel
theorem dX9_tell_11 : decode cX9_tell 11 = .ok (.iload 7, 2) := by decide +kernel
theorem dX9_tell_13 : decode cX9_tell 13 = .ok (.iconst 1, 1) := by decide +kernel
theorem dX9_tell_14 : decode cX9_tell 14 = .ok (.iadd, 1) := by decide +kernel
theorem dX9_tell_15 : decode cX9_tell 15 = .ok (.iload_n 3, 1) := by decide +kernel
theorem dX9_tell_16 : decode cX9_tell 16 = .ok (.iastore, 1) := by decide +kernel
theorem dX9_tell_17 : decode cX9_tell 17 = .ok (.aload_n 0, 1) := by decide +kernel
theorem dX9_tell_18 : decode cX9_tell 18 = .ok (.iload 7, 2) := by decide +kernel
theorem dX9_tell_20 : decode cX9_tell 20 = .ok (.iconst 2, 1) := by decide +kernel
theorem dX9_tell_21 : decode cX9_tell 21 = .ok (.iadd, 1) := by decide +kernel
theorem dX9_tell_22 : decode cX9_tell 22 = .ok (.iload 4, 2) := by decide +kernel
theorem dX9_tell_24 : decode cX9_tell 24 = .ok (.iastore, 1) := by decide +kernel
theorem dX9_tell_25 : decode cX9_tell 25 = .ok (.aload_n 0, 1) := by decide +kernel
theorem dX9_tell_26 : decode cX9_tell 26 = .ok (.iload 7, 2) := by decide +kernel
theorem dX9_tell_28 : decode cX9_tell 28 = .ok (.iconst 3, 1) := by decide +kernel
theorem dX9_tell_29 : decode cX9_tell 29 = .ok (.iadd, 1) := by decide +kernel
theorem dX9_tell_30 : decode cX9_tell 30 = .ok (.iload 5, 2) := by decide +kernel
theorem dX9_tell_32 : decode cX9_tell 32 = .ok (.iastore, 1) := by decide +kernel
theorem dX9_tell_33 : decode cX9_tell 33 = .ok (.aload_n 0, 1) := by decide +kernel
theorem dX9_tell_34 : decode cX9_tell 34 = .ok (.iload 7, 2) := by decide +kernel
theorem dX9_tell_36 : decode cX9_tell 36 = .ok (.iconst 4, 1) := by decide +kernel
theorem dX9_tell_37 : decode cX9_tell 37 = .ok (.iadd, 1) := by decide +kernel
theorem dX9_tell_38 : decode cX9_tell 38 = .ok (.iload 6, 2) := by decide +kernel
theorem dX9_tell_40 : decode cX9_tell 40 = .ok (.iastore, 1) := by decide +kernel
theorem dX9_tell_41 : decode cX9_tell 41 = .ok (.return_, 1) := by decide +kernel
theorem dX9_slotOf_0 : decode cX9_slotOf 0 = .ok (.lload_n 2, 1) := by decide +kernel
theorem dX9_slotOf_1 : decode cX9_slotOf 1 = .ok (.ldc2_w 177, 3) := by decide +kernel
theorem dX9_slotOf_4 : decode cX9_slotOf 4 = .ok (.lmul, 1) := by decide +kernel
theorem dX9_slotOf_5 : decode cX9_slotOf 5 = .ok (.iload_n 1, 1) := by decide +kernel
theorem dX9_slotOf_6 : decode cX9_slotOf 6 = .ok (.i2l, 1) := by decide +kernel
theorem dX9_slotOf_7 : decode cX9_slotOf 7 = .ok (.ladd, 1) := by decide +kernel
theorem dX9_slotOf_8 : decode cX9_slotOf 8 = .ok (.ldc2_w 179, 3) := by decide +kernel
theorem dX9_slotOf_11 : decode cX9_slotOf 11 = .ok (.lmul, 1) := by decide +kernel
theorem dX9_slotOf_12 : decode cX9_slotOf 12 = .ok (.lstore 4, 2) := by decide +kernel
theorem dX9_slotOf_14 : decode cX9_slotOf 14 = .ok (.lload 4, 2) := by decide +kernel
theorem dX9_slotOf_16 : decode cX9_slotOf 16 = .ok (.bipush 55, 2) := by decide +kernel
theorem dX9_slotOf_18 : decode cX9_slotOf 18 = .ok (.lushr, 1) := by decide +kernel
theorem dX9_slotOf_19 : decode cX9_slotOf 19 = .ok (.l2i, 1) := by decide +kernel
theorem dX9_slotOf_20 : decode cX9_slotOf 20 = .ok (.istore 6, 2) := by decide +kernel
theorem dX9_slotOf_22 : decode cX9_slotOf 22 = .ok (.iconst 0, 1) := by decide +kernel
theorem dX9_slotOf_23 : decode cX9_slotOf 23 = .ok (.istore 7, 2) := by decide +kernel
theorem dX9_slotOf_25 : decode cX9_slotOf 25 = .ok (.iload 7, 2) := by decide +kernel
theorem dX9_slotOf_27 : decode cX9_slotOf 27 = .ok (.sipush 512, 3) := by decide +kernel
theorem dX9_slotOf_30 : decode cX9_slotOf 30 = .ok (.if_icmp .ge 61, 3) := by decide +kernel
theorem dX9_slotOf_33 : decode cX9_slotOf 33 = .ok (.aload_n 0, 1) := by decide +kernel
theorem dX9_slotOf_34 : decode cX9_slotOf 34 = .ok (.getfield 52, 3) := by decide +kernel
theorem dX9_slotOf_37 : decode cX9_slotOf 37 = .ok (.iload 6, 2) := by decide +kernel
theorem dX9_slotOf_39 : decode cX9_slotOf 39 = .ok (.iaload, 1) := by decide +kernel
theorem dX9_slotOf_40 : decode cX9_slotOf 40 = .ok (.iconst 1, 1) := by decide +kernel
theorem dX9_slotOf_41 : decode cX9_slotOf 41 = .ok (.isub, 1) := by decide +kernel
theorem dX9_slotOf_42 : decode cX9_slotOf 42 = .ok (.istore 8, 2) := by decide +kernel
theorem dX9_slotOf_44 : decode cX9_slotOf 44 = .ok (.iload 8, 2) := by decide +kernel
theorem dX9_slotOf_46 : decode cX9_slotOf 46 = .ok (.ifCond .lt 26, 3) := by decide +kernel
theorem dX9_slotOf_49 : decode cX9_slotOf 49 = .ok (.aload_n 0, 1) := by decide +kernel
theorem dX9_slotOf_50 : decode cX9_slotOf 50 = .ok (.getfield 32, 3) := by decide +kernel
theorem dX9_slotOf_53 : decode cX9_slotOf 53 = .ok (.iload 8, 2) := by decide +kernel
theorem dX9_slotOf_55 : decode cX9_slotOf 55 = .ok (.iaload, 1) := by decide +kernel
theorem dX9_slotOf_56 : decode cX9_slotOf 56 = .ok (.iload_n 1, 1) := by decide +kernel
theorem dX9_slotOf_57 : decode cX9_slotOf 57 = .ok (.if_icmp .ne 18, 3) := by decide +kernel
theorem dX9_slotOf_60 : decode cX9_slotOf 60 = .ok (.aload_n 0, 1) := by decide +kernel
theorem dX9_slotOf_61 : decode cX9_slotOf 61 = .ok (.getfield 36, 3) := by decide +kernel
theorem dX9_slotOf_64 : decode cX9_slotOf 64 = .ok (.iload 8, 2) := by decide +kernel
theorem dX9_slotOf_66 : decode cX9_slotOf 66 = .ok (.laload, 1) := by decide +kernel
theorem dX9_slotOf_67 : decode cX9_slotOf 67 = .ok (.lload_n 2, 1) := by decide +kernel
theorem dX9_slotOf_68 : decode cX9_slotOf 68 = .ok (.lcmp, 1) := by decide +kernel
theorem dX9_slotOf_69 : decode cX9_slotOf 69 = .ok (.ifCond .ne 6, 3) := by decide +kernel
theorem dX9_slotOf_72 : decode cX9_slotOf 72 = .ok (.iload 6, 2) := by decide +kernel
theorem dX9_slotOf_74 : decode cX9_slotOf 74 = .ok (.ireturn, 1) := by decide +kernel
theorem dX9_slotOf_75 : decode cX9_slotOf 75 = .ok (.iload 6, 2) := by decide +kernel
theorem dX9_slotOf_77 : decode cX9_slotOf 77 = .ok (.iconst 1, 1) := by decide +kernel
theorem dX9_slotOf_78 : decode cX9_slotOf 78 = .ok (.iadd, 1) := by decide +kernel
theorem dX9_slotOf_79 : decode cX9_slotOf 79 = .ok (.sipush 511, 3) := by decide +kernel
theorem dX9_slotOf_82 : decode cX9_slotOf 82 = .ok (.iand, 1) := by decide +kernel
theorem dX9_slotOf_83 : decode cX9_slotOf 83 = .ok (.istore 6, 2) := by decide +kernel
theorem dX9_slotOf_85 : decode cX9_slotOf 85 = .ok (.iinc 7 1, 3) := by decide +kernel
theorem dX9_slotOf_88 : decode cX9_slotOf 88 = .ok (.goto (-63), 3) := by decide +kernel
theorem dX9_slotOf_91 : decode cX9_slotOf 91 = .ok (.iload 6, 2) := by decide +kernel
theorem dX9_slotOf_93 : decode cX9_slotOf 93 = .ok (.ireturn, 1) := by decide +kernel
theorem dX10_init_0 : decode cX10_init 0 = .ok (.aload_n 0, 1) := by decide +kernel
theorem dX10_init_1 : decode cX10_init 1 = .ok (.invokespecial 3, 3) := by decide +kernel
theorem dX10_init_4 : decode cX10_init 4 = .ok (.aload_n 0, 1) := by decide +kernel
theorem dX10_init_5 : decode cX10_init 5 = .ok (.sipush 4000, 3) := by decide +kernel
theorem dX10_init_8 : decode cX10_init 8 = .ok (.newarray .long, 2) := by decide +kernel
theorem dX10_init_10 : decode cX10_init 10 = .ok (.putfield 11, 3) := by decide +kernel
theorem dX10_init_13 : decode cX10_init 13 = .ok (.aload_n 0, 1) := by decide +kernel
theorem dX10_init_14 : decode cX10_init 14 = .ok (.sipush 250, 3) := by decide +kernel
theorem dX10_init_17 : decode cX10_init 17 = .ok (.newarray .int, 2) := by decide +kernel
theorem dX10_init_19 : decode cX10_init 19 = .ok (.putfield 15, 3) := by decide +kernel
theorem dX10_init_22 : decode cX10_init 22 = .ok (.aload_n 0, 1) := by decide +kernel
theorem dX10_init_23 : decode cX10_init 23 = .ok (.sipush 250, 3) := by decide +kernel
theorem dX10_init_26 : decode cX10_init 26 = .ok (.newarray .int, 2) := by decide +kernel
theorem dX10_init_28 : decode cX10_init 28 = .ok (.putfield 19, 3) := by decide +kernel
theorem dX10_init_31 : decode cX10_init 31 = .ok (.aload_n 0, 1) := by decide +kernel
theorem dX10_init_32 : decode cX10_init 32 = .ok (.sipush 250, 3) := by decide +kernel
theorem dX10_init_35 : decode cX10_init 35 = .ok (.newarray .boolean, 2) := by decide +kernel
theorem dX10_init_37 : decode cX10_init 37 = .ok (.putfield 22, 3) := by decide +kernel
theorem dX10_init_40 : decode cX10_init 40 = .ok (.aload_n 0, 1) := by decide +kernel
theorem dX10_init_41 : decode cX10_init 41 = .ok (.iconst 0, 1) := by decide +kernel
theorem dX10_init_42 : decode cX10_init 42 = .ok (.putfield 26, 3) := by decide +kernel
theorem dX10_init_45 : decode cX10_init 45 = .ok (.return_, 1) := by decide +kernel
theorem dX10_clear_0 : decode cX10_clear 0 = .ok (.aload_n 0, 1) := by decide +kernel
theorem dX10_clear_1 : decode cX10_clear 1 = .ok (.iconst 0, 1) := by decide +kernel
theorem dX10_clear_2 : decode cX10_clear 2 = .ok (.putfield 26, 3) := by decide +kernel
theorem dX10_clear_5 : decode cX10_clear 5 = .ok (.aload_n 0, 1) := by decide +kernel
theorem dX10_clear_6 : decode cX10_clear 6 = .ok (.getfield 11, 3) := by decide +kernel
theorem dX10_clear_9 : decode cX10_clear 9 = .ok (.lconst 0, 1) := by decide +kernel
theorem dX10_clear_10 : decode cX10_clear 10 = .ok (.invokestatic 30, 3) := by decide +kernel
theorem dX10_clear_13 : decode cX10_clear 13 = .ok (.return_, 1) := by decide +kernel
theorem dX10_add_0 : decode cX10_add 0 = .ok (.aload_n 0, 1) := by decide +kernel
theorem dX10_add_1 : decode cX10_add 1 = .ok (.getfield 11, 3) := by decide +kernel
theorem dX10_add_4 : decode cX10_add 4 = .ok (.iload_n 1, 1) := by decide +kernel
theorem dX10_add_5 : decode cX10_add 5 = .ok (.iconst 5, 1) := by decide +kernel
theorem dX10_add_6 : decode cX10_add 6 = .ok (.idiv, 1) := by decide +kernel
theorem dX10_add_7 : decode cX10_add 7 = .ok (.dup2, 1) := by decide +kernel
theorem dX10_add_8 : decode cX10_add 8 = .ok (.laload, 1) := by decide +kernel
theorem dX10_add_9 : decode cX10_add 9 = .ok (.iload_n 2, 1) := by decide +kernel
theorem dX10_add_10 : decode cX10_add 10 = .ok (.iconst 4, 1) := by decide +kernel
theorem dX10_add_11 : decode cX10_add 11 = .ok (.ishl, 1) := by decide +kernel
theorem dX10_add_12 : decode cX10_add 12 = .ok (.iload_n 3, 1) := by decide +kernel
theorem dX10_add_13 : decode cX10_add 13 = .ok (.ior, 1) := by decide +kernel
theorem dX10_add_14 : decode cX10_add 14 = .ok (.i2l, 1) := by decide +kernel
theorem dX10_add_15 : decode cX10_add 15 = .ok (.iload_n 1, 1) := by decide +kernel
theorem dX10_add_16 : decode cX10_add 16 = .ok (.iconst 5, 1) := by decide +kernel
theorem dX10_add_17 : decode cX10_add 17 = .ok (.irem, 1) := by decide +kernel
theorem dX10_add_18 : decode cX10_add 18 = .ok (.bipush 12, 2) := by decide +kernel
theorem dX10_add_20 : decode cX10_add 20 = .ok (.imul, 1) := by decide +kernel
theorem dX10_add_21 : decode cX10_add 21 = .ok (.lshl, 1) := by decide +kernel
theorem dX10_add_22 : decode cX10_add 22 = .ok (.lor, 1) := by decide +kernel
theorem dX10_add_23 : decode cX10_add 23 = .ok (.lastore, 1) := by decide +kernel
theorem dX10_add_24 : decode cX10_add 24 = .ok (.return_, 1) := by decide +kernel
theorem dX10_close_0 : decode cX10_close 0 = .ok (.aload_n 0, 1) := by decide +kernel
theorem dX10_close_1 : decode cX10_close 1 = .ok (.getfield 15, 3) := by decide +kernel
theorem dX10_close_4 : decode cX10_close 4 = .ok (.iload_n 1, 1) := by decide +kernel
theorem dX10_close_5 : decode cX10_close 5 = .ok (.iload_n 2, 1) := by decide +kernel
theorem dX10_close_6 : decode cX10_close 6 = .ok (.iastore, 1) := by decide +kernel
theorem dX10_close_7 : decode cX10_close 7 = .ok (.return_, 1) := by decide +kernel
theorem dX10_fewestTo_0 : decode cX10_fewestTo 0 = .ok (.aload_n 0, 1) := by decide +kernel
theorem dX10_fewestTo_1 : decode cX10_fewestTo 1 = .ok (.getfield 26, 3) := by decide +kernel
theorem dX10_fewestTo_4 : decode cX10_fewestTo 4 = .ok (.ifCond .ne 14, 3) := by decide +kernel
theorem dX10_fewestTo_7 : decode cX10_fewestTo 7 = .ok (.aload_n 0, 1) := by decide +kernel
theorem dX10_fewestTo_8 : decode cX10_fewestTo 8 = .ok (.iload_n 2, 1) := by decide +kernel
theorem dX10_fewestTo_9 : decode cX10_fewestTo 9 = .ok (.iload_n 3, 1) := by decide +kernel
theorem dX10_fewestTo_10 : decode cX10_fewestTo 10 = .ok (.invokevirtual 36, 3) := by decide +kernel
theorem dX10_fewestTo_13 : decode cX10_fewestTo 13 = .ok (.aload_n 0, 1) := by decide +kernel
theorem dX10_fewestTo_14 : decode cX10_fewestTo 14 = .ok (.iconst 1, 1) := by decide +kernel
theorem dX10_fewestTo_15 : decode cX10_fewestTo 15 = .ok (.putfield 26, 3) := by decide +kernel
theorem dX10_fewestTo_18 : decode cX10_fewestTo 18 = .ok (.aload_n 0, 1) := by decide +kernel
theorem dX10_fewestTo_19 : decode cX10_fewestTo 19 = .ok (.getfield 19, 3) := by decide +kernel
theorem dX10_fewestTo_22 : decode cX10_fewestTo 22 = .ok (.iload_n 1, 1) := by decide +kernel
theorem dX10_fewestTo_23 : decode cX10_fewestTo 23 = .ok (.iaload, 1) := by decide +kernel
theorem dX10_fewestTo_24 : decode cX10_fewestTo 24 = .ok (.ldc 40, 2) := by decide +kernel
theorem dX10_fewestTo_26 : decode cX10_fewestTo 26 = .ok (.if_icmp .ge 12, 3) := by decide +kernel
theorem dX10_fewestTo_29 : decode cX10_fewestTo 29 = .ok (.aload_n 0, 1) := by decide +kernel
theorem dX10_fewestTo_30 : decode cX10_fewestTo 30 = .ok (.getfield 19, 3) := by decide +kernel
theorem dX10_fewestTo_33 : decode cX10_fewestTo 33 = .ok (.iload_n 1, 1) := by decide +kernel
theorem dX10_fewestTo_34 : decode cX10_fewestTo 34 = .ok (.iaload, 1) := by decide +kernel
theorem dX10_fewestTo_35 : decode cX10_fewestTo 35 = .ok (.goto 5, 3) := by decide +kernel
theorem dX10_fewestTo_38 : decode cX10_fewestTo 38 = .ok (.bipush (-2), 2) := by decide +kernel
theorem dX10_fewestTo_40 : decode cX10_fewestTo 40 = .ok (.ireturn, 1) := by decide +kernel
theorem dX10_measure_0 : decode cX10_measure 0 = .ok (.iconst 0, 1) := by decide +kernel
theorem dX10_measure_1 : decode cX10_measure 1 = .ok (.istore_n 3, 1) := by decide +kernel
theorem dX10_measure_2 : decode cX10_measure 2 = .ok (.iload_n 3, 1) := by decide +kernel
theorem dX10_measure_3 : decode cX10_measure 3 = .ok (.iload_n 1, 1) := by decide +kernel
theorem dX10_measure_4 : decode cX10_measure 4 = .ok (.if_icmp .ge 32, 3) := by decide +kernel
theorem dX10_measure_7 : decode cX10_measure 7 = .ok (.aload_n 0, 1) := by decide +kernel
theorem dX10_measure_8 : decode cX10_measure 8 = .ok (.getfield 19, 3) := by decide +kernel
theorem dX10_measure_11 : decode cX10_measure 11 = .ok (.iload_n 3, 1) := by decide +kernel
theorem dX10_measure_12 : decode cX10_measure 12 = .ok (.iload_n 3, 1) := by decide +kernel
theorem dX10_measure_13 : decode cX10_measure 13 = .ok (.ifCond .ne 7, 3) := by decide +kernel
theorem dX10_measure_16 : decode cX10_measure 16 = .ok (.iconst 0, 1) := by decide +kernel
theorem dX10_measure_17 : decode cX10_measure 17 = .ok (.goto 5, 3) := by decide +kernel
theorem dX10_measure_20 : decode cX10_measure 20 = .ok (.ldc 40, 2) := by decide +kernel
theorem dX10_measure_22 : decode cX10_measure 22 = .ok (.iastore, 1) := by decide +kernel
theorem dX10_measure_23 : decode cX10_measure 23 = .ok (.aload_n 0, 1) := by decide +kernel
theorem dX10_measure_24 : decode cX10_measure 24 = .ok (.getfield 22, 3) := by decide +kernel
theorem dX10_measure_27 : decode cX10_measure 27 = .ok (.iload_n 3, 1) := by decide +kernel
theorem dX10_measure_28 : decode cX10_measure 28 = .ok (.iconst 0, 1) := by decide +kernel
theorem dX10_measure_29 : decode cX10_measure 29 = .ok (.bastore, 1) := by decide +kernel
theorem dX10_measure_30 : decode cX10_measure 30 = .ok (.iinc 3 1, 3) := by decide +kernel
theorem dX10_measure_33 : decode cX10_measure 33 = .ok (.goto (-31), 3) := by decide +kernel
theorem dX10_measure_36 : decode cX10_measure 36 = .ok (.iconst 0, 1) := by decide +kernel
theorem dX10_measure_37 : decode cX10_measure 37 = .ok (.istore_n 3, 1) := by decide +kernel
theorem dX10_measure_38 : decode cX10_measure 38 = .ok (.iload_n 3, 1) := by decide +kernel
theorem dX10_measure_39 : decode cX10_measure 39 = .ok (.iload_n 2, 1) := by decide +kernel
theorem dX10_measure_40 : decode cX10_measure 40 = .ok (.if_icmp .ge 36, 3) := by decide +kernel
theorem dX10_measure_43 : decode cX10_measure 43 = .ok (.aload_n 0, 1) := by decide +kernel
theorem dX10_measure_44 : decode cX10_measure 44 = .ok (.iload_n 2, 1) := by decide +kernel
theorem dX10_measure_45 : decode cX10_measure 45 = .ok (.invokevirtual 41, 3) := by decide +kernel
theorem dX10_measure_48 : decode cX10_measure 48 = .ok (.istore 4, 2) := by decide +kernel
theorem dX10_measure_50 : decode cX10_measure 50 = .ok (.iload 4, 2) := by decide +kernel
theorem dX10_measure_52 : decode cX10_measure 52 = .ok (.ifCond .ge 4, 3) := by decide +kernel
theorem dX10_measure_55 : decode cX10_measure 55 = .ok (.return_, 1) := by decide +kernel
theorem dX10_measure_56 : decode cX10_measure 56 = .ok (.aload_n 0, 1) := by decide +kernel
theorem dX10_measure_57 : decode cX10_measure 57 = .ok (.getfield 22, 3) := by decide +kernel
theorem dX10_measure_60 : decode cX10_measure 60 = .ok (.iload 4, 2) := by decide +kernel
theorem dX10_measure_62 : decode cX10_measure 62 = .ok (.iconst 1, 1) := by decide +kernel
theorem dX10_measure_63 : decode cX10_measure 63 = .ok (.bastore, 1) := by decide +kernel
theorem dX10_measure_64 : decode cX10_measure 64 = .ok (.aload_n 0, 1) := by decide +kernel
theorem dX10_measure_65 : decode cX10_measure 65 = .ok (.iload 4, 2) := by decide +kernel
theorem dX10_measure_67 : decode cX10_measure 67 = .ok (.invokevirtual 45, 3) := by decide +kernel
theorem dX10_measure_70 : decode cX10_measure 70 = .ok (.iinc 3 1, 3) := by decide +kernel
theorem dX10_measure_73 : decode cX10_measure 73 = .ok (.goto (-35), 3) := by decide +kernel
theorem dX10_measure_76 : decode cX10_measure 76 = .ok (.return_, 1) := by decide +kernel
theorem dX10_nearest_0 : decode cX10_nearest 0 = .ok (.iconst (-1), 1) := by decide +kernel
theorem dX10_nearest_1 : decode cX10_nearest 1 = .ok (.istore_n 2, 1) := by decide +kernel
theorem dX10_nearest_2 : decode cX10_nearest 2 = .ok (.ldc 40, 2) := by decide +kernel
theorem dX10_nearest_4 : decode cX10_nearest 4 = .ok (.istore_n 3, 1) := by decide +kernel
theorem dX10_nearest_5 : decode cX10_nearest 5 = .ok (.iconst 0, 1) := by decide +kernel
theorem dX10_nearest_6 : decode cX10_nearest 6 = .ok (.istore 4, 2) := by decide +kernel
theorem dX10_nearest_8 : decode cX10_nearest 8 = .ok (.iload 4, 2) := by decide +kernel
theorem dX10_nearest_10 : decode cX10_nearest 10 = .ok (.iload_n 1, 1) := by decide +kernel
theorem dX10_nearest_11 : decode cX10_nearest 11 = .ok (.if_icmp .ge 41, 3) := by decide +kernel
theorem dX10_nearest_14 : decode cX10_nearest 14 = .ok (.aload_n 0, 1) := by decide +kernel
theorem dX10_nearest_15 : decode cX10_nearest 15 = .ok (.getfield 22, 3) := by decide +kernel
theorem dX10_nearest_18 : decode cX10_nearest 18 = .ok (.iload 4, 2) := by decide +kernel
theorem dX10_nearest_20 : decode cX10_nearest 20 = .ok (.baload, 1) := by decide +kernel
theorem dX10_nearest_21 : decode cX10_nearest 21 = .ok (.ifCond .ne 25, 3) := by decide +kernel
theorem dX10_nearest_24 : decode cX10_nearest 24 = .ok (.aload_n 0, 1) := by decide +kernel
theorem dX10_nearest_25 : decode cX10_nearest 25 = .ok (.getfield 19, 3) := by decide +kernel
theorem dX10_nearest_28 : decode cX10_nearest 28 = .ok (.iload 4, 2) := by decide +kernel
theorem dX10_nearest_30 : decode cX10_nearest 30 = .ok (.iaload, 1) := by decide +kernel
theorem dX10_nearest_31 : decode cX10_nearest 31 = .ok (.iload_n 3, 1) := by decide +kernel
theorem dX10_nearest_32 : decode cX10_nearest 32 = .ok (.if_icmp .ge 14, 3) := by decide +kernel
theorem dX10_nearest_35 : decode cX10_nearest 35 = .ok (.iload 4, 2) := by decide +kernel
theorem dX10_nearest_37 : decode cX10_nearest 37 = .ok (.istore_n 2, 1) := by decide +kernel
theorem dX10_nearest_38 : decode cX10_nearest 38 = .ok (.aload_n 0, 1) := by decide +kernel
theorem dX10_nearest_39 : decode cX10_nearest 39 = .ok (.getfield 19, 3) := by decide +kernel
theorem dX10_nearest_42 : decode cX10_nearest 42 = .ok (.iload 4, 2) := by decide +kernel
theorem dX10_nearest_44 : decode cX10_nearest 44 = .ok (.iaload, 1) := by decide +kernel
theorem dX10_nearest_45 : decode cX10_nearest 45 = .ok (.istore_n 3, 1) := by decide +kernel
theorem dX10_nearest_46 : decode cX10_nearest 46 = .ok (.iinc 4 1, 3) := by decide +kernel
theorem dX10_nearest_49 : decode cX10_nearest 49 = .ok (.goto (-41), 3) := by decide +kernel
theorem dX10_nearest_52 : decode cX10_nearest 52 = .ok (.iload_n 2, 1) := by decide +kernel
theorem dX10_nearest_53 : decode cX10_nearest 53 = .ok (.ireturn, 1) := by decide +kernel
theorem dX10_goOnFrom_0 : decode cX10_goOnFrom 0 = .ok (.iload_n 1, 1) := by decide +kernel
theorem dX10_goOnFrom_1 : decode cX10_goOnFrom 1 = .ok (.ifCond .ne 7, 3) := by decide +kernel
theorem dX10_goOnFrom_4 : decode cX10_goOnFrom 4 = .ok (.iconst 0, 1) := by decide +kernel
theorem dX10_goOnFrom_5 : decode cX10_goOnFrom 5 = .ok (.goto 11, 3) := by decide +kernel
theorem dX10_goOnFrom_8 : decode cX10_goOnFrom 8 = .ok (.aload_n 0, 1) := by decide +kernel
theorem dX10_goOnFrom_9 : decode cX10_goOnFrom 9 = .ok (.getfield 15, 3) := by decide +kernel
theorem dX10_goOnFrom_12 : decode cX10_goOnFrom 12 = .ok (.iload_n 1, 1) := by decide +kernel
theorem dX10_goOnFrom_13 : decode cX10_goOnFrom 13 = .ok (.iconst 1, 1) := by decide +kernel
theorem dX10_goOnFrom_14 : decode cX10_goOnFrom 14 = .ok (.isub, 1) := by decide +kernel
theorem dX10_goOnFrom_15 : decode cX10_goOnFrom 15 = .ok (.iaload, 1) := by decide +kernel
theorem dX10_goOnFrom_16 : decode cX10_goOnFrom 16 = .ok (.istore_n 2, 1) := by decide +kernel
theorem dX10_goOnFrom_17 : decode cX10_goOnFrom 17 = .ok (.iload_n 2, 1) := by decide +kernel
theorem dX10_goOnFrom_18 : decode cX10_goOnFrom 18 = .ok (.istore_n 3, 1) := by decide +kernel
theorem dX10_goOnFrom_19 : decode cX10_goOnFrom 19 = .ok (.iload_n 3, 1) := by decide +kernel
theorem dX10_goOnFrom_20 : decode cX10_goOnFrom 20 = .ok (.aload_n 0, 1) := by decide +kernel
theorem dX10_goOnFrom_21 : decode cX10_goOnFrom 21 = .ok (.getfield 15, 3) := by decide +kernel
theorem dX10_goOnFrom_24 : decode cX10_goOnFrom 24 = .ok (.iload_n 1, 1) := by decide +kernel
theorem dX10_goOnFrom_25 : decode cX10_goOnFrom 25 = .ok (.iaload, 1) := by decide +kernel
theorem dX10_goOnFrom_26 : decode cX10_goOnFrom 26 = .ok (.if_icmp .ge 72, 3) := by decide +kernel
theorem dX10_goOnFrom_29 : decode cX10_goOnFrom 29 = .ok (.aload_n 0, 1) := by decide +kernel
theorem dX10_goOnFrom_30 : decode cX10_goOnFrom 30 = .ok (.getfield 11, 3) := by decide +kernel
theorem dX10_goOnFrom_33 : decode cX10_goOnFrom 33 = .ok (.iload_n 3, 1) := by decide +kernel
theorem dX10_goOnFrom_34 : decode cX10_goOnFrom 34 = .ok (.iconst 5, 1) := by decide +kernel
theorem dX10_goOnFrom_35 : decode cX10_goOnFrom 35 = .ok (.idiv, 1) := by decide +kernel
theorem dX10_goOnFrom_36 : decode cX10_goOnFrom 36 = .ok (.laload, 1) := by decide +kernel
theorem dX10_goOnFrom_37 : decode cX10_goOnFrom 37 = .ok (.iload_n 3, 1) := by decide +kernel
theorem dX10_goOnFrom_38 : decode cX10_goOnFrom 38 = .ok (.iconst 5, 1) := by decide +kernel
theorem dX10_goOnFrom_39 : decode cX10_goOnFrom 39 = .ok (.irem, 1) := by decide +kernel
theorem dX10_goOnFrom_40 : decode cX10_goOnFrom 40 = .ok (.bipush 12, 2) := by decide +kernel
theorem dX10_goOnFrom_42 : decode cX10_goOnFrom 42 = .ok (.imul, 1) := by decide +kernel
theorem dX10_goOnFrom_43 : decode cX10_goOnFrom 43 = .ok (.lushr, 1) := by decide +kernel
theorem dX10_goOnFrom_44 : decode cX10_goOnFrom 44 = .ok (.l2i, 1) := by decide +kernel
theorem dX10_goOnFrom_45 : decode cX10_goOnFrom 45 = .ok (.istore 4, 2) := by decide +kernel
theorem dX10_goOnFrom_47 : decode cX10_goOnFrom 47 = .ok (.iload 4, 2) := by decide +kernel
theorem dX10_goOnFrom_49 : decode cX10_goOnFrom 49 = .ok (.iconst 4, 1) := by decide +kernel
theorem dX10_goOnFrom_50 : decode cX10_goOnFrom 50 = .ok (.ishr, 1) := by decide +kernel
theorem dX10_goOnFrom_51 : decode cX10_goOnFrom 51 = .ok (.sipush 255, 3) := by decide +kernel
theorem dX10_goOnFrom_54 : decode cX10_goOnFrom 54 = .ok (.iand, 1) := by decide +kernel
theorem dX10_goOnFrom_55 : decode cX10_goOnFrom 55 = .ok (.istore 5, 2) := by decide +kernel
theorem dX10_goOnFrom_57 : decode cX10_goOnFrom 57 = .ok (.aload_n 0, 1) := by decide +kernel
theorem dX10_goOnFrom_58 : decode cX10_goOnFrom 58 = .ok (.getfield 19, 3) := by decide +kernel
theorem dX10_goOnFrom_61 : decode cX10_goOnFrom 61 = .ok (.iload_n 1, 1) := by decide +kernel
theorem dX10_goOnFrom_62 : decode cX10_goOnFrom 62 = .ok (.iaload, 1) := by decide +kernel
theorem dX10_goOnFrom_63 : decode cX10_goOnFrom 63 = .ok (.iload 4, 2) := by decide +kernel
theorem dX10_goOnFrom_65 : decode cX10_goOnFrom 65 = .ok (.bipush 15, 2) := by decide +kernel
theorem dX10_goOnFrom_67 : decode cX10_goOnFrom 67 = .ok (.iand, 1) := by decide +kernel
theorem dX10_goOnFrom_68 : decode cX10_goOnFrom 68 = .ok (.iadd, 1) := by decide +kernel
theorem dX10_goOnFrom_69 : decode cX10_goOnFrom 69 = .ok (.istore 6, 2) := by decide +kernel
theorem dX10_goOnFrom_71 : decode cX10_goOnFrom 71 = .ok (.iload 6, 2) := by decide +kernel
theorem dX10_goOnFrom_73 : decode cX10_goOnFrom 73 = .ok (.aload_n 0, 1) := by decide +kernel
theorem dX10_goOnFrom_74 : decode cX10_goOnFrom 74 = .ok (.getfield 19, 3) := by decide +kernel
theorem dX10_goOnFrom_77 : decode cX10_goOnFrom 77 = .ok (.iload 5, 2) := by decide +kernel
theorem dX10_goOnFrom_79 : decode cX10_goOnFrom 79 = .ok (.iaload, 1) := by decide +kernel
theorem dX10_goOnFrom_80 : decode cX10_goOnFrom 80 = .ok (.if_icmp .ge 12, 3) := by decide +kernel
theorem dX10_goOnFrom_83 : decode cX10_goOnFrom 83 = .ok (.aload_n 0, 1) := by decide +kernel
theorem dX10_goOnFrom_84 : decode cX10_goOnFrom 84 = .ok (.getfield 19, 3) := by decide +kernel
theorem dX10_goOnFrom_87 : decode cX10_goOnFrom 87 = .ok (.iload 5, 2) := by decide +kernel
theorem dX10_goOnFrom_89 : decode cX10_goOnFrom 89 = .ok (.iload 6, 2) := by decide +kernel
theorem dX10_goOnFrom_91 : decode cX10_goOnFrom 91 = .ok (.iastore, 1) := by decide +kernel
theorem dX10_goOnFrom_92 : decode cX10_goOnFrom 92 = .ok (.iinc 3 1, 3) := by decide +kernel
theorem dX10_goOnFrom_95 : decode cX10_goOnFrom 95 = .ok (.goto (-76), 3) := by decide +kernel
theorem dX10_goOnFrom_98 : decode cX10_goOnFrom 98 = .ok (.return_, 1) := by decide +kernel
theorem dX11_init_0 : decode cX11_init 0 = .ok (.aload_n 0, 1) := by decide +kernel
theorem dX11_init_1 : decode cX11_init 1 = .ok (.invokespecial 3, 3) := by decide +kernel
theorem dX11_init_4 : decode cX11_init 4 = .ok (.aload_n 0, 1) := by decide +kernel
theorem dX11_init_5 : decode cX11_init 5 = .ok (.new 9, 3) := by decide +kernel
theorem dX11_init_8 : decode cX11_init 8 = .ok (.dup, 1) := by decide +kernel
theorem dX11_init_9 : decode cX11_init 9 = .ok (.invokespecial 11, 3) := by decide +kernel
theorem dX11_init_12 : decode cX11_init 12 = .ok (.putfield 12, 3) := by decide +kernel
theorem dX11_init_15 : decode cX11_init 15 = .ok (.aload_n 0, 1) := by decide +kernel
theorem dX11_init_16 : decode cX11_init 16 = .ok (.new 16, 3) := by decide +kernel
theorem dX11_init_19 : decode cX11_init 19 = .ok (.dup, 1) := by decide +kernel
theorem dX11_init_20 : decode cX11_init 20 = .ok (.invokespecial 18, 3) := by decide +kernel
theorem dX11_init_23 : decode cX11_init 23 = .ok (.putfield 19, 3) := by decide +kernel
theorem dX11_init_26 : decode cX11_init 26 = .ok (.aload_n 0, 1) := by decide +kernel
theorem dX11_init_27 : decode cX11_init 27 = .ok (.new 23, 3) := by decide +kernel
theorem dX11_init_30 : decode cX11_init 30 = .ok (.dup, 1) := by decide +kernel
theorem dX11_init_31 : decode cX11_init 31 = .ok (.aload_n 0, 1) := by decide +kernel
theorem dX11_init_32 : decode cX11_init 32 = .ok (.getfield 12, 3) := by decide +kernel
theorem dX11_init_35 : decode cX11_init 35 = .ok (.invokespecial 25, 3) := by decide +kernel
theorem dX11_init_38 : decode cX11_init 38 = .ok (.putfield 28, 3) := by decide +kernel
theorem dX11_init_41 : decode cX11_init 41 = .ok (.new 32, 3) := by decide +kernel
theorem dX11_init_44 : decode cX11_init 44 = .ok (.dup, 1) := by decide +kernel
theorem dX11_init_45 : decode cX11_init 45 = .ok (.aload_n 0, 1) := by decide +kernel
theorem dX11_init_46 : decode cX11_init 46 = .ok (.getfield 12, 3) := by decide +kernel
theorem dX11_init_49 : decode cX11_init 49 = .ok (.invokespecial 34, 3) := by decide +kernel
theorem dX11_init_52 : decode cX11_init 52 = .ok (.astore_n 1, 1) := by decide +kernel
theorem dX11_init_53 : decode cX11_init 53 = .ok (.aload_n 0, 1) := by decide +kernel
theorem dX11_init_54 : decode cX11_init 54 = .ok (.new 35, 3) := by decide +kernel
theorem dX11_init_57 : decode cX11_init 57 = .ok (.dup, 1) := by decide +kernel
theorem dX11_init_58 : decode cX11_init 58 = .ok (.aload_n 0, 1) := by decide +kernel
theorem dX11_init_59 : decode cX11_init 59 = .ok (.getfield 12, 3) := by decide +kernel
theorem dX11_init_62 : decode cX11_init 62 = .ok (.aload_n 0, 1) := by decide +kernel
theorem dX11_init_63 : decode cX11_init 63 = .ok (.getfield 19, 3) := by decide +kernel
theorem dX11_init_66 : decode cX11_init 66 = .ok (.aload_n 1, 1) := by decide +kernel
theorem dX11_init_67 : decode cX11_init 67 = .ok (.invokespecial 37, 3) := by decide +kernel
theorem dX11_init_70 : decode cX11_init 70 = .ok (.putfield 40, 3) := by decide +kernel
theorem dX11_init_73 : decode cX11_init 73 = .ok (.aload_n 0, 1) := by decide +kernel
theorem dX11_init_74 : decode cX11_init 74 = .ok (.new 44, 3) := by decide +kernel
theorem dX11_init_77 : decode cX11_init 77 = .ok (.dup, 1) := by decide +kernel
theorem dX11_init_78 : decode cX11_init 78 = .ok (.aload_n 0, 1) := by decide +kernel
theorem dX11_init_79 : decode cX11_init 79 = .ok (.getfield 12, 3) := by decide +kernel
theorem dX11_init_82 : decode cX11_init 82 = .ok (.aload_n 0, 1) := by decide +kernel
theorem dX11_init_83 : decode cX11_init 83 = .ok (.getfield 19, 3) := by decide +kernel
theorem dX11_init_86 : decode cX11_init 86 = .ok (.aload_n 0, 1) := by decide +kernel
theorem dX11_init_87 : decode cX11_init 87 = .ok (.getfield 28, 3) := by decide +kernel
theorem dX11_init_90 : decode cX11_init 90 = .ok (.aload_n 1, 1) := by decide +kernel
theorem dX11_init_91 : decode cX11_init 91 = .ok (.invokespecial 46, 3) := by decide +kernel
theorem dX11_init_94 : decode cX11_init 94 = .ok (.putfield 49, 3) := by decide +kernel
theorem dX11_init_97 : decode cX11_init 97 = .ok (.aload_n 0, 1) := by decide +kernel
theorem dX11_init_98 : decode cX11_init 98 = .ok (.bipush 8, 2) := by decide +kernel
theorem dX11_init_100 : decode cX11_init 100 = .ok (.anewarray 53, 3) := by decide +kernel
theorem dX11_init_103 : decode cX11_init 103 = .ok (.putfield 55, 3) := by decide +kernel
theorem dX11_init_106 : decode cX11_init 106 = .ok (.return_, 1) := by decide +kernel
theorem dX11_input_0 : decode cX11_input 0 = .ok (.iload_n 1, 1) := by decide +kernel
theorem dX11_input_1 : decode cX11_input 1 = .ok (.invokestatic 59, 3) := by decide +kernel
theorem dX11_input_4 : decode cX11_input 4 = .ok (.ifCond .ne 5, 3) := by decide +kernel
theorem dX11_input_7 : decode cX11_input 7 = .ok (.iconst (-1), 1) := by decide +kernel
theorem dX11_input_8 : decode cX11_input 8 = .ok (.ireturn, 1) := by decide +kernel
theorem dX11_input_9 : decode cX11_input 9 = .ok (.aload_n 0, 1) := by decide +kernel
theorem dX11_input_10 : decode cX11_input 10 = .ok (.iconst 5, 1) := by decide +kernel
theorem dX11_input_11 : decode cX11_input 11 = .ok (.iload_n 1, 1) := by decide +kernel
theorem dX11_input_12 : decode cX11_input 12 = .ok (.iconst 0, 1) := by decide +kernel
theorem dX11_input_13 : decode cX11_input 13 = .ok (.invokevirtual 63, 3) := by decide +kernel
theorem dX11_input_16 : decode cX11_input 16 = .ok (.ireturn, 1) := by decide +kernel
theorem dX11_keeper_0 : decode cX11_keeper 0 = .ok (.iload_n 1, 1) := by decide +kernel
theorem dX11_keeper_1 : decode cX11_keeper 1 = .ok (.invokestatic 59, 3) := by decide +kernel
theorem dX11_keeper_4 : decode cX11_keeper 4 = .ok (.ifCond .eq 12, 3) := by decide +kernel
theorem dX11_keeper_7 : decode cX11_keeper 7 = .ok (.iload_n 2, 1) := by decide +kernel
theorem dX11_keeper_8 : decode cX11_keeper 8 = .ok (.ifCond .lt 8, 3) := by decide +kernel
theorem dX11_keeper_11 : decode cX11_keeper 11 = .ok (.iload_n 2, 1) := by decide +kernel
theorem dX11_keeper_12 : decode cX11_keeper 12 = .ok (.iconst 1, 1) := by decide +kernel
theorem dX11_keeper_13 : decode cX11_keeper 13 = .ok (.if_icmp .le 5, 3) := by decide +kernel
theorem dX11_keeper_16 : decode cX11_keeper 16 = .ok (.iconst (-1), 1) := by decide +kernel
theorem dX11_keeper_17 : decode cX11_keeper 17 = .ok (.ireturn, 1) := by decide +kernel
theorem dX11_keeper_18 : decode cX11_keeper 18 = .ok (.aload_n 0, 1) := by decide +kernel
theorem dX11_keeper_19 : decode cX11_keeper 19 = .ok (.bipush 6, 2) := by decide +kernel
theorem dX11_keeper_21 : decode cX11_keeper 21 = .ok (.iload_n 1, 1) := by decide +kernel
theorem dX11_keeper_22 : decode cX11_keeper 22 = .ok (.iload_n 2, 1) := by decide +kernel
theorem dX11_keeper_23 : decode cX11_keeper 23 = .ok (.invokevirtual 63, 3) := by decide +kernel
theorem dX11_keeper_26 : decode cX11_keeper 26 = .ok (.ireturn, 1) := by decide +kernel
theorem dX11_gate_0 : decode cX11_gate 0 = .ok (.iload_n 1, 1) := by decide +kernel
theorem dX11_gate_1 : decode cX11_gate 1 = .ok (.iconst 3, 1) := by decide +kernel
theorem dX11_gate_2 : decode cX11_gate 2 = .ok (.if_icmp .eq 7, 3) := by decide +kernel
theorem dX11_gate_5 : decode cX11_gate 5 = .ok (.iconst 1, 1) := by decide +kernel
theorem dX11_gate_6 : decode cX11_gate 6 = .ok (.goto 4, 3) := by decide +kernel
theorem dX11_gate_9 : decode cX11_gate 9 = .ok (.iconst 0, 1) := by decide +kernel
theorem dX11_gate_10 : decode cX11_gate 10 = .ok (.istore 5, 2) := by decide +kernel
theorem dX11_gate_12 : decode cX11_gate 12 = .ok (.iload_n 1, 1) := by decide +kernel
theorem dX11_gate_13 : decode cX11_gate 13 = .ok (.iconst 4, 1) := by decide +kernel
theorem dX11_gate_14 : decode cX11_gate 14 = .ok (.if_icmp .ne 7, 3) := by decide +kernel
theorem dX11_gate_17 : decode cX11_gate 17 = .ok (.iconst 1, 1) := by decide +kernel
theorem dX11_gate_18 : decode cX11_gate 18 = .ok (.goto 4, 3) := by decide +kernel
theorem dX11_gate_21 : decode cX11_gate 21 = .ok (.iconst 0, 1) := by decide +kernel
theorem dX11_gate_22 : decode cX11_gate 22 = .ok (.istore 6, 2) := by decide +kernel
theorem dX11_gate_24 : decode cX11_gate 24 = .ok (.iload_n 1, 1) := by decide +kernel
theorem dX11_gate_25 : decode cX11_gate 25 = .ok (.ifCond .lt 52, 3) := by decide +kernel
theorem dX11_gate_28 : decode cX11_gate 28 = .ok (.iload_n 1, 1) := by decide +kernel
theorem dX11_gate_29 : decode cX11_gate 29 = .ok (.iconst 4, 1) := by decide +kernel
theorem dX11_gate_30 : decode cX11_gate 30 = .ok (.if_icmp .gt 47, 3) := by decide +kernel
theorem dX11_gate_33 : decode cX11_gate 33 = .ok (.aload_n 0, 1) := by decide +kernel
theorem dX11_gate_34 : decode cX11_gate 34 = .ok (.getfield 12, 3) := by decide +kernel
theorem dX11_gate_37 : decode cX11_gate 37 = .ok (.iload_n 2, 1) := by decide +kernel
theorem dX11_gate_38 : decode cX11_gate 38 = .ok (.invokevirtual 67, 3) := by decide +kernel
theorem dX11_gate_41 : decode cX11_gate 41 = .ok (.ifCond .eq 36, 3) := by decide +kernel
theorem dX11_gate_44 : decode cX11_gate 44 = .ok (.iload 5, 2) := by decide +kernel
theorem dX11_gate_46 : decode cX11_gate 46 = .ok (.ifCond .eq 14, 3) := by decide +kernel
theorem dX11_gate_49 : decode cX11_gate 49 = .ok (.aload_n 0, 1) := by decide +kernel
theorem dX11_gate_50 : decode cX11_gate 50 = .ok (.getfield 12, 3) := by decide +kernel
theorem dX11_gate_53 : decode cX11_gate 53 = .ok (.iload_n 3, 1) := by decide +kernel
theorem dX11_gate_54 : decode cX11_gate 54 = .ok (.invokevirtual 67, 3) := by decide +kernel
theorem dX11_gate_57 : decode cX11_gate 57 = .ok (.ifCond .eq 20, 3) := by decide +kernel
theorem dX11_gate_60 : decode cX11_gate 60 = .ok (.iload 6, 2) := by decide +kernel
theorem dX11_gate_62 : decode cX11_gate 62 = .ok (.ifCond .eq 17, 3) := by decide +kernel
theorem dX11_gate_65 : decode cX11_gate 65 = .ok (.aload_n 0, 1) := by decide +kernel
theorem dX11_gate_66 : decode cX11_gate 66 = .ok (.getfield 12, 3) := by decide +kernel
theorem dX11_gate_69 : decode cX11_gate 69 = .ok (.iload 4, 2) := by decide +kernel
theorem dX11_gate_71 : decode cX11_gate 71 = .ok (.invokevirtual 67, 3) := by decide +kernel
theorem dX11_gate_74 : decode cX11_gate 74 = .ok (.ifCond .ne 5, 3) := by decide +kernel
theorem dX11_gate_77 : decode cX11_gate 77 = .ok (.iconst (-1), 1) := by decide +kernel
theorem dX11_gate_78 : decode cX11_gate 78 = .ok (.ireturn, 1) := by decide +kernel
theorem dX11_gate_79 : decode cX11_gate 79 = .ok (.aload_n 0, 1) := by decide +kernel
theorem dX11_gate_80 : decode cX11_gate 80 = .ok (.getfield 12, 3) := by decide +kernel
theorem dX11_gate_83 : decode cX11_gate 83 = .ok (.getfield 70, 3) := by decide +kernel
theorem dX11_gate_86 : decode cX11_gate 86 = .ok (.bipush 24, 2) := by decide +kernel
theorem dX11_gate_88 : decode cX11_gate 88 = .ok (.if_icmp .lt 6, 3) := by decide +kernel
theorem dX11_gate_91 : decode cX11_gate 91 = .ok (.bipush (-2), 2) := by decide +kernel
theorem dX11_gate_93 : decode cX11_gate 93 = .ok (.ireturn, 1) := by decide +kernel
theorem dX11_gate_94 : decode cX11_gate 94 = .ok (.aload_n 0, 1) := by decide +kernel
theorem dX11_gate_95 : decode cX11_gate 95 = .ok (.getfield 12, 3) := by decide +kernel
theorem dX11_gate_98 : decode cX11_gate 98 = .ok (.iload_n 1, 1) := by decide +kernel
theorem dX11_gate_99 : decode cX11_gate 99 = .ok (.iload_n 2, 1) := by decide +kernel
theorem dX11_gate_100 : decode cX11_gate 100 = .ok (.iload 5, 2) := by decide +kernel
theorem dX11_gate_102 : decode cX11_gate 102 = .ok (.ifCond .eq 7, 3) := by decide +kernel
theorem dX11_gate_105 : decode cX11_gate 105 = .ok (.iload_n 3, 1) := by decide +kernel
theorem dX11_gate_106 : decode cX11_gate 106 = .ok (.goto 5, 3) := by decide +kernel
theorem dX11_gate_109 : decode cX11_gate 109 = .ok (.bipush (-2), 2) := by decide +kernel
theorem dX11_gate_111 : decode cX11_gate 111 = .ok (.iload 6, 2) := by decide +kernel
theorem dX11_gate_113 : decode cX11_gate 113 = .ok (.ifCond .eq 8, 3) := by decide +kernel
theorem dX11_gate_116 : decode cX11_gate 116 = .ok (.iload 4, 2) := by decide +kernel
theorem dX11_gate_118 : decode cX11_gate 118 = .ok (.goto 5, 3) := by decide +kernel
theorem dX11_gate_121 : decode cX11_gate 121 = .ok (.bipush (-2), 2) := by decide +kernel
theorem dX11_gate_123 : decode cX11_gate 123 = .ok (.invokevirtual 74, 3) := by decide +kernel
theorem dX11_gate_126 : decode cX11_gate 126 = .ok (.istore 7, 2) := by decide +kernel
theorem dX11_gate_128 : decode cX11_gate 128 = .ok (.aload_n 0, 1) := by decide +kernel
theorem dX11_gate_129 : decode cX11_gate 129 = .ok (.invokevirtual 78, 3) := by decide +kernel
theorem dX11_gate_132 : decode cX11_gate 132 = .ok (.iload 7, 2) := by decide +kernel
theorem dX11_gate_134 : decode cX11_gate 134 = .ok (.ireturn, 1) := by decide +kernel
theorem dX11_connect_0 : decode cX11_connect 0 = .ok (.aload_n 0, 1) := by decide +kernel
theorem dX11_connect_1 : decode cX11_connect 1 = .ok (.getfield 12, 3) := by decide +kernel
theorem dX11_connect_4 : decode cX11_connect 4 = .ok (.iload_n 1, 1) := by decide +kernel
theorem dX11_connect_5 : decode cX11_connect 5 = .ok (.invokevirtual 81, 3) := by decide +kernel
theorem dX11_connect_8 : decode cX11_connect 8 = .ok (.ifCond .eq 14, 3) := by decide +kernel
theorem dX11_connect_11 : decode cX11_connect 11 = .ok (.aload_n 0, 1) := by decide +kernel
theorem dX11_connect_12 : decode cX11_connect 12 = .ok (.getfield 12, 3) := by decide +kernel
theorem dX11_connect_15 : decode cX11_connect 15 = .ok (.iload_n 2, 1) := by decide +kernel
theorem dX11_connect_16 : decode cX11_connect 16 = .ok (.invokevirtual 67, 3) := by decide +kernel
theorem dX11_connect_19 : decode cX11_connect 19 = .ok (.ifCond .ne 5, 3) := by decide +kernel
theorem dX11_connect_22 : decode cX11_connect 22 = .ok (.iconst (-1), 1) := by decide +kernel
theorem dX11_connect_23 : decode cX11_connect 23 = .ok (.ireturn, 1) := by decide +kernel
theorem dX11_connect_24 : decode cX11_connect 24 = .ok (.aload_n 0, 1) := by decide +kernel
theorem dX11_connect_25 : decode cX11_connect 25 = .ok (.getfield 12, 3) := by decide +kernel
theorem dX11_connect_28 : decode cX11_connect 28 = .ok (.getfield 84, 3) := by decide +kernel
theorem dX11_connect_31 : decode cX11_connect 31 = .ok (.iload_n 1, 1) := by decide +kernel
theorem dX11_connect_32 : decode cX11_connect 32 = .ok (.iaload, 1) := by decide +kernel
theorem dX11_connect_33 : decode cX11_connect 33 = .ok (.istore_n 3, 1) := by decide +kernel
theorem dX11_connect_34 : decode cX11_connect 34 = .ok (.aload_n 0, 1) := by decide +kernel
theorem dX11_connect_35 : decode cX11_connect 35 = .ok (.getfield 12, 3) := by decide +kernel
theorem dX11_connect_38 : decode cX11_connect 38 = .ok (.getfield 84, 3) := by decide +kernel
theorem dX11_connect_41 : decode cX11_connect 41 = .ok (.iload_n 1, 1) := by decide +kernel
theorem dX11_connect_42 : decode cX11_connect 42 = .ok (.iload_n 2, 1) := by decide +kernel
theorem dX11_connect_43 : decode cX11_connect 43 = .ok (.iastore, 1) := by decide +kernel
theorem dX11_connect_44 : decode cX11_connect 44 = .ok (.aload_n 0, 1) := by decide +kernel
theorem dX11_connect_45 : decode cX11_connect 45 = .ok (.invokevirtual 78, 3) := by decide +kernel
theorem dX11_connect_48 : decode cX11_connect 48 = .ok (.iload_n 3, 1) := by decide +kernel
theorem dX11_connect_49 : decode cX11_connect 49 = .ok (.ireturn, 1) := by decide +kernel
theorem dX11_bound_0 : decode cX11_bound 0 = .ok (.iload_n 1, 1) := by decide +kernel
theorem dX11_bound_1 : decode cX11_bound 1 = .ok (.invokestatic 59, 3) := by decide +kernel
theorem dX11_bound_4 : decode cX11_bound 4 = .ok (.ifCond .eq 25, 3) := by decide +kernel
theorem dX11_bound_7 : decode cX11_bound 7 = .ok (.iload_n 2, 1) := by decide +kernel
theorem dX11_bound_8 : decode cX11_bound 8 = .ok (.invokestatic 59, 3) := by decide +kernel
theorem dX11_bound_11 : decode cX11_bound 11 = .ok (.ifCond .eq 18, 3) := by decide +kernel
theorem dX11_bound_14 : decode cX11_bound 14 = .ok (.iload_n 1, 1) := by decide +kernel
theorem dX11_bound_15 : decode cX11_bound 15 = .ok (.iload_n 2, 1) := by decide +kernel
theorem dX11_bound_16 : decode cX11_bound 16 = .ok (.if_icmp .eq 13, 3) := by decide +kernel
theorem dX11_bound_19 : decode cX11_bound 19 = .ok (.iload_n 3, 1) := by decide +kernel
theorem dX11_bound_20 : decode cX11_bound 20 = .ok (.ifCond .lt 9, 3) := by decide +kernel
theorem dX11_bound_23 : decode cX11_bound 23 = .ok (.iload_n 3, 1) := by decide +kernel
theorem dX11_bound_24 : decode cX11_bound 24 = .ok (.bipush 9, 2) := by decide +kernel
theorem dX11_bound_26 : decode cX11_bound 26 = .ok (.if_icmp .le 5, 3) := by decide +kernel
theorem dX11_bound_29 : decode cX11_bound 29 = .ok (.iconst (-1), 1) := by decide +kernel
theorem dX11_bound_30 : decode cX11_bound 30 = .ok (.ireturn, 1) := by decide +kernel
theorem dX11_bound_31 : decode cX11_bound 31 = .ok (.aload_n 0, 1) := by decide +kernel
theorem dX11_bound_32 : decode cX11_bound 32 = .ok (.getfield 19, 3) := by decide +kernel
theorem dX11_bound_35 : decode cX11_bound 35 = .ok (.iload_n 1, 1) := by decide +kernel
theorem dX11_bound_36 : decode cX11_bound 36 = .ok (.iload_n 2, 1) := by decide +kernel
theorem dX11_bound_37 : decode cX11_bound 37 = .ok (.invokevirtual 88, 3) := by decide +kernel
theorem dX11_bound_40 : decode cX11_bound 40 = .ok (.istore 4, 2) := by decide +kernel
theorem dX11_bound_42 : decode cX11_bound 42 = .ok (.aload_n 0, 1) := by decide +kernel
theorem dX11_bound_43 : decode cX11_bound 43 = .ok (.getfield 19, 3) := by decide +kernel
theorem dX11_bound_46 : decode cX11_bound 46 = .ok (.iload_n 1, 1) := by decide +kernel
theorem dX11_bound_47 : decode cX11_bound 47 = .ok (.iload_n 2, 1) := by decide +kernel
theorem dX11_bound_48 : decode cX11_bound 48 = .ok (.iload_n 3, 1) := by decide +kernel
theorem dX11_bound_49 : decode cX11_bound 49 = .ok (.invokevirtual 92, 3) := by decide +kernel
theorem dX11_bound_52 : decode cX11_bound 52 = .ok (.aload_n 0, 1) := by decide +kernel
theorem dX11_bound_53 : decode cX11_bound 53 = .ok (.invokevirtual 78, 3) := by decide +kernel
theorem dX11_bound_56 : decode cX11_bound 56 = .ok (.iload 4, 2) := by decide +kernel
theorem dX11_bound_58 : decode cX11_bound 58 = .ok (.ireturn, 1) := by decide +kernel
theorem dX11_still_0 : decode cX11_still 0 = .ok (.aload_n 0, 1) := by decide +kernel
theorem dX11_still_1 : decode cX11_still 1 = .ok (.getfield 12, 3) := by decide +kernel
theorem dX11_still_4 : decode cX11_still 4 = .ok (.iload_n 1, 1) := by decide +kernel
theorem dX11_still_5 : decode cX11_still 5 = .ok (.invokevirtual 96, 3) := by decide +kernel
theorem dX11_still_8 : decode cX11_still 8 = .ok (.ifCond .ne 5, 3) := by decide +kernel
theorem dX11_still_11 : decode cX11_still 11 = .ok (.iconst (-1), 1) := by decide +kernel
theorem dX11_still_12 : decode cX11_still 12 = .ok (.ireturn, 1) := by decide +kernel
theorem dX11_still_13 : decode cX11_still 13 = .ok (.iconst 1, 1) := by decide +kernel
theorem dX11_still_14 : decode cX11_still 14 = .ok (.aload_n 0, 1) := by decide +kernel
theorem dX11_still_15 : decode cX11_still 15 = .ok (.getfield 12, 3) := by decide +kernel
theorem dX11_still_18 : decode cX11_still 18 = .ok (.getfield 99, 3) := by decide +kernel
theorem dX11_still_21 : decode cX11_still 21 = .ok (.iload_n 1, 1) := by decide +kernel
theorem dX11_still_22 : decode cX11_still 22 = .ok (.iaload, 1) := by decide +kernel
theorem dX11_still_23 : decode cX11_still 23 = .ok (.ishl, 1) := by decide +kernel
theorem dX11_still_24 : decode cX11_still 24 = .ok (.istore_n 3, 1) := by decide +kernel
theorem dX11_still_25 : decode cX11_still 25 = .ok (.aload_n 0, 1) := by decide +kernel
theorem dX11_still_26 : decode cX11_still 26 = .ok (.getfield 12, 3) := by decide +kernel
theorem dX11_still_29 : decode cX11_still 29 = .ok (.getfield 102, 3) := by decide +kernel
theorem dX11_still_32 : decode cX11_still 32 = .ok (.iload_n 3, 1) := by decide +kernel
theorem dX11_still_33 : decode cX11_still 33 = .ok (.iand, 1) := by decide +kernel
theorem dX11_still_34 : decode cX11_still 34 = .ok (.ifCond .eq 7, 3) := by decide +kernel
theorem dX11_still_37 : decode cX11_still 37 = .ok (.iconst 1, 1) := by decide +kernel
theorem dX11_still_38 : decode cX11_still 38 = .ok (.goto 4, 3) := by decide +kernel
theorem dX11_still_41 : decode cX11_still 41 = .ok (.iconst 0, 1) := by decide +kernel
theorem dX11_still_42 : decode cX11_still 42 = .ok (.istore 4, 2) := by decide +kernel
theorem dX11_still_44 : decode cX11_still 44 = .ok (.aload_n 0, 1) := by decide +kernel
theorem dX11_still_45 : decode cX11_still 45 = .ok (.getfield 12, 3) := by decide +kernel
theorem dX11_still_48 : decode cX11_still 48 = .ok (.iload_n 2, 1) := by decide +kernel
theorem dX11_still_49 : decode cX11_still 49 = .ok (.ifCond .eq 15, 3) := by decide +kernel
theorem dX11_still_52 : decode cX11_still 52 = .ok (.aload_n 0, 1) := by decide +kernel
theorem dX11_still_53 : decode cX11_still 53 = .ok (.getfield 12, 3) := by decide +kernel
theorem dX11_still_56 : decode cX11_still 56 = .ok (.getfield 102, 3) := by decide +kernel
theorem dX11_still_59 : decode cX11_still 59 = .ok (.iload_n 3, 1) := by decide +kernel
theorem dX11_still_60 : decode cX11_still 60 = .ok (.ior, 1) := by decide +kernel
theorem dX11_still_61 : decode cX11_still 61 = .ok (.goto 14, 3) := by decide +kernel
theorem dX11_still_64 : decode cX11_still 64 = .ok (.aload_n 0, 1) := by decide +kernel
theorem dX11_still_65 : decode cX11_still 65 = .ok (.getfield 12, 3) := by decide +kernel
theorem dX11_still_68 : decode cX11_still 68 = .ok (.getfield 102, 3) := by decide +kernel
theorem dX11_still_71 : decode cX11_still 71 = .ok (.iload_n 3, 1) := by decide +kernel
theorem dX11_still_72 : decode cX11_still 72 = .ok (.iconst (-1), 1) := by decide +kernel
theorem dX11_still_73 : decode cX11_still 73 = .ok (.ixor, 1) := by decide +kernel
theorem dX11_still_74 : decode cX11_still 74 = .ok (.iand, 1) := by decide +kernel
theorem dX11_still_75 : decode cX11_still 75 = .ok (.putfield 102, 3) := by decide +kernel
theorem dX11_still_78 : decode cX11_still 78 = .ok (.iload 4, 2) := by decide +kernel
theorem dX11_still_80 : decode cX11_still 80 = .ok (.ireturn, 1) := by decide +kernel
theorem dX11_promise_0 : decode cX11_promise 0 = .ok (.iload_n 1, 1) := by decide +kernel
theorem dX11_promise_1 : decode cX11_promise 1 = .ok (.ifCond .eq 7, 3) := by decide +kernel
theorem dX11_promise_4 : decode cX11_promise 4 = .ok (.iconst 1, 1) := by decide +kernel
theorem dX11_promise_5 : decode cX11_promise 5 = .ok (.goto 4, 3) := by decide +kernel
theorem dX11_promise_8 : decode cX11_promise 8 = .ok (.iconst 0, 1) := by decide +kernel
theorem dX11_promise_9 : decode cX11_promise 9 = .ok (.istore 4, 2) := by decide +kernel
theorem dX11_promise_11 : decode cX11_promise 11 = .ok (.iload_n 1, 1) := by decide +kernel
theorem dX11_promise_12 : decode cX11_promise 12 = .ok (.ifCond .lt 45, 3) := by decide +kernel
theorem dX11_promise_15 : decode cX11_promise 15 = .ok (.iload_n 1, 1) := by decide +kernel
theorem dX11_promise_16 : decode cX11_promise 16 = .ok (.iconst 3, 1) := by decide +kernel
theorem dX11_promise_17 : decode cX11_promise 17 = .ok (.if_icmp .gt 40, 3) := by decide +kernel
theorem dX11_promise_20 : decode cX11_promise 20 = .ok (.aload_n 0, 1) := by decide +kernel
theorem dX11_promise_21 : decode cX11_promise 21 = .ok (.getfield 12, 3) := by decide +kernel
theorem dX11_promise_24 : decode cX11_promise 24 = .ok (.iload_n 2, 1) := by decide +kernel
theorem dX11_promise_25 : decode cX11_promise 25 = .ok (.invokevirtual 67, 3) := by decide +kernel
theorem dX11_promise_28 : decode cX11_promise 28 = .ok (.ifCond .eq 29, 3) := by decide +kernel
theorem dX11_promise_31 : decode cX11_promise 31 = .ok (.iload 4, 2) := by decide +kernel
theorem dX11_promise_33 : decode cX11_promise 33 = .ok (.ifCond .eq 14, 3) := by decide +kernel
theorem dX11_promise_36 : decode cX11_promise 36 = .ok (.aload_n 0, 1) := by decide +kernel
theorem dX11_promise_37 : decode cX11_promise 37 = .ok (.getfield 12, 3) := by decide +kernel
theorem dX11_promise_40 : decode cX11_promise 40 = .ok (.iload_n 3, 1) := by decide +kernel
theorem dX11_promise_41 : decode cX11_promise 41 = .ok (.invokevirtual 67, 3) := by decide +kernel
theorem dX11_promise_44 : decode cX11_promise 44 = .ok (.ifCond .eq 13, 3) := by decide +kernel
theorem dX11_promise_47 : decode cX11_promise 47 = .ok (.iload_n 1, 1) := by decide +kernel
theorem dX11_promise_48 : decode cX11_promise 48 = .ok (.iconst 3, 1) := by decide +kernel
theorem dX11_promise_49 : decode cX11_promise 49 = .ok (.if_icmp .ne 10, 3) := by decide +kernel
theorem dX11_promise_52 : decode cX11_promise 52 = .ok (.iload_n 2, 1) := by decide +kernel
theorem dX11_promise_53 : decode cX11_promise 53 = .ok (.iload_n 3, 1) := by decide +kernel
theorem dX11_promise_54 : decode cX11_promise 54 = .ok (.if_icmp .le 5, 3) := by decide +kernel
theorem dX11_promise_57 : decode cX11_promise 57 = .ok (.iconst (-1), 1) := by decide +kernel
theorem dX11_promise_58 : decode cX11_promise 58 = .ok (.ireturn, 1) := by decide +kernel
theorem dX11_promise_59 : decode cX11_promise 59 = .ok (.aload_n 0, 1) := by decide +kernel
theorem dX11_promise_60 : decode cX11_promise 60 = .ok (.getfield 28, 3) := by decide +kernel
theorem dX11_promise_63 : decode cX11_promise 63 = .ok (.getfield 105, 3) := by decide +kernel
theorem dX11_promise_66 : decode cX11_promise 66 = .ok (.bipush 8, 2) := by decide +kernel
theorem dX11_promise_68 : decode cX11_promise 68 = .ok (.if_icmp .lt 6, 3) := by decide +kernel
theorem dX11_promise_71 : decode cX11_promise 71 = .ok (.bipush (-2), 2) := by decide +kernel
theorem dX11_promise_73 : decode cX11_promise 73 = .ok (.ireturn, 1) := by decide +kernel
theorem dX11_promise_74 : decode cX11_promise 74 = .ok (.aload_n 0, 1) := by decide +kernel
theorem dX11_promise_75 : decode cX11_promise 75 = .ok (.getfield 49, 3) := by decide +kernel
theorem dX11_promise_78 : decode cX11_promise 78 = .ok (.invokevirtual 108, 3) := by decide +kernel
theorem dX11_promise_81 : decode cX11_promise 81 = .ok (.aload_n 0, 1) := by decide +kernel
theorem dX11_promise_82 : decode cX11_promise 82 = .ok (.getfield 28, 3) := by decide +kernel
theorem dX11_promise_85 : decode cX11_promise 85 = .ok (.iload_n 1, 1) := by decide +kernel
theorem dX11_promise_86 : decode cX11_promise 86 = .ok (.iload_n 2, 1) := by decide +kernel
theorem dX11_promise_87 : decode cX11_promise 87 = .ok (.iload 4, 2) := by decide +kernel
theorem dX11_promise_89 : decode cX11_promise 89 = .ok (.ifCond .eq 7, 3) := by decide +kernel
theorem dX11_promise_92 : decode cX11_promise 92 = .ok (.iload_n 3, 1) := by decide +kernel
theorem dX11_promise_93 : decode cX11_promise 93 = .ok (.goto 4, 3) := by decide +kernel
theorem dX11_promise_96 : decode cX11_promise 96 = .ok (.iload_n 2, 1) := by decide +kernel
theorem dX11_promise_97 : decode cX11_promise 97 = .ok (.invokevirtual 111, 3) := by decide +kernel
theorem dX11_promise_100 : decode cX11_promise 100 = .ok (.ireturn, 1) := by decide +kernel
theorem dX11_start_0 : decode cX11_start 0 = .ok (.aload_n 0, 1) := by decide +kernel
theorem dX11_start_1 : decode cX11_start 1 = .ok (.getfield 40, 3) := by decide +kernel
theorem dX11_start_4 : decode cX11_start 4 = .ok (.getfield 114, 3) := by decide +kernel
theorem dX11_start_7 : decode cX11_start 7 = .ok (.istore_n 1, 1) := by decide +kernel
theorem dX11_start_8 : decode cX11_start 8 = .ok (.aload_n 0, 1) := by decide +kernel
theorem dX11_start_9 : decode cX11_start 9 = .ok (.getfield 40, 3) := by decide +kernel
theorem dX11_start_12 : decode cX11_start 12 = .ok (.invokevirtual 117, 3) := by decide +kernel
theorem dX11_start_15 : decode cX11_start 15 = .ok (.iload_n 1, 1) := by decide +kernel
theorem dX11_start_16 : decode cX11_start 16 = .ok (.ireturn, 1) := by decide +kernel
theorem dX11_moment_0 : decode cX11_moment 0 = .ok (.iload_n 1, 1) := by decide +kernel
theorem dX11_moment_1 : decode cX11_moment 1 = .ok (.iconst 1, 1) := by decide +kernel
theorem dX11_moment_2 : decode cX11_moment 2 = .ok (.if_icmp .lt 17, 3) := by decide +kernel
theorem dX11_moment_5 : decode cX11_moment 5 = .ok (.iload_n 1, 1) := by decide +kernel
theorem dX11_moment_6 : decode cX11_moment 6 = .ok (.bipush 16, 2) := by decide +kernel
theorem dX11_moment_8 : decode cX11_moment 8 = .ok (.if_icmp .ge 11, 3) := by decide +kernel
theorem dX11_moment_11 : decode cX11_moment 11 = .ok (.iload_n 2, 1) := by decide +kernel
theorem dX11_moment_12 : decode cX11_moment 12 = .ok (.ifCond .lt 7, 3) := by decide +kernel
theorem dX11_moment_15 : decode cX11_moment 15 = .ok (.iload_n 3, 1) := by decide +kernel
theorem dX11_moment_16 : decode cX11_moment 16 = .ok (.ifCond .ge 5, 3) := by decide +kernel
theorem dX11_moment_19 : decode cX11_moment 19 = .ok (.iconst (-1), 1) := by decide +kernel
theorem dX11_moment_20 : decode cX11_moment 20 = .ok (.ireturn, 1) := by decide +kernel
theorem dX11_moment_21 : decode cX11_moment 21 = .ok (.aload_n 0, 1) := by decide +kernel
theorem dX11_moment_22 : decode cX11_moment 22 = .ok (.getfield 40, 3) := by decide +kernel
theorem dX11_moment_25 : decode cX11_moment 25 = .ok (.iload_n 1, 1) := by decide +kernel
theorem dX11_moment_26 : decode cX11_moment 26 = .ok (.iload_n 2, 1) := by decide +kernel
theorem dX11_moment_27 : decode cX11_moment 27 = .ok (.iload_n 3, 1) := by decide +kernel
theorem dX11_moment_28 : decode cX11_moment 28 = .ok (.invokevirtual 120, 3) := by decide +kernel
theorem dX11_moment_31 : decode cX11_moment 31 = .ok (.ireturn, 1) := by decide +kernel
theorem dX11_value_0 : decode cX11_value 0 = .ok (.aload_n 0, 1) := by decide +kernel
theorem dX11_value_1 : decode cX11_value 1 = .ok (.getfield 12, 3) := by decide +kernel
theorem dX11_value_4 : decode cX11_value 4 = .ok (.iload_n 1, 1) := by decide +kernel
theorem dX11_value_5 : decode cX11_value 5 = .ok (.invokevirtual 67, 3) := by decide +kernel
theorem dX11_value_8 : decode cX11_value 8 = .ok (.ifCond .ne 5, 3) := by decide +kernel
theorem dX11_value_11 : decode cX11_value 11 = .ok (.iconst (-1), 1) := by decide +kernel
theorem dX11_value_12 : decode cX11_value 12 = .ok (.ireturn, 1) := by decide +kernel
theorem dX11_value_13 : decode cX11_value 13 = .ok (.aload_n 0, 1) := by decide +kernel
theorem dX11_value_14 : decode cX11_value 14 = .ok (.getfield 12, 3) := by decide +kernel
theorem dX11_value_17 : decode cX11_value 17 = .ok (.iload_n 1, 1) := by decide +kernel
theorem dX11_value_18 : decode cX11_value 18 = .ok (.aload_n 0, 1) := by decide +kernel
theorem dX11_value_19 : decode cX11_value 19 = .ok (.getfield 40, 3) := by decide +kernel
theorem dX11_value_22 : decode cX11_value 22 = .ok (.invokevirtual 123, 3) := by decide +kernel
theorem dX11_value_25 : decode cX11_value 25 = .ok (.invokevirtual 127, 3) := by decide +kernel
theorem dX11_value_28 : decode cX11_value 28 = .ok (.ireturn, 1) := by decide +kernel
theorem dX11_either_0 : decode cX11_either 0 = .ok (.iload_n 1, 1) := by decide +kernel
theorem dX11_either_1 : decode cX11_either 1 = .ok (.istore_n 2, 1) := by decide +kernel
theorem dX11_either_2 : decode cX11_either 2 = .ok (.iconst 0, 1) := by decide +kernel
theorem dX11_either_3 : decode cX11_either 3 = .ok (.istore_n 3, 1) := by decide +kernel
theorem dX11_either_4 : decode cX11_either 4 = .ok (.iload_n 3, 1) := by decide +kernel
theorem dX11_either_5 : decode cX11_either 5 = .ok (.aload_n 0, 1) := by decide +kernel
theorem dX11_either_6 : decode cX11_either 6 = .ok (.getfield 12, 3) := by decide +kernel
theorem dX11_either_9 : decode cX11_either 9 = .ok (.getfield 130, 3) := by decide +kernel
theorem dX11_either_12 : decode cX11_either 12 = .ok (.if_icmp .ge 41, 3) := by decide +kernel
theorem dX11_either_15 : decode cX11_either 15 = .ok (.aload_n 0, 1) := by decide +kernel
theorem dX11_either_16 : decode cX11_either 16 = .ok (.getfield 40, 3) := by decide +kernel
theorem dX11_either_19 : decode cX11_either 19 = .ok (.getfield 133, 3) := by decide +kernel
theorem dX11_either_22 : decode cX11_either 22 = .ok (.iload_n 3, 1) := by decide +kernel
theorem dX11_either_23 : decode cX11_either 23 = .ok (.ishr, 1) := by decide +kernel
theorem dX11_either_24 : decode cX11_either 24 = .ok (.iconst 1, 1) := by decide +kernel
theorem dX11_either_25 : decode cX11_either 25 = .ok (.iand, 1) := by decide +kernel
theorem dX11_either_26 : decode cX11_either 26 = .ok (.iconst 1, 1) := by decide +kernel
theorem dX11_either_27 : decode cX11_either 27 = .ok (.if_icmp .ne 20, 3) := by decide +kernel
theorem dX11_either_30 : decode cX11_either 30 = .ok (.iload_n 2, 1) := by decide +kernel
theorem dX11_either_31 : decode cX11_either 31 = .ok (.ifCond .ne 13, 3) := by decide +kernel
theorem dX11_either_34 : decode cX11_either 34 = .ok (.aload_n 0, 1) := by decide +kernel
theorem dX11_either_35 : decode cX11_either 35 = .ok (.getfield 12, 3) := by decide +kernel
theorem dX11_either_38 : decode cX11_either 38 = .ok (.getfield 136, 3) := by decide +kernel
theorem dX11_either_41 : decode cX11_either 41 = .ok (.iload_n 3, 1) := by decide +kernel
theorem dX11_either_42 : decode cX11_either 42 = .ok (.iaload, 1) := by decide +kernel
theorem dX11_either_43 : decode cX11_either 43 = .ok (.ireturn, 1) := by decide +kernel
theorem dX11_either_44 : decode cX11_either 44 = .ok (.iinc 2 (-1), 3) := by decide +kernel
theorem dX11_either_47 : decode cX11_either 47 = .ok (.iinc 3 1, 3) := by decide +kernel
theorem dX11_either_50 : decode cX11_either 50 = .ok (.goto (-46), 3) := by decide +kernel
theorem dX11_either_53 : decode cX11_either 53 = .ok (.iconst (-1), 1) := by decide +kernel
theorem dX11_either_54 : decode cX11_either 54 = .ok (.ireturn, 1) := by decide +kernel
theorem dX11_ticks_0 : decode cX11_ticks 0 = .ok (.iload_n 1, 1) := by decide +kernel
theorem dX11_ticks_1 : decode cX11_ticks 1 = .ok (.invokestatic 59, 3) := by decide +kernel
theorem dX11_ticks_4 : decode cX11_ticks 4 = .ok (.ifCond .eq 15, 3) := by decide +kernel
theorem dX11_ticks_7 : decode cX11_ticks 7 = .ok (.iload_n 2, 1) := by decide +kernel
theorem dX11_ticks_8 : decode cX11_ticks 8 = .ok (.invokestatic 59, 3) := by decide +kernel
theorem dX11_ticks_11 : decode cX11_ticks 11 = .ok (.ifCond .eq 8, 3) := by decide +kernel
theorem dX11_ticks_14 : decode cX11_ticks 14 = .ok (.iload_n 1, 1) := by decide +kernel
theorem dX11_ticks_15 : decode cX11_ticks 15 = .ok (.iload_n 2, 1) := by decide +kernel
theorem dX11_ticks_16 : decode cX11_ticks 16 = .ok (.if_icmp .ne 5, 3) := by decide +kernel
theorem dX11_ticks_19 : decode cX11_ticks 19 = .ok (.iconst (-1), 1) := by decide +kernel
theorem dX11_ticks_20 : decode cX11_ticks 20 = .ok (.ireturn, 1) := by decide +kernel
theorem dX11_ticks_21 : decode cX11_ticks 21 = .ok (.aload_n 0, 1) := by decide +kernel
theorem dX11_ticks_22 : decode cX11_ticks 22 = .ok (.getfield 40, 3) := by decide +kernel
theorem dX11_ticks_25 : decode cX11_ticks 25 = .ok (.getfield 139, 3) := by decide +kernel
theorem dX11_ticks_28 : decode cX11_ticks 28 = .ok (.iload_n 1, 1) := by decide +kernel
theorem dX11_ticks_29 : decode cX11_ticks 29 = .ok (.iload_n 2, 1) := by decide +kernel
theorem dX11_ticks_30 : decode cX11_ticks 30 = .ok (.invokestatic 143, 3) := by decide +kernel
theorem dX11_ticks_33 : decode cX11_ticks 33 = .ok (.ireturn, 1) := by decide +kernel
theorem dX11_broken_0 : decode cX11_broken 0 = .ok (.aload_n 0, 1) := by decide +kernel
theorem dX11_broken_1 : decode cX11_broken 1 = .ok (.getfield 28, 3) := by decide +kernel
theorem dX11_broken_4 : decode cX11_broken 4 = .ok (.iload_n 1, 1) := by decide +kernel
theorem dX11_broken_5 : decode cX11_broken 5 = .ok (.invokevirtual 147, 3) := by decide +kernel
theorem dX11_broken_8 : decode cX11_broken 8 = .ok (.ifCond .ne 5, 3) := by decide +kernel
theorem dX11_broken_11 : decode cX11_broken 11 = .ok (.iconst (-1), 1) := by decide +kernel
theorem dX11_broken_12 : decode cX11_broken 12 = .ok (.ireturn, 1) := by decide +kernel
theorem dX11_broken_13 : decode cX11_broken 13 = .ok (.iconst 0, 1) := by decide +kernel
theorem dX11_broken_14 : decode cX11_broken 14 = .ok (.istore_n 2, 1) := by decide +kernel
theorem dX11_broken_15 : decode cX11_broken 15 = .ok (.iload_n 2, 1) := by decide +kernel
theorem dX11_broken_16 : decode cX11_broken 16 = .ok (.aload_n 0, 1) := by decide +kernel
theorem dX11_broken_17 : decode cX11_broken 17 = .ok (.getfield 40, 3) := by decide +kernel
theorem dX11_broken_20 : decode cX11_broken 20 = .ok (.getfield 114, 3) := by decide +kernel
theorem dX11_broken_23 : decode cX11_broken 23 = .ok (.if_icmp .gt 52, 3) := by decide +kernel
theorem dX11_broken_26 : decode cX11_broken 26 = .ok (.iload_n 2, 1) := by decide +kernel
theorem dX11_broken_27 : decode cX11_broken 27 = .ok (.ifCond .ne 7, 3) := by decide +kernel
theorem dX11_broken_30 : decode cX11_broken 30 = .ok (.iconst 0, 1) := by decide +kernel
theorem dX11_broken_31 : decode cX11_broken 31 = .ok (.goto 6, 3) := by decide +kernel
theorem dX11_broken_34 : decode cX11_broken 34 = .ok (.iload_n 2, 1) := by decide +kernel
theorem dX11_broken_35 : decode cX11_broken 35 = .ok (.iconst 1, 1) := by decide +kernel
theorem dX11_broken_36 : decode cX11_broken 36 = .ok (.isub, 1) := by decide +kernel
theorem dX11_broken_37 : decode cX11_broken 37 = .ok (.istore_n 3, 1) := by decide +kernel
theorem dX11_broken_38 : decode cX11_broken 38 = .ok (.aload_n 0, 1) := by decide +kernel
theorem dX11_broken_39 : decode cX11_broken 39 = .ok (.getfield 28, 3) := by decide +kernel
theorem dX11_broken_42 : decode cX11_broken 42 = .ok (.iload_n 1, 1) := by decide +kernel
theorem dX11_broken_43 : decode cX11_broken 43 = .ok (.aload_n 0, 1) := by decide +kernel
theorem dX11_broken_44 : decode cX11_broken 44 = .ok (.getfield 40, 3) := by decide +kernel
theorem dX11_broken_47 : decode cX11_broken 47 = .ok (.getfield 150, 3) := by decide +kernel
theorem dX11_broken_50 : decode cX11_broken 50 = .ok (.iload_n 3, 1) := by decide +kernel
theorem dX11_broken_51 : decode cX11_broken 51 = .ok (.iaload, 1) := by decide +kernel
theorem dX11_broken_52 : decode cX11_broken 52 = .ok (.aload_n 0, 1) := by decide +kernel
theorem dX11_broken_53 : decode cX11_broken 53 = .ok (.getfield 40, 3) := by decide +kernel
theorem dX11_broken_56 : decode cX11_broken 56 = .ok (.getfield 150, 3) := by decide +kernel
theorem dX11_broken_59 : decode cX11_broken 59 = .ok (.iload_n 2, 1) := by decide +kernel
theorem dX11_broken_60 : decode cX11_broken 60 = .ok (.iaload, 1) := by decide +kernel
theorem dX11_broken_61 : decode cX11_broken 61 = .ok (.invokevirtual 152, 3) := by decide +kernel
theorem dX11_broken_64 : decode cX11_broken 64 = .ok (.ifCond .ne 5, 3) := by decide +kernel
theorem dX11_broken_67 : decode cX11_broken 67 = .ok (.iload_n 2, 1) := by decide +kernel
theorem dX11_broken_68 : decode cX11_broken 68 = .ok (.ireturn, 1) := by decide +kernel
theorem dX11_broken_69 : decode cX11_broken 69 = .ok (.iinc 2 1, 3) := by decide +kernel
theorem dX11_broken_72 : decode cX11_broken 72 = .ok (.goto (-57), 3) := by decide +kernel
theorem dX11_broken_75 : decode cX11_broken 75 = .ok (.bipush (-2), 2) := by decide +kernel
theorem dX11_broken_77 : decode cX11_broken 77 = .ok (.ireturn, 1) := by decide +kernel
theorem dX11_walk_0 : decode cX11_walk 0 = .ok (.aload_n 0, 1) := by decide +kernel
theorem dX11_walk_1 : decode cX11_walk 1 = .ok (.getfield 12, 3) := by decide +kernel
theorem dX11_walk_4 : decode cX11_walk 4 = .ok (.getfield 130, 3) := by decide +kernel
theorem dX11_walk_7 : decode cX11_walk 7 = .ok (.ifCond .ne 6, 3) := by decide +kernel
theorem dX11_walk_10 : decode cX11_walk 10 = .ok (.bipush (-3), 2) := by decide +kernel
theorem dX11_walk_12 : decode cX11_walk 12 = .ok (.ireturn, 1) := by decide +kernel
theorem dX11_walk_13 : decode cX11_walk 13 = .ok (.aload_n 0, 1) := by decide +kernel
theorem dX11_walk_14 : decode cX11_walk 14 = .ok (.getfield 49, 3) := by decide +kernel
theorem dX11_walk_17 : decode cX11_walk 17 = .ok (.getfield 156, 3) := by decide +kernel
theorem dX11_walk_20 : decode cX11_walk 20 = .ok (.ifCond .ne 44, 3) := by decide +kernel
theorem dX11_walk_23 : decode cX11_walk 23 = .ok (.aload_n 0, 1) := by decide +kernel
theorem dX11_walk_24 : decode cX11_walk 24 = .ok (.getfield 49, 3) := by decide +kernel
theorem dX11_walk_27 : decode cX11_walk 27 = .ok (.invokevirtual 159, 3) := by decide +kernel
theorem dX11_walk_30 : decode cX11_walk 30 = .ok (.iconst 0, 1) := by decide +kernel
theorem dX11_walk_31 : decode cX11_walk 31 = .ok (.istore_n 1, 1) := by decide +kernel
theorem dX11_walk_32 : decode cX11_walk 32 = .ok (.iload_n 1, 1) := by decide +kernel
theorem dX11_walk_33 : decode cX11_walk 33 = .ok (.sipush 250, 3) := by decide +kernel
theorem dX11_walk_36 : decode cX11_walk 36 = .ok (.if_icmp .ge 28, 3) := by decide +kernel
theorem dX11_walk_39 : decode cX11_walk 39 = .ok (.aload_n 0, 1) := by decide +kernel
theorem dX11_walk_40 : decode cX11_walk 40 = .ok (.getfield 49, 3) := by decide +kernel
theorem dX11_walk_43 : decode cX11_walk 43 = .ok (.iload_n 1, 1) := by decide +kernel
theorem dX11_walk_44 : decode cX11_walk 44 = .ok (.invokevirtual 160, 3) := by decide +kernel
theorem dX11_walk_47 : decode cX11_walk 47 = .ok (.ifCond .eq 17, 3) := by decide +kernel
theorem dX11_walk_50 : decode cX11_walk 50 = .ok (.aload_n 0, 1) := by decide +kernel
theorem dX11_walk_51 : decode cX11_walk 51 = .ok (.getfield 49, 3) := by decide +kernel
theorem dX11_walk_54 : decode cX11_walk 54 = .ok (.iload_n 1, 1) := by decide +kernel
theorem dX11_walk_55 : decode cX11_walk 55 = .ok (.invokevirtual 163, 3) := by decide +kernel
theorem dX11_walk_58 : decode cX11_walk 58 = .ok (.iinc 1 1, 3) := by decide +kernel
theorem dX11_walk_61 : decode cX11_walk 61 = .ok (.goto (-29), 3) := by decide +kernel
theorem dX11_walk_64 : decode cX11_walk 64 = .ok (.aload_n 0, 1) := by decide +kernel
theorem dX11_walk_65 : decode cX11_walk 65 = .ok (.getfield 49, 3) := by decide +kernel
theorem dX11_walk_68 : decode cX11_walk 68 = .ok (.getfield 167, 3) := by decide +kernel
theorem dX11_walk_71 : decode cX11_walk 71 = .ok (.ifCond .eq 16, 3) := by decide +kernel
theorem dX11_walk_74 : decode cX11_walk 74 = .ok (.bipush (-2), 2) := by decide +kernel
theorem dX11_walk_76 : decode cX11_walk 76 = .ok (.aload_n 0, 1) := by decide +kernel
theorem dX11_walk_77 : decode cX11_walk 77 = .ok (.getfield 49, 3) := by decide +kernel
theorem dX11_walk_80 : decode cX11_walk 80 = .ok (.getfield 156, 3) := by decide +kernel
theorem dX11_walk_83 : decode cX11_walk 83 = .ok (.isub, 1) := by decide +kernel
theorem dX11_walk_84 : decode cX11_walk 84 = .ok (.goto 10, 3) := by decide +kernel
theorem dX11_walk_87 : decode cX11_walk 87 = .ok (.aload_n 0, 1) := by decide +kernel
theorem dX11_walk_88 : decode cX11_walk 88 = .ok (.getfield 49, 3) := by decide +kernel
theorem dX11_walk_91 : decode cX11_walk 91 = .ok (.getfield 156, 3) := by decide +kernel
theorem dX11_walk_94 : decode cX11_walk 94 = .ok (.ireturn, 1) := by decide +kernel
theorem dX11_state_0 : decode cX11_state 0 = .ok (.aload_n 0, 1) := by decide +kernel
theorem dX11_state_1 : decode cX11_state 1 = .ok (.getfield 49, 3) := by decide +kernel
theorem dX11_state_4 : decode cX11_state 4 = .ok (.iload_n 1, 1) := by decide +kernel
theorem dX11_state_5 : decode cX11_state 5 = .ok (.invokevirtual 171, 3) := by decide +kernel
theorem dX11_state_8 : decode cX11_state 8 = .ok (.ifCond .eq 13, 3) := by decide +kernel
theorem dX11_state_11 : decode cX11_state 11 = .ok (.iload_n 2, 1) := by decide +kernel
theorem dX11_state_12 : decode cX11_state 12 = .ok (.ifCond .lt 9, 3) := by decide +kernel
theorem dX11_state_15 : decode cX11_state 15 = .ok (.iload_n 2, 1) := by decide +kernel
theorem dX11_state_16 : decode cX11_state 16 = .ok (.bipush 6, 2) := by decide +kernel
theorem dX11_state_18 : decode cX11_state 18 = .ok (.if_icmp .le 5, 3) := by decide +kernel
theorem dX11_state_21 : decode cX11_state 21 = .ok (.iconst (-1), 1) := by decide +kernel
theorem dX11_state_22 : decode cX11_state 22 = .ok (.ireturn, 1) := by decide +kernel
theorem dX11_state_23 : decode cX11_state 23 = .ok (.iload_n 2, 1) := by decide +kernel
theorem dX11_state_24 : decode cX11_state 24 = .ok (.lookupswitch 66 #[(0, 36), (5, 46), (6, 56)], 36) := by decide +kernel
theorem dX11_state_60 : decode cX11_state 60 = .ok (.aload_n 0, 1) := by decide +kernel
theorem dX11_state_61 : decode cX11_state 61 = .ok (.getfield 49, 3) := by decide +kernel
theorem dX11_state_64 : decode cX11_state 64 = .ok (.getfield 174, 3) := by decide +kernel
theorem dX11_state_67 : decode cX11_state 67 = .ok (.iload_n 1, 1) := by decide +kernel
theorem dX11_state_68 : decode cX11_state 68 = .ok (.iaload, 1) := by decide +kernel
theorem dX11_state_69 : decode cX11_state 69 = .ok (.ireturn, 1) := by decide +kernel
theorem dX11_state_70 : decode cX11_state 70 = .ok (.aload_n 0, 1) := by decide +kernel
theorem dX11_state_71 : decode cX11_state 71 = .ok (.getfield 49, 3) := by decide +kernel
theorem dX11_state_74 : decode cX11_state 74 = .ok (.getfield 175, 3) := by decide +kernel
theorem dX11_state_77 : decode cX11_state 77 = .ok (.iload_n 1, 1) := by decide +kernel
theorem dX11_state_78 : decode cX11_state 78 = .ok (.iaload, 1) := by decide +kernel
theorem dX11_state_79 : decode cX11_state 79 = .ok (.ireturn, 1) := by decide +kernel
theorem dX11_state_80 : decode cX11_state 80 = .ok (.aload_n 0, 1) := by decide +kernel
theorem dX11_state_81 : decode cX11_state 81 = .ok (.getfield 49, 3) := by decide +kernel
theorem dX11_state_84 : decode cX11_state 84 = .ok (.getfield 178, 3) := by decide +kernel
theorem dX11_state_87 : decode cX11_state 87 = .ok (.iload_n 1, 1) := by decide +kernel
theorem dX11_state_88 : decode cX11_state 88 = .ok (.iaload, 1) := by decide +kernel
theorem dX11_state_89 : decode cX11_state 89 = .ok (.ireturn, 1) := by decide +kernel
theorem dX11_state_90 : decode cX11_state 90 = .ok (.aload_n 0, 1) := by decide +kernel
theorem dX11_state_91 : decode cX11_state 91 = .ok (.getfield 49, 3) := by decide +kernel
theorem dX11_state_94 : decode cX11_state 94 = .ok (.getfield 181, 3) := by decide +kernel
theorem dX11_state_97 : decode cX11_state 97 = .ok (.iload_n 1, 1) := by decide +kernel
theorem dX11_state_98 : decode cX11_state 98 = .ok (.iconst 5, 1) := by decide +kernel
theorem dX11_state_99 : decode cX11_state 99 = .ok (.imul, 1) := by decide +kernel
theorem dX11_state_100 : decode cX11_state 100 = .ok (.iload_n 2, 1) := by decide +kernel
theorem dX11_state_101 : decode cX11_state 101 = .ok (.iadd, 1) := by decide +kernel
theorem dX11_state_102 : decode cX11_state 102 = .ok (.iconst 1, 1) := by decide +kernel
theorem dX11_state_103 : decode cX11_state 103 = .ok (.isub, 1) := by decide +kernel
theorem dX11_state_104 : decode cX11_state 104 = .ok (.iaload, 1) := by decide +kernel
theorem dX11_state_105 : decode cX11_state 105 = .ok (.ireturn, 1) := by decide +kernel
theorem dX11_shown_0 : decode cX11_shown 0 = .ok (.aload_n 0, 1) := by decide +kernel
theorem dX11_shown_1 : decode cX11_shown 1 = .ok (.getfield 49, 3) := by decide +kernel
theorem dX11_shown_4 : decode cX11_shown 4 = .ok (.iload_n 1, 1) := by decide +kernel
theorem dX11_shown_5 : decode cX11_shown 5 = .ok (.invokevirtual 171, 3) := by decide +kernel
theorem dX11_shown_8 : decode cX11_shown 8 = .ok (.ifCond .eq 14, 3) := by decide +kernel
theorem dX11_shown_11 : decode cX11_shown 11 = .ok (.aload_n 0, 1) := by decide +kernel
theorem dX11_shown_12 : decode cX11_shown 12 = .ok (.getfield 12, 3) := by decide +kernel
theorem dX11_shown_15 : decode cX11_shown 15 = .ok (.iload_n 2, 1) := by decide +kernel
theorem dX11_shown_16 : decode cX11_shown 16 = .ok (.invokevirtual 67, 3) := by decide +kernel
theorem dX11_shown_19 : decode cX11_shown 19 = .ok (.ifCond .ne 5, 3) := by decide +kernel
theorem dX11_shown_22 : decode cX11_shown 22 = .ok (.iconst (-1), 1) := by decide +kernel
theorem dX11_shown_23 : decode cX11_shown 23 = .ok (.ireturn, 1) := by decide +kernel
theorem dX11_shown_24 : decode cX11_shown 24 = .ok (.aload_n 0, 1) := by decide +kernel
theorem dX11_shown_25 : decode cX11_shown 25 = .ok (.getfield 12, 3) := by decide +kernel
theorem dX11_shown_28 : decode cX11_shown 28 = .ok (.iload_n 2, 1) := by decide +kernel
theorem dX11_shown_29 : decode cX11_shown 29 = .ok (.aload_n 0, 1) := by decide +kernel
theorem dX11_shown_30 : decode cX11_shown 30 = .ok (.getfield 49, 3) := by decide +kernel
theorem dX11_shown_33 : decode cX11_shown 33 = .ok (.getfield 174, 3) := by decide +kernel
theorem dX11_shown_36 : decode cX11_shown 36 = .ok (.iload_n 1, 1) := by decide +kernel
theorem dX11_shown_37 : decode cX11_shown 37 = .ok (.iaload, 1) := by decide +kernel
theorem dX11_shown_38 : decode cX11_shown 38 = .ok (.invokevirtual 127, 3) := by decide +kernel
theorem dX11_shown_41 : decode cX11_shown 41 = .ok (.ireturn, 1) := by decide +kernel
theorem dX11_never_0 : decode cX11_never 0 = .ok (.aload_n 0, 1) := by decide +kernel
theorem dX11_never_1 : decode cX11_never 1 = .ok (.getfield 28, 3) := by decide +kernel
theorem dX11_never_4 : decode cX11_never 4 = .ok (.iload_n 1, 1) := by decide +kernel
theorem dX11_never_5 : decode cX11_never 5 = .ok (.invokevirtual 147, 3) := by decide +kernel
theorem dX11_never_8 : decode cX11_never 8 = .ok (.ifCond .eq 12, 3) := by decide +kernel
theorem dX11_never_11 : decode cX11_never 11 = .ok (.iload_n 2, 1) := by decide +kernel
theorem dX11_never_12 : decode cX11_never 12 = .ok (.ifCond .lt 8, 3) := by decide +kernel
theorem dX11_never_15 : decode cX11_never 15 = .ok (.iload_n 2, 1) := by decide +kernel
theorem dX11_never_16 : decode cX11_never 16 = .ok (.iconst 5, 1) := by decide +kernel
theorem dX11_never_17 : decode cX11_never 17 = .ok (.if_icmp .lt 5, 3) := by decide +kernel
theorem dX11_never_20 : decode cX11_never 20 = .ok (.iconst (-1), 1) := by decide +kernel
theorem dX11_never_21 : decode cX11_never 21 = .ok (.ireturn, 1) := by decide +kernel
theorem dX11_never_22 : decode cX11_never 22 = .ok (.aload_n 0, 1) := by decide +kernel
theorem dX11_never_23 : decode cX11_never 23 = .ok (.getfield 49, 3) := by decide +kernel
theorem dX11_never_26 : decode cX11_never 26 = .ok (.getfield 156, 3) := by decide +kernel
theorem dX11_never_29 : decode cX11_never 29 = .ok (.ifCond .ne 6, 3) := by decide +kernel
theorem dX11_never_32 : decode cX11_never 32 = .ok (.bipush (-3), 2) := by decide +kernel
theorem dX11_never_34 : decode cX11_never 34 = .ok (.ireturn, 1) := by decide +kernel
theorem dX11_never_35 : decode cX11_never 35 = .ok (.aload_n 0, 1) := by decide +kernel
theorem dX11_never_36 : decode cX11_never 36 = .ok (.getfield 49, 3) := by decide +kernel
theorem dX11_never_39 : decode cX11_never 39 = .ok (.iload_n 1, 1) := by decide +kernel
theorem dX11_never_40 : decode cX11_never 40 = .ok (.invokevirtual 184, 3) := by decide +kernel
theorem dX11_never_43 : decode cX11_never 43 = .ok (.ifCond .ne 6, 3) := by decide +kernel
theorem dX11_never_46 : decode cX11_never 46 = .ok (.bipush (-2), 2) := by decide +kernel
theorem dX11_never_48 : decode cX11_never 48 = .ok (.ireturn, 1) := by decide +kernel
theorem dX11_never_49 : decode cX11_never 49 = .ok (.aload_n 0, 1) := by decide +kernel
theorem dX11_never_50 : decode cX11_never 50 = .ok (.getfield 49, 3) := by decide +kernel
theorem dX11_never_53 : decode cX11_never 53 = .ok (.getfield 187, 3) := by decide +kernel
theorem dX11_never_56 : decode cX11_never 56 = .ok (.iload_n 1, 1) := by decide +kernel
theorem dX11_never_57 : decode cX11_never 57 = .ok (.iconst 5, 1) := by decide +kernel
theorem dX11_never_58 : decode cX11_never 58 = .ok (.imul, 1) := by decide +kernel
theorem dX11_never_59 : decode cX11_never 59 = .ok (.iload_n 2, 1) := by decide +kernel
theorem dX11_never_60 : decode cX11_never 60 = .ok (.iadd, 1) := by decide +kernel
theorem dX11_never_61 : decode cX11_never 61 = .ok (.iaload, 1) := by decide +kernel
theorem dX11_never_62 : decode cX11_never 62 = .ok (.ireturn, 1) := by decide +kernel
theorem dX11_follow_0 : decode cX11_follow 0 = .ok (.aload_n 0, 1) := by decide +kernel
theorem dX11_follow_1 : decode cX11_follow 1 = .ok (.getfield 49, 3) := by decide +kernel
theorem dX11_follow_4 : decode cX11_follow 4 = .ok (.iload_n 1, 1) := by decide +kernel
theorem dX11_follow_5 : decode cX11_follow 5 = .ok (.invokevirtual 171, 3) := by decide +kernel
theorem dX11_follow_8 : decode cX11_follow 8 = .ok (.ifCond .ne 5, 3) := by decide +kernel
theorem dX11_follow_11 : decode cX11_follow 11 = .ok (.iconst (-1), 1) := by decide +kernel
theorem dX11_follow_12 : decode cX11_follow 12 = .ok (.ireturn, 1) := by decide +kernel
theorem dX11_follow_13 : decode cX11_follow 13 = .ok (.aload_n 0, 1) := by decide +kernel
theorem dX11_follow_14 : decode cX11_follow 14 = .ok (.getfield 49, 3) := by decide +kernel
theorem dX11_follow_17 : decode cX11_follow 17 = .ok (.getfield 175, 3) := by decide +kernel
theorem dX11_follow_20 : decode cX11_follow 20 = .ok (.iload_n 1, 1) := by decide +kernel
theorem dX11_follow_21 : decode cX11_follow 21 = .ok (.iaload, 1) := by decide +kernel
theorem dX11_follow_22 : decode cX11_follow 22 = .ok (.bipush 60, 2) := by decide +kernel
theorem dX11_follow_24 : decode cX11_follow 24 = .ok (.if_icmp .le 6, 3) := by decide +kernel
theorem dX11_follow_27 : decode cX11_follow 27 = .ok (.bipush (-3), 2) := by decide +kernel
theorem dX11_follow_29 : decode cX11_follow 29 = .ok (.ireturn, 1) := by decide +kernel
theorem dX11_follow_30 : decode cX11_follow 30 = .ok (.aload_n 0, 1) := by decide +kernel
theorem dX11_follow_31 : decode cX11_follow 31 = .ok (.getfield 40, 3) := by decide +kernel
theorem dX11_follow_34 : decode cX11_follow 34 = .ok (.invokevirtual 117, 3) := by decide +kernel
theorem dX11_follow_37 : decode cX11_follow 37 = .ok (.aload_n 0, 1) := by decide +kernel
theorem dX11_follow_38 : decode cX11_follow 38 = .ok (.getfield 49, 3) := by decide +kernel
theorem dX11_follow_41 : decode cX11_follow 41 = .ok (.iload_n 1, 1) := by decide +kernel
theorem dX11_follow_42 : decode cX11_follow 42 = .ok (.aload_n 0, 1) := by decide +kernel
theorem dX11_follow_43 : decode cX11_follow 43 = .ok (.getfield 40, 3) := by decide +kernel
theorem dX11_follow_46 : decode cX11_follow 46 = .ok (.invokevirtual 190, 3) := by decide +kernel
theorem dX11_follow_49 : decode cX11_follow 49 = .ok (.aload_n 0, 1) := by decide +kernel
theorem dX11_follow_50 : decode cX11_follow 50 = .ok (.getfield 40, 3) := by decide +kernel
theorem dX11_follow_53 : decode cX11_follow 53 = .ok (.getfield 114, 3) := by decide +kernel
theorem dX11_follow_56 : decode cX11_follow 56 = .ok (.ireturn, 1) := by decide +kernel
theorem dX11_fewest_0 : decode cX11_fewest 0 = .ok (.aload_n 0, 1) := by decide +kernel
theorem dX11_fewest_1 : decode cX11_fewest 1 = .ok (.getfield 49, 3) := by decide +kernel
theorem dX11_fewest_4 : decode cX11_fewest 4 = .ok (.iload_n 1, 1) := by decide +kernel
theorem dX11_fewest_5 : decode cX11_fewest 5 = .ok (.invokevirtual 171, 3) := by decide +kernel
theorem dX11_fewest_8 : decode cX11_fewest 8 = .ok (.ifCond .ne 5, 3) := by decide +kernel
theorem dX11_fewest_11 : decode cX11_fewest 11 = .ok (.iconst (-1), 1) := by decide +kernel
theorem dX11_fewest_12 : decode cX11_fewest 12 = .ok (.ireturn, 1) := by decide +kernel
theorem dX11_fewest_13 : decode cX11_fewest 13 = .ok (.aload_n 0, 1) := by decide +kernel
theorem dX11_fewest_14 : decode cX11_fewest 14 = .ok (.getfield 49, 3) := by decide +kernel
theorem dX11_fewest_17 : decode cX11_fewest 17 = .ok (.getfield 194, 3) := by decide +kernel
theorem dX11_fewest_20 : decode cX11_fewest 20 = .ok (.iload_n 1, 1) := by decide +kernel
theorem dX11_fewest_21 : decode cX11_fewest 21 = .ok (.aload_n 0, 1) := by decide +kernel
theorem dX11_fewest_22 : decode cX11_fewest 22 = .ok (.getfield 49, 3) := by decide +kernel
theorem dX11_fewest_25 : decode cX11_fewest 25 = .ok (.getfield 156, 3) := by decide +kernel
theorem dX11_fewest_28 : decode cX11_fewest 28 = .ok (.aload_n 0, 1) := by decide +kernel
theorem dX11_fewest_29 : decode cX11_fewest 29 = .ok (.getfield 49, 3) := by decide +kernel
theorem dX11_fewest_32 : decode cX11_fewest 32 = .ok (.getfield 198, 3) := by decide +kernel
theorem dX11_fewest_35 : decode cX11_fewest 35 = .ok (.invokevirtual 201, 3) := by decide +kernel
theorem dX11_fewest_38 : decode cX11_fewest 38 = .ok (.ireturn, 1) := by decide +kernel
theorem dX11_crossings_0 : decode cX11_crossings 0 = .ok (.aload_n 0, 1) := by decide +kernel
theorem dX11_crossings_1 : decode cX11_crossings 1 = .ok (.getfield 12, 3) := by decide +kernel
theorem dX11_crossings_4 : decode cX11_crossings 4 = .ok (.invokestatic 206, 3) := by decide +kernel
theorem dX11_crossings_7 : decode cX11_crossings 7 = .ok (.ireturn, 1) := by decide +kernel
theorem dX11_crossing_0 : decode cX11_crossing 0 = .ok (.aload_n 0, 1) := by decide +kernel
theorem dX11_crossing_1 : decode cX11_crossing 1 = .ok (.getfield 12, 3) := by decide +kernel
theorem dX11_crossing_4 : decode cX11_crossing 4 = .ok (.iload_n 1, 1) := by decide +kernel
theorem dX11_crossing_5 : decode cX11_crossing 5 = .ok (.invokestatic 211, 3) := by decide +kernel
theorem dX11_crossing_8 : decode cX11_crossing 8 = .ok (.istore_n 3, 1) := by decide +kernel
theorem dX11_crossing_9 : decode cX11_crossing 9 = .ok (.iload_n 3, 1) := by decide +kernel
theorem dX11_crossing_10 : decode cX11_crossing 10 = .ok (.ifCond .ge 5, 3) := by decide +kernel
theorem dX11_crossing_13 : decode cX11_crossing 13 = .ok (.iconst (-1), 1) := by decide +kernel
theorem dX11_crossing_14 : decode cX11_crossing 14 = .ok (.ireturn, 1) := by decide +kernel
theorem dX11_crossing_15 : decode cX11_crossing 15 = .ok (.iload_n 2, 1) := by decide +kernel
theorem dX11_crossing_16 : decode cX11_crossing 16 = .ok (.tableswitch 97 0 4 #[36, 38, 47, 64, 81], 36) := by decide +kernel
theorem dX11_crossing_52 : decode cX11_crossing 52 = .ok (.iload_n 3, 1) := by decide +kernel
theorem dX11_crossing_53 : decode cX11_crossing 53 = .ok (.ireturn, 1) := by decide +kernel
theorem dX11_crossing_54 : decode cX11_crossing 54 = .ok (.aload_n 0, 1) := by decide +kernel
theorem dX11_crossing_55 : decode cX11_crossing 55 = .ok (.getfield 12, 3) := by decide +kernel
theorem dX11_crossing_58 : decode cX11_crossing 58 = .ok (.iload_n 3, 1) := by decide +kernel
theorem dX11_crossing_59 : decode cX11_crossing 59 = .ok (.invokestatic 215, 3) := by decide +kernel
theorem dX11_crossing_62 : decode cX11_crossing 62 = .ok (.ireturn, 1) := by decide +kernel
theorem dX11_crossing_63 : decode cX11_crossing 63 = .ok (.aload_n 0, 1) := by decide +kernel
theorem dX11_crossing_64 : decode cX11_crossing 64 = .ok (.getfield 12, 3) := by decide +kernel
theorem dX11_crossing_67 : decode cX11_crossing 67 = .ok (.iload_n 3, 1) := by decide +kernel
theorem dX11_crossing_68 : decode cX11_crossing 68 = .ok (.invokestatic 218, 3) := by decide +kernel
theorem dX11_crossing_71 : decode cX11_crossing 71 = .ok (.ifCond .eq 7, 3) := by decide +kernel
theorem dX11_crossing_74 : decode cX11_crossing 74 = .ok (.iconst 1, 1) := by decide +kernel
theorem dX11_crossing_75 : decode cX11_crossing 75 = .ok (.goto 4, 3) := by decide +kernel
theorem dX11_crossing_78 : decode cX11_crossing 78 = .ok (.iconst 0, 1) := by decide +kernel
theorem dX11_crossing_79 : decode cX11_crossing 79 = .ok (.ireturn, 1) := by decide +kernel
theorem dX11_crossing_80 : decode cX11_crossing 80 = .ok (.aload_n 0, 1) := by decide +kernel
theorem dX11_crossing_81 : decode cX11_crossing 81 = .ok (.getfield 12, 3) := by decide +kernel
theorem dX11_crossing_84 : decode cX11_crossing 84 = .ok (.iload_n 3, 1) := by decide +kernel
theorem dX11_crossing_85 : decode cX11_crossing 85 = .ok (.invokestatic 222, 3) := by decide +kernel
theorem dX11_crossing_88 : decode cX11_crossing 88 = .ok (.ifCond .eq 7, 3) := by decide +kernel
theorem dX11_crossing_91 : decode cX11_crossing 91 = .ok (.iconst 1, 1) := by decide +kernel
theorem dX11_crossing_92 : decode cX11_crossing 92 = .ok (.goto 4, 3) := by decide +kernel
theorem dX11_crossing_95 : decode cX11_crossing 95 = .ok (.iconst 0, 1) := by decide +kernel
theorem dX11_crossing_96 : decode cX11_crossing 96 = .ok (.ireturn, 1) := by decide +kernel
theorem dX11_crossing_97 : decode cX11_crossing 97 = .ok (.aload_n 0, 1) := by decide +kernel
theorem dX11_crossing_98 : decode cX11_crossing 98 = .ok (.getfield 12, 3) := by decide +kernel
theorem dX11_crossing_101 : decode cX11_crossing 101 = .ok (.aload_n 0, 1) := by decide +kernel
theorem dX11_crossing_102 : decode cX11_crossing 102 = .ok (.getfield 12, 3) := by decide +kernel
theorem dX11_crossing_105 : decode cX11_crossing 105 = .ok (.iload_n 3, 1) := by decide +kernel
theorem dX11_crossing_106 : decode cX11_crossing 106 = .ok (.invokevirtual 225, 3) := by decide +kernel
theorem dX11_crossing_109 : decode cX11_crossing 109 = .ok (.invokevirtual 229, 3) := by decide +kernel
theorem dX11_crossing_112 : decode cX11_crossing 112 = .ok (.ireturn, 1) := by decide +kernel
theorem dX11_crossing_113 : decode cX11_crossing 113 = .ok (.iconst (-1), 1) := by decide +kernel
theorem dX11_crossing_114 : decode cX11_crossing 114 = .ok (.ireturn, 1) := by decide +kernel
theorem dX11_mend_0 : decode cX11_mend 0 = .ok (.aload_n 0, 1) := by decide +kernel
theorem dX11_mend_1 : decode cX11_mend 1 = .ok (.getfield 12, 3) := by decide +kernel
theorem dX11_mend_4 : decode cX11_mend 4 = .ok (.iload_n 1, 1) := by decide +kernel
theorem dX11_mend_5 : decode cX11_mend 5 = .ok (.invokestatic 211, 3) := by decide +kernel
theorem dX11_mend_8 : decode cX11_mend 8 = .ok (.istore_n 2, 1) := by decide +kernel
theorem dX11_mend_9 : decode cX11_mend 9 = .ok (.iload_n 2, 1) := by decide +kernel
theorem dX11_mend_10 : decode cX11_mend 10 = .ok (.ifCond .ge 5, 3) := by decide +kernel
theorem dX11_mend_13 : decode cX11_mend 13 = .ok (.iconst (-1), 1) := by decide +kernel
theorem dX11_mend_14 : decode cX11_mend 14 = .ok (.ireturn, 1) := by decide +kernel
theorem dX11_mend_15 : decode cX11_mend 15 = .ok (.aload_n 0, 1) := by decide +kernel
theorem dX11_mend_16 : decode cX11_mend 16 = .ok (.getfield 12, 3) := by decide +kernel
theorem dX11_mend_19 : decode cX11_mend 19 = .ok (.invokevirtual 232, 3) := by decide +kernel
theorem dX11_mend_22 : decode cX11_mend 22 = .ok (.ifCond .eq 6, 3) := by decide +kernel
theorem dX11_mend_25 : decode cX11_mend 25 = .ok (.bipush (-2), 2) := by decide +kernel
theorem dX11_mend_27 : decode cX11_mend 27 = .ok (.ireturn, 1) := by decide +kernel
theorem dX11_mend_28 : decode cX11_mend 28 = .ok (.aload_n 0, 1) := by decide +kernel
theorem dX11_mend_29 : decode cX11_mend 29 = .ok (.getfield 12, 3) := by decide +kernel
theorem dX11_mend_32 : decode cX11_mend 32 = .ok (.iload_n 2, 1) := by decide +kernel
theorem dX11_mend_33 : decode cX11_mend 33 = .ok (.invokestatic 215, 3) := by decide +kernel
theorem dX11_mend_36 : decode cX11_mend 36 = .ok (.iconst 3, 1) := by decide +kernel
theorem dX11_mend_37 : decode cX11_mend 37 = .ok (.if_icmp .eq 6, 3) := by decide +kernel
theorem dX11_mend_40 : decode cX11_mend 40 = .ok (.bipush (-3), 2) := by decide +kernel
theorem dX11_mend_42 : decode cX11_mend 42 = .ok (.ireturn, 1) := by decide +kernel
theorem dX11_mend_43 : decode cX11_mend 43 = .ok (.aload_n 0, 1) := by decide +kernel
theorem dX11_mend_44 : decode cX11_mend 44 = .ok (.getfield 12, 3) := by decide +kernel
theorem dX11_mend_47 : decode cX11_mend 47 = .ok (.iload_n 2, 1) := by decide +kernel
theorem dX11_mend_48 : decode cX11_mend 48 = .ok (.invokevirtual 236, 3) := by decide +kernel
theorem dX11_mend_51 : decode cX11_mend 51 = .ok (.istore_n 3, 1) := by decide +kernel
theorem dX11_mend_52 : decode cX11_mend 52 = .ok (.aload_n 0, 1) := by decide +kernel
theorem dX11_mend_53 : decode cX11_mend 53 = .ok (.invokevirtual 78, 3) := by decide +kernel
theorem dX11_mend_56 : decode cX11_mend 56 = .ok (.iload_n 3, 1) := by decide +kernel
theorem dX11_mend_57 : decode cX11_mend 57 = .ok (.ireturn, 1) := by decide +kernel
theorem dX11_count_0 : decode cX11_count 0 = .ok (.iload_n 1, 1) := by decide +kernel
theorem dX11_count_1 : decode cX11_count 1 = .ok (.tableswitch 119 0 7 #[47, 55, 63, 79, 87, 95, 103, 111], 47) := by decide +kernel
theorem dX11_count_48 : decode cX11_count 48 = .ok (.aload_n 0, 1) := by decide +kernel
theorem dX11_count_49 : decode cX11_count 49 = .ok (.getfield 12, 3) := by decide +kernel
theorem dX11_count_52 : decode cX11_count 52 = .ok (.getfield 70, 3) := by decide +kernel
theorem dX11_count_55 : decode cX11_count 55 = .ok (.ireturn, 1) := by decide +kernel
theorem dX11_count_56 : decode cX11_count 56 = .ok (.aload_n 0, 1) := by decide +kernel
theorem dX11_count_57 : decode cX11_count 57 = .ok (.getfield 12, 3) := by decide +kernel
theorem dX11_count_60 : decode cX11_count 60 = .ok (.getfield 130, 3) := by decide +kernel
theorem dX11_count_63 : decode cX11_count 63 = .ok (.ireturn, 1) := by decide +kernel
theorem dX11_count_64 : decode cX11_count 64 = .ok (.aload_n 0, 1) := by decide +kernel
theorem dX11_count_65 : decode cX11_count 65 = .ok (.getfield 12, 3) := by decide +kernel
theorem dX11_count_68 : decode cX11_count 68 = .ok (.getfield 70, 3) := by decide +kernel
theorem dX11_count_71 : decode cX11_count 71 = .ok (.aload_n 0, 1) := by decide +kernel
theorem dX11_count_72 : decode cX11_count 72 = .ok (.getfield 12, 3) := by decide +kernel
theorem dX11_count_75 : decode cX11_count 75 = .ok (.getfield 130, 3) := by decide +kernel
theorem dX11_count_78 : decode cX11_count 78 = .ok (.isub, 1) := by decide +kernel
theorem dX11_count_79 : decode cX11_count 79 = .ok (.ireturn, 1) := by decide +kernel
theorem dX11_count_80 : decode cX11_count 80 = .ok (.aload_n 0, 1) := by decide +kernel
theorem dX11_count_81 : decode cX11_count 81 = .ok (.getfield 28, 3) := by decide +kernel
theorem dX11_count_84 : decode cX11_count 84 = .ok (.getfield 105, 3) := by decide +kernel
theorem dX11_count_87 : decode cX11_count 87 = .ok (.ireturn, 1) := by decide +kernel
theorem dX11_count_88 : decode cX11_count 88 = .ok (.aload_n 0, 1) := by decide +kernel
theorem dX11_count_89 : decode cX11_count 89 = .ok (.getfield 40, 3) := by decide +kernel
theorem dX11_count_92 : decode cX11_count 92 = .ok (.getfield 114, 3) := by decide +kernel
theorem dX11_count_95 : decode cX11_count 95 = .ok (.ireturn, 1) := by decide +kernel
theorem dX11_count_96 : decode cX11_count 96 = .ok (.aload_n 0, 1) := by decide +kernel
theorem dX11_count_97 : decode cX11_count 97 = .ok (.getfield 49, 3) := by decide +kernel
theorem dX11_count_100 : decode cX11_count 100 = .ok (.getfield 156, 3) := by decide +kernel
theorem dX11_count_103 : decode cX11_count 103 = .ok (.ireturn, 1) := by decide +kernel
theorem dX11_count_104 : decode cX11_count 104 = .ok (.aload_n 0, 1) := by decide +kernel
theorem dX11_count_105 : decode cX11_count 105 = .ok (.getfield 49, 3) := by decide +kernel
theorem dX11_count_108 : decode cX11_count 108 = .ok (.getfield 198, 3) := by decide +kernel
theorem dX11_count_111 : decode cX11_count 111 = .ok (.ireturn, 1) := by decide +kernel
theorem dX11_count_112 : decode cX11_count 112 = .ok (.aload_n 0, 1) := by decide +kernel
theorem dX11_count_113 : decode cX11_count 113 = .ok (.getfield 49, 3) := by decide +kernel
theorem dX11_count_116 : decode cX11_count 116 = .ok (.getfield 239, 3) := by decide +kernel
theorem dX11_count_119 : decode cX11_count 119 = .ok (.ireturn, 1) := by decide +kernel
theorem dX11_count_120 : decode cX11_count 120 = .ok (.iconst (-1), 1) := by decide +kernel
theorem dX11_count_121 : decode cX11_count 121 = .ok (.ireturn, 1) := by decide +kernel
theorem dX11_look_0 : decode cX11_look 0 = .ok (.aload_n 0, 1) := by decide +kernel
