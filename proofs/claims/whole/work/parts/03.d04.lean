theorem dX12_promise_102 : decode cX12_promise 102 = .ok (.invokevirtual 151, 3) := by decide +kernel
theorem dX12_promise_105 : decode cX12_promise 105 = .ok (.aload_n 0, 1) := by decide +kernel
theorem dX12_promise_106 : decode cX12_promise 106 = .ok (.getfield 180, 3) := by decide +kernel
theorem dX12_promise_109 : decode cX12_promise 109 = .ok (.iconst 1, 1) := by decide +kernel
theorem dX12_promise_110 : decode cX12_promise 110 = .ok (.isub, 1) := by decide +kernel
theorem dX12_promise_111 : decode cX12_promise 111 = .ok (.ireturn, 1) := by decide +kernel
theorem dX12_isTicking_0 : decode cX12_isTicking 0 = .ok (.aload_n 0, 1) := by decide +kernel
theorem dX12_isTicking_1 : decode cX12_isTicking 1 = .ok (.getfield 7, 3) := by decide +kernel
theorem dX12_isTicking_4 : decode cX12_isTicking 4 = .ok (.iload_n 2, 1) := by decide +kernel
theorem dX12_isTicking_5 : decode cX12_isTicking 5 = .ok (.iaload, 1) := by decide +kernel
theorem dX12_isTicking_6 : decode cX12_isTicking 6 = .ok (.iconst 4, 1) := by decide +kernel
theorem dX12_isTicking_7 : decode cX12_isTicking 7 = .ok (.if_icmp .le 21, 3) := by decide +kernel
theorem dX12_isTicking_10 : decode cX12_isTicking 10 = .ok (.iload_n 1, 1) := by decide +kernel
theorem dX12_isTicking_11 : decode cX12_isTicking 11 = .ok (.aload_n 0, 1) := by decide +kernel
theorem dX12_isTicking_12 : decode cX12_isTicking 12 = .ok (.getfield 13, 3) := by decide +kernel
theorem dX12_isTicking_15 : decode cX12_isTicking 15 = .ok (.iload_n 2, 1) := by decide +kernel
theorem dX12_isTicking_16 : decode cX12_isTicking 16 = .ok (.iaload, 1) := by decide +kernel
theorem dX12_isTicking_17 : decode cX12_isTicking 17 = .ok (.ishr, 1) := by decide +kernel
theorem dX12_isTicking_18 : decode cX12_isTicking 18 = .ok (.iconst 1, 1) := by decide +kernel
theorem dX12_isTicking_19 : decode cX12_isTicking 19 = .ok (.iand, 1) := by decide +kernel
theorem dX12_isTicking_20 : decode cX12_isTicking 20 = .ok (.iconst 1, 1) := by decide +kernel
theorem dX12_isTicking_21 : decode cX12_isTicking 21 = .ok (.if_icmp .ne 7, 3) := by decide +kernel
theorem dX12_isTicking_24 : decode cX12_isTicking 24 = .ok (.iconst 1, 1) := by decide +kernel
theorem dX12_isTicking_25 : decode cX12_isTicking 25 = .ok (.goto 4, 3) := by decide +kernel
theorem dX12_isTicking_28 : decode cX12_isTicking 28 = .ok (.iconst 0, 1) := by decide +kernel
theorem dX12_isTicking_29 : decode cX12_isTicking 29 = .ok (.ireturn, 1) := by decide +kernel
theorem dX12_then_0 : decode cX12_then 0 = .ok (.iload_n 2, 1) := by decide +kernel
theorem dX12_then_1 : decode cX12_then 1 = .ok (.iload_n 3, 1) := by decide +kernel
theorem dX12_then_2 : decode cX12_then 2 = .ok (.iconst 4, 1) := by decide +kernel
theorem dX12_then_3 : decode cX12_then 3 = .ok (.irem, 1) := by decide +kernel
theorem dX12_then_4 : decode cX12_then 4 = .ok (.ishr, 1) := by decide +kernel
theorem dX12_then_5 : decode cX12_then 5 = .ok (.iconst 1, 1) := by decide +kernel
theorem dX12_then_6 : decode cX12_then 6 = .ok (.iand, 1) := by decide +kernel
theorem dX12_then_7 : decode cX12_then 7 = .ok (.iconst 1, 1) := by decide +kernel
theorem dX12_then_8 : decode cX12_then 8 = .ok (.if_icmp .ne 7, 3) := by decide +kernel
theorem dX12_then_11 : decode cX12_then 11 = .ok (.iconst 0, 1) := by decide +kernel
theorem dX12_then_12 : decode cX12_then 12 = .ok (.goto 21, 3) := by decide +kernel
theorem dX12_then_15 : decode cX12_then 15 = .ok (.iload_n 2, 1) := by decide +kernel
theorem dX12_then_16 : decode cX12_then 16 = .ok (.iload_n 3, 1) := by decide +kernel
theorem dX12_then_17 : decode cX12_then 17 = .ok (.iconst 4, 1) := by decide +kernel
theorem dX12_then_18 : decode cX12_then 18 = .ok (.idiv, 1) := by decide +kernel
theorem dX12_then_19 : decode cX12_then 19 = .ok (.ishr, 1) := by decide +kernel
theorem dX12_then_20 : decode cX12_then 20 = .ok (.iconst 1, 1) := by decide +kernel
theorem dX12_then_21 : decode cX12_then 21 = .ok (.iand, 1) := by decide +kernel
theorem dX12_then_22 : decode cX12_then 22 = .ok (.iconst 1, 1) := by decide +kernel
theorem dX12_then_23 : decode cX12_then 23 = .ok (.if_icmp .ne 9, 3) := by decide +kernel
theorem dX12_then_26 : decode cX12_then 26 = .ok (.iload_n 1, 1) := by decide +kernel
theorem dX12_then_27 : decode cX12_then 27 = .ok (.iconst 1, 1) := by decide +kernel
theorem dX12_then_28 : decode cX12_then 28 = .ok (.iadd, 1) := by decide +kernel
theorem dX12_then_29 : decode cX12_then 29 = .ok (.goto 4, 3) := by decide +kernel
theorem dX12_then_32 : decode cX12_then 32 = .ok (.iload_n 1, 1) := by decide +kernel
theorem dX12_then_33 : decode cX12_then 33 = .ok (.ireturn, 1) := by decide +kernel
theorem dX12_fits_0 : decode cX12_fits 0 = .ok (.aload_n 0, 1) := by decide +kernel
theorem dX12_fits_1 : decode cX12_fits 1 = .ok (.getfield 32, 3) := by decide +kernel
theorem dX12_fits_4 : decode cX12_fits 4 = .ok (.iload_n 1, 1) := by decide +kernel
theorem dX12_fits_5 : decode cX12_fits 5 = .ok (.iaload, 1) := by decide +kernel
theorem dX12_fits_6 : decode cX12_fits 6 = .ok (.ifCond .eq 13, 3) := by decide +kernel
theorem dX12_fits_9 : decode cX12_fits 9 = .ok (.iload_n 2, 1) := by decide +kernel
theorem dX12_fits_10 : decode cX12_fits 10 = .ok (.aload_n 0, 1) := by decide +kernel
theorem dX12_fits_11 : decode cX12_fits 11 = .ok (.getfield 32, 3) := by decide +kernel
theorem dX12_fits_14 : decode cX12_fits 14 = .ok (.iload_n 1, 1) := by decide +kernel
theorem dX12_fits_15 : decode cX12_fits 15 = .ok (.iaload, 1) := by decide +kernel
theorem dX12_fits_16 : decode cX12_fits 16 = .ok (.if_icmp .gt 7, 3) := by decide +kernel
theorem dX12_fits_19 : decode cX12_fits 19 = .ok (.iconst 1, 1) := by decide +kernel
theorem dX12_fits_20 : decode cX12_fits 20 = .ok (.goto 4, 3) := by decide +kernel
theorem dX12_fits_23 : decode cX12_fits 23 = .ok (.iconst 0, 1) := by decide +kernel
theorem dX12_fits_24 : decode cX12_fits 24 = .ok (.ireturn, 1) := by decide +kernel
theorem dX12_mixed_0 : decode cX12_mixed 0 = .ok (.aload_n 0, 1) := by decide +kernel
theorem dX12_mixed_1 : decode cX12_mixed 1 = .ok (.aload_n 0, 1) := by decide +kernel
theorem dX12_mixed_2 : decode cX12_mixed 2 = .ok (.getfield 183, 3) := by decide +kernel
theorem dX12_mixed_5 : decode cX12_mixed 5 = .ok (.iload_n 1, 1) := by decide +kernel
theorem dX12_mixed_6 : decode cX12_mixed 6 = .ok (.iconst (-1), 1) := by decide +kernel
theorem dX12_mixed_7 : decode cX12_mixed 7 = .ok (.ixor, 1) := by decide +kernel
theorem dX12_mixed_8 : decode cX12_mixed 8 = .ok (.iand, 1) := by decide +kernel
theorem dX12_mixed_9 : decode cX12_mixed 9 = .ok (.aload_n 0, 1) := by decide +kernel
theorem dX12_mixed_10 : decode cX12_mixed 10 = .ok (.getfield 186, 3) := by decide +kernel
theorem dX12_mixed_13 : decode cX12_mixed 13 = .ok (.iload_n 1, 1) := by decide +kernel
theorem dX12_mixed_14 : decode cX12_mixed 14 = .ok (.iand, 1) := by decide +kernel
theorem dX12_mixed_15 : decode cX12_mixed 15 = .ok (.ior, 1) := by decide +kernel
theorem dX12_mixed_16 : decode cX12_mixed 16 = .ok (.invokevirtual 137, 3) := by decide +kernel
theorem dX12_mixed_19 : decode cX12_mixed 19 = .ok (.ireturn, 1) := by decide +kernel
theorem dX12_isEither_0 : decode cX12_isEither 0 = .ok (.iconst 0, 1) := by decide +kernel
theorem dX12_isEither_1 : decode cX12_isEither 1 = .ok (.istore_n 2, 1) := by decide +kernel
theorem dX12_isEither_2 : decode cX12_isEither 2 = .ok (.iconst 0, 1) := by decide +kernel
theorem dX12_isEither_3 : decode cX12_isEither 3 = .ok (.istore_n 3, 1) := by decide +kernel
theorem dX12_isEither_4 : decode cX12_isEither 4 = .ok (.iload_n 3, 1) := by decide +kernel
theorem dX12_isEither_5 : decode cX12_isEither 5 = .ok (.aload_n 0, 1) := by decide +kernel
theorem dX12_isEither_6 : decode cX12_isEither 6 = .ok (.getfield 126, 3) := by decide +kernel
theorem dX12_isEither_9 : decode cX12_isEither 9 = .ok (.if_icmp .ge 46, 3) := by decide +kernel
theorem dX12_isEither_12 : decode cX12_isEither 12 = .ok (.iload_n 2, 1) := by decide +kernel
theorem dX12_isEither_13 : decode cX12_isEither 13 = .ok (.aload_n 0, 1) := by decide +kernel
theorem dX12_isEither_14 : decode cX12_isEither 14 = .ok (.getfield 189, 3) := by decide +kernel
theorem dX12_isEither_17 : decode cX12_isEither 17 = .ok (.iload_n 3, 1) := by decide +kernel
theorem dX12_isEither_18 : decode cX12_isEither 18 = .ok (.ishr, 1) := by decide +kernel
theorem dX12_isEither_19 : decode cX12_isEither 19 = .ok (.iconst 1, 1) := by decide +kernel
theorem dX12_isEither_20 : decode cX12_isEither 20 = .ok (.iand, 1) := by decide +kernel
theorem dX12_isEither_21 : decode cX12_isEither 21 = .ok (.iconst 1, 1) := by decide +kernel
theorem dX12_isEither_22 : decode cX12_isEither 22 = .ok (.if_icmp .ne 24, 3) := by decide +kernel
theorem dX12_isEither_25 : decode cX12_isEither 25 = .ok (.aload_n 0, 1) := by decide +kernel
theorem dX12_isEither_26 : decode cX12_isEither 26 = .ok (.getfield 13, 3) := by decide +kernel
theorem dX12_isEither_29 : decode cX12_isEither 29 = .ok (.iload_n 3, 1) := by decide +kernel
theorem dX12_isEither_30 : decode cX12_isEither 30 = .ok (.iaload, 1) := by decide +kernel
theorem dX12_isEither_31 : decode cX12_isEither 31 = .ok (.aload_n 0, 1) := by decide +kernel
theorem dX12_isEither_32 : decode cX12_isEither 32 = .ok (.getfield 13, 3) := by decide +kernel
theorem dX12_isEither_35 : decode cX12_isEither 35 = .ok (.iload_n 1, 1) := by decide +kernel
theorem dX12_isEither_36 : decode cX12_isEither 36 = .ok (.iaload, 1) := by decide +kernel
theorem dX12_isEither_37 : decode cX12_isEither 37 = .ok (.if_icmp .eq 9, 3) := by decide +kernel
theorem dX12_isEither_40 : decode cX12_isEither 40 = .ok (.iconst 1, 1) := by decide +kernel
theorem dX12_isEither_41 : decode cX12_isEither 41 = .ok (.iload_n 3, 1) := by decide +kernel
theorem dX12_isEither_42 : decode cX12_isEither 42 = .ok (.ishl, 1) := by decide +kernel
theorem dX12_isEither_43 : decode cX12_isEither 43 = .ok (.goto 4, 3) := by decide +kernel
theorem dX12_isEither_46 : decode cX12_isEither 46 = .ok (.iconst 0, 1) := by decide +kernel
theorem dX12_isEither_47 : decode cX12_isEither 47 = .ok (.ior, 1) := by decide +kernel
theorem dX12_isEither_48 : decode cX12_isEither 48 = .ok (.istore_n 2, 1) := by decide +kernel
theorem dX12_isEither_49 : decode cX12_isEither 49 = .ok (.iinc 3 1, 3) := by decide +kernel
theorem dX12_isEither_52 : decode cX12_isEither 52 = .ok (.goto (-48), 3) := by decide +kernel
theorem dX12_isEither_55 : decode cX12_isEither 55 = .ok (.aload_n 0, 1) := by decide +kernel
theorem dX12_isEither_56 : decode cX12_isEither 56 = .ok (.getfield 183, 3) := by decide +kernel
theorem dX12_isEither_59 : decode cX12_isEither 59 = .ok (.aload_n 0, 1) := by decide +kernel
theorem dX12_isEither_60 : decode cX12_isEither 60 = .ok (.getfield 19, 3) := by decide +kernel
theorem dX12_isEither_63 : decode cX12_isEither 63 = .ok (.iload_n 1, 1) := by decide +kernel
theorem dX12_isEither_64 : decode cX12_isEither 64 = .ok (.iaload, 1) := by decide +kernel
theorem dX12_isEither_65 : decode cX12_isEither 65 = .ok (.invokestatic 133, 3) := by decide +kernel
theorem dX12_isEither_68 : decode cX12_isEither 68 = .ok (.istore_n 3, 1) := by decide +kernel
theorem dX12_isEither_69 : decode cX12_isEither 69 = .ok (.iload_n 2, 1) := by decide +kernel
theorem dX12_isEither_70 : decode cX12_isEither 70 = .ok (.istore 4, 2) := by decide +kernel
theorem dX12_isEither_72 : decode cX12_isEither 72 = .ok (.iload 4, 2) := by decide +kernel
theorem dX12_isEither_74 : decode cX12_isEither 74 = .ok (.ifCond .le 35, 3) := by decide +kernel
theorem dX12_isEither_77 : decode cX12_isEither 77 = .ok (.aload_n 0, 1) := by decide +kernel
theorem dX12_isEither_78 : decode cX12_isEither 78 = .ok (.iload 4, 2) := by decide +kernel
theorem dX12_isEither_80 : decode cX12_isEither 80 = .ok (.invokevirtual 192, 3) := by decide +kernel
theorem dX12_isEither_83 : decode cX12_isEither 83 = .ok (.aload_n 0, 1) := by decide +kernel
theorem dX12_isEither_84 : decode cX12_isEither 84 = .ok (.getfield 19, 3) := by decide +kernel
theorem dX12_isEither_87 : decode cX12_isEither 87 = .ok (.iload_n 1, 1) := by decide +kernel
theorem dX12_isEither_88 : decode cX12_isEither 88 = .ok (.iaload, 1) := by decide +kernel
theorem dX12_isEither_89 : decode cX12_isEither 89 = .ok (.invokestatic 133, 3) := by decide +kernel
theorem dX12_isEither_92 : decode cX12_isEither 92 = .ok (.iload_n 3, 1) := by decide +kernel
theorem dX12_isEither_93 : decode cX12_isEither 93 = .ok (.if_icmp .eq 5, 3) := by decide +kernel
theorem dX12_isEither_96 : decode cX12_isEither 96 = .ok (.iconst 1, 1) := by decide +kernel
theorem dX12_isEither_97 : decode cX12_isEither 97 = .ok (.ireturn, 1) := by decide +kernel
theorem dX12_isEither_98 : decode cX12_isEither 98 = .ok (.iload 4, 2) := by decide +kernel
theorem dX12_isEither_100 : decode cX12_isEither 100 = .ok (.iconst 1, 1) := by decide +kernel
theorem dX12_isEither_101 : decode cX12_isEither 101 = .ok (.isub, 1) := by decide +kernel
theorem dX12_isEither_102 : decode cX12_isEither 102 = .ok (.iload_n 2, 1) := by decide +kernel
theorem dX12_isEither_103 : decode cX12_isEither 103 = .ok (.iand, 1) := by decide +kernel
theorem dX12_isEither_104 : decode cX12_isEither 104 = .ok (.istore 4, 2) := by decide +kernel
theorem dX12_isEither_106 : decode cX12_isEither 106 = .ok (.goto (-34), 3) := by decide +kernel
theorem dX12_isEither_109 : decode cX12_isEither 109 = .ok (.iconst 0, 1) := by decide +kernel
theorem dX12_isEither_110 : decode cX12_isEither 110 = .ok (.ireturn, 1) := by decide +kernel
theorem dX12_look_0 : decode cX12_look 0 = .ok (.aload_n 0, 1) := by decide +kernel
theorem dX12_look_1 : decode cX12_look 1 = .ok (.iload_n 1, 1) := by decide +kernel
theorem dX12_look_2 : decode cX12_look 2 = .ok (.putfield 183, 3) := by decide +kernel
theorem dX12_look_5 : decode cX12_look 5 = .ok (.aload_n 0, 1) := by decide +kernel
theorem dX12_look_6 : decode cX12_look 6 = .ok (.iload_n 1, 1) := by decide +kernel
theorem dX12_look_7 : decode cX12_look 7 = .ok (.putfield 186, 3) := by decide +kernel
theorem dX12_look_10 : decode cX12_look 10 = .ok (.aload_n 0, 1) := by decide +kernel
theorem dX12_look_11 : decode cX12_look 11 = .ok (.iconst 0, 1) := by decide +kernel
theorem dX12_look_12 : decode cX12_look 12 = .ok (.putfield 189, 3) := by decide +kernel
theorem dX12_look_15 : decode cX12_look 15 = .ok (.iconst 0, 1) := by decide +kernel
theorem dX12_look_16 : decode cX12_look 16 = .ok (.istore 4, 2) := by decide +kernel
theorem dX12_look_18 : decode cX12_look 18 = .ok (.iconst 0, 1) := by decide +kernel
theorem dX12_look_19 : decode cX12_look 19 = .ok (.istore 5, 2) := by decide +kernel
theorem dX12_look_21 : decode cX12_look 21 = .ok (.iload 5, 2) := by decide +kernel
theorem dX12_look_23 : decode cX12_look 23 = .ok (.aload_n 0, 1) := by decide +kernel
theorem dX12_look_24 : decode cX12_look 24 = .ok (.getfield 126, 3) := by decide +kernel
theorem dX12_look_27 : decode cX12_look 27 = .ok (.if_icmp .ge 137, 3) := by decide +kernel
theorem dX12_look_30 : decode cX12_look 30 = .ok (.aload_n 0, 1) := by decide +kernel
theorem dX12_look_31 : decode cX12_look 31 = .ok (.iload_n 2, 1) := by decide +kernel
theorem dX12_look_32 : decode cX12_look 32 = .ok (.iload 5, 2) := by decide +kernel
theorem dX12_look_34 : decode cX12_look 34 = .ok (.invokevirtual 195, 3) := by decide +kernel
theorem dX12_look_37 : decode cX12_look 37 = .ok (.ifCond .ne 6, 3) := by decide +kernel
theorem dX12_look_40 : decode cX12_look 40 = .ok (.goto 118, 3) := by decide +kernel
theorem dX12_look_43 : decode cX12_look 43 = .ok (.aload_n 0, 1) := by decide +kernel
theorem dX12_look_44 : decode cX12_look 44 = .ok (.getfield 7, 3) := by decide +kernel
theorem dX12_look_47 : decode cX12_look 47 = .ok (.iload 5, 2) := by decide +kernel
theorem dX12_look_49 : decode cX12_look 49 = .ok (.iaload, 1) := by decide +kernel
theorem dX12_look_50 : decode cX12_look 50 = .ok (.bipush 6, 2) := by decide +kernel
theorem dX12_look_52 : decode cX12_look 52 = .ok (.if_icmp .ne 17, 3) := by decide +kernel
theorem dX12_look_55 : decode cX12_look 55 = .ok (.iload_n 1, 1) := by decide +kernel
theorem dX12_look_56 : decode cX12_look 56 = .ok (.aload_n 0, 1) := by decide +kernel
theorem dX12_look_57 : decode cX12_look 57 = .ok (.getfield 19, 3) := by decide +kernel
theorem dX12_look_60 : decode cX12_look 60 = .ok (.iload 5, 2) := by decide +kernel
theorem dX12_look_62 : decode cX12_look 62 = .ok (.iaload, 1) := by decide +kernel
theorem dX12_look_63 : decode cX12_look 63 = .ok (.invokestatic 133, 3) := by decide +kernel
theorem dX12_look_66 : decode cX12_look 66 = .ok (.goto 20, 3) := by decide +kernel
theorem dX12_look_69 : decode cX12_look 69 = .ok (.iload 4, 2) := by decide +kernel
theorem dX12_look_71 : decode cX12_look 71 = .ok (.bipush 31, 2) := by decide +kernel
theorem dX12_look_73 : decode cX12_look 73 = .ok (.if_icmp .ge 12, 3) := by decide +kernel
theorem dX12_look_76 : decode cX12_look 76 = .ok (.iload_n 3, 1) := by decide +kernel
theorem dX12_look_77 : decode cX12_look 77 = .ok (.iload 4, 2) := by decide +kernel
theorem dX12_look_79 : decode cX12_look 79 = .ok (.ishr, 1) := by decide +kernel
theorem dX12_look_80 : decode cX12_look 80 = .ok (.iconst 1, 1) := by decide +kernel
theorem dX12_look_81 : decode cX12_look 81 = .ok (.iand, 1) := by decide +kernel
theorem dX12_look_82 : decode cX12_look 82 = .ok (.goto 4, 3) := by decide +kernel
theorem dX12_look_85 : decode cX12_look 85 = .ok (.iconst 0, 1) := by decide +kernel
theorem dX12_look_86 : decode cX12_look 86 = .ok (.istore 6, 2) := by decide +kernel
theorem dX12_look_88 : decode cX12_look 88 = .ok (.iload 4, 2) := by decide +kernel
theorem dX12_look_90 : decode cX12_look 90 = .ok (.aload_n 0, 1) := by decide +kernel
theorem dX12_look_91 : decode cX12_look 91 = .ok (.getfield 7, 3) := by decide +kernel
theorem dX12_look_94 : decode cX12_look 94 = .ok (.iload 5, 2) := by decide +kernel
theorem dX12_look_96 : decode cX12_look 96 = .ok (.iaload, 1) := by decide +kernel
theorem dX12_look_97 : decode cX12_look 97 = .ok (.iconst 5, 1) := by decide +kernel
theorem dX12_look_98 : decode cX12_look 98 = .ok (.if_icmp .ne 7, 3) := by decide +kernel
theorem dX12_look_101 : decode cX12_look 101 = .ok (.iconst 1, 1) := by decide +kernel
theorem dX12_look_102 : decode cX12_look 102 = .ok (.goto 4, 3) := by decide +kernel
theorem dX12_look_105 : decode cX12_look 105 = .ok (.iconst 0, 1) := by decide +kernel
theorem dX12_look_106 : decode cX12_look 106 = .ok (.iadd, 1) := by decide +kernel
theorem dX12_look_107 : decode cX12_look 107 = .ok (.istore 4, 2) := by decide +kernel
theorem dX12_look_109 : decode cX12_look 109 = .ok (.aload_n 0, 1) := by decide +kernel
theorem dX12_look_110 : decode cX12_look 110 = .ok (.aload_n 0, 1) := by decide +kernel
theorem dX12_look_111 : decode cX12_look 111 = .ok (.getfield 186, 3) := by decide +kernel
theorem dX12_look_114 : decode cX12_look 114 = .ok (.iconst 1, 1) := by decide +kernel
theorem dX12_look_115 : decode cX12_look 115 = .ok (.iload 5, 2) := by decide +kernel
theorem dX12_look_117 : decode cX12_look 117 = .ok (.ishl, 1) := by decide +kernel
theorem dX12_look_118 : decode cX12_look 118 = .ok (.iconst (-1), 1) := by decide +kernel
theorem dX12_look_119 : decode cX12_look 119 = .ok (.ixor, 1) := by decide +kernel
theorem dX12_look_120 : decode cX12_look 120 = .ok (.iand, 1) := by decide +kernel
theorem dX12_look_121 : decode cX12_look 121 = .ok (.iload 6, 2) := by decide +kernel
theorem dX12_look_123 : decode cX12_look 123 = .ok (.iload 5, 2) := by decide +kernel
theorem dX12_look_125 : decode cX12_look 125 = .ok (.ishl, 1) := by decide +kernel
theorem dX12_look_126 : decode cX12_look 126 = .ok (.ior, 1) := by decide +kernel
theorem dX12_look_127 : decode cX12_look 127 = .ok (.putfield 186, 3) := by decide +kernel
theorem dX12_look_130 : decode cX12_look 130 = .ok (.aload_n 0, 1) := by decide +kernel
theorem dX12_look_131 : decode cX12_look 131 = .ok (.dup, 1) := by decide +kernel
theorem dX12_look_132 : decode cX12_look 132 = .ok (.getfield 189, 3) := by decide +kernel
theorem dX12_look_135 : decode cX12_look 135 = .ok (.iload 6, 2) := by decide +kernel
theorem dX12_look_137 : decode cX12_look 137 = .ok (.iload_n 1, 1) := by decide +kernel
theorem dX12_look_138 : decode cX12_look 138 = .ok (.iload 5, 2) := by decide +kernel
theorem dX12_look_140 : decode cX12_look 140 = .ok (.invokestatic 133, 3) := by decide +kernel
theorem dX12_look_143 : decode cX12_look 143 = .ok (.if_icmp .eq 10, 3) := by decide +kernel
theorem dX12_look_146 : decode cX12_look 146 = .ok (.iconst 1, 1) := by decide +kernel
theorem dX12_look_147 : decode cX12_look 147 = .ok (.iload 5, 2) := by decide +kernel
theorem dX12_look_149 : decode cX12_look 149 = .ok (.ishl, 1) := by decide +kernel
theorem dX12_look_150 : decode cX12_look 150 = .ok (.goto 4, 3) := by decide +kernel
theorem dX12_look_153 : decode cX12_look 153 = .ok (.iconst 0, 1) := by decide +kernel
theorem dX12_look_154 : decode cX12_look 154 = .ok (.ior, 1) := by decide +kernel
theorem dX12_look_155 : decode cX12_look 155 = .ok (.putfield 189, 3) := by decide +kernel
theorem dX12_look_158 : decode cX12_look 158 = .ok (.iinc 5 1, 3) := by decide +kernel
theorem dX12_look_161 : decode cX12_look 161 = .ok (.goto (-140), 3) := by decide +kernel
theorem dX12_look_164 : decode cX12_look 164 = .ok (.aload_n 0, 1) := by decide +kernel
theorem dX12_look_165 : decode cX12_look 165 = .ok (.iconst 0, 1) := by decide +kernel
theorem dX12_look_166 : decode cX12_look 166 = .ok (.putfield 199, 3) := by decide +kernel
theorem dX12_look_169 : decode cX12_look 169 = .ok (.iconst 0, 1) := by decide +kernel
theorem dX12_look_170 : decode cX12_look 170 = .ok (.istore 5, 2) := by decide +kernel
theorem dX12_look_172 : decode cX12_look 172 = .ok (.iload 5, 2) := by decide +kernel
theorem dX12_look_174 : decode cX12_look 174 = .ok (.aload_n 0, 1) := by decide +kernel
theorem dX12_look_175 : decode cX12_look 175 = .ok (.getfield 126, 3) := by decide +kernel
theorem dX12_look_178 : decode cX12_look 178 = .ok (.if_icmp .ge 57, 3) := by decide +kernel
theorem dX12_look_181 : decode cX12_look 181 = .ok (.aload_n 0, 1) := by decide +kernel
theorem dX12_look_182 : decode cX12_look 182 = .ok (.dup, 1) := by decide +kernel
theorem dX12_look_183 : decode cX12_look 183 = .ok (.getfield 199, 3) := by decide +kernel
theorem dX12_look_186 : decode cX12_look 186 = .ok (.aload_n 0, 1) := by decide +kernel
theorem dX12_look_187 : decode cX12_look 187 = .ok (.getfield 7, 3) := by decide +kernel
theorem dX12_look_190 : decode cX12_look 190 = .ok (.iload 5, 2) := by decide +kernel
theorem dX12_look_192 : decode cX12_look 192 = .ok (.iaload, 1) := by decide +kernel
theorem dX12_look_193 : decode cX12_look 193 = .ok (.bipush 6, 2) := by decide +kernel
theorem dX12_look_195 : decode cX12_look 195 = .ok (.if_icmp .ne 29, 3) := by decide +kernel
theorem dX12_look_198 : decode cX12_look 198 = .ok (.aload_n 0, 1) := by decide +kernel
theorem dX12_look_199 : decode cX12_look 199 = .ok (.iload_n 2, 1) := by decide +kernel
theorem dX12_look_200 : decode cX12_look 200 = .ok (.iload 5, 2) := by decide +kernel
theorem dX12_look_202 : decode cX12_look 202 = .ok (.invokevirtual 195, 3) := by decide +kernel
theorem dX12_look_205 : decode cX12_look 205 = .ok (.ifCond .eq 19, 3) := by decide +kernel
theorem dX12_look_208 : decode cX12_look 208 = .ok (.aload_n 0, 1) := by decide +kernel
theorem dX12_look_209 : decode cX12_look 209 = .ok (.iload 5, 2) := by decide +kernel
theorem dX12_look_211 : decode cX12_look 211 = .ok (.invokevirtual 202, 3) := by decide +kernel
theorem dX12_look_214 : decode cX12_look 214 = .ok (.ifCond .eq 10, 3) := by decide +kernel
theorem dX12_look_217 : decode cX12_look 217 = .ok (.iconst 1, 1) := by decide +kernel
theorem dX12_look_218 : decode cX12_look 218 = .ok (.iload 5, 2) := by decide +kernel
theorem dX12_look_220 : decode cX12_look 220 = .ok (.ishl, 1) := by decide +kernel
theorem dX12_look_221 : decode cX12_look 221 = .ok (.goto 4, 3) := by decide +kernel
theorem dX12_look_224 : decode cX12_look 224 = .ok (.iconst 0, 1) := by decide +kernel
theorem dX12_look_225 : decode cX12_look 225 = .ok (.ior, 1) := by decide +kernel
theorem dX12_look_226 : decode cX12_look 226 = .ok (.putfield 199, 3) := by decide +kernel
theorem dX12_look_229 : decode cX12_look 229 = .ok (.iinc 5 1, 3) := by decide +kernel
theorem dX12_look_232 : decode cX12_look 232 = .ok (.goto (-60), 3) := by decide +kernel
theorem dX12_look_235 : decode cX12_look 235 = .ok (.return_, 1) := by decide +kernel
theorem dX12_countBits_0 : decode cX12_countBits 0 = .ok (.iconst 0, 1) := by decide +kernel
theorem dX12_countBits_1 : decode cX12_countBits 1 = .ok (.istore_n 2, 1) := by decide +kernel
theorem dX12_countBits_2 : decode cX12_countBits 2 = .ok (.iconst 0, 1) := by decide +kernel
theorem dX12_countBits_3 : decode cX12_countBits 3 = .ok (.istore_n 3, 1) := by decide +kernel
theorem dX12_countBits_4 : decode cX12_countBits 4 = .ok (.iload_n 3, 1) := by decide +kernel
theorem dX12_countBits_5 : decode cX12_countBits 5 = .ok (.bipush 24, 2) := by decide +kernel
theorem dX12_countBits_7 : decode cX12_countBits 7 = .ok (.if_icmp .ge 17, 3) := by decide +kernel
theorem dX12_countBits_10 : decode cX12_countBits 10 = .ok (.iload_n 2, 1) := by decide +kernel
theorem dX12_countBits_11 : decode cX12_countBits 11 = .ok (.iload_n 1, 1) := by decide +kernel
theorem dX12_countBits_12 : decode cX12_countBits 12 = .ok (.iload_n 3, 1) := by decide +kernel
theorem dX12_countBits_13 : decode cX12_countBits 13 = .ok (.ishr, 1) := by decide +kernel
theorem dX12_countBits_14 : decode cX12_countBits 14 = .ok (.iconst 1, 1) := by decide +kernel
theorem dX12_countBits_15 : decode cX12_countBits 15 = .ok (.iand, 1) := by decide +kernel
theorem dX12_countBits_16 : decode cX12_countBits 16 = .ok (.iadd, 1) := by decide +kernel
theorem dX12_countBits_17 : decode cX12_countBits 17 = .ok (.istore_n 2, 1) := by decide +kernel
theorem dX12_countBits_18 : decode cX12_countBits 18 = .ok (.iinc 3 1, 3) := by decide +kernel
theorem dX12_countBits_21 : decode cX12_countBits 21 = .ok (.goto (-17), 3) := by decide +kernel
theorem dX12_countBits_24 : decode cX12_countBits 24 = .ok (.iload_n 2, 1) := by decide +kernel
theorem dX12_countBits_25 : decode cX12_countBits 25 = .ok (.ireturn, 1) := by decide +kernel
theorem dX12_behind_0 : decode cX12_behind 0 = .ok (.aload_n 0, 1) := by decide +kernel
theorem dX12_behind_1 : decode cX12_behind 1 = .ok (.getfield 186, 3) := by decide +kernel
theorem dX12_behind_4 : decode cX12_behind 4 = .ok (.istore_n 2, 1) := by decide +kernel
theorem dX12_behind_5 : decode cX12_behind 5 = .ok (.iconst 0, 1) := by decide +kernel
theorem dX12_behind_6 : decode cX12_behind 6 = .ok (.istore_n 3, 1) := by decide +kernel
theorem dX12_behind_7 : decode cX12_behind 7 = .ok (.iconst 0, 1) := by decide +kernel
theorem dX12_behind_8 : decode cX12_behind 8 = .ok (.istore 4, 2) := by decide +kernel
theorem dX12_behind_10 : decode cX12_behind 10 = .ok (.iload 4, 2) := by decide +kernel
theorem dX12_behind_12 : decode cX12_behind 12 = .ok (.aload_n 0, 1) := by decide +kernel
theorem dX12_behind_13 : decode cX12_behind 13 = .ok (.getfield 126, 3) := by decide +kernel
theorem dX12_behind_16 : decode cX12_behind 16 = .ok (.if_icmp .ge 46, 3) := by decide +kernel
theorem dX12_behind_19 : decode cX12_behind 19 = .ok (.aload_n 0, 1) := by decide +kernel
theorem dX12_behind_20 : decode cX12_behind 20 = .ok (.getfield 199, 3) := by decide +kernel
theorem dX12_behind_23 : decode cX12_behind 23 = .ok (.iload 4, 2) := by decide +kernel
theorem dX12_behind_25 : decode cX12_behind 25 = .ok (.ishr, 1) := by decide +kernel
theorem dX12_behind_26 : decode cX12_behind 26 = .ok (.iconst 1, 1) := by decide +kernel
theorem dX12_behind_27 : decode cX12_behind 27 = .ok (.iand, 1) := by decide +kernel
theorem dX12_behind_28 : decode cX12_behind 28 = .ok (.iconst 1, 1) := by decide +kernel
theorem dX12_behind_29 : decode cX12_behind 29 = .ok (.if_icmp .ne 27, 3) := by decide +kernel
theorem dX12_behind_32 : decode cX12_behind 32 = .ok (.iload_n 2, 1) := by decide +kernel
theorem dX12_behind_33 : decode cX12_behind 33 = .ok (.iload_n 3, 1) := by decide +kernel
theorem dX12_behind_34 : decode cX12_behind 34 = .ok (.bipush 31, 2) := by decide +kernel
theorem dX12_behind_36 : decode cX12_behind 36 = .ok (.if_icmp .ge 11, 3) := by decide +kernel
theorem dX12_behind_39 : decode cX12_behind 39 = .ok (.iload_n 1, 1) := by decide +kernel
theorem dX12_behind_40 : decode cX12_behind 40 = .ok (.iload_n 3, 1) := by decide +kernel
theorem dX12_behind_41 : decode cX12_behind 41 = .ok (.ishr, 1) := by decide +kernel
theorem dX12_behind_42 : decode cX12_behind 42 = .ok (.iconst 1, 1) := by decide +kernel
theorem dX12_behind_43 : decode cX12_behind 43 = .ok (.iand, 1) := by decide +kernel
theorem dX12_behind_44 : decode cX12_behind 44 = .ok (.goto 4, 3) := by decide +kernel
theorem dX12_behind_47 : decode cX12_behind 47 = .ok (.iconst 0, 1) := by decide +kernel
theorem dX12_behind_48 : decode cX12_behind 48 = .ok (.iload 4, 2) := by decide +kernel
theorem dX12_behind_50 : decode cX12_behind 50 = .ok (.ishl, 1) := by decide +kernel
theorem dX12_behind_51 : decode cX12_behind 51 = .ok (.ixor, 1) := by decide +kernel
theorem dX12_behind_52 : decode cX12_behind 52 = .ok (.istore_n 2, 1) := by decide +kernel
theorem dX12_behind_53 : decode cX12_behind 53 = .ok (.iinc 3 1, 3) := by decide +kernel
theorem dX12_behind_56 : decode cX12_behind 56 = .ok (.iinc 4 1, 3) := by decide +kernel
theorem dX12_behind_59 : decode cX12_behind 59 = .ok (.goto (-49), 3) := by decide +kernel
theorem dX12_behind_62 : decode cX12_behind 62 = .ok (.aload_n 0, 1) := by decide +kernel
theorem dX12_behind_63 : decode cX12_behind 63 = .ok (.iload_n 2, 1) := by decide +kernel
theorem dX12_behind_64 : decode cX12_behind 64 = .ok (.invokevirtual 137, 3) := by decide +kernel
theorem dX12_behind_67 : decode cX12_behind 67 = .ok (.ireturn, 1) := by decide +kernel
theorem dX12_turned_0 : decode cX12_turned 0 = .ok (.iconst 0, 1) := by decide +kernel
theorem dX12_turned_1 : decode cX12_turned 1 = .ok (.istore_n 2, 1) := by decide +kernel
theorem dX12_turned_2 : decode cX12_turned 2 = .ok (.iconst 0, 1) := by decide +kernel
theorem dX12_turned_3 : decode cX12_turned 3 = .ok (.istore_n 3, 1) := by decide +kernel
theorem dX12_turned_4 : decode cX12_turned 4 = .ok (.iload_n 3, 1) := by decide +kernel
theorem dX12_turned_5 : decode cX12_turned 5 = .ok (.aload_n 0, 1) := by decide +kernel
theorem dX12_turned_6 : decode cX12_turned 6 = .ok (.aload_n 0, 1) := by decide +kernel
theorem dX12_turned_7 : decode cX12_turned 7 = .ok (.getfield 199, 3) := by decide +kernel
theorem dX12_turned_10 : decode cX12_turned 10 = .ok (.invokevirtual 205, 3) := by decide +kernel
theorem dX12_turned_13 : decode cX12_turned 13 = .ok (.if_icmp .ge 17, 3) := by decide +kernel
theorem dX12_turned_16 : decode cX12_turned 16 = .ok (.iload_n 2, 1) := by decide +kernel
theorem dX12_turned_17 : decode cX12_turned 17 = .ok (.iload_n 1, 1) := by decide +kernel
theorem dX12_turned_18 : decode cX12_turned 18 = .ok (.iload_n 3, 1) := by decide +kernel
theorem dX12_turned_19 : decode cX12_turned 19 = .ok (.ishr, 1) := by decide +kernel
theorem dX12_turned_20 : decode cX12_turned 20 = .ok (.iconst 1, 1) := by decide +kernel
theorem dX12_turned_21 : decode cX12_turned 21 = .ok (.iand, 1) := by decide +kernel
theorem dX12_turned_22 : decode cX12_turned 22 = .ok (.iadd, 1) := by decide +kernel
theorem dX12_turned_23 : decode cX12_turned 23 = .ok (.istore_n 2, 1) := by decide +kernel
theorem dX12_turned_24 : decode cX12_turned 24 = .ok (.iinc 3 1, 3) := by decide +kernel
theorem dX12_turned_27 : decode cX12_turned 27 = .ok (.goto (-23), 3) := by decide +kernel
theorem dX12_turned_30 : decode cX12_turned 30 = .ok (.iload_n 2, 1) := by decide +kernel
theorem dX12_turned_31 : decode cX12_turned 31 = .ok (.ireturn, 1) := by decide +kernel
theorem dX12_isKept_0 : decode cX12_isKept 0 = .ok (.iload_n 3, 1) := by decide +kernel
theorem dX12_isKept_1 : decode cX12_isKept 1 = .ok (.aload_n 0, 1) := by decide +kernel
theorem dX12_isKept_2 : decode cX12_isKept 2 = .ok (.getfield 38, 3) := by decide +kernel
theorem dX12_isKept_5 : decode cX12_isKept 5 = .ok (.iload_n 1, 1) := by decide +kernel
theorem dX12_isKept_6 : decode cX12_isKept 6 = .ok (.iaload, 1) := by decide +kernel
theorem dX12_isKept_7 : decode cX12_isKept 7 = .ok (.invokestatic 133, 3) := by decide +kernel
theorem dX12_isKept_10 : decode cX12_isKept 10 = .ok (.istore 5, 2) := by decide +kernel
theorem dX12_isKept_12 : decode cX12_isKept 12 = .ok (.aload_n 0, 1) := by decide +kernel
theorem dX12_isKept_13 : decode cX12_isKept 13 = .ok (.getfield 35, 3) := by decide +kernel
theorem dX12_isKept_16 : decode cX12_isKept 16 = .ok (.iload_n 1, 1) := by decide +kernel
theorem dX12_isKept_17 : decode cX12_isKept 17 = .ok (.iaload, 1) := by decide +kernel
theorem dX12_isKept_18 : decode cX12_isKept 18 = .ok (.tableswitch 81 0 2 #[26, 38, 60], 26) := by decide +kernel
theorem dX12_isKept_44 : decode cX12_isKept 44 = .ok (.iload 5, 2) := by decide +kernel
theorem dX12_isKept_46 : decode cX12_isKept 46 = .ok (.iconst 1, 1) := by decide +kernel
theorem dX12_isKept_47 : decode cX12_isKept 47 = .ok (.if_icmp .ne 7, 3) := by decide +kernel
theorem dX12_isKept_50 : decode cX12_isKept 50 = .ok (.iconst 1, 1) := by decide +kernel
theorem dX12_isKept_51 : decode cX12_isKept 51 = .ok (.goto 4, 3) := by decide +kernel
theorem dX12_isKept_54 : decode cX12_isKept 54 = .ok (.iconst 0, 1) := by decide +kernel
theorem dX12_isKept_55 : decode cX12_isKept 55 = .ok (.ireturn, 1) := by decide +kernel
theorem dX12_isKept_56 : decode cX12_isKept 56 = .ok (.iload 5, 2) := by decide +kernel
theorem dX12_isKept_58 : decode cX12_isKept 58 = .ok (.iload_n 3, 1) := by decide +kernel
theorem dX12_isKept_59 : decode cX12_isKept 59 = .ok (.aload_n 0, 1) := by decide +kernel
theorem dX12_isKept_60 : decode cX12_isKept 60 = .ok (.getfield 41, 3) := by decide +kernel
theorem dX12_isKept_63 : decode cX12_isKept 63 = .ok (.iload_n 1, 1) := by decide +kernel
theorem dX12_isKept_64 : decode cX12_isKept 64 = .ok (.iaload, 1) := by decide +kernel
theorem dX12_isKept_65 : decode cX12_isKept 65 = .ok (.invokestatic 133, 3) := by decide +kernel
theorem dX12_isKept_68 : decode cX12_isKept 68 = .ok (.iand, 1) := by decide +kernel
theorem dX12_isKept_69 : decode cX12_isKept 69 = .ok (.ifCond .ne 7, 3) := by decide +kernel
theorem dX12_isKept_72 : decode cX12_isKept 72 = .ok (.iconst 1, 1) := by decide +kernel
theorem dX12_isKept_73 : decode cX12_isKept 73 = .ok (.goto 4, 3) := by decide +kernel
theorem dX12_isKept_76 : decode cX12_isKept 76 = .ok (.iconst 0, 1) := by decide +kernel
theorem dX12_isKept_77 : decode cX12_isKept 77 = .ok (.ireturn, 1) := by decide +kernel
theorem dX12_isKept_78 : decode cX12_isKept 78 = .ok (.iload 5, 2) := by decide +kernel
theorem dX12_isKept_80 : decode cX12_isKept 80 = .ok (.iload_n 3, 1) := by decide +kernel
theorem dX12_isKept_81 : decode cX12_isKept 81 = .ok (.aload_n 0, 1) := by decide +kernel
theorem dX12_isKept_82 : decode cX12_isKept 82 = .ok (.getfield 41, 3) := by decide +kernel
theorem dX12_isKept_85 : decode cX12_isKept 85 = .ok (.iload_n 1, 1) := by decide +kernel
theorem dX12_isKept_86 : decode cX12_isKept 86 = .ok (.iaload, 1) := by decide +kernel
theorem dX12_isKept_87 : decode cX12_isKept 87 = .ok (.invokestatic 133, 3) := by decide +kernel
theorem dX12_isKept_90 : decode cX12_isKept 90 = .ok (.if_icmp .ne 7, 3) := by decide +kernel
theorem dX12_isKept_93 : decode cX12_isKept 93 = .ok (.iconst 1, 1) := by decide +kernel
theorem dX12_isKept_94 : decode cX12_isKept 94 = .ok (.goto 4, 3) := by decide +kernel
theorem dX12_isKept_97 : decode cX12_isKept 97 = .ok (.iconst 0, 1) := by decide +kernel
theorem dX12_isKept_98 : decode cX12_isKept 98 = .ok (.ireturn, 1) := by decide +kernel
theorem dX12_isKept_99 : decode cX12_isKept 99 = .ok (.iconst 0, 1) := by decide +kernel
theorem dX12_isKept_100 : decode cX12_isKept 100 = .ok (.istore 6, 2) := by decide +kernel
theorem dX12_isKept_102 : decode cX12_isKept 102 = .ok (.aload_n 0, 1) := by decide +kernel
theorem dX12_isKept_103 : decode cX12_isKept 103 = .ok (.getfield 38, 3) := by decide +kernel
theorem dX12_isKept_106 : decode cX12_isKept 106 = .ok (.iload_n 1, 1) := by decide +kernel
theorem dX12_isKept_107 : decode cX12_isKept 107 = .ok (.iaload, 1) := by decide +kernel
theorem dX12_isKept_108 : decode cX12_isKept 108 = .ok (.istore 7, 2) := by decide +kernel
theorem dX12_isKept_110 : decode cX12_isKept 110 = .ok (.iload 7, 2) := by decide +kernel
theorem dX12_isKept_112 : decode cX12_isKept 112 = .ok (.aload_n 0, 1) := by decide +kernel
theorem dX12_isKept_113 : decode cX12_isKept 113 = .ok (.getfield 41, 3) := by decide +kernel
theorem dX12_isKept_116 : decode cX12_isKept 116 = .ok (.iload_n 1, 1) := by decide +kernel
theorem dX12_isKept_117 : decode cX12_isKept 117 = .ok (.iaload, 1) := by decide +kernel
theorem dX12_isKept_118 : decode cX12_isKept 118 = .ok (.if_icmp .gt 45, 3) := by decide +kernel
theorem dX12_isKept_121 : decode cX12_isKept 121 = .ok (.iload 6, 2) := by decide +kernel
theorem dX12_isKept_123 : decode cX12_isKept 123 = .ok (.aload_n 0, 1) := by decide +kernel
theorem dX12_isKept_124 : decode cX12_isKept 124 = .ok (.getfield 7, 3) := by decide +kernel
theorem dX12_isKept_127 : decode cX12_isKept 127 = .ok (.iload 7, 2) := by decide +kernel
theorem dX12_isKept_129 : decode cX12_isKept 129 = .ok (.iaload, 1) := by decide +kernel
theorem dX12_isKept_130 : decode cX12_isKept 130 = .ok (.iconst 4, 1) := by decide +kernel
theorem dX12_isKept_131 : decode cX12_isKept 131 = .ok (.if_icmp .le 22, 3) := by decide +kernel
theorem dX12_isKept_134 : decode cX12_isKept 134 = .ok (.iload_n 2, 1) := by decide +kernel
theorem dX12_isKept_135 : decode cX12_isKept 135 = .ok (.iload 7, 2) := by decide +kernel
theorem dX12_isKept_137 : decode cX12_isKept 137 = .ok (.invokestatic 133, 3) := by decide +kernel
theorem dX12_isKept_140 : decode cX12_isKept 140 = .ok (.iload_n 3, 1) := by decide +kernel
theorem dX12_isKept_141 : decode cX12_isKept 141 = .ok (.iload 7, 2) := by decide +kernel
theorem dX12_isKept_143 : decode cX12_isKept 143 = .ok (.invokestatic 133, 3) := by decide +kernel
theorem dX12_isKept_146 : decode cX12_isKept 146 = .ok (.if_icmp .eq 7, 3) := by decide +kernel
theorem dX12_isKept_149 : decode cX12_isKept 149 = .ok (.iconst 1, 1) := by decide +kernel
theorem dX12_isKept_150 : decode cX12_isKept 150 = .ok (.goto 4, 3) := by decide +kernel
theorem dX12_isKept_153 : decode cX12_isKept 153 = .ok (.iconst 0, 1) := by decide +kernel
theorem dX12_isKept_154 : decode cX12_isKept 154 = .ok (.iadd, 1) := by decide +kernel
theorem dX12_isKept_155 : decode cX12_isKept 155 = .ok (.istore 6, 2) := by decide +kernel
theorem dX12_isKept_157 : decode cX12_isKept 157 = .ok (.iinc 7 1, 3) := by decide +kernel
theorem dX12_isKept_160 : decode cX12_isKept 160 = .ok (.goto (-50), 3) := by decide +kernel
theorem dX12_isKept_163 : decode cX12_isKept 163 = .ok (.iload 4, 2) := by decide +kernel
theorem dX12_isKept_165 : decode cX12_isKept 165 = .ok (.ifCond .ne 9, 3) := by decide +kernel
theorem dX12_isKept_168 : decode cX12_isKept 168 = .ok (.iload 6, 2) := by decide +kernel
theorem dX12_isKept_170 : decode cX12_isKept 170 = .ok (.iconst 2, 1) := by decide +kernel
theorem dX12_isKept_171 : decode cX12_isKept 171 = .ok (.if_icmp .ge 7, 3) := by decide +kernel
theorem dX12_isKept_174 : decode cX12_isKept 174 = .ok (.iconst 1, 1) := by decide +kernel
theorem dX12_isKept_175 : decode cX12_isKept 175 = .ok (.goto 4, 3) := by decide +kernel
theorem dX12_isKept_178 : decode cX12_isKept 178 = .ok (.iconst 0, 1) := by decide +kernel
theorem dX12_isKept_179 : decode cX12_isKept 179 = .ok (.ireturn, 1) := by decide +kernel
theorem dX12_start_0 : decode cX12_start 0 = .ok (.aload_n 0, 1) := by decide +kernel
theorem dX12_start_1 : decode cX12_start 1 = .ok (.iconst 0, 1) := by decide +kernel
theorem dX12_start_2 : decode cX12_start 2 = .ok (.putfield 122, 3) := by decide +kernel
theorem dX12_start_5 : decode cX12_start 5 = .ok (.aload_n 0, 1) := by decide +kernel
theorem dX12_start_6 : decode cX12_start 6 = .ok (.getfield 141, 3) := by decide +kernel
theorem dX12_start_9 : decode cX12_start 9 = .ok (.istore_n 1, 1) := by decide +kernel
theorem dX12_start_10 : decode cX12_start 10 = .ok (.aload_n 0, 1) := by decide +kernel
theorem dX12_start_11 : decode cX12_start 11 = .ok (.invokevirtual 119, 3) := by decide +kernel
theorem dX12_start_14 : decode cX12_start 14 = .ok (.iload_n 1, 1) := by decide +kernel
theorem dX12_start_15 : decode cX12_start 15 = .ok (.ireturn, 1) := by decide +kernel
theorem dX12_canBe_0 : decode cX12_canBe 0 = .ok (.iconst 1, 1) := by decide +kernel
theorem dX12_canBe_1 : decode cX12_canBe 1 = .ok (.istore_n 2, 1) := by decide +kernel
theorem dX12_canBe_2 : decode cX12_canBe 2 = .ok (.iconst 0, 1) := by decide +kernel
theorem dX12_canBe_3 : decode cX12_canBe 3 = .ok (.istore_n 3, 1) := by decide +kernel
theorem dX12_canBe_4 : decode cX12_canBe 4 = .ok (.iload_n 3, 1) := by decide +kernel
theorem dX12_canBe_5 : decode cX12_canBe 5 = .ok (.bipush 16, 2) := by decide +kernel
theorem dX12_canBe_7 : decode cX12_canBe 7 = .ok (.if_icmp .ge 39, 3) := by decide +kernel
theorem dX12_canBe_10 : decode cX12_canBe 10 = .ok (.iload_n 2, 1) := by decide +kernel
theorem dX12_canBe_11 : decode cX12_canBe 11 = .ok (.ifCond .eq 27, 3) := by decide +kernel
theorem dX12_canBe_14 : decode cX12_canBe 14 = .ok (.aload_n 0, 1) := by decide +kernel
theorem dX12_canBe_15 : decode cX12_canBe 15 = .ok (.iload_n 3, 1) := by decide +kernel
theorem dX12_canBe_16 : decode cX12_canBe 16 = .ok (.aload_n 0, 1) := by decide +kernel
theorem dX12_canBe_17 : decode cX12_canBe 17 = .ok (.aload_n 0, 1) := by decide +kernel
theorem dX12_canBe_18 : decode cX12_canBe 18 = .ok (.getfield 50, 3) := by decide +kernel
theorem dX12_canBe_21 : decode cX12_canBe 21 = .ok (.iload_n 3, 1) := by decide +kernel
theorem dX12_canBe_22 : decode cX12_canBe 22 = .ok (.iaload, 1) := by decide +kernel
theorem dX12_canBe_23 : decode cX12_canBe 23 = .ok (.iload_n 1, 1) := by decide +kernel
theorem dX12_canBe_24 : decode cX12_canBe 24 = .ok (.iload_n 3, 1) := by decide +kernel
theorem dX12_canBe_25 : decode cX12_canBe 25 = .ok (.invokevirtual 208, 3) := by decide +kernel
theorem dX12_canBe_28 : decode cX12_canBe 28 = .ok (.invokevirtual 212, 3) := by decide +kernel
theorem dX12_canBe_31 : decode cX12_canBe 31 = .ok (.ifCond .eq 7, 3) := by decide +kernel
theorem dX12_canBe_34 : decode cX12_canBe 34 = .ok (.iconst 1, 1) := by decide +kernel
theorem dX12_canBe_35 : decode cX12_canBe 35 = .ok (.goto 4, 3) := by decide +kernel
theorem dX12_canBe_38 : decode cX12_canBe 38 = .ok (.iconst 0, 1) := by decide +kernel
theorem dX12_canBe_39 : decode cX12_canBe 39 = .ok (.istore_n 2, 1) := by decide +kernel
theorem dX12_canBe_40 : decode cX12_canBe 40 = .ok (.iinc 3 1, 3) := by decide +kernel
theorem dX12_canBe_43 : decode cX12_canBe 43 = .ok (.goto (-39), 3) := by decide +kernel
theorem dX12_canBe_46 : decode cX12_canBe 46 = .ok (.iload_n 2, 1) := by decide +kernel
theorem dX12_canBe_47 : decode cX12_canBe 47 = .ok (.ireturn, 1) := by decide +kernel
theorem dX12_go_0 : decode cX12_go 0 = .ok (.aload_n 0, 1) := by decide +kernel
theorem dX12_go_1 : decode cX12_go 1 = .ok (.aload_n 0, 1) := by decide +kernel
theorem dX12_go_2 : decode cX12_go 2 = .ok (.getfield 44, 3) := by decide +kernel
theorem dX12_go_5 : decode cX12_go 5 = .ok (.aload_n 0, 1) := by decide +kernel
theorem dX12_go_6 : decode cX12_go 6 = .ok (.getfield 141, 3) := by decide +kernel
theorem dX12_go_9 : decode cX12_go 9 = .ok (.iaload, 1) := by decide +kernel
theorem dX12_go_10 : decode cX12_go 10 = .ok (.iload_n 1, 1) := by decide +kernel
theorem dX12_go_11 : decode cX12_go 11 = .ok (.iload_n 2, 1) := by decide +kernel
theorem dX12_go_12 : decode cX12_go 12 = .ok (.invokevirtual 215, 3) := by decide +kernel
theorem dX12_go_15 : decode cX12_go 15 = .ok (.aload_n 0, 1) := by decide +kernel
theorem dX12_go_16 : decode cX12_go 16 = .ok (.iconst 0, 1) := by decide +kernel
theorem dX12_go_17 : decode cX12_go 17 = .ok (.putfield 144, 3) := by decide +kernel
theorem dX12_go_20 : decode cX12_go 20 = .ok (.iconst 0, 1) := by decide +kernel
theorem dX12_go_21 : decode cX12_go 21 = .ok (.istore 4, 2) := by decide +kernel
theorem dX12_go_23 : decode cX12_go 23 = .ok (.iload 4, 2) := by decide +kernel
theorem dX12_go_25 : decode cX12_go 25 = .ok (.aload_n 0, 1) := by decide +kernel
theorem dX12_go_26 : decode cX12_go 26 = .ok (.getfield 126, 3) := by decide +kernel
theorem dX12_go_29 : decode cX12_go 29 = .ok (.if_icmp .ge 43, 3) := by decide +kernel
theorem dX12_go_32 : decode cX12_go 32 = .ok (.aload_n 0, 1) := by decide +kernel
theorem dX12_go_33 : decode cX12_go 33 = .ok (.getfield 199, 3) := by decide +kernel
theorem dX12_go_36 : decode cX12_go 36 = .ok (.iload 4, 2) := by decide +kernel
theorem dX12_go_38 : decode cX12_go 38 = .ok (.ishr, 1) := by decide +kernel
theorem dX12_go_39 : decode cX12_go 39 = .ok (.iconst 1, 1) := by decide +kernel
theorem dX12_go_40 : decode cX12_go 40 = .ok (.iand, 1) := by decide +kernel
theorem dX12_go_41 : decode cX12_go 41 = .ok (.iconst 1, 1) := by decide +kernel
theorem dX12_go_42 : decode cX12_go 42 = .ok (.if_icmp .ne 24, 3) := by decide +kernel
theorem dX12_go_45 : decode cX12_go 45 = .ok (.aload_n 0, 1) := by decide +kernel
theorem dX12_go_46 : decode cX12_go 46 = .ok (.getfield 53, 3) := by decide +kernel
theorem dX12_go_49 : decode cX12_go 49 = .ok (.aload_n 0, 1) := by decide +kernel
theorem dX12_go_50 : decode cX12_go 50 = .ok (.getfield 144, 3) := by decide +kernel
theorem dX12_go_53 : decode cX12_go 53 = .ok (.iload 4, 2) := by decide +kernel
theorem dX12_go_55 : decode cX12_go 55 = .ok (.iastore, 1) := by decide +kernel
theorem dX12_go_56 : decode cX12_go 56 = .ok (.aload_n 0, 1) := by decide +kernel
theorem dX12_go_57 : decode cX12_go 57 = .ok (.dup, 1) := by decide +kernel
theorem dX12_go_58 : decode cX12_go 58 = .ok (.getfield 144, 3) := by decide +kernel
theorem dX12_go_61 : decode cX12_go 61 = .ok (.iconst 1, 1) := by decide +kernel
theorem dX12_go_62 : decode cX12_go 62 = .ok (.iadd, 1) := by decide +kernel
theorem dX12_go_63 : decode cX12_go 63 = .ok (.putfield 144, 3) := by decide +kernel
theorem dX12_go_66 : decode cX12_go 66 = .ok (.iinc 4 1, 3) := by decide +kernel
theorem dX12_go_69 : decode cX12_go 69 = .ok (.goto (-46), 3) := by decide +kernel
theorem dX12_go_72 : decode cX12_go 72 = .ok (.aload_n 0, 1) := by decide +kernel
theorem dX12_go_73 : decode cX12_go 73 = .ok (.getfield 44, 3) := by decide +kernel
theorem dX12_go_76 : decode cX12_go 76 = .ok (.aload_n 0, 1) := by decide +kernel
theorem dX12_go_77 : decode cX12_go 77 = .ok (.getfield 141, 3) := by decide +kernel
theorem dX12_go_80 : decode cX12_go 80 = .ok (.iconst 1, 1) := by decide +kernel
theorem dX12_go_81 : decode cX12_go 81 = .ok (.iadd, 1) := by decide +kernel
theorem dX12_go_82 : decode cX12_go 82 = .ok (.aload_n 0, 1) := by decide +kernel
theorem dX12_go_83 : decode cX12_go 83 = .ok (.iload_n 3, 1) := by decide +kernel
theorem dX12_go_84 : decode cX12_go 84 = .ok (.invokevirtual 218, 3) := by decide +kernel
theorem dX12_go_87 : decode cX12_go 87 = .ok (.iastore, 1) := by decide +kernel
theorem dX12_go_88 : decode cX12_go 88 = .ok (.aload_n 0, 1) := by decide +kernel
theorem dX12_go_89 : decode cX12_go 89 = .ok (.getfield 47, 3) := by decide +kernel
theorem dX12_go_92 : decode cX12_go 92 = .ok (.aload_n 0, 1) := by decide +kernel
theorem dX12_go_93 : decode cX12_go 93 = .ok (.getfield 141, 3) := by decide +kernel
theorem dX12_go_96 : decode cX12_go 96 = .ok (.iload_n 1, 1) := by decide +kernel
theorem dX12_go_97 : decode cX12_go 97 = .ok (.iastore, 1) := by decide +kernel
theorem dX12_go_98 : decode cX12_go 98 = .ok (.aload_n 0, 1) := by decide +kernel
theorem dX12_go_99 : decode cX12_go 99 = .ok (.dup, 1) := by decide +kernel
theorem dX12_go_100 : decode cX12_go 100 = .ok (.getfield 141, 3) := by decide +kernel
theorem dX12_go_103 : decode cX12_go 103 = .ok (.iconst 1, 1) := by decide +kernel
theorem dX12_go_104 : decode cX12_go 104 = .ok (.iadd, 1) := by decide +kernel
theorem dX12_go_105 : decode cX12_go 105 = .ok (.putfield 141, 3) := by decide +kernel
theorem dX12_go_108 : decode cX12_go 108 = .ok (.iconst 0, 1) := by decide +kernel
theorem dX12_go_109 : decode cX12_go 109 = .ok (.istore 4, 2) := by decide +kernel
theorem dX12_go_111 : decode cX12_go 111 = .ok (.iload 4, 2) := by decide +kernel
theorem dX12_go_113 : decode cX12_go 113 = .ok (.bipush 16, 2) := by decide +kernel
theorem dX12_go_115 : decode cX12_go 115 = .ok (.if_icmp .ge 30, 3) := by decide +kernel
theorem dX12_go_118 : decode cX12_go 118 = .ok (.aload_n 0, 1) := by decide +kernel
theorem dX12_go_119 : decode cX12_go 119 = .ok (.getfield 50, 3) := by decide +kernel
theorem dX12_go_122 : decode cX12_go 122 = .ok (.iload 4, 2) := by decide +kernel
theorem dX12_go_124 : decode cX12_go 124 = .ok (.aload_n 0, 1) := by decide +kernel
theorem dX12_go_125 : decode cX12_go 125 = .ok (.aload_n 0, 1) := by decide +kernel
theorem dX12_go_126 : decode cX12_go 126 = .ok (.getfield 50, 3) := by decide +kernel
theorem dX12_go_129 : decode cX12_go 129 = .ok (.iload 4, 2) := by decide +kernel
theorem dX12_go_131 : decode cX12_go 131 = .ok (.iaload, 1) := by decide +kernel
theorem dX12_go_132 : decode cX12_go 132 = .ok (.iload_n 1, 1) := by decide +kernel
theorem dX12_go_133 : decode cX12_go 133 = .ok (.iload 4, 2) := by decide +kernel
theorem dX12_go_135 : decode cX12_go 135 = .ok (.invokevirtual 208, 3) := by decide +kernel
theorem dX12_go_138 : decode cX12_go 138 = .ok (.iastore, 1) := by decide +kernel
theorem dX12_go_139 : decode cX12_go 139 = .ok (.iinc 4 1, 3) := by decide +kernel
theorem dX12_go_142 : decode cX12_go 142 = .ok (.goto (-31), 3) := by decide +kernel
theorem dX12_go_145 : decode cX12_go 145 = .ok (.return_, 1) := by decide +kernel
theorem dX12_moment_0 : decode cX12_moment 0 = .ok (.aload_n 0, 1) := by decide +kernel
theorem dX12_moment_1 : decode cX12_moment 1 = .ok (.iconst 0, 1) := by decide +kernel
theorem dX12_moment_2 : decode cX12_moment 2 = .ok (.putfield 122, 3) := by decide +kernel
theorem dX12_moment_5 : decode cX12_moment 5 = .ok (.iload_n 1, 1) := by decide +kernel
theorem dX12_moment_6 : decode cX12_moment 6 = .ok (.i2l, 1) := by decide +kernel
theorem dX12_moment_7 : decode cX12_moment 7 = .ok (.lconst 1, 1) := by decide +kernel
theorem dX12_moment_8 : decode cX12_moment 8 = .ok (.ldc2_w 221, 3) := by decide +kernel
theorem dX12_moment_11 : decode cX12_moment 11 = .ok (.invokestatic 156, 3) := by decide +kernel
theorem dX12_moment_14 : decode cX12_moment 14 = .ok (.ifCond .eq 11, 3) := by decide +kernel
theorem dX12_moment_17 : decode cX12_moment 17 = .ok (.iload_n 2, 1) := by decide +kernel
theorem dX12_moment_18 : decode cX12_moment 18 = .ok (.ifCond .lt 7, 3) := by decide +kernel
theorem dX12_moment_21 : decode cX12_moment 21 = .ok (.iload_n 3, 1) := by decide +kernel
theorem dX12_moment_22 : decode cX12_moment 22 = .ok (.ifCond .ge 5, 3) := by decide +kernel
theorem dX12_moment_25 : decode cX12_moment 25 = .ok (.iconst (-1), 1) := by decide +kernel
theorem dX12_moment_26 : decode cX12_moment 26 = .ok (.ireturn, 1) := by decide +kernel
theorem dX12_moment_27 : decode cX12_moment 27 = .ok (.aload_n 0, 1) := by decide +kernel
theorem dX12_moment_28 : decode cX12_moment 28 = .ok (.iload_n 1, 1) := by decide +kernel
theorem dX12_moment_29 : decode cX12_moment 29 = .ok (.invokevirtual 223, 3) := by decide +kernel
theorem dX12_moment_32 : decode cX12_moment 32 = .ok (.ifCond .ne 6, 3) := by decide +kernel
theorem dX12_moment_35 : decode cX12_moment 35 = .ok (.bipush (-2), 2) := by decide +kernel
theorem dX12_moment_37 : decode cX12_moment 37 = .ok (.ireturn, 1) := by decide +kernel
theorem dX12_moment_38 : decode cX12_moment 38 = .ok (.aload_n 0, 1) := by decide +kernel
theorem dX12_moment_39 : decode cX12_moment 39 = .ok (.getfield 141, 3) := by decide +kernel
theorem dX12_moment_42 : decode cX12_moment 42 = .ok (.bipush 60, 2) := by decide +kernel
theorem dX12_moment_44 : decode cX12_moment 44 = .ok (.if_icmp .ne 6, 3) := by decide +kernel
theorem dX12_moment_47 : decode cX12_moment 47 = .ok (.bipush (-3), 2) := by decide +kernel
theorem dX12_moment_49 : decode cX12_moment 49 = .ok (.ireturn, 1) := by decide +kernel
theorem dX12_moment_50 : decode cX12_moment 50 = .ok (.aload_n 0, 1) := by decide +kernel
theorem dX12_moment_51 : decode cX12_moment 51 = .ok (.iload_n 1, 1) := by decide +kernel
theorem dX12_moment_52 : decode cX12_moment 52 = .ok (.iload_n 2, 1) := by decide +kernel
theorem dX12_moment_53 : decode cX12_moment 53 = .ok (.iload_n 3, 1) := by decide +kernel
theorem dX12_moment_54 : decode cX12_moment 54 = .ok (.invokevirtual 226, 3) := by decide +kernel
theorem dX12_moment_57 : decode cX12_moment 57 = .ok (.aload_n 0, 1) := by decide +kernel
theorem dX12_moment_58 : decode cX12_moment 58 = .ok (.getfield 144, 3) := by decide +kernel
theorem dX12_moment_61 : decode cX12_moment 61 = .ok (.ireturn, 1) := by decide +kernel
theorem dX12_value_0 : decode cX12_value 0 = .ok (.aload_n 0, 1) := by decide +kernel
theorem dX12_value_1 : decode cX12_value 1 = .ok (.iconst 0, 1) := by decide +kernel
theorem dX12_value_2 : decode cX12_value 2 = .ok (.putfield 122, 3) := by decide +kernel
theorem dX12_value_5 : decode cX12_value 5 = .ok (.aload_n 0, 1) := by decide +kernel
theorem dX12_value_6 : decode cX12_value 6 = .ok (.iload_n 1, 1) := by decide +kernel
theorem dX12_value_7 : decode cX12_value 7 = .ok (.invokevirtual 129, 3) := by decide +kernel
theorem dX12_value_10 : decode cX12_value 10 = .ok (.ifCond .eq 19, 3) := by decide +kernel
theorem dX12_value_13 : decode cX12_value 13 = .ok (.aload_n 0, 1) := by decide +kernel
theorem dX12_value_14 : decode cX12_value 14 = .ok (.getfield 44, 3) := by decide +kernel
theorem dX12_value_17 : decode cX12_value 17 = .ok (.aload_n 0, 1) := by decide +kernel
theorem dX12_value_18 : decode cX12_value 18 = .ok (.getfield 141, 3) := by decide +kernel
theorem dX12_value_21 : decode cX12_value 21 = .ok (.iaload, 1) := by decide +kernel
theorem dX12_value_22 : decode cX12_value 22 = .ok (.iload_n 1, 1) := by decide +kernel
theorem dX12_value_23 : decode cX12_value 23 = .ok (.invokestatic 133, 3) := by decide +kernel
theorem dX12_value_26 : decode cX12_value 26 = .ok (.goto 4, 3) := by decide +kernel
theorem dX12_value_29 : decode cX12_value 29 = .ok (.iconst (-1), 1) := by decide +kernel
theorem dX12_value_30 : decode cX12_value 30 = .ok (.ireturn, 1) := by decide +kernel
theorem dX12_either_0 : decode cX12_either 0 = .ok (.aload_n 0, 1) := by decide +kernel
theorem dX12_either_1 : decode cX12_either 1 = .ok (.iconst 0, 1) := by decide +kernel
theorem dX12_either_2 : decode cX12_either 2 = .ok (.putfield 122, 3) := by decide +kernel
theorem dX12_either_5 : decode cX12_either 5 = .ok (.iload_n 1, 1) := by decide +kernel
theorem dX12_either_6 : decode cX12_either 6 = .ok (.ifCond .lt 11, 3) := by decide +kernel
theorem dX12_either_9 : decode cX12_either 9 = .ok (.iload_n 1, 1) := by decide +kernel
theorem dX12_either_10 : decode cX12_either 10 = .ok (.aload_n 0, 1) := by decide +kernel
theorem dX12_either_11 : decode cX12_either 11 = .ok (.getfield 144, 3) := by decide +kernel
theorem dX12_either_14 : decode cX12_either 14 = .ok (.if_icmp .lt 7, 3) := by decide +kernel
theorem dX12_either_17 : decode cX12_either 17 = .ok (.iconst (-1), 1) := by decide +kernel
theorem dX12_either_18 : decode cX12_either 18 = .ok (.goto 9, 3) := by decide +kernel
theorem dX12_either_21 : decode cX12_either 21 = .ok (.aload_n 0, 1) := by decide +kernel
theorem dX12_either_22 : decode cX12_either 22 = .ok (.getfield 53, 3) := by decide +kernel
theorem dX12_either_25 : decode cX12_either 25 = .ok (.iload_n 1, 1) := by decide +kernel
theorem dX12_either_26 : decode cX12_either 26 = .ok (.iaload, 1) := by decide +kernel
theorem dX12_either_27 : decode cX12_either 27 = .ok (.ireturn, 1) := by decide +kernel
theorem dX12_ticks_0 : decode cX12_ticks 0 = .ok (.aload_n 0, 1) := by decide +kernel
theorem dX12_ticks_1 : decode cX12_ticks 1 = .ok (.iconst 0, 1) := by decide +kernel
theorem dX12_ticks_2 : decode cX12_ticks 2 = .ok (.putfield 122, 3) := by decide +kernel
theorem dX12_ticks_5 : decode cX12_ticks 5 = .ok (.iload_n 1, 1) := by decide +kernel
theorem dX12_ticks_6 : decode cX12_ticks 6 = .ok (.i2l, 1) := by decide +kernel
theorem dX12_ticks_7 : decode cX12_ticks 7 = .ok (.lconst 0, 1) := by decide +kernel
theorem dX12_ticks_8 : decode cX12_ticks 8 = .ok (.ldc2_w 154, 3) := by decide +kernel
theorem dX12_ticks_11 : decode cX12_ticks 11 = .ok (.invokestatic 156, 3) := by decide +kernel
theorem dX12_ticks_14 : decode cX12_ticks 14 = .ok (.ifCond .eq 20, 3) := by decide +kernel
theorem dX12_ticks_17 : decode cX12_ticks 17 = .ok (.iload_n 2, 1) := by decide +kernel
theorem dX12_ticks_18 : decode cX12_ticks 18 = .ok (.i2l, 1) := by decide +kernel
theorem dX12_ticks_19 : decode cX12_ticks 19 = .ok (.lconst 0, 1) := by decide +kernel
theorem dX12_ticks_20 : decode cX12_ticks 20 = .ok (.ldc2_w 154, 3) := by decide +kernel
theorem dX12_ticks_23 : decode cX12_ticks 23 = .ok (.invokestatic 156, 3) := by decide +kernel
theorem dX12_ticks_26 : decode cX12_ticks 26 = .ok (.ifCond .eq 8, 3) := by decide +kernel
theorem dX12_ticks_29 : decode cX12_ticks 29 = .ok (.iload_n 1, 1) := by decide +kernel
theorem dX12_ticks_30 : decode cX12_ticks 30 = .ok (.iload_n 2, 1) := by decide +kernel
theorem dX12_ticks_31 : decode cX12_ticks 31 = .ok (.if_icmp .ne 7, 3) := by decide +kernel
theorem dX12_ticks_34 : decode cX12_ticks 34 = .ok (.iconst (-1), 1) := by decide +kernel
theorem dX12_ticks_35 : decode cX12_ticks 35 = .ok (.goto 30, 3) := by decide +kernel
theorem dX12_ticks_38 : decode cX12_ticks 38 = .ok (.aload_n 0, 1) := by decide +kernel
theorem dX12_ticks_39 : decode cX12_ticks 39 = .ok (.getfield 32, 3) := by decide +kernel
theorem dX12_ticks_42 : decode cX12_ticks 42 = .ok (.iconst 4, 1) := by decide +kernel
theorem dX12_ticks_43 : decode cX12_ticks 43 = .ok (.iload_n 1, 1) := by decide +kernel
theorem dX12_ticks_44 : decode cX12_ticks 44 = .ok (.imul, 1) := by decide +kernel
theorem dX12_ticks_45 : decode cX12_ticks 45 = .ok (.iload_n 2, 1) := by decide +kernel
theorem dX12_ticks_46 : decode cX12_ticks 46 = .ok (.iadd, 1) := by decide +kernel
theorem dX12_ticks_47 : decode cX12_ticks 47 = .ok (.iaload, 1) := by decide +kernel
theorem dX12_ticks_48 : decode cX12_ticks 48 = .ok (.ifCond .ne 7, 3) := by decide +kernel
theorem dX12_ticks_51 : decode cX12_ticks 51 = .ok (.iconst 0, 1) := by decide +kernel
theorem dX12_ticks_52 : decode cX12_ticks 52 = .ok (.goto 13, 3) := by decide +kernel
theorem dX12_ticks_55 : decode cX12_ticks 55 = .ok (.aload_n 0, 1) := by decide +kernel
theorem dX12_ticks_56 : decode cX12_ticks 56 = .ok (.getfield 50, 3) := by decide +kernel
theorem dX12_ticks_59 : decode cX12_ticks 59 = .ok (.iconst 4, 1) := by decide +kernel
theorem dX12_ticks_60 : decode cX12_ticks 60 = .ok (.iload_n 1, 1) := by decide +kernel
theorem dX12_ticks_61 : decode cX12_ticks 61 = .ok (.imul, 1) := by decide +kernel
theorem dX12_ticks_62 : decode cX12_ticks 62 = .ok (.iload_n 2, 1) := by decide +kernel
theorem dX12_ticks_63 : decode cX12_ticks 63 = .ok (.iadd, 1) := by decide +kernel
theorem dX12_ticks_64 : decode cX12_ticks 64 = .ok (.iaload, 1) := by decide +kernel
theorem dX12_ticks_65 : decode cX12_ticks 65 = .ok (.ireturn, 1) := by decide +kernel
theorem dX12_broken_0 : decode cX12_broken 0 = .ok (.aload_n 0, 1) := by decide +kernel
theorem dX12_broken_1 : decode cX12_broken 1 = .ok (.iconst 0, 1) := by decide +kernel
theorem dX12_broken_2 : decode cX12_broken 2 = .ok (.putfield 122, 3) := by decide +kernel
theorem dX12_broken_5 : decode cX12_broken 5 = .ok (.iload_n 1, 1) := by decide +kernel
theorem dX12_broken_6 : decode cX12_broken 6 = .ok (.ifCond .lt 11, 3) := by decide +kernel
theorem dX12_broken_9 : decode cX12_broken 9 = .ok (.iload_n 1, 1) := by decide +kernel
theorem dX12_broken_10 : decode cX12_broken 10 = .ok (.aload_n 0, 1) := by decide +kernel
theorem dX12_broken_11 : decode cX12_broken 11 = .ok (.getfield 180, 3) := by decide +kernel
theorem dX12_broken_14 : decode cX12_broken 14 = .ok (.if_icmp .lt 5, 3) := by decide +kernel
theorem dX12_broken_17 : decode cX12_broken 17 = .ok (.iconst (-1), 1) := by decide +kernel
theorem dX12_broken_18 : decode cX12_broken 18 = .ok (.ireturn, 1) := by decide +kernel
theorem dX12_broken_19 : decode cX12_broken 19 = .ok (.iconst 0, 1) := by decide +kernel
theorem dX12_broken_20 : decode cX12_broken 20 = .ok (.istore_n 2, 1) := by decide +kernel
theorem dX12_broken_21 : decode cX12_broken 21 = .ok (.iload_n 2, 1) := by decide +kernel
theorem dX12_broken_22 : decode cX12_broken 22 = .ok (.aload_n 0, 1) := by decide +kernel
theorem dX12_broken_23 : decode cX12_broken 23 = .ok (.getfield 141, 3) := by decide +kernel
theorem dX12_broken_26 : decode cX12_broken 26 = .ok (.if_icmp .gt 50, 3) := by decide +kernel
theorem dX12_broken_29 : decode cX12_broken 29 = .ok (.aload_n 0, 1) := by decide +kernel
theorem dX12_broken_30 : decode cX12_broken 30 = .ok (.iload_n 1, 1) := by decide +kernel
theorem dX12_broken_31 : decode cX12_broken 31 = .ok (.iload_n 2, 1) := by decide +kernel
theorem dX12_broken_32 : decode cX12_broken 32 = .ok (.ifCond .ne 7, 3) := by decide +kernel
theorem dX12_broken_35 : decode cX12_broken 35 = .ok (.iconst 0, 1) := by decide +kernel
theorem dX12_broken_36 : decode cX12_broken 36 = .ok (.goto 11, 3) := by decide +kernel
theorem dX12_broken_39 : decode cX12_broken 39 = .ok (.aload_n 0, 1) := by decide +kernel
theorem dX12_broken_40 : decode cX12_broken 40 = .ok (.getfield 44, 3) := by decide +kernel
theorem dX12_broken_43 : decode cX12_broken 43 = .ok (.iload_n 2, 1) := by decide +kernel
theorem dX12_broken_44 : decode cX12_broken 44 = .ok (.iconst 1, 1) := by decide +kernel
theorem dX12_broken_45 : decode cX12_broken 45 = .ok (.isub, 1) := by decide +kernel
theorem dX12_broken_46 : decode cX12_broken 46 = .ok (.iaload, 1) := by decide +kernel
theorem dX12_broken_47 : decode cX12_broken 47 = .ok (.aload_n 0, 1) := by decide +kernel
theorem dX12_broken_48 : decode cX12_broken 48 = .ok (.getfield 44, 3) := by decide +kernel
theorem dX12_broken_51 : decode cX12_broken 51 = .ok (.iload_n 2, 1) := by decide +kernel
theorem dX12_broken_52 : decode cX12_broken 52 = .ok (.iaload, 1) := by decide +kernel
theorem dX12_broken_53 : decode cX12_broken 53 = .ok (.iload_n 2, 1) := by decide +kernel
theorem dX12_broken_54 : decode cX12_broken 54 = .ok (.ifCond .ne 7, 3) := by decide +kernel
theorem dX12_broken_57 : decode cX12_broken 57 = .ok (.iconst 1, 1) := by decide +kernel
theorem dX12_broken_58 : decode cX12_broken 58 = .ok (.goto 4, 3) := by decide +kernel
theorem dX12_broken_61 : decode cX12_broken 61 = .ok (.iconst 0, 1) := by decide +kernel
theorem dX12_broken_62 : decode cX12_broken 62 = .ok (.invokevirtual 229, 3) := by decide +kernel
theorem dX12_broken_65 : decode cX12_broken 65 = .ok (.ifCond .ne 5, 3) := by decide +kernel
theorem dX12_broken_68 : decode cX12_broken 68 = .ok (.iload_n 2, 1) := by decide +kernel
theorem dX12_broken_69 : decode cX12_broken 69 = .ok (.ireturn, 1) := by decide +kernel
theorem dX12_broken_70 : decode cX12_broken 70 = .ok (.iinc 2 1, 3) := by decide +kernel
theorem dX12_broken_73 : decode cX12_broken 73 = .ok (.goto (-52), 3) := by decide +kernel
theorem dX12_broken_76 : decode cX12_broken 76 = .ok (.bipush (-2), 2) := by decide +kernel
theorem dX12_broken_78 : decode cX12_broken 78 = .ok (.ireturn, 1) := by decide +kernel
theorem dX12_unwalk_0 : decode cX12_unwalk 0 = .ok (.aload_n 0, 1) := by decide +kernel
theorem dX12_unwalk_1 : decode cX12_unwalk 1 = .ok (.iconst 0, 1) := by decide +kernel
theorem dX12_unwalk_2 : decode cX12_unwalk 2 = .ok (.putfield 233, 3) := by decide +kernel
theorem dX12_unwalk_5 : decode cX12_unwalk 5 = .ok (.aload_n 0, 1) := by decide +kernel
theorem dX12_unwalk_6 : decode cX12_unwalk 6 = .ok (.iconst 0, 1) := by decide +kernel
theorem dX12_unwalk_7 : decode cX12_unwalk 7 = .ok (.putfield 237, 3) := by decide +kernel
theorem dX12_unwalk_10 : decode cX12_unwalk 10 = .ok (.aload_n 0, 1) := by decide +kernel
theorem dX12_unwalk_11 : decode cX12_unwalk 11 = .ok (.iconst 0, 1) := by decide +kernel
theorem dX12_unwalk_12 : decode cX12_unwalk 12 = .ok (.putfield 240, 3) := by decide +kernel
theorem dX12_unwalk_15 : decode cX12_unwalk 15 = .ok (.aload_n 0, 1) := by decide +kernel
theorem dX12_unwalk_16 : decode cX12_unwalk 16 = .ok (.iconst 0, 1) := by decide +kernel
theorem dX12_unwalk_17 : decode cX12_unwalk 17 = .ok (.putfield 243, 3) := by decide +kernel
theorem dX12_unwalk_20 : decode cX12_unwalk 20 = .ok (.aload_n 0, 1) := by decide +kernel
theorem dX12_unwalk_21 : decode cX12_unwalk 21 = .ok (.iconst 0, 1) := by decide +kernel
theorem dX12_unwalk_22 : decode cX12_unwalk 22 = .ok (.putfield 246, 3) := by decide +kernel
theorem dX12_unwalk_25 : decode cX12_unwalk 25 = .ok (.aload_n 0, 1) := by decide +kernel
theorem dX12_unwalk_26 : decode cX12_unwalk 26 = .ok (.iconst 0, 1) := by decide +kernel
theorem dX12_unwalk_27 : decode cX12_unwalk 27 = .ok (.putfield 249, 3) := by decide +kernel
theorem dX12_unwalk_30 : decode cX12_unwalk 30 = .ok (.return_, 1) := by decide +kernel
theorem dX12_stateOf_0 : decode cX12_stateOf 0 = .ok (.iconst 0, 1) := by decide +kernel
theorem dX12_stateOf_1 : decode cX12_stateOf 1 = .ok (.istore_n 2, 1) := by decide +kernel
theorem dX12_stateOf_2 : decode cX12_stateOf 2 = .ok (.iload_n 2, 1) := by decide +kernel
theorem dX12_stateOf_3 : decode cX12_stateOf 3 = .ok (.aload_n 0, 1) := by decide +kernel
theorem dX12_stateOf_4 : decode cX12_stateOf 4 = .ok (.getfield 240, 3) := by decide +kernel
theorem dX12_stateOf_7 : decode cX12_stateOf 7 = .ok (.if_icmp .ge 89, 3) := by decide +kernel
theorem dX12_stateOf_10 : decode cX12_stateOf 10 = .ok (.aload_n 0, 1) := by decide +kernel
theorem dX12_stateOf_11 : decode cX12_stateOf 11 = .ok (.getfield 56, 3) := by decide +kernel
theorem dX12_stateOf_14 : decode cX12_stateOf 14 = .ok (.iload_n 2, 1) := by decide +kernel
theorem dX12_stateOf_15 : decode cX12_stateOf 15 = .ok (.iaload, 1) := by decide +kernel
theorem dX12_stateOf_16 : decode cX12_stateOf 16 = .ok (.iload_n 1, 1) := by decide +kernel
theorem dX12_stateOf_17 : decode cX12_stateOf 17 = .ok (.if_icmp .ne 7, 3) := by decide +kernel
theorem dX12_stateOf_20 : decode cX12_stateOf 20 = .ok (.iconst 1, 1) := by decide +kernel
theorem dX12_stateOf_21 : decode cX12_stateOf 21 = .ok (.goto 4, 3) := by decide +kernel
theorem dX12_stateOf_24 : decode cX12_stateOf 24 = .ok (.iconst 0, 1) := by decide +kernel
theorem dX12_stateOf_25 : decode cX12_stateOf 25 = .ok (.istore_n 3, 1) := by decide +kernel
theorem dX12_stateOf_26 : decode cX12_stateOf 26 = .ok (.iconst 0, 1) := by decide +kernel
theorem dX12_stateOf_27 : decode cX12_stateOf 27 = .ok (.istore 4, 2) := by decide +kernel
theorem dX12_stateOf_29 : decode cX12_stateOf 29 = .ok (.iload 4, 2) := by decide +kernel
theorem dX12_stateOf_31 : decode cX12_stateOf 31 = .ok (.bipush 16, 2) := by decide +kernel
theorem dX12_stateOf_33 : decode cX12_stateOf 33 = .ok (.if_icmp .ge 51, 3) := by decide +kernel
theorem dX12_stateOf_36 : decode cX12_stateOf 36 = .ok (.iload_n 3, 1) := by decide +kernel
theorem dX12_stateOf_37 : decode cX12_stateOf 37 = .ok (.ifCond .eq 47, 3) := by decide +kernel
theorem dX12_stateOf_40 : decode cX12_stateOf 40 = .ok (.aload_n 0, 1) := by decide +kernel
theorem dX12_stateOf_41 : decode cX12_stateOf 41 = .ok (.getfield 32, 3) := by decide +kernel
theorem dX12_stateOf_44 : decode cX12_stateOf 44 = .ok (.iload 4, 2) := by decide +kernel
theorem dX12_stateOf_46 : decode cX12_stateOf 46 = .ok (.iaload, 1) := by decide +kernel
theorem dX12_stateOf_47 : decode cX12_stateOf 47 = .ok (.ifCond .eq 25, 3) := by decide +kernel
theorem dX12_stateOf_50 : decode cX12_stateOf 50 = .ok (.aload_n 0, 1) := by decide +kernel
theorem dX12_stateOf_51 : decode cX12_stateOf 51 = .ok (.getfield 59, 3) := by decide +kernel
theorem dX12_stateOf_54 : decode cX12_stateOf 54 = .ok (.bipush 16, 2) := by decide +kernel
theorem dX12_stateOf_56 : decode cX12_stateOf 56 = .ok (.iload_n 2, 1) := by decide +kernel
theorem dX12_stateOf_57 : decode cX12_stateOf 57 = .ok (.imul, 1) := by decide +kernel
theorem dX12_stateOf_58 : decode cX12_stateOf 58 = .ok (.iload 4, 2) := by decide +kernel
theorem dX12_stateOf_60 : decode cX12_stateOf 60 = .ok (.iadd, 1) := by decide +kernel
theorem dX12_stateOf_61 : decode cX12_stateOf 61 = .ok (.iaload, 1) := by decide +kernel
theorem dX12_stateOf_62 : decode cX12_stateOf 62 = .ok (.aload_n 0, 1) := by decide +kernel
theorem dX12_stateOf_63 : decode cX12_stateOf 63 = .ok (.getfield 95, 3) := by decide +kernel
theorem dX12_stateOf_66 : decode cX12_stateOf 66 = .ok (.iload 4, 2) := by decide +kernel
theorem dX12_stateOf_68 : decode cX12_stateOf 68 = .ok (.iaload, 1) := by decide +kernel
theorem dX12_stateOf_69 : decode cX12_stateOf 69 = .ok (.if_icmp .ne 7, 3) := by decide +kernel
theorem dX12_stateOf_72 : decode cX12_stateOf 72 = .ok (.iconst 1, 1) := by decide +kernel
theorem dX12_stateOf_73 : decode cX12_stateOf 73 = .ok (.goto 4, 3) := by decide +kernel
theorem dX12_stateOf_76 : decode cX12_stateOf 76 = .ok (.iconst 0, 1) := by decide +kernel
theorem dX12_stateOf_77 : decode cX12_stateOf 77 = .ok (.istore_n 3, 1) := by decide +kernel
theorem dX12_stateOf_78 : decode cX12_stateOf 78 = .ok (.iinc 4 1, 3) := by decide +kernel
theorem dX12_stateOf_81 : decode cX12_stateOf 81 = .ok (.goto (-52), 3) := by decide +kernel
theorem dX12_stateOf_84 : decode cX12_stateOf 84 = .ok (.iload_n 3, 1) := by decide +kernel
theorem dX12_stateOf_85 : decode cX12_stateOf 85 = .ok (.ifCond .eq 5, 3) := by decide +kernel
theorem dX12_stateOf_88 : decode cX12_stateOf 88 = .ok (.iload_n 2, 1) := by decide +kernel
theorem dX12_stateOf_89 : decode cX12_stateOf 89 = .ok (.ireturn, 1) := by decide +kernel
theorem dX12_stateOf_90 : decode cX12_stateOf 90 = .ok (.iinc 2 1, 3) := by decide +kernel
theorem dX12_stateOf_93 : decode cX12_stateOf 93 = .ok (.goto (-91), 3) := by decide +kernel
theorem dX12_stateOf_96 : decode cX12_stateOf 96 = .ok (.iconst (-1), 1) := by decide +kernel
theorem dX12_stateOf_97 : decode cX12_stateOf 97 = .ok (.ireturn, 1) := by decide +kernel
theorem dX12_addState_0 : decode cX12_addState 0 = .ok (.aload_n 0, 1) := by decide +kernel
theorem dX12_addState_1 : decode cX12_addState 1 = .ok (.getfield 56, 3) := by decide +kernel
theorem dX12_addState_4 : decode cX12_addState 4 = .ok (.aload_n 0, 1) := by decide +kernel
theorem dX12_addState_5 : decode cX12_addState 5 = .ok (.getfield 240, 3) := by decide +kernel
theorem dX12_addState_8 : decode cX12_addState 8 = .ok (.iload_n 1, 1) := by decide +kernel
theorem dX12_addState_9 : decode cX12_addState 9 = .ok (.iastore, 1) := by decide +kernel
theorem dX12_addState_10 : decode cX12_addState 10 = .ok (.iconst 0, 1) := by decide +kernel
theorem dX12_addState_11 : decode cX12_addState 11 = .ok (.istore 6, 2) := by decide +kernel
theorem dX12_addState_13 : decode cX12_addState 13 = .ok (.iload 6, 2) := by decide +kernel
theorem dX12_addState_15 : decode cX12_addState 15 = .ok (.bipush 16, 2) := by decide +kernel
theorem dX12_addState_17 : decode cX12_addState 17 = .ok (.if_icmp .ge 45, 3) := by decide +kernel
theorem dX12_addState_20 : decode cX12_addState 20 = .ok (.aload_n 0, 1) := by decide +kernel
theorem dX12_addState_21 : decode cX12_addState 21 = .ok (.getfield 59, 3) := by decide +kernel
theorem dX12_addState_24 : decode cX12_addState 24 = .ok (.bipush 16, 2) := by decide +kernel
theorem dX12_addState_26 : decode cX12_addState 26 = .ok (.aload_n 0, 1) := by decide +kernel
theorem dX12_addState_27 : decode cX12_addState 27 = .ok (.getfield 240, 3) := by decide +kernel
theorem dX12_addState_30 : decode cX12_addState 30 = .ok (.imul, 1) := by decide +kernel
theorem dX12_addState_31 : decode cX12_addState 31 = .ok (.iload 6, 2) := by decide +kernel
theorem dX12_addState_33 : decode cX12_addState 33 = .ok (.iadd, 1) := by decide +kernel
theorem dX12_addState_34 : decode cX12_addState 34 = .ok (.aload_n 0, 1) := by decide +kernel
theorem dX12_addState_35 : decode cX12_addState 35 = .ok (.getfield 32, 3) := by decide +kernel
theorem dX12_addState_38 : decode cX12_addState 38 = .ok (.iload 6, 2) := by decide +kernel
theorem dX12_addState_40 : decode cX12_addState 40 = .ok (.iaload, 1) := by decide +kernel
theorem dX12_addState_41 : decode cX12_addState 41 = .ok (.ifCond .ne 7, 3) := by decide +kernel
theorem dX12_addState_44 : decode cX12_addState 44 = .ok (.iconst 0, 1) := by decide +kernel
theorem dX12_addState_45 : decode cX12_addState 45 = .ok (.goto 10, 3) := by decide +kernel
theorem dX12_addState_48 : decode cX12_addState 48 = .ok (.aload_n 0, 1) := by decide +kernel
theorem dX12_addState_49 : decode cX12_addState 49 = .ok (.getfield 95, 3) := by decide +kernel
theorem dX12_addState_52 : decode cX12_addState 52 = .ok (.iload 6, 2) := by decide +kernel
theorem dX12_addState_54 : decode cX12_addState 54 = .ok (.iaload, 1) := by decide +kernel
theorem dX12_addState_55 : decode cX12_addState 55 = .ok (.iastore, 1) := by decide +kernel
theorem dX12_addState_56 : decode cX12_addState 56 = .ok (.iinc 6 1, 3) := by decide +kernel
theorem dX12_addState_59 : decode cX12_addState 59 = .ok (.goto (-46), 3) := by decide +kernel
theorem dX12_addState_62 : decode cX12_addState 62 = .ok (.aload_n 0, 1) := by decide +kernel
theorem dX12_addState_63 : decode cX12_addState 63 = .ok (.getfield 62, 3) := by decide +kernel
theorem dX12_addState_66 : decode cX12_addState 66 = .ok (.aload_n 0, 1) := by decide +kernel
theorem dX12_addState_67 : decode cX12_addState 67 = .ok (.getfield 240, 3) := by decide +kernel
theorem dX12_addState_70 : decode cX12_addState 70 = .ok (.iload_n 2, 1) := by decide +kernel
theorem dX12_addState_71 : decode cX12_addState 71 = .ok (.iastore, 1) := by decide +kernel
theorem dX12_addState_72 : decode cX12_addState 72 = .ok (.aload_n 0, 1) := by decide +kernel
theorem dX12_addState_73 : decode cX12_addState 73 = .ok (.getfield 65, 3) := by decide +kernel
theorem dX12_addState_76 : decode cX12_addState 76 = .ok (.aload_n 0, 1) := by decide +kernel
theorem dX12_addState_77 : decode cX12_addState 77 = .ok (.getfield 240, 3) := by decide +kernel
theorem dX12_addState_80 : decode cX12_addState 80 = .ok (.iload_n 3, 1) := by decide +kernel
theorem dX12_addState_81 : decode cX12_addState 81 = .ok (.iastore, 1) := by decide +kernel
theorem dX12_addState_82 : decode cX12_addState 82 = .ok (.aload_n 0, 1) := by decide +kernel
theorem dX12_addState_83 : decode cX12_addState 83 = .ok (.getfield 68, 3) := by decide +kernel
theorem dX12_addState_86 : decode cX12_addState 86 = .ok (.aload_n 0, 1) := by decide +kernel
theorem dX12_addState_87 : decode cX12_addState 87 = .ok (.getfield 240, 3) := by decide +kernel
theorem dX12_addState_90 : decode cX12_addState 90 = .ok (.iload 4, 2) := by decide +kernel
theorem dX12_addState_92 : decode cX12_addState 92 = .ok (.iastore, 1) := by decide +kernel
theorem dX12_addState_93 : decode cX12_addState 93 = .ok (.aload_n 0, 1) := by decide +kernel
theorem dX12_addState_94 : decode cX12_addState 94 = .ok (.getfield 71, 3) := by decide +kernel
theorem dX12_addState_97 : decode cX12_addState 97 = .ok (.aload_n 0, 1) := by decide +kernel
theorem dX12_addState_98 : decode cX12_addState 98 = .ok (.getfield 240, 3) := by decide +kernel
theorem dX12_addState_101 : decode cX12_addState 101 = .ok (.iload 5, 2) := by decide +kernel
theorem dX12_addState_103 : decode cX12_addState 103 = .ok (.iastore, 1) := by decide +kernel
theorem dX12_addState_104 : decode cX12_addState 104 = .ok (.aload_n 0, 1) := by decide +kernel
theorem dX12_addState_105 : decode cX12_addState 105 = .ok (.getfield 74, 3) := by decide +kernel
theorem dX12_addState_108 : decode cX12_addState 108 = .ok (.aload_n 0, 1) := by decide +kernel
theorem dX12_addState_109 : decode cX12_addState 109 = .ok (.getfield 240, 3) := by decide +kernel
theorem dX12_addState_112 : decode cX12_addState 112 = .ok (.iload_n 2, 1) := by decide +kernel
theorem dX12_addState_113 : decode cX12_addState 113 = .ok (.ifCond .ge 7, 3) := by decide +kernel
theorem dX12_addState_116 : decode cX12_addState 116 = .ok (.iconst 0, 1) := by decide +kernel
theorem dX12_addState_117 : decode cX12_addState 117 = .ok (.goto 11, 3) := by decide +kernel
theorem dX12_addState_120 : decode cX12_addState 120 = .ok (.aload_n 0, 1) := by decide +kernel
theorem dX12_addState_121 : decode cX12_addState 121 = .ok (.getfield 74, 3) := by decide +kernel
theorem dX12_addState_124 : decode cX12_addState 124 = .ok (.iload_n 2, 1) := by decide +kernel
theorem dX12_addState_125 : decode cX12_addState 125 = .ok (.iaload, 1) := by decide +kernel
theorem dX12_addState_126 : decode cX12_addState 126 = .ok (.iconst 1, 1) := by decide +kernel
theorem dX12_addState_127 : decode cX12_addState 127 = .ok (.iadd, 1) := by decide +kernel
theorem dX12_addState_128 : decode cX12_addState 128 = .ok (.iastore, 1) := by decide +kernel
theorem dX12_addState_129 : decode cX12_addState 129 = .ok (.aload_n 0, 1) := by decide +kernel
theorem dX12_addState_130 : decode cX12_addState 130 = .ok (.getfield 77, 3) := by decide +kernel
theorem dX12_addState_133 : decode cX12_addState 133 = .ok (.aload_n 0, 1) := by decide +kernel
theorem dX12_addState_134 : decode cX12_addState 134 = .ok (.getfield 240, 3) := by decide +kernel
theorem dX12_addState_137 : decode cX12_addState 137 = .ok (.bipush (-2), 2) := by decide +kernel
theorem dX12_addState_139 : decode cX12_addState 139 = .ok (.iastore, 1) := by decide +kernel
theorem dX12_addState_140 : decode cX12_addState 140 = .ok (.aload_n 0, 1) := by decide +kernel
theorem dX12_addState_141 : decode cX12_addState 141 = .ok (.dup, 1) := by decide +kernel
theorem dX12_addState_142 : decode cX12_addState 142 = .ok (.getfield 240, 3) := by decide +kernel
theorem dX12_addState_145 : decode cX12_addState 145 = .ok (.iconst 1, 1) := by decide +kernel
theorem dX12_addState_146 : decode cX12_addState 146 = .ok (.iadd, 1) := by decide +kernel
theorem dX12_addState_147 : decode cX12_addState 147 = .ok (.putfield 240, 3) := by decide +kernel
theorem dX12_addState_150 : decode cX12_addState 150 = .ok (.return_, 1) := by decide +kernel
theorem dX12_lookAtPromises_0 : decode cX12_lookAtPromises 0 = .ok (.iconst 0, 1) := by decide +kernel
theorem dX12_lookAtPromises_1 : decode cX12_lookAtPromises 1 = .ok (.istore 8, 2) := by decide +kernel
theorem dX12_lookAtPromises_3 : decode cX12_lookAtPromises 3 = .ok (.iload 8, 2) := by decide +kernel
theorem dX12_lookAtPromises_5 : decode cX12_lookAtPromises 5 = .ok (.aload_n 0, 1) := by decide +kernel
theorem dX12_lookAtPromises_6 : decode cX12_lookAtPromises 6 = .ok (.getfield 180, 3) := by decide +kernel
theorem dX12_lookAtPromises_9 : decode cX12_lookAtPromises 9 = .ok (.if_icmp .ge 118, 3) := by decide +kernel
theorem dX12_lookAtPromises_12 : decode cX12_lookAtPromises 12 = .ok (.aload_n 0, 1) := by decide +kernel
theorem dX12_lookAtPromises_13 : decode cX12_lookAtPromises 13 = .ok (.getfield 92, 3) := by decide +kernel
theorem dX12_lookAtPromises_16 : decode cX12_lookAtPromises 16 = .ok (.iload 8, 2) := by decide +kernel
theorem dX12_lookAtPromises_18 : decode cX12_lookAtPromises 18 = .ok (.baload, 1) := by decide +kernel
theorem dX12_lookAtPromises_19 : decode cX12_lookAtPromises 19 = .ok (.ifCond .ne 102, 3) := by decide +kernel
theorem dX12_lookAtPromises_22 : decode cX12_lookAtPromises 22 = .ok (.aload_n 0, 1) := by decide +kernel
theorem dX12_lookAtPromises_23 : decode cX12_lookAtPromises 23 = .ok (.iload 8, 2) := by decide +kernel
theorem dX12_lookAtPromises_25 : decode cX12_lookAtPromises 25 = .ok (.iload_n 1, 1) := by decide +kernel
theorem dX12_lookAtPromises_26 : decode cX12_lookAtPromises 26 = .ok (.iload_n 2, 1) := by decide +kernel
theorem dX12_lookAtPromises_27 : decode cX12_lookAtPromises 27 = .ok (.iload_n 3, 1) := by decide +kernel
theorem dX12_lookAtPromises_28 : decode cX12_lookAtPromises 28 = .ok (.ifCond .ge 7, 3) := by decide +kernel
theorem dX12_lookAtPromises_31 : decode cX12_lookAtPromises 31 = .ok (.iconst 1, 1) := by decide +kernel
theorem dX12_lookAtPromises_32 : decode cX12_lookAtPromises 32 = .ok (.goto 4, 3) := by decide +kernel
theorem dX12_lookAtPromises_35 : decode cX12_lookAtPromises 35 = .ok (.iconst 0, 1) := by decide +kernel
theorem dX12_lookAtPromises_36 : decode cX12_lookAtPromises 36 = .ok (.invokevirtual 229, 3) := by decide +kernel
theorem dX12_lookAtPromises_39 : decode cX12_lookAtPromises 39 = .ok (.ifCond .ne 82, 3) := by decide +kernel
theorem dX12_lookAtPromises_42 : decode cX12_lookAtPromises 42 = .ok (.aload_n 0, 1) := by decide +kernel
theorem dX12_lookAtPromises_43 : decode cX12_lookAtPromises 43 = .ok (.getfield 92, 3) := by decide +kernel
theorem dX12_lookAtPromises_46 : decode cX12_lookAtPromises 46 = .ok (.iload 8, 2) := by decide +kernel
theorem dX12_lookAtPromises_48 : decode cX12_lookAtPromises 48 = .ok (.iconst 1, 1) := by decide +kernel
theorem dX12_lookAtPromises_49 : decode cX12_lookAtPromises 49 = .ok (.bastore, 1) := by decide +kernel
theorem dX12_lookAtPromises_50 : decode cX12_lookAtPromises 50 = .ok (.aload_n 0, 1) := by decide +kernel
theorem dX12_lookAtPromises_51 : decode cX12_lookAtPromises 51 = .ok (.getfield 89, 3) := by decide +kernel
theorem dX12_lookAtPromises_54 : decode cX12_lookAtPromises 54 = .ok (.iconst 5, 1) := by decide +kernel
theorem dX12_lookAtPromises_55 : decode cX12_lookAtPromises 55 = .ok (.iload 8, 2) := by decide +kernel
theorem dX12_lookAtPromises_57 : decode cX12_lookAtPromises 57 = .ok (.imul, 1) := by decide +kernel
theorem dX12_lookAtPromises_58 : decode cX12_lookAtPromises 58 = .ok (.iload_n 3, 1) := by decide +kernel
theorem dX12_lookAtPromises_59 : decode cX12_lookAtPromises 59 = .ok (.ifCond .ge 8, 3) := by decide +kernel
theorem dX12_lookAtPromises_62 : decode cX12_lookAtPromises 62 = .ok (.bipush (-2), 2) := by decide +kernel
theorem dX12_lookAtPromises_64 : decode cX12_lookAtPromises 64 = .ok (.goto 4, 3) := by decide +kernel
theorem dX12_lookAtPromises_67 : decode cX12_lookAtPromises 67 = .ok (.iload_n 3, 1) := by decide +kernel
theorem dX12_lookAtPromises_68 : decode cX12_lookAtPromises 68 = .ok (.iastore, 1) := by decide +kernel
theorem dX12_lookAtPromises_69 : decode cX12_lookAtPromises 69 = .ok (.aload_n 0, 1) := by decide +kernel
theorem dX12_lookAtPromises_70 : decode cX12_lookAtPromises 70 = .ok (.getfield 89, 3) := by decide +kernel
theorem dX12_lookAtPromises_73 : decode cX12_lookAtPromises 73 = .ok (.iconst 5, 1) := by decide +kernel
theorem dX12_lookAtPromises_74 : decode cX12_lookAtPromises 74 = .ok (.iload 8, 2) := by decide +kernel
theorem dX12_lookAtPromises_76 : decode cX12_lookAtPromises 76 = .ok (.imul, 1) := by decide +kernel
theorem dX12_lookAtPromises_77 : decode cX12_lookAtPromises 77 = .ok (.iconst 1, 1) := by decide +kernel
theorem dX12_lookAtPromises_78 : decode cX12_lookAtPromises 78 = .ok (.iadd, 1) := by decide +kernel
theorem dX12_lookAtPromises_79 : decode cX12_lookAtPromises 79 = .ok (.iload 4, 2) := by decide +kernel
theorem dX12_lookAtPromises_81 : decode cX12_lookAtPromises 81 = .ok (.iastore, 1) := by decide +kernel
theorem dX12_lookAtPromises_82 : decode cX12_lookAtPromises 82 = .ok (.aload_n 0, 1) := by decide +kernel
theorem dX12_lookAtPromises_83 : decode cX12_lookAtPromises 83 = .ok (.getfield 89, 3) := by decide +kernel
theorem dX12_lookAtPromises_86 : decode cX12_lookAtPromises 86 = .ok (.iconst 5, 1) := by decide +kernel
theorem dX12_lookAtPromises_87 : decode cX12_lookAtPromises 87 = .ok (.iload 8, 2) := by decide +kernel
theorem dX12_lookAtPromises_89 : decode cX12_lookAtPromises 89 = .ok (.imul, 1) := by decide +kernel
theorem dX12_lookAtPromises_90 : decode cX12_lookAtPromises 90 = .ok (.iconst 2, 1) := by decide +kernel
theorem dX12_lookAtPromises_91 : decode cX12_lookAtPromises 91 = .ok (.iadd, 1) := by decide +kernel
theorem dX12_lookAtPromises_92 : decode cX12_lookAtPromises 92 = .ok (.iload 5, 2) := by decide +kernel
theorem dX12_lookAtPromises_94 : decode cX12_lookAtPromises 94 = .ok (.iastore, 1) := by decide +kernel
theorem dX12_lookAtPromises_95 : decode cX12_lookAtPromises 95 = .ok (.aload_n 0, 1) := by decide +kernel
theorem dX12_lookAtPromises_96 : decode cX12_lookAtPromises 96 = .ok (.getfield 89, 3) := by decide +kernel
theorem dX12_lookAtPromises_99 : decode cX12_lookAtPromises 99 = .ok (.iconst 5, 1) := by decide +kernel
theorem dX12_lookAtPromises_100 : decode cX12_lookAtPromises 100 = .ok (.iload 8, 2) := by decide +kernel
theorem dX12_lookAtPromises_102 : decode cX12_lookAtPromises 102 = .ok (.imul, 1) := by decide +kernel
theorem dX12_lookAtPromises_103 : decode cX12_lookAtPromises 103 = .ok (.iconst 3, 1) := by decide +kernel
theorem dX12_lookAtPromises_104 : decode cX12_lookAtPromises 104 = .ok (.iadd, 1) := by decide +kernel
theorem dX12_lookAtPromises_105 : decode cX12_lookAtPromises 105 = .ok (.iload 6, 2) := by decide +kernel
theorem dX12_lookAtPromises_107 : decode cX12_lookAtPromises 107 = .ok (.iastore, 1) := by decide +kernel
theorem dX12_lookAtPromises_108 : decode cX12_lookAtPromises 108 = .ok (.aload_n 0, 1) := by decide +kernel
theorem dX12_lookAtPromises_109 : decode cX12_lookAtPromises 109 = .ok (.getfield 89, 3) := by decide +kernel
theorem dX12_lookAtPromises_112 : decode cX12_lookAtPromises 112 = .ok (.iconst 5, 1) := by decide +kernel
theorem dX12_lookAtPromises_113 : decode cX12_lookAtPromises 113 = .ok (.iload 8, 2) := by decide +kernel
theorem dX12_lookAtPromises_115 : decode cX12_lookAtPromises 115 = .ok (.imul, 1) := by decide +kernel
theorem dX12_lookAtPromises_116 : decode cX12_lookAtPromises 116 = .ok (.iconst 4, 1) := by decide +kernel
theorem dX12_lookAtPromises_117 : decode cX12_lookAtPromises 117 = .ok (.iadd, 1) := by decide +kernel
theorem dX12_lookAtPromises_118 : decode cX12_lookAtPromises 118 = .ok (.iload 7, 2) := by decide +kernel
theorem dX12_lookAtPromises_120 : decode cX12_lookAtPromises 120 = .ok (.iastore, 1) := by decide +kernel
theorem dX12_lookAtPromises_121 : decode cX12_lookAtPromises 121 = .ok (.iinc 8 1, 3) := by decide +kernel
theorem dX12_lookAtPromises_124 : decode cX12_lookAtPromises 124 = .ok (.goto (-121), 3) := by decide +kernel
theorem dX12_lookAtPromises_127 : decode cX12_lookAtPromises 127 = .ok (.return_, 1) := by decide +kernel
theorem dX12_tryMove_0 : decode cX12_tryMove 0 = .ok (.aload_n 0, 1) := by decide +kernel
theorem dX12_tryMove_1 : decode cX12_tryMove 1 = .ok (.getfield 246, 3) := by decide +kernel
theorem dX12_tryMove_4 : decode cX12_tryMove 4 = .ok (.sipush 20000, 3) := by decide +kernel
theorem dX12_tryMove_7 : decode cX12_tryMove 7 = .ok (.if_icmp .ne 9, 3) := by decide +kernel
theorem dX12_tryMove_10 : decode cX12_tryMove 10 = .ok (.aload_n 0, 1) := by decide +kernel
theorem dX12_tryMove_11 : decode cX12_tryMove 11 = .ok (.iconst 1, 1) := by decide +kernel
theorem dX12_tryMove_12 : decode cX12_tryMove 12 = .ok (.putfield 237, 3) := by decide +kernel
theorem dX12_tryMove_15 : decode cX12_tryMove 15 = .ok (.return_, 1) := by decide +kernel
theorem dX12_tryMove_16 : decode cX12_tryMove 16 = .ok (.aload_n 0, 1) := by decide +kernel
theorem dX12_tryMove_17 : decode cX12_tryMove 17 = .ok (.iload 4, 2) := by decide +kernel
theorem dX12_tryMove_19 : decode cX12_tryMove 19 = .ok (.invokevirtual 218, 3) := by decide +kernel
theorem dX12_tryMove_22 : decode cX12_tryMove 22 = .ok (.istore 5, 2) := by decide +kernel
theorem dX12_tryMove_24 : decode cX12_tryMove 24 = .ok (.aload_n 0, 1) := by decide +kernel
theorem dX12_tryMove_25 : decode cX12_tryMove 25 = .ok (.iload 5, 2) := by decide +kernel
theorem dX12_tryMove_27 : decode cX12_tryMove 27 = .ok (.invokevirtual 252, 3) := by decide +kernel
theorem dX12_tryMove_30 : decode cX12_tryMove 30 = .ok (.istore 6, 2) := by decide +kernel
theorem dX12_tryMove_32 : decode cX12_tryMove 32 = .ok (.iload 6, 2) := by decide +kernel
theorem dX12_tryMove_34 : decode cX12_tryMove 34 = .ok (.ifCond .ge 19, 3) := by decide +kernel
theorem dX12_tryMove_37 : decode cX12_tryMove 37 = .ok (.aload_n 0, 1) := by decide +kernel
theorem dX12_tryMove_38 : decode cX12_tryMove 38 = .ok (.getfield 240, 3) := by decide +kernel
theorem dX12_tryMove_41 : decode cX12_tryMove 41 = .ok (.sipush 250, 3) := by decide +kernel
theorem dX12_tryMove_44 : decode cX12_tryMove 44 = .ok (.if_icmp .ne 9, 3) := by decide +kernel
theorem dX12_tryMove_47 : decode cX12_tryMove 47 = .ok (.aload_n 0, 1) := by decide +kernel
theorem dX12_tryMove_48 : decode cX12_tryMove 48 = .ok (.iconst 1, 1) := by decide +kernel
theorem dX12_tryMove_49 : decode cX12_tryMove 49 = .ok (.putfield 237, 3) := by decide +kernel
theorem dX12_tryMove_52 : decode cX12_tryMove 52 = .ok (.return_, 1) := by decide +kernel
theorem dX12_tryMove_53 : decode cX12_tryMove 53 = .ok (.aload_n 0, 1) := by decide +kernel
theorem dX12_tryMove_54 : decode cX12_tryMove 54 = .ok (.dup, 1) := by decide +kernel
theorem dX12_tryMove_55 : decode cX12_tryMove 55 = .ok (.getfield 246, 3) := by decide +kernel
theorem dX12_tryMove_58 : decode cX12_tryMove 58 = .ok (.iconst 1, 1) := by decide +kernel
theorem dX12_tryMove_59 : decode cX12_tryMove 59 = .ok (.iadd, 1) := by decide +kernel
theorem dX12_tryMove_60 : decode cX12_tryMove 60 = .ok (.putfield 246, 3) := by decide +kernel
theorem dX12_tryMove_63 : decode cX12_tryMove 63 = .ok (.iload 6, 2) := by decide +kernel
theorem dX12_tryMove_65 : decode cX12_tryMove 65 = .ok (.ifCond .ge 22, 3) := by decide +kernel
theorem dX12_tryMove_68 : decode cX12_tryMove 68 = .ok (.aload_n 0, 1) := by decide +kernel
theorem dX12_tryMove_69 : decode cX12_tryMove 69 = .ok (.iload 5, 2) := by decide +kernel
theorem dX12_tryMove_71 : decode cX12_tryMove 71 = .ok (.iload_n 1, 1) := by decide +kernel
theorem dX12_tryMove_72 : decode cX12_tryMove 72 = .ok (.iload_n 2, 1) := by decide +kernel
theorem dX12_tryMove_73 : decode cX12_tryMove 73 = .ok (.iload_n 3, 1) := by decide +kernel
theorem dX12_tryMove_74 : decode cX12_tryMove 74 = .ok (.iload 4, 2) := by decide +kernel
theorem dX12_tryMove_76 : decode cX12_tryMove 76 = .ok (.invokevirtual 255, 3) := by decide +kernel
theorem dX12_tryMove_79 : decode cX12_tryMove 79 = .ok (.aload_n 0, 1) := by decide +kernel
theorem dX12_tryMove_80 : decode cX12_tryMove 80 = .ok (.getfield 240, 3) := by decide +kernel
theorem dX12_tryMove_83 : decode cX12_tryMove 83 = .ok (.iconst 1, 1) := by decide +kernel
theorem dX12_tryMove_84 : decode cX12_tryMove 84 = .ok (.isub, 1) := by decide +kernel
theorem dX12_tryMove_85 : decode cX12_tryMove 85 = .ok (.istore 6, 2) := by decide +kernel
theorem dX12_tryMove_87 : decode cX12_tryMove 87 = .ok (.aload_n 0, 1) := by decide +kernel
theorem dX12_tryMove_88 : decode cX12_tryMove 88 = .ok (.getfield 80, 3) := by decide +kernel
theorem dX12_tryMove_91 : decode cX12_tryMove 91 = .ok (.aload_n 0, 1) := by decide +kernel
theorem dX12_tryMove_92 : decode cX12_tryMove 92 = .ok (.getfield 249, 3) := by decide +kernel
theorem dX12_tryMove_95 : decode cX12_tryMove 95 = .ok (.iload_n 1, 1) := by decide +kernel
theorem dX12_tryMove_96 : decode cX12_tryMove 96 = .ok (.iastore, 1) := by decide +kernel
theorem dX12_tryMove_97 : decode cX12_tryMove 97 = .ok (.aload_n 0, 1) := by decide +kernel
theorem dX12_tryMove_98 : decode cX12_tryMove 98 = .ok (.getfield 83, 3) := by decide +kernel
theorem dX12_tryMove_101 : decode cX12_tryMove 101 = .ok (.aload_n 0, 1) := by decide +kernel
theorem dX12_tryMove_102 : decode cX12_tryMove 102 = .ok (.getfield 249, 3) := by decide +kernel
theorem dX12_tryMove_105 : decode cX12_tryMove 105 = .ok (.iload 6, 2) := by decide +kernel
theorem dX12_tryMove_107 : decode cX12_tryMove 107 = .ok (.iastore, 1) := by decide +kernel
theorem dX12_tryMove_108 : decode cX12_tryMove 108 = .ok (.aload_n 0, 1) := by decide +kernel
theorem dX12_tryMove_109 : decode cX12_tryMove 109 = .ok (.getfield 86, 3) := by decide +kernel
theorem dX12_tryMove_112 : decode cX12_tryMove 112 = .ok (.aload_n 0, 1) := by decide +kernel
theorem dX12_tryMove_113 : decode cX12_tryMove 113 = .ok (.getfield 249, 3) := by decide +kernel
theorem dX12_tryMove_116 : decode cX12_tryMove 116 = .ok (.aload_n 0, 1) := by decide +kernel
theorem dX12_tryMove_117 : decode cX12_tryMove 117 = .ok (.iload 4, 2) := by decide +kernel
theorem dX12_tryMove_119 : decode cX12_tryMove 119 = .ok (.invokevirtual 259, 3) := by decide +kernel
theorem dX12_tryMove_122 : decode cX12_tryMove 122 = .ok (.iastore, 1) := by decide +kernel
theorem dX12_tryMove_123 : decode cX12_tryMove 123 = .ok (.aload_n 0, 1) := by decide +kernel
theorem dX12_tryMove_124 : decode cX12_tryMove 124 = .ok (.dup, 1) := by decide +kernel
theorem dX12_tryMove_125 : decode cX12_tryMove 125 = .ok (.getfield 249, 3) := by decide +kernel
theorem dX12_tryMove_128 : decode cX12_tryMove 128 = .ok (.iconst 1, 1) := by decide +kernel
theorem dX12_tryMove_129 : decode cX12_tryMove 129 = .ok (.iadd, 1) := by decide +kernel
theorem dX12_tryMove_130 : decode cX12_tryMove 130 = .ok (.putfield 249, 3) := by decide +kernel
theorem dX12_tryMove_133 : decode cX12_tryMove 133 = .ok (.aload_n 0, 1) := by decide +kernel
theorem dX12_tryMove_134 : decode cX12_tryMove 134 = .ok (.aload_n 0, 1) := by decide +kernel
theorem dX12_tryMove_135 : decode cX12_tryMove 135 = .ok (.getfield 56, 3) := by decide +kernel
theorem dX12_tryMove_138 : decode cX12_tryMove 138 = .ok (.iload_n 1, 1) := by decide +kernel
theorem dX12_tryMove_139 : decode cX12_tryMove 139 = .ok (.iaload, 1) := by decide +kernel
theorem dX12_tryMove_140 : decode cX12_tryMove 140 = .ok (.iload 5, 2) := by decide +kernel
theorem dX12_tryMove_142 : decode cX12_tryMove 142 = .ok (.iload_n 1, 1) := by decide +kernel
theorem dX12_tryMove_143 : decode cX12_tryMove 143 = .ok (.iload_n 2, 1) := by decide +kernel
theorem dX12_tryMove_144 : decode cX12_tryMove 144 = .ok (.iload_n 3, 1) := by decide +kernel
theorem dX12_tryMove_145 : decode cX12_tryMove 145 = .ok (.iload 4, 2) := by decide +kernel
theorem dX12_tryMove_147 : decode cX12_tryMove 147 = .ok (.iload 6, 2) := by decide +kernel
theorem dX12_tryMove_149 : decode cX12_tryMove 149 = .ok (.invokevirtual 262, 3) := by decide +kernel
theorem dX12_tryMove_152 : decode cX12_tryMove 152 = .ok (.return_, 1) := by decide +kernel
theorem dX12_inputsOf_0 : decode cX12_inputsOf 0 = .ok (.iconst 0, 1) := by decide +kernel
theorem dX12_inputsOf_1 : decode cX12_inputsOf 1 = .ok (.istore_n 2, 1) := by decide +kernel
theorem dX12_inputsOf_2 : decode cX12_inputsOf 2 = .ok (.iconst 0, 1) := by decide +kernel
theorem dX12_inputsOf_3 : decode cX12_inputsOf 3 = .ok (.istore_n 3, 1) := by decide +kernel
theorem dX12_inputsOf_4 : decode cX12_inputsOf 4 = .ok (.iload_n 3, 1) := by decide +kernel
theorem dX12_inputsOf_5 : decode cX12_inputsOf 5 = .ok (.aload_n 0, 1) := by decide +kernel
theorem dX12_inputsOf_6 : decode cX12_inputsOf 6 = .ok (.getfield 126, 3) := by decide +kernel
theorem dX12_inputsOf_9 : decode cX12_inputsOf 9 = .ok (.if_icmp .ge 36, 3) := by decide +kernel
theorem dX12_inputsOf_12 : decode cX12_inputsOf 12 = .ok (.iload_n 2, 1) := by decide +kernel
theorem dX12_inputsOf_13 : decode cX12_inputsOf 13 = .ok (.aload_n 0, 1) := by decide +kernel
theorem dX12_inputsOf_14 : decode cX12_inputsOf 14 = .ok (.getfield 7, 3) := by decide +kernel
theorem dX12_inputsOf_17 : decode cX12_inputsOf 17 = .ok (.iload_n 3, 1) := by decide +kernel
theorem dX12_inputsOf_18 : decode cX12_inputsOf 18 = .ok (.iaload, 1) := by decide +kernel
theorem dX12_inputsOf_19 : decode cX12_inputsOf 19 = .ok (.iconst 5, 1) := by decide +kernel
theorem dX12_inputsOf_20 : decode cX12_inputsOf 20 = .ok (.if_icmp .ne 16, 3) := by decide +kernel
theorem dX12_inputsOf_23 : decode cX12_inputsOf 23 = .ok (.aload_n 0, 1) := by decide +kernel
theorem dX12_inputsOf_24 : decode cX12_inputsOf 24 = .ok (.iload_n 1, 1) := by decide +kernel
theorem dX12_inputsOf_25 : decode cX12_inputsOf 25 = .ok (.iload_n 3, 1) := by decide +kernel
theorem dX12_inputsOf_26 : decode cX12_inputsOf 26 = .ok (.invokevirtual 195, 3) := by decide +kernel
theorem dX12_inputsOf_29 : decode cX12_inputsOf 29 = .ok (.ifCond .eq 7, 3) := by decide +kernel
theorem dX12_inputsOf_32 : decode cX12_inputsOf 32 = .ok (.iconst 1, 1) := by decide +kernel
theorem dX12_inputsOf_33 : decode cX12_inputsOf 33 = .ok (.goto 4, 3) := by decide +kernel
theorem dX12_inputsOf_36 : decode cX12_inputsOf 36 = .ok (.iconst 0, 1) := by decide +kernel
theorem dX12_inputsOf_37 : decode cX12_inputsOf 37 = .ok (.iadd, 1) := by decide +kernel
theorem dX12_inputsOf_38 : decode cX12_inputsOf 38 = .ok (.istore_n 2, 1) := by decide +kernel
theorem dX12_inputsOf_39 : decode cX12_inputsOf 39 = .ok (.iinc 3 1, 3) := by decide +kernel
theorem dX12_inputsOf_42 : decode cX12_inputsOf 42 = .ok (.goto (-38), 3) := by decide +kernel
theorem dX12_inputsOf_45 : decode cX12_inputsOf 45 = .ok (.iload_n 2, 1) := by decide +kernel
theorem dX12_inputsOf_46 : decode cX12_inputsOf 46 = .ok (.ireturn, 1) := by decide +kernel
theorem dX12_trySet_0 : decode cX12_trySet 0 = .ok (.iconst 1, 1) := by decide +kernel
theorem dX12_trySet_1 : decode cX12_trySet 1 = .ok (.istore_n 3, 1) := by decide +kernel
theorem dX12_trySet_2 : decode cX12_trySet 2 = .ok (.iconst 0, 1) := by decide +kernel
theorem dX12_trySet_3 : decode cX12_trySet 3 = .ok (.istore 4, 2) := by decide +kernel
theorem dX12_trySet_5 : decode cX12_trySet 5 = .ok (.iload 4, 2) := by decide +kernel
theorem dX12_trySet_7 : decode cX12_trySet 7 = .ok (.bipush 16, 2) := by decide +kernel
theorem dX12_trySet_9 : decode cX12_trySet 9 = .ok (.if_icmp .ge 61, 3) := by decide +kernel
theorem dX12_trySet_12 : decode cX12_trySet 12 = .ok (.aload_n 0, 1) := by decide +kernel
theorem dX12_trySet_13 : decode cX12_trySet 13 = .ok (.getfield 95, 3) := by decide +kernel
theorem dX12_trySet_16 : decode cX12_trySet 16 = .ok (.iload 4, 2) := by decide +kernel
theorem dX12_trySet_18 : decode cX12_trySet 18 = .ok (.aload_n 0, 1) := by decide +kernel
theorem dX12_trySet_19 : decode cX12_trySet 19 = .ok (.aload_n 0, 1) := by decide +kernel
theorem dX12_trySet_20 : decode cX12_trySet 20 = .ok (.getfield 59, 3) := by decide +kernel
theorem dX12_trySet_23 : decode cX12_trySet 23 = .ok (.bipush 16, 2) := by decide +kernel
theorem dX12_trySet_25 : decode cX12_trySet 25 = .ok (.iload_n 1, 1) := by decide +kernel
theorem dX12_trySet_26 : decode cX12_trySet 26 = .ok (.imul, 1) := by decide +kernel
theorem dX12_trySet_27 : decode cX12_trySet 27 = .ok (.iload 4, 2) := by decide +kernel
theorem dX12_trySet_29 : decode cX12_trySet 29 = .ok (.iadd, 1) := by decide +kernel
theorem dX12_trySet_30 : decode cX12_trySet 30 = .ok (.iaload, 1) := by decide +kernel
theorem dX12_trySet_31 : decode cX12_trySet 31 = .ok (.iload_n 2, 1) := by decide +kernel
theorem dX12_trySet_32 : decode cX12_trySet 32 = .ok (.iload 4, 2) := by decide +kernel
theorem dX12_trySet_34 : decode cX12_trySet 34 = .ok (.invokevirtual 208, 3) := by decide +kernel
theorem dX12_trySet_37 : decode cX12_trySet 37 = .ok (.iastore, 1) := by decide +kernel
theorem dX12_trySet_38 : decode cX12_trySet 38 = .ok (.iload_n 3, 1) := by decide +kernel
theorem dX12_trySet_39 : decode cX12_trySet 39 = .ok (.ifCond .eq 23, 3) := by decide +kernel
theorem dX12_trySet_42 : decode cX12_trySet 42 = .ok (.aload_n 0, 1) := by decide +kernel
theorem dX12_trySet_43 : decode cX12_trySet 43 = .ok (.iload 4, 2) := by decide +kernel
theorem dX12_trySet_45 : decode cX12_trySet 45 = .ok (.aload_n 0, 1) := by decide +kernel
theorem dX12_trySet_46 : decode cX12_trySet 46 = .ok (.getfield 95, 3) := by decide +kernel
theorem dX12_trySet_49 : decode cX12_trySet 49 = .ok (.iload 4, 2) := by decide +kernel
