theorem dX11_look_1 : decode cX11_look 1 = .ok (.getfield 12, 3) := by decide +kernel
theorem dX11_look_4 : decode cX11_look 4 = .ok (.iload_n 1, 1) := by decide +kernel
theorem dX11_look_5 : decode cX11_look 5 = .ok (.invokevirtual 67, 3) := by decide +kernel
theorem dX11_look_8 : decode cX11_look 8 = .ok (.ifCond .ne 5, 3) := by decide +kernel
theorem dX11_look_11 : decode cX11_look 11 = .ok (.iconst (-1), 1) := by decide +kernel
theorem dX11_look_12 : decode cX11_look 12 = .ok (.ireturn, 1) := by decide +kernel
theorem dX11_look_13 : decode cX11_look 13 = .ok (.iload_n 2, 1) := by decide +kernel
theorem dX11_look_14 : decode cX11_look 14 = .ok (.tableswitch 84 0 4 #[34, 44, 54, 64, 74], 34) := by decide +kernel
theorem dX11_look_48 : decode cX11_look 48 = .ok (.aload_n 0, 1) := by decide +kernel
theorem dX11_look_49 : decode cX11_look 49 = .ok (.getfield 12, 3) := by decide +kernel
theorem dX11_look_52 : decode cX11_look 52 = .ok (.getfield 240, 3) := by decide +kernel
theorem dX11_look_55 : decode cX11_look 55 = .ok (.iload_n 1, 1) := by decide +kernel
theorem dX11_look_56 : decode cX11_look 56 = .ok (.iaload, 1) := by decide +kernel
theorem dX11_look_57 : decode cX11_look 57 = .ok (.ireturn, 1) := by decide +kernel
theorem dX11_look_58 : decode cX11_look 58 = .ok (.aload_n 0, 1) := by decide +kernel
theorem dX11_look_59 : decode cX11_look 59 = .ok (.getfield 12, 3) := by decide +kernel
theorem dX11_look_62 : decode cX11_look 62 = .ok (.getfield 243, 3) := by decide +kernel
theorem dX11_look_65 : decode cX11_look 65 = .ok (.iload_n 1, 1) := by decide +kernel
theorem dX11_look_66 : decode cX11_look 66 = .ok (.iaload, 1) := by decide +kernel
theorem dX11_look_67 : decode cX11_look 67 = .ok (.ireturn, 1) := by decide +kernel
theorem dX11_look_68 : decode cX11_look 68 = .ok (.aload_n 0, 1) := by decide +kernel
theorem dX11_look_69 : decode cX11_look 69 = .ok (.getfield 12, 3) := by decide +kernel
theorem dX11_look_72 : decode cX11_look 72 = .ok (.getfield 84, 3) := by decide +kernel
theorem dX11_look_75 : decode cX11_look 75 = .ok (.iload_n 1, 1) := by decide +kernel
theorem dX11_look_76 : decode cX11_look 76 = .ok (.iaload, 1) := by decide +kernel
theorem dX11_look_77 : decode cX11_look 77 = .ok (.ireturn, 1) := by decide +kernel
theorem dX11_look_78 : decode cX11_look 78 = .ok (.aload_n 0, 1) := by decide +kernel
theorem dX11_look_79 : decode cX11_look 79 = .ok (.getfield 12, 3) := by decide +kernel
theorem dX11_look_82 : decode cX11_look 82 = .ok (.getfield 246, 3) := by decide +kernel
theorem dX11_look_85 : decode cX11_look 85 = .ok (.iload_n 1, 1) := by decide +kernel
theorem dX11_look_86 : decode cX11_look 86 = .ok (.iaload, 1) := by decide +kernel
theorem dX11_look_87 : decode cX11_look 87 = .ok (.ireturn, 1) := by decide +kernel
theorem dX11_look_88 : decode cX11_look 88 = .ok (.aload_n 0, 1) := by decide +kernel
theorem dX11_look_89 : decode cX11_look 89 = .ok (.getfield 12, 3) := by decide +kernel
theorem dX11_look_92 : decode cX11_look 92 = .ok (.getfield 249, 3) := by decide +kernel
theorem dX11_look_95 : decode cX11_look 95 = .ok (.iload_n 1, 1) := by decide +kernel
theorem dX11_look_96 : decode cX11_look 96 = .ok (.iaload, 1) := by decide +kernel
theorem dX11_look_97 : decode cX11_look 97 = .ok (.ireturn, 1) := by decide +kernel
theorem dX11_look_98 : decode cX11_look 98 = .ok (.iconst (-1), 1) := by decide +kernel
theorem dX11_look_99 : decode cX11_look 99 = .ok (.ireturn, 1) := by decide +kernel
theorem dX11_keep_0 : decode cX11_keep 0 = .ok (.iload_n 1, 1) := by decide +kernel
theorem dX11_keep_1 : decode cX11_keep 1 = .ok (.invokestatic 252, 3) := by decide +kernel
theorem dX11_keep_4 : decode cX11_keep 4 = .ok (.ifCond .ne 5, 3) := by decide +kernel
theorem dX11_keep_7 : decode cX11_keep 7 = .ok (.iconst (-1), 1) := by decide +kernel
theorem dX11_keep_8 : decode cX11_keep 8 = .ok (.ireturn, 1) := by decide +kernel
theorem dX11_keep_9 : decode cX11_keep 9 = .ok (.iload_n 2, 1) := by decide +kernel
theorem dX11_keep_10 : decode cX11_keep 10 = .ok (.tableswitch 100 0 4 #[34, 43, 100, 76, 88], 34) := by decide +kernel
theorem dX11_keep_44 : decode cX11_keep 44 = .ok (.aload_n 0, 1) := by decide +kernel
theorem dX11_keep_45 : decode cX11_keep 45 = .ok (.getfield 55, 3) := by decide +kernel
theorem dX11_keep_48 : decode cX11_keep 48 = .ok (.iload_n 1, 1) := by decide +kernel
theorem dX11_keep_49 : decode cX11_keep 49 = .ok (.aconst_null, 1) := by decide +kernel
theorem dX11_keep_50 : decode cX11_keep 50 = .ok (.aastore, 1) := by decide +kernel
theorem dX11_keep_51 : decode cX11_keep 51 = .ok (.iconst 0, 1) := by decide +kernel
theorem dX11_keep_52 : decode cX11_keep 52 = .ok (.ireturn, 1) := by decide +kernel
theorem dX11_keep_53 : decode cX11_keep 53 = .ok (.aload_n 0, 1) := by decide +kernel
theorem dX11_keep_54 : decode cX11_keep 54 = .ok (.getfield 12, 3) := by decide +kernel
theorem dX11_keep_57 : decode cX11_keep 57 = .ok (.iload_n 3, 1) := by decide +kernel
theorem dX11_keep_58 : decode cX11_keep 58 = .ok (.invokevirtual 67, 3) := by decide +kernel
theorem dX11_keep_61 : decode cX11_keep 61 = .ok (.ifCond .ne 5, 3) := by decide +kernel
theorem dX11_keep_64 : decode cX11_keep 64 = .ok (.iconst (-1), 1) := by decide +kernel
theorem dX11_keep_65 : decode cX11_keep 65 = .ok (.ireturn, 1) := by decide +kernel
theorem dX11_keep_66 : decode cX11_keep 66 = .ok (.aload_n 0, 1) := by decide +kernel
theorem dX11_keep_67 : decode cX11_keep 67 = .ok (.getfield 55, 3) := by decide +kernel
theorem dX11_keep_70 : decode cX11_keep 70 = .ok (.iload_n 1, 1) := by decide +kernel
theorem dX11_keep_71 : decode cX11_keep 71 = .ok (.new 255, 3) := by decide +kernel
theorem dX11_keep_74 : decode cX11_keep 74 = .ok (.dup, 1) := by decide +kernel
theorem dX11_keep_75 : decode cX11_keep 75 = .ok (.aload_n 0, 1) := by decide +kernel
theorem dX11_keep_76 : decode cX11_keep 76 = .ok (.getfield 12, 3) := by decide +kernel
theorem dX11_keep_79 : decode cX11_keep 79 = .ok (.iload_n 3, 1) := by decide +kernel
theorem dX11_keep_80 : decode cX11_keep 80 = .ok (.invokespecial 257, 3) := by decide +kernel
theorem dX11_keep_83 : decode cX11_keep 83 = .ok (.aastore, 1) := by decide +kernel
theorem dX11_keep_84 : decode cX11_keep 84 = .ok (.iconst 0, 1) := by decide +kernel
theorem dX11_keep_85 : decode cX11_keep 85 = .ok (.ireturn, 1) := by decide +kernel
theorem dX11_keep_86 : decode cX11_keep 86 = .ok (.aload_n 0, 1) := by decide +kernel
theorem dX11_keep_87 : decode cX11_keep 87 = .ok (.getfield 55, 3) := by decide +kernel
theorem dX11_keep_90 : decode cX11_keep 90 = .ok (.iload_n 1, 1) := by decide +kernel
theorem dX11_keep_91 : decode cX11_keep 91 = .ok (.aload_n 0, 1) := by decide +kernel
theorem dX11_keep_92 : decode cX11_keep 92 = .ok (.invokevirtual 260, 3) := by decide +kernel
theorem dX11_keep_95 : decode cX11_keep 95 = .ok (.aastore, 1) := by decide +kernel
theorem dX11_keep_96 : decode cX11_keep 96 = .ok (.iconst 0, 1) := by decide +kernel
theorem dX11_keep_97 : decode cX11_keep 97 = .ok (.ireturn, 1) := by decide +kernel
theorem dX11_keep_98 : decode cX11_keep 98 = .ok (.aload_n 0, 1) := by decide +kernel
theorem dX11_keep_99 : decode cX11_keep 99 = .ok (.getfield 55, 3) := by decide +kernel
theorem dX11_keep_102 : decode cX11_keep 102 = .ok (.iload_n 1, 1) := by decide +kernel
theorem dX11_keep_103 : decode cX11_keep 103 = .ok (.aload_n 0, 1) := by decide +kernel
theorem dX11_keep_104 : decode cX11_keep 104 = .ok (.invokevirtual 264, 3) := by decide +kernel
theorem dX11_keep_107 : decode cX11_keep 107 = .ok (.aastore, 1) := by decide +kernel
theorem dX11_keep_108 : decode cX11_keep 108 = .ok (.iconst 0, 1) := by decide +kernel
theorem dX11_keep_109 : decode cX11_keep 109 = .ok (.ireturn, 1) := by decide +kernel
theorem dX11_keep_110 : decode cX11_keep 110 = .ok (.iconst (-1), 1) := by decide +kernel
theorem dX11_keep_111 : decode cX11_keep 111 = .ok (.ireturn, 1) := by decide +kernel
theorem dX11_make_0 : decode cX11_make 0 = .ok (.iload_n 1, 1) := by decide +kernel
theorem dX11_make_1 : decode cX11_make 1 = .ok (.invokestatic 252, 3) := by decide +kernel
theorem dX11_make_4 : decode cX11_make 4 = .ok (.ifCond .eq 19, 3) := by decide +kernel
theorem dX11_make_7 : decode cX11_make 7 = .ok (.iload_n 2, 1) := by decide +kernel
theorem dX11_make_8 : decode cX11_make 8 = .ok (.iconst 3, 1) := by decide +kernel
theorem dX11_make_9 : decode cX11_make 9 = .ok (.if_icmp .eq 8, 3) := by decide +kernel
theorem dX11_make_12 : decode cX11_make 12 = .ok (.iload_n 2, 1) := by decide +kernel
theorem dX11_make_13 : decode cX11_make 13 = .ok (.iconst 4, 1) := by decide +kernel
theorem dX11_make_14 : decode cX11_make 14 = .ok (.if_icmp .ne 9, 3) := by decide +kernel
theorem dX11_make_17 : decode cX11_make 17 = .ok (.iload_n 3, 1) := by decide +kernel
theorem dX11_make_18 : decode cX11_make 18 = .ok (.bipush 60, 2) := by decide +kernel
theorem dX11_make_20 : decode cX11_make 20 = .ok (.if_icmp .le 5, 3) := by decide +kernel
theorem dX11_make_23 : decode cX11_make 23 = .ok (.iconst (-1), 1) := by decide +kernel
theorem dX11_make_24 : decode cX11_make 24 = .ok (.ireturn, 1) := by decide +kernel
theorem dX11_make_25 : decode cX11_make 25 = .ok (.iload_n 3, 1) := by decide +kernel
theorem dX11_make_26 : decode cX11_make 26 = .ok (.ifCond .ge 6, 3) := by decide +kernel
theorem dX11_make_29 : decode cX11_make 29 = .ok (.bipush (-14), 2) := by decide +kernel
theorem dX11_make_31 : decode cX11_make 31 = .ok (.ireturn, 1) := by decide +kernel
theorem dX11_make_32 : decode cX11_make 32 = .ok (.aload_n 0, 1) := by decide +kernel
theorem dX11_make_33 : decode cX11_make 33 = .ok (.getfield 55, 3) := by decide +kernel
theorem dX11_make_36 : decode cX11_make 36 = .ok (.iload_n 1, 1) := by decide +kernel
theorem dX11_make_37 : decode cX11_make 37 = .ok (.new 267, 3) := by decide +kernel
theorem dX11_make_40 : decode cX11_make 40 = .ok (.dup, 1) := by decide +kernel
theorem dX11_make_41 : decode cX11_make 41 = .ok (.iload_n 2, 1) := by decide +kernel
theorem dX11_make_42 : decode cX11_make 42 = .ok (.iload_n 3, 1) := by decide +kernel
theorem dX11_make_43 : decode cX11_make 43 = .ok (.invokespecial 269, 3) := by decide +kernel
theorem dX11_make_46 : decode cX11_make 46 = .ok (.aastore, 1) := by decide +kernel
theorem dX11_make_47 : decode cX11_make 47 = .ok (.iconst 0, 1) := by decide +kernel
theorem dX11_make_48 : decode cX11_make 48 = .ok (.ireturn, 1) := by decide +kernel
theorem dX11_element_0 : decode cX11_element 0 = .ok (.iload_n 1, 1) := by decide +kernel
theorem dX11_element_1 : decode cX11_element 1 = .ok (.invokestatic 252, 3) := by decide +kernel
theorem dX11_element_4 : decode cX11_element 4 = .ok (.ifCond .ne 14, 3) := by decide +kernel
theorem dX11_element_7 : decode cX11_element 7 = .ok (.new 272, 3) := by decide +kernel
theorem dX11_element_10 : decode cX11_element 10 = .ok (.dup, 1) := by decide +kernel
theorem dX11_element_11 : decode cX11_element 11 = .ok (.ldc_w 274, 3) := by decide +kernel
theorem dX11_element_14 : decode cX11_element 14 = .ok (.invokespecial 276, 3) := by decide +kernel
theorem dX11_element_17 : decode cX11_element 17 = .ok (.athrow, 1) := by decide +kernel
theorem dX11_element_18 : decode cX11_element 18 = .ok (.aload_n 0, 1) := by decide +kernel
theorem dX11_element_19 : decode cX11_element 19 = .ok (.getfield 55, 3) := by decide +kernel
theorem dX11_element_22 : decode cX11_element 22 = .ok (.iload_n 1, 1) := by decide +kernel
theorem dX11_element_23 : decode cX11_element 23 = .ok (.aaload, 1) := by decide +kernel
theorem dX11_element_24 : decode cX11_element 24 = .ok (.astore 4, 2) := by decide +kernel
theorem dX11_element_26 : decode cX11_element 26 = .ok (.aload 4, 2) := by decide +kernel
theorem dX11_element_28 : decode cX11_element 28 = .ok (.instanceof 267, 3) := by decide +kernel
theorem dX11_element_31 : decode cX11_element 31 = .ok (.ifCond .eq 41, 3) := by decide +kernel
theorem dX11_element_34 : decode cX11_element 34 = .ok (.aload 4, 2) := by decide +kernel
theorem dX11_element_36 : decode cX11_element 36 = .ok (.checkcast 267, 3) := by decide +kernel
theorem dX11_element_39 : decode cX11_element 39 = .ok (.astore_n 3, 1) := by decide +kernel
theorem dX11_element_40 : decode cX11_element 40 = .ok (.iload_n 2, 1) := by decide +kernel
theorem dX11_element_41 : decode cX11_element 41 = .ok (.ifCond .lt 20, 3) := by decide +kernel
theorem dX11_element_44 : decode cX11_element 44 = .ok (.iload_n 2, 1) := by decide +kernel
theorem dX11_element_45 : decode cX11_element 45 = .ok (.aload_n 3, 1) := by decide +kernel
theorem dX11_element_46 : decode cX11_element 46 = .ok (.getfield 279, 3) := by decide +kernel
theorem dX11_element_49 : decode cX11_element 49 = .ok (.arraylength, 1) := by decide +kernel
theorem dX11_element_50 : decode cX11_element 50 = .ok (.if_icmp .ge 11, 3) := by decide +kernel
theorem dX11_element_53 : decode cX11_element 53 = .ok (.aload_n 3, 1) := by decide +kernel
theorem dX11_element_54 : decode cX11_element 54 = .ok (.getfield 279, 3) := by decide +kernel
theorem dX11_element_57 : decode cX11_element 57 = .ok (.iload_n 2, 1) := by decide +kernel
theorem dX11_element_58 : decode cX11_element 58 = .ok (.iaload, 1) := by decide +kernel
theorem dX11_element_59 : decode cX11_element 59 = .ok (.i2l, 1) := by decide +kernel
theorem dX11_element_60 : decode cX11_element 60 = .ok (.lreturn, 1) := by decide +kernel
theorem dX11_element_61 : decode cX11_element 61 = .ok (.new 282, 3) := by decide +kernel
theorem dX11_element_64 : decode cX11_element 64 = .ok (.dup, 1) := by decide +kernel
theorem dX11_element_65 : decode cX11_element 65 = .ok (.ldc_w 284, 3) := by decide +kernel
theorem dX11_element_68 : decode cX11_element 68 = .ok (.invokespecial 286, 3) := by decide +kernel
theorem dX11_element_71 : decode cX11_element 71 = .ok (.athrow, 1) := by decide +kernel
theorem dX11_element_72 : decode cX11_element 72 = .ok (.new 282, 3) := by decide +kernel
theorem dX11_element_75 : decode cX11_element 75 = .ok (.dup, 1) := by decide +kernel
theorem dX11_element_76 : decode cX11_element 76 = .ok (.ldc_w 287, 3) := by decide +kernel
theorem dX11_element_79 : decode cX11_element 79 = .ok (.invokespecial 286, 3) := by decide +kernel
theorem dX11_element_82 : decode cX11_element 82 = .ok (.athrow, 1) := by decide +kernel
theorem dX11_copy_0 : decode cX11_copy 0 = .ok (.iload_n 1, 1) := by decide +kernel
theorem dX11_copy_1 : decode cX11_copy 1 = .ok (.invokestatic 252, 3) := by decide +kernel
theorem dX11_copy_4 : decode cX11_copy 4 = .ok (.ifCond .eq 10, 3) := by decide +kernel
theorem dX11_copy_7 : decode cX11_copy 7 = .ok (.iload_n 3, 1) := by decide +kernel
theorem dX11_copy_8 : decode cX11_copy 8 = .ok (.invokestatic 252, 3) := by decide +kernel
theorem dX11_copy_11 : decode cX11_copy 11 = .ok (.ifCond .ne 5, 3) := by decide +kernel
theorem dX11_copy_14 : decode cX11_copy 14 = .ok (.iconst (-1), 1) := by decide +kernel
theorem dX11_copy_15 : decode cX11_copy 15 = .ok (.ireturn, 1) := by decide +kernel
theorem dX11_copy_16 : decode cX11_copy 16 = .ok (.aload_n 0, 1) := by decide +kernel
theorem dX11_copy_17 : decode cX11_copy 17 = .ok (.getfield 55, 3) := by decide +kernel
theorem dX11_copy_20 : decode cX11_copy 20 = .ok (.iload_n 1, 1) := by decide +kernel
theorem dX11_copy_21 : decode cX11_copy 21 = .ok (.aaload, 1) := by decide +kernel
theorem dX11_copy_22 : decode cX11_copy 22 = .ok (.ifnull 12, 3) := by decide +kernel
theorem dX11_copy_25 : decode cX11_copy 25 = .ok (.aload_n 0, 1) := by decide +kernel
theorem dX11_copy_26 : decode cX11_copy 26 = .ok (.getfield 55, 3) := by decide +kernel
theorem dX11_copy_29 : decode cX11_copy 29 = .ok (.iload_n 3, 1) := by decide +kernel
theorem dX11_copy_30 : decode cX11_copy 30 = .ok (.aaload, 1) := by decide +kernel
theorem dX11_copy_31 : decode cX11_copy 31 = .ok (.ifnonnull 6, 3) := by decide +kernel
theorem dX11_copy_34 : decode cX11_copy 34 = .ok (.bipush (-11), 2) := by decide +kernel
theorem dX11_copy_36 : decode cX11_copy 36 = .ok (.ireturn, 1) := by decide +kernel
theorem dX11_copy_37 : decode cX11_copy 37 = .ok (.aload_n 0, 1) := by decide +kernel
theorem dX11_copy_38 : decode cX11_copy 38 = .ok (.getfield 55, 3) := by decide +kernel
theorem dX11_copy_41 : decode cX11_copy 41 = .ok (.iload_n 1, 1) := by decide +kernel
theorem dX11_copy_42 : decode cX11_copy 42 = .ok (.aaload, 1) := by decide +kernel
theorem dX11_copy_43 : decode cX11_copy 43 = .ok (.astore 8, 2) := by decide +kernel
theorem dX11_copy_45 : decode cX11_copy 45 = .ok (.aload 8, 2) := by decide +kernel
theorem dX11_copy_47 : decode cX11_copy 47 = .ok (.instanceof 267, 3) := by decide +kernel
theorem dX11_copy_50 : decode cX11_copy 50 = .ok (.ifCond .eq 93, 3) := by decide +kernel
theorem dX11_copy_53 : decode cX11_copy 53 = .ok (.aload 8, 2) := by decide +kernel
theorem dX11_copy_55 : decode cX11_copy 55 = .ok (.checkcast 267, 3) := by decide +kernel
theorem dX11_copy_58 : decode cX11_copy 58 = .ok (.astore 6, 2) := by decide +kernel
theorem dX11_copy_60 : decode cX11_copy 60 = .ok (.aload_n 0, 1) := by decide +kernel
theorem dX11_copy_61 : decode cX11_copy 61 = .ok (.getfield 55, 3) := by decide +kernel
theorem dX11_copy_64 : decode cX11_copy 64 = .ok (.iload_n 3, 1) := by decide +kernel
theorem dX11_copy_65 : decode cX11_copy 65 = .ok (.aaload, 1) := by decide +kernel
theorem dX11_copy_66 : decode cX11_copy 66 = .ok (.astore 8, 2) := by decide +kernel
theorem dX11_copy_68 : decode cX11_copy 68 = .ok (.aload 8, 2) := by decide +kernel
theorem dX11_copy_70 : decode cX11_copy 70 = .ok (.instanceof 267, 3) := by decide +kernel
theorem dX11_copy_73 : decode cX11_copy 73 = .ok (.ifCond .eq 70, 3) := by decide +kernel
theorem dX11_copy_76 : decode cX11_copy 76 = .ok (.aload 8, 2) := by decide +kernel
theorem dX11_copy_78 : decode cX11_copy 78 = .ok (.checkcast 267, 3) := by decide +kernel
theorem dX11_copy_81 : decode cX11_copy 81 = .ok (.astore 7, 2) := by decide +kernel
theorem dX11_copy_83 : decode cX11_copy 83 = .ok (.aload 6, 2) := by decide +kernel
theorem dX11_copy_85 : decode cX11_copy 85 = .ok (.getfield 289, 3) := by decide +kernel
theorem dX11_copy_88 : decode cX11_copy 88 = .ok (.aload 7, 2) := by decide +kernel
theorem dX11_copy_90 : decode cX11_copy 90 = .ok (.getfield 289, 3) := by decide +kernel
theorem dX11_copy_93 : decode cX11_copy 93 = .ok (.if_icmp .ne 50, 3) := by decide +kernel
theorem dX11_copy_96 : decode cX11_copy 96 = .ok (.aload 6, 2) := by decide +kernel
theorem dX11_copy_98 : decode cX11_copy 98 = .ok (.iload_n 2, 1) := by decide +kernel
theorem dX11_copy_99 : decode cX11_copy 99 = .ok (.iload 5, 2) := by decide +kernel
theorem dX11_copy_101 : decode cX11_copy 101 = .ok (.invokevirtual 292, 3) := by decide +kernel
theorem dX11_copy_104 : decode cX11_copy 104 = .ok (.ifCond .eq 15, 3) := by decide +kernel
theorem dX11_copy_107 : decode cX11_copy 107 = .ok (.aload 7, 2) := by decide +kernel
theorem dX11_copy_109 : decode cX11_copy 109 = .ok (.iload 4, 2) := by decide +kernel
theorem dX11_copy_111 : decode cX11_copy 111 = .ok (.iload 5, 2) := by decide +kernel
theorem dX11_copy_113 : decode cX11_copy 113 = .ok (.invokevirtual 292, 3) := by decide +kernel
theorem dX11_copy_116 : decode cX11_copy 116 = .ok (.ifCond .ne 6, 3) := by decide +kernel
theorem dX11_copy_119 : decode cX11_copy 119 = .ok (.bipush (-13), 2) := by decide +kernel
theorem dX11_copy_121 : decode cX11_copy 121 = .ok (.ireturn, 1) := by decide +kernel
theorem dX11_copy_122 : decode cX11_copy 122 = .ok (.aload 6, 2) := by decide +kernel
theorem dX11_copy_124 : decode cX11_copy 124 = .ok (.getfield 279, 3) := by decide +kernel
theorem dX11_copy_127 : decode cX11_copy 127 = .ok (.iload_n 2, 1) := by decide +kernel
theorem dX11_copy_128 : decode cX11_copy 128 = .ok (.aload 7, 2) := by decide +kernel
theorem dX11_copy_130 : decode cX11_copy 130 = .ok (.getfield 279, 3) := by decide +kernel
theorem dX11_copy_133 : decode cX11_copy 133 = .ok (.iload 4, 2) := by decide +kernel
theorem dX11_copy_135 : decode cX11_copy 135 = .ok (.iload 5, 2) := by decide +kernel
theorem dX11_copy_137 : decode cX11_copy 137 = .ok (.invokestatic 296, 3) := by decide +kernel
theorem dX11_copy_140 : decode cX11_copy 140 = .ok (.iload 5, 2) := by decide +kernel
theorem dX11_copy_142 : decode cX11_copy 142 = .ok (.ireturn, 1) := by decide +kernel
theorem dX11_copy_143 : decode cX11_copy 143 = .ok (.bipush (-12), 2) := by decide +kernel
theorem dX11_copy_145 : decode cX11_copy 145 = .ok (.ireturn, 1) := by decide +kernel
theorem dX11_weight_0 : decode cX11_weight 0 = .ok (.iload_n 1, 1) := by decide +kernel
theorem dX11_weight_1 : decode cX11_weight 1 = .ok (.invokestatic 252, 3) := by decide +kernel
theorem dX11_weight_4 : decode cX11_weight 4 = .ok (.ifCond .ne 5, 3) := by decide +kernel
theorem dX11_weight_7 : decode cX11_weight 7 = .ok (.iconst (-1), 1) := by decide +kernel
theorem dX11_weight_8 : decode cX11_weight 8 = .ok (.ireturn, 1) := by decide +kernel
theorem dX11_weight_9 : decode cX11_weight 9 = .ok (.aload_n 0, 1) := by decide +kernel
theorem dX11_weight_10 : decode cX11_weight 10 = .ok (.getfield 55, 3) := by decide +kernel
theorem dX11_weight_13 : decode cX11_weight 13 = .ok (.iload_n 1, 1) := by decide +kernel
theorem dX11_weight_14 : decode cX11_weight 14 = .ok (.aaload, 1) := by decide +kernel
theorem dX11_weight_15 : decode cX11_weight 15 = .ok (.astore_n 2, 1) := by decide +kernel
theorem dX11_weight_16 : decode cX11_weight 16 = .ok (.aload_n 2, 1) := by decide +kernel
theorem dX11_weight_17 : decode cX11_weight 17 = .ok (.ifnonnull 8, 3) := by decide +kernel
theorem dX11_weight_20 : decode cX11_weight 20 = .ok (.bipush (-11), 2) := by decide +kernel
theorem dX11_weight_22 : decode cX11_weight 22 = .ok (.goto 7, 3) := by decide +kernel
theorem dX11_weight_25 : decode cX11_weight 25 = .ok (.aload_n 2, 1) := by decide +kernel
theorem dX11_weight_26 : decode cX11_weight 26 = .ok (.invokevirtual 302, 3) := by decide +kernel
theorem dX11_weight_29 : decode cX11_weight 29 = .ok (.ireturn, 1) := by decide +kernel
theorem dX11_toss_0 : decode cX11_toss 0 = .ok (.iload_n 1, 1) := by decide +kernel
theorem dX11_toss_1 : decode cX11_toss 1 = .ok (.invokestatic 252, 3) := by decide +kernel
theorem dX11_toss_4 : decode cX11_toss 4 = .ok (.ifCond .ne 5, 3) := by decide +kernel
theorem dX11_toss_7 : decode cX11_toss 7 = .ok (.iconst (-1), 1) := by decide +kernel
theorem dX11_toss_8 : decode cX11_toss 8 = .ok (.ireturn, 1) := by decide +kernel
theorem dX11_toss_9 : decode cX11_toss 9 = .ok (.aload_n 0, 1) := by decide +kernel
theorem dX11_toss_10 : decode cX11_toss 10 = .ok (.getfield 55, 3) := by decide +kernel
theorem dX11_toss_13 : decode cX11_toss 13 = .ok (.iload_n 1, 1) := by decide +kernel
theorem dX11_toss_14 : decode cX11_toss 14 = .ok (.aaload, 1) := by decide +kernel
theorem dX11_toss_15 : decode cX11_toss 15 = .ok (.astore_n 2, 1) := by decide +kernel
theorem dX11_toss_16 : decode cX11_toss 16 = .ok (.aload_n 2, 1) := by decide +kernel
theorem dX11_toss_17 : decode cX11_toss 17 = .ok (.ifnonnull 8, 3) := by decide +kernel
theorem dX11_toss_20 : decode cX11_toss 20 = .ok (.bipush (-11), 2) := by decide +kernel
theorem dX11_toss_22 : decode cX11_toss 22 = .ok (.goto 7, 3) := by decide +kernel
theorem dX11_toss_25 : decode cX11_toss 25 = .ok (.aload_n 2, 1) := by decide +kernel
theorem dX11_toss_26 : decode cX11_toss 26 = .ok (.invokevirtual 305, 3) := by decide +kernel
theorem dX11_toss_29 : decode cX11_toss 29 = .ok (.ireturn, 1) := by decide +kernel
theorem dX11_isClock_0 : decode cX11_isClock 0 = .ok (.iload_n 0, 1) := by decide +kernel
theorem dX11_isClock_1 : decode cX11_isClock 1 = .ok (.ifCond .lt 12, 3) := by decide +kernel
theorem dX11_isClock_4 : decode cX11_isClock 4 = .ok (.iload_n 0, 1) := by decide +kernel
theorem dX11_isClock_5 : decode cX11_isClock 5 = .ok (.iconst 4, 1) := by decide +kernel
theorem dX11_isClock_6 : decode cX11_isClock 6 = .ok (.if_icmp .ge 7, 3) := by decide +kernel
theorem dX11_isClock_9 : decode cX11_isClock 9 = .ok (.iconst 1, 1) := by decide +kernel
theorem dX11_isClock_10 : decode cX11_isClock 10 = .ok (.goto 4, 3) := by decide +kernel
theorem dX11_isClock_13 : decode cX11_isClock 13 = .ok (.iconst 0, 1) := by decide +kernel
theorem dX11_isClock_14 : decode cX11_isClock 14 = .ok (.ireturn, 1) := by decide +kernel
theorem dX11_isShelf_0 : decode cX11_isShelf 0 = .ok (.iload_n 0, 1) := by decide +kernel
theorem dX11_isShelf_1 : decode cX11_isShelf 1 = .ok (.ifCond .lt 13, 3) := by decide +kernel
theorem dX11_isShelf_4 : decode cX11_isShelf 4 = .ok (.iload_n 0, 1) := by decide +kernel
theorem dX11_isShelf_5 : decode cX11_isShelf 5 = .ok (.bipush 8, 2) := by decide +kernel
theorem dX11_isShelf_7 : decode cX11_isShelf 7 = .ok (.if_icmp .ge 7, 3) := by decide +kernel
theorem dX11_isShelf_10 : decode cX11_isShelf 10 = .ok (.iconst 1, 1) := by decide +kernel
theorem dX11_isShelf_11 : decode cX11_isShelf 11 = .ok (.goto 4, 3) := by decide +kernel
theorem dX11_isShelf_14 : decode cX11_isShelf 14 = .ok (.iconst 0, 1) := by decide +kernel
theorem dX11_isShelf_15 : decode cX11_isShelf 15 = .ok (.ireturn, 1) := by decide +kernel
theorem dX11_addBit_0 : decode cX11_addBit 0 = .ok (.aload_n 0, 1) := by decide +kernel
theorem dX11_addBit_1 : decode cX11_addBit 1 = .ok (.getfield 12, 3) := by decide +kernel
theorem dX11_addBit_4 : decode cX11_addBit 4 = .ok (.invokevirtual 232, 3) := by decide +kernel
theorem dX11_addBit_7 : decode cX11_addBit 7 = .ok (.ifCond .eq 6, 3) := by decide +kernel
theorem dX11_addBit_10 : decode cX11_addBit 10 = .ok (.bipush (-2), 2) := by decide +kernel
theorem dX11_addBit_12 : decode cX11_addBit 12 = .ok (.ireturn, 1) := by decide +kernel
theorem dX11_addBit_13 : decode cX11_addBit 13 = .ok (.aload_n 0, 1) := by decide +kernel
theorem dX11_addBit_14 : decode cX11_addBit 14 = .ok (.getfield 12, 3) := by decide +kernel
theorem dX11_addBit_17 : decode cX11_addBit 17 = .ok (.iload_n 1, 1) := by decide +kernel
theorem dX11_addBit_18 : decode cX11_addBit 18 = .ok (.iload_n 2, 1) := by decide +kernel
theorem dX11_addBit_19 : decode cX11_addBit 19 = .ok (.iload_n 3, 1) := by decide +kernel
theorem dX11_addBit_20 : decode cX11_addBit 20 = .ok (.invokevirtual 308, 3) := by decide +kernel
theorem dX11_addBit_23 : decode cX11_addBit 23 = .ok (.istore 4, 2) := by decide +kernel
theorem dX11_addBit_25 : decode cX11_addBit 25 = .ok (.aload_n 0, 1) := by decide +kernel
theorem dX11_addBit_26 : decode cX11_addBit 26 = .ok (.invokevirtual 78, 3) := by decide +kernel
theorem dX11_addBit_29 : decode cX11_addBit 29 = .ok (.iload 4, 2) := by decide +kernel
theorem dX11_addBit_31 : decode cX11_addBit 31 = .ok (.ireturn, 1) := by decide +kernel
theorem dX11_beginAnew_0 : decode cX11_beginAnew 0 = .ok (.aload_n 0, 1) := by decide +kernel
theorem dX11_beginAnew_1 : decode cX11_beginAnew 1 = .ok (.getfield 40, 3) := by decide +kernel
theorem dX11_beginAnew_4 : decode cX11_beginAnew 4 = .ok (.invokevirtual 117, 3) := by decide +kernel
theorem dX11_beginAnew_7 : decode cX11_beginAnew 7 = .ok (.aload_n 0, 1) := by decide +kernel
theorem dX11_beginAnew_8 : decode cX11_beginAnew 8 = .ok (.getfield 49, 3) := by decide +kernel
theorem dX11_beginAnew_11 : decode cX11_beginAnew 11 = .ok (.invokevirtual 108, 3) := by decide +kernel
theorem dX11_beginAnew_14 : decode cX11_beginAnew 14 = .ok (.return_, 1) := by decide +kernel
theorem dX11_rowOfValues_0 : decode cX11_rowOfValues 0 = .ok (.new 267, 3) := by decide +kernel
theorem dX11_rowOfValues_3 : decode cX11_rowOfValues 3 = .ok (.dup, 1) := by decide +kernel
theorem dX11_rowOfValues_4 : decode cX11_rowOfValues 4 = .ok (.iconst 3, 1) := by decide +kernel
theorem dX11_rowOfValues_5 : decode cX11_rowOfValues 5 = .ok (.aload_n 0, 1) := by decide +kernel
theorem dX11_rowOfValues_6 : decode cX11_rowOfValues 6 = .ok (.getfield 12, 3) := by decide +kernel
theorem dX11_rowOfValues_9 : decode cX11_rowOfValues 9 = .ok (.getfield 70, 3) := by decide +kernel
theorem dX11_rowOfValues_12 : decode cX11_rowOfValues 12 = .ok (.invokespecial 269, 3) := by decide +kernel
theorem dX11_rowOfValues_15 : decode cX11_rowOfValues 15 = .ok (.astore_n 1, 1) := by decide +kernel
theorem dX11_rowOfValues_16 : decode cX11_rowOfValues 16 = .ok (.iconst 0, 1) := by decide +kernel
theorem dX11_rowOfValues_17 : decode cX11_rowOfValues 17 = .ok (.istore_n 2, 1) := by decide +kernel
theorem dX11_rowOfValues_18 : decode cX11_rowOfValues 18 = .ok (.iload_n 2, 1) := by decide +kernel
theorem dX11_rowOfValues_19 : decode cX11_rowOfValues 19 = .ok (.aload_n 0, 1) := by decide +kernel
theorem dX11_rowOfValues_20 : decode cX11_rowOfValues 20 = .ok (.getfield 12, 3) := by decide +kernel
theorem dX11_rowOfValues_23 : decode cX11_rowOfValues 23 = .ok (.getfield 70, 3) := by decide +kernel
theorem dX11_rowOfValues_26 : decode cX11_rowOfValues 26 = .ok (.if_icmp .ge 30, 3) := by decide +kernel
theorem dX11_rowOfValues_29 : decode cX11_rowOfValues 29 = .ok (.aload_n 1, 1) := by decide +kernel
theorem dX11_rowOfValues_30 : decode cX11_rowOfValues 30 = .ok (.getfield 279, 3) := by decide +kernel
theorem dX11_rowOfValues_33 : decode cX11_rowOfValues 33 = .ok (.iload_n 2, 1) := by decide +kernel
theorem dX11_rowOfValues_34 : decode cX11_rowOfValues 34 = .ok (.aload_n 0, 1) := by decide +kernel
theorem dX11_rowOfValues_35 : decode cX11_rowOfValues 35 = .ok (.getfield 12, 3) := by decide +kernel
theorem dX11_rowOfValues_38 : decode cX11_rowOfValues 38 = .ok (.iload_n 2, 1) := by decide +kernel
theorem dX11_rowOfValues_39 : decode cX11_rowOfValues 39 = .ok (.aload_n 0, 1) := by decide +kernel
theorem dX11_rowOfValues_40 : decode cX11_rowOfValues 40 = .ok (.getfield 40, 3) := by decide +kernel
theorem dX11_rowOfValues_43 : decode cX11_rowOfValues 43 = .ok (.invokevirtual 123, 3) := by decide +kernel
theorem dX11_rowOfValues_46 : decode cX11_rowOfValues 46 = .ok (.invokevirtual 127, 3) := by decide +kernel
theorem dX11_rowOfValues_49 : decode cX11_rowOfValues 49 = .ok (.iastore, 1) := by decide +kernel
theorem dX11_rowOfValues_50 : decode cX11_rowOfValues 50 = .ok (.iinc 2 1, 3) := by decide +kernel
theorem dX11_rowOfValues_53 : decode cX11_rowOfValues 53 = .ok (.goto (-35), 3) := by decide +kernel
theorem dX11_rowOfValues_56 : decode cX11_rowOfValues 56 = .ok (.aload_n 1, 1) := by decide +kernel
theorem dX11_rowOfValues_57 : decode cX11_rowOfValues 57 = .ok (.areturn, 1) := by decide +kernel
theorem dX11_rowOfClocks_0 : decode cX11_rowOfClocks 0 = .ok (.new 267, 3) := by decide +kernel
theorem dX11_rowOfClocks_3 : decode cX11_rowOfClocks 3 = .ok (.dup, 1) := by decide +kernel
theorem dX11_rowOfClocks_4 : decode cX11_rowOfClocks 4 = .ok (.iconst 4, 1) := by decide +kernel
theorem dX11_rowOfClocks_5 : decode cX11_rowOfClocks 5 = .ok (.aload_n 0, 1) := by decide +kernel
theorem dX11_rowOfClocks_6 : decode cX11_rowOfClocks 6 = .ok (.getfield 40, 3) := by decide +kernel
theorem dX11_rowOfClocks_9 : decode cX11_rowOfClocks 9 = .ok (.getfield 114, 3) := by decide +kernel
theorem dX11_rowOfClocks_12 : decode cX11_rowOfClocks 12 = .ok (.invokespecial 269, 3) := by decide +kernel
theorem dX11_rowOfClocks_15 : decode cX11_rowOfClocks 15 = .ok (.astore_n 1, 1) := by decide +kernel
theorem dX11_rowOfClocks_16 : decode cX11_rowOfClocks 16 = .ok (.aload_n 0, 1) := by decide +kernel
theorem dX11_rowOfClocks_17 : decode cX11_rowOfClocks 17 = .ok (.getfield 40, 3) := by decide +kernel
theorem dX11_rowOfClocks_20 : decode cX11_rowOfClocks 20 = .ok (.getfield 309, 3) := by decide +kernel
theorem dX11_rowOfClocks_23 : decode cX11_rowOfClocks 23 = .ok (.iconst 0, 1) := by decide +kernel
theorem dX11_rowOfClocks_24 : decode cX11_rowOfClocks 24 = .ok (.aload_n 1, 1) := by decide +kernel
theorem dX11_rowOfClocks_25 : decode cX11_rowOfClocks 25 = .ok (.getfield 279, 3) := by decide +kernel
theorem dX11_rowOfClocks_28 : decode cX11_rowOfClocks 28 = .ok (.iconst 0, 1) := by decide +kernel
theorem dX11_rowOfClocks_29 : decode cX11_rowOfClocks 29 = .ok (.aload_n 0, 1) := by decide +kernel
theorem dX11_rowOfClocks_30 : decode cX11_rowOfClocks 30 = .ok (.getfield 40, 3) := by decide +kernel
theorem dX11_rowOfClocks_33 : decode cX11_rowOfClocks 33 = .ok (.getfield 114, 3) := by decide +kernel
theorem dX11_rowOfClocks_36 : decode cX11_rowOfClocks 36 = .ok (.invokestatic 296, 3) := by decide +kernel
theorem dX11_rowOfClocks_39 : decode cX11_rowOfClocks 39 = .ok (.aload_n 1, 1) := by decide +kernel
theorem dX11_rowOfClocks_40 : decode cX11_rowOfClocks 40 = .ok (.areturn, 1) := by decide +kernel
theorem dX12_init_0 : decode cX12_init 0 = .ok (.aload_n 0, 1) := by decide +kernel
theorem dX12_init_1 : decode cX12_init 1 = .ok (.invokespecial 1, 3) := by decide +kernel
theorem dX12_init_4 : decode cX12_init 4 = .ok (.aload_n 0, 1) := by decide +kernel
theorem dX12_init_5 : decode cX12_init 5 = .ok (.bipush 24, 2) := by decide +kernel
theorem dX12_init_7 : decode cX12_init 7 = .ok (.newarray .int, 2) := by decide +kernel
theorem dX12_init_9 : decode cX12_init 9 = .ok (.putfield 7, 3) := by decide +kernel
theorem dX12_init_12 : decode cX12_init 12 = .ok (.aload_n 0, 1) := by decide +kernel
theorem dX12_init_13 : decode cX12_init 13 = .ok (.bipush 24, 2) := by decide +kernel
theorem dX12_init_15 : decode cX12_init 15 = .ok (.newarray .int, 2) := by decide +kernel
theorem dX12_init_17 : decode cX12_init 17 = .ok (.putfield 13, 3) := by decide +kernel
theorem dX12_init_20 : decode cX12_init 20 = .ok (.aload_n 0, 1) := by decide +kernel
theorem dX12_init_21 : decode cX12_init 21 = .ok (.bipush 24, 2) := by decide +kernel
theorem dX12_init_23 : decode cX12_init 23 = .ok (.newarray .int, 2) := by decide +kernel
theorem dX12_init_25 : decode cX12_init 25 = .ok (.putfield 16, 3) := by decide +kernel
theorem dX12_init_28 : decode cX12_init 28 = .ok (.aload_n 0, 1) := by decide +kernel
theorem dX12_init_29 : decode cX12_init 29 = .ok (.bipush 24, 2) := by decide +kernel
theorem dX12_init_31 : decode cX12_init 31 = .ok (.newarray .int, 2) := by decide +kernel
theorem dX12_init_33 : decode cX12_init 33 = .ok (.putfield 19, 3) := by decide +kernel
theorem dX12_init_36 : decode cX12_init 36 = .ok (.aload_n 0, 1) := by decide +kernel
theorem dX12_init_37 : decode cX12_init 37 = .ok (.bipush 24, 2) := by decide +kernel
theorem dX12_init_39 : decode cX12_init 39 = .ok (.newarray .int, 2) := by decide +kernel
theorem dX12_init_41 : decode cX12_init 41 = .ok (.putfield 22, 3) := by decide +kernel
theorem dX12_init_44 : decode cX12_init 44 = .ok (.aload_n 0, 1) := by decide +kernel
theorem dX12_init_45 : decode cX12_init 45 = .ok (.bipush 24, 2) := by decide +kernel
theorem dX12_init_47 : decode cX12_init 47 = .ok (.newarray .int, 2) := by decide +kernel
theorem dX12_init_49 : decode cX12_init 49 = .ok (.putfield 25, 3) := by decide +kernel
theorem dX12_init_52 : decode cX12_init 52 = .ok (.aload_n 0, 1) := by decide +kernel
theorem dX12_init_53 : decode cX12_init 53 = .ok (.bipush 24, 2) := by decide +kernel
theorem dX12_init_55 : decode cX12_init 55 = .ok (.newarray .boolean, 2) := by decide +kernel
theorem dX12_init_57 : decode cX12_init 57 = .ok (.putfield 28, 3) := by decide +kernel
theorem dX12_init_60 : decode cX12_init 60 = .ok (.aload_n 0, 1) := by decide +kernel
theorem dX12_init_61 : decode cX12_init 61 = .ok (.bipush 16, 2) := by decide +kernel
theorem dX12_init_63 : decode cX12_init 63 = .ok (.newarray .int, 2) := by decide +kernel
theorem dX12_init_65 : decode cX12_init 65 = .ok (.putfield 32, 3) := by decide +kernel
theorem dX12_init_68 : decode cX12_init 68 = .ok (.aload_n 0, 1) := by decide +kernel
theorem dX12_init_69 : decode cX12_init 69 = .ok (.bipush 8, 2) := by decide +kernel
theorem dX12_init_71 : decode cX12_init 71 = .ok (.newarray .int, 2) := by decide +kernel
theorem dX12_init_73 : decode cX12_init 73 = .ok (.putfield 35, 3) := by decide +kernel
theorem dX12_init_76 : decode cX12_init 76 = .ok (.aload_n 0, 1) := by decide +kernel
theorem dX12_init_77 : decode cX12_init 77 = .ok (.bipush 8, 2) := by decide +kernel
theorem dX12_init_79 : decode cX12_init 79 = .ok (.newarray .int, 2) := by decide +kernel
theorem dX12_init_81 : decode cX12_init 81 = .ok (.putfield 38, 3) := by decide +kernel
theorem dX12_init_84 : decode cX12_init 84 = .ok (.aload_n 0, 1) := by decide +kernel
theorem dX12_init_85 : decode cX12_init 85 = .ok (.bipush 8, 2) := by decide +kernel
theorem dX12_init_87 : decode cX12_init 87 = .ok (.newarray .int, 2) := by decide +kernel
theorem dX12_init_89 : decode cX12_init 89 = .ok (.putfield 41, 3) := by decide +kernel
theorem dX12_init_92 : decode cX12_init 92 = .ok (.aload_n 0, 1) := by decide +kernel
theorem dX12_init_93 : decode cX12_init 93 = .ok (.bipush 61, 2) := by decide +kernel
theorem dX12_init_95 : decode cX12_init 95 = .ok (.newarray .int, 2) := by decide +kernel
theorem dX12_init_97 : decode cX12_init 97 = .ok (.putfield 44, 3) := by decide +kernel
theorem dX12_init_100 : decode cX12_init 100 = .ok (.aload_n 0, 1) := by decide +kernel
theorem dX12_init_101 : decode cX12_init 101 = .ok (.bipush 60, 2) := by decide +kernel
theorem dX12_init_103 : decode cX12_init 103 = .ok (.newarray .int, 2) := by decide +kernel
theorem dX12_init_105 : decode cX12_init 105 = .ok (.putfield 47, 3) := by decide +kernel
theorem dX12_init_108 : decode cX12_init 108 = .ok (.aload_n 0, 1) := by decide +kernel
theorem dX12_init_109 : decode cX12_init 109 = .ok (.bipush 16, 2) := by decide +kernel
theorem dX12_init_111 : decode cX12_init 111 = .ok (.newarray .int, 2) := by decide +kernel
theorem dX12_init_113 : decode cX12_init 113 = .ok (.putfield 50, 3) := by decide +kernel
theorem dX12_init_116 : decode cX12_init 116 = .ok (.aload_n 0, 1) := by decide +kernel
theorem dX12_init_117 : decode cX12_init 117 = .ok (.bipush 10, 2) := by decide +kernel
theorem dX12_init_119 : decode cX12_init 119 = .ok (.newarray .int, 2) := by decide +kernel
theorem dX12_init_121 : decode cX12_init 121 = .ok (.putfield 53, 3) := by decide +kernel
theorem dX12_init_124 : decode cX12_init 124 = .ok (.aload_n 0, 1) := by decide +kernel
theorem dX12_init_125 : decode cX12_init 125 = .ok (.sipush 250, 3) := by decide +kernel
theorem dX12_init_128 : decode cX12_init 128 = .ok (.newarray .int, 2) := by decide +kernel
theorem dX12_init_130 : decode cX12_init 130 = .ok (.putfield 56, 3) := by decide +kernel
theorem dX12_init_133 : decode cX12_init 133 = .ok (.aload_n 0, 1) := by decide +kernel
theorem dX12_init_134 : decode cX12_init 134 = .ok (.sipush 4000, 3) := by decide +kernel
theorem dX12_init_137 : decode cX12_init 137 = .ok (.newarray .int, 2) := by decide +kernel
theorem dX12_init_139 : decode cX12_init 139 = .ok (.putfield 59, 3) := by decide +kernel
theorem dX12_init_142 : decode cX12_init 142 = .ok (.aload_n 0, 1) := by decide +kernel
theorem dX12_init_143 : decode cX12_init 143 = .ok (.sipush 250, 3) := by decide +kernel
theorem dX12_init_146 : decode cX12_init 146 = .ok (.newarray .int, 2) := by decide +kernel
theorem dX12_init_148 : decode cX12_init 148 = .ok (.putfield 62, 3) := by decide +kernel
theorem dX12_init_151 : decode cX12_init 151 = .ok (.aload_n 0, 1) := by decide +kernel
theorem dX12_init_152 : decode cX12_init 152 = .ok (.sipush 250, 3) := by decide +kernel
theorem dX12_init_155 : decode cX12_init 155 = .ok (.newarray .int, 2) := by decide +kernel
theorem dX12_init_157 : decode cX12_init 157 = .ok (.putfield 65, 3) := by decide +kernel
theorem dX12_init_160 : decode cX12_init 160 = .ok (.aload_n 0, 1) := by decide +kernel
theorem dX12_init_161 : decode cX12_init 161 = .ok (.sipush 250, 3) := by decide +kernel
theorem dX12_init_164 : decode cX12_init 164 = .ok (.newarray .int, 2) := by decide +kernel
theorem dX12_init_166 : decode cX12_init 166 = .ok (.putfield 68, 3) := by decide +kernel
theorem dX12_init_169 : decode cX12_init 169 = .ok (.aload_n 0, 1) := by decide +kernel
theorem dX12_init_170 : decode cX12_init 170 = .ok (.sipush 250, 3) := by decide +kernel
theorem dX12_init_173 : decode cX12_init 173 = .ok (.newarray .int, 2) := by decide +kernel
theorem dX12_init_175 : decode cX12_init 175 = .ok (.putfield 71, 3) := by decide +kernel
theorem dX12_init_178 : decode cX12_init 178 = .ok (.aload_n 0, 1) := by decide +kernel
theorem dX12_init_179 : decode cX12_init 179 = .ok (.sipush 250, 3) := by decide +kernel
theorem dX12_init_182 : decode cX12_init 182 = .ok (.newarray .int, 2) := by decide +kernel
theorem dX12_init_184 : decode cX12_init 184 = .ok (.putfield 74, 3) := by decide +kernel
theorem dX12_init_187 : decode cX12_init 187 = .ok (.aload_n 0, 1) := by decide +kernel
theorem dX12_init_188 : decode cX12_init 188 = .ok (.sipush 250, 3) := by decide +kernel
theorem dX12_init_191 : decode cX12_init 191 = .ok (.newarray .int, 2) := by decide +kernel
theorem dX12_init_193 : decode cX12_init 193 = .ok (.putfield 77, 3) := by decide +kernel
theorem dX12_init_196 : decode cX12_init 196 = .ok (.aload_n 0, 1) := by decide +kernel
theorem dX12_init_197 : decode cX12_init 197 = .ok (.sipush 20000, 3) := by decide +kernel
theorem dX12_init_200 : decode cX12_init 200 = .ok (.newarray .int, 2) := by decide +kernel
theorem dX12_init_202 : decode cX12_init 202 = .ok (.putfield 80, 3) := by decide +kernel
theorem dX12_init_205 : decode cX12_init 205 = .ok (.aload_n 0, 1) := by decide +kernel
theorem dX12_init_206 : decode cX12_init 206 = .ok (.sipush 20000, 3) := by decide +kernel
theorem dX12_init_209 : decode cX12_init 209 = .ok (.newarray .int, 2) := by decide +kernel
theorem dX12_init_211 : decode cX12_init 211 = .ok (.putfield 83, 3) := by decide +kernel
theorem dX12_init_214 : decode cX12_init 214 = .ok (.aload_n 0, 1) := by decide +kernel
theorem dX12_init_215 : decode cX12_init 215 = .ok (.sipush 20000, 3) := by decide +kernel
theorem dX12_init_218 : decode cX12_init 218 = .ok (.newarray .int, 2) := by decide +kernel
theorem dX12_init_220 : decode cX12_init 220 = .ok (.putfield 86, 3) := by decide +kernel
theorem dX12_init_223 : decode cX12_init 223 = .ok (.aload_n 0, 1) := by decide +kernel
theorem dX12_init_224 : decode cX12_init 224 = .ok (.bipush 40, 2) := by decide +kernel
theorem dX12_init_226 : decode cX12_init 226 = .ok (.newarray .int, 2) := by decide +kernel
theorem dX12_init_228 : decode cX12_init 228 = .ok (.putfield 89, 3) := by decide +kernel
theorem dX12_init_231 : decode cX12_init 231 = .ok (.aload_n 0, 1) := by decide +kernel
theorem dX12_init_232 : decode cX12_init 232 = .ok (.bipush 8, 2) := by decide +kernel
theorem dX12_init_234 : decode cX12_init 234 = .ok (.newarray .boolean, 2) := by decide +kernel
theorem dX12_init_236 : decode cX12_init 236 = .ok (.putfield 92, 3) := by decide +kernel
theorem dX12_init_239 : decode cX12_init 239 = .ok (.aload_n 0, 1) := by decide +kernel
theorem dX12_init_240 : decode cX12_init 240 = .ok (.bipush 16, 2) := by decide +kernel
theorem dX12_init_242 : decode cX12_init 242 = .ok (.newarray .int, 2) := by decide +kernel
theorem dX12_init_244 : decode cX12_init 244 = .ok (.putfield 95, 3) := by decide +kernel
theorem dX12_init_247 : decode cX12_init 247 = .ok (.aload_n 0, 1) := by decide +kernel
theorem dX12_init_248 : decode cX12_init 248 = .ok (.sipush 250, 3) := by decide +kernel
theorem dX12_init_251 : decode cX12_init 251 = .ok (.newarray .int, 2) := by decide +kernel
theorem dX12_init_253 : decode cX12_init 253 = .ok (.putfield 98, 3) := by decide +kernel
theorem dX12_init_256 : decode cX12_init 256 = .ok (.aload_n 0, 1) := by decide +kernel
theorem dX12_init_257 : decode cX12_init 257 = .ok (.bipush 8, 2) := by decide +kernel
theorem dX12_init_259 : decode cX12_init 259 = .ok (.newarray .int, 2) := by decide +kernel
theorem dX12_init_261 : decode cX12_init 261 = .ok (.putfield 101, 3) := by decide +kernel
theorem dX12_init_264 : decode cX12_init 264 = .ok (.aload_n 0, 1) := by decide +kernel
theorem dX12_init_265 : decode cX12_init 265 = .ok (.bipush 8, 2) := by decide +kernel
theorem dX12_init_267 : decode cX12_init 267 = .ok (.newarray .int, 2) := by decide +kernel
theorem dX12_init_269 : decode cX12_init 269 = .ok (.putfield 104, 3) := by decide +kernel
theorem dX12_init_272 : decode cX12_init 272 = .ok (.aload_n 0, 1) := by decide +kernel
theorem dX12_init_273 : decode cX12_init 273 = .ok (.bipush 8, 2) := by decide +kernel
theorem dX12_init_275 : decode cX12_init 275 = .ok (.newarray .int, 2) := by decide +kernel
theorem dX12_init_277 : decode cX12_init 277 = .ok (.putfield 107, 3) := by decide +kernel
theorem dX12_init_280 : decode cX12_init 280 = .ok (.aload_n 0, 1) := by decide +kernel
theorem dX12_init_281 : decode cX12_init 281 = .ok (.bipush 8, 2) := by decide +kernel
theorem dX12_init_283 : decode cX12_init 283 = .ok (.newarray .int, 2) := by decide +kernel
theorem dX12_init_285 : decode cX12_init 285 = .ok (.putfield 110, 3) := by decide +kernel
theorem dX12_init_288 : decode cX12_init 288 = .ok (.aload_n 0, 1) := by decide +kernel
theorem dX12_init_289 : decode cX12_init 289 = .ok (.sipush 480, 3) := by decide +kernel
theorem dX12_init_292 : decode cX12_init 292 = .ok (.newarray .int, 2) := by decide +kernel
theorem dX12_init_294 : decode cX12_init 294 = .ok (.putfield 113, 3) := by decide +kernel
theorem dX12_init_297 : decode cX12_init 297 = .ok (.aload_n 0, 1) := by decide +kernel
theorem dX12_init_298 : decode cX12_init 298 = .ok (.bipush 60, 2) := by decide +kernel
theorem dX12_init_300 : decode cX12_init 300 = .ok (.newarray .int, 2) := by decide +kernel
theorem dX12_init_302 : decode cX12_init 302 = .ok (.putfield 116, 3) := by decide +kernel
theorem dX12_init_305 : decode cX12_init 305 = .ok (.aload_n 0, 1) := by decide +kernel
theorem dX12_init_306 : decode cX12_init 306 = .ok (.invokevirtual 119, 3) := by decide +kernel
theorem dX12_init_309 : decode cX12_init 309 = .ok (.return_, 1) := by decide +kernel
theorem dX12_thrown_0 : decode cX12_thrown 0 = .ok (.aload_n 0, 1) := by decide +kernel
theorem dX12_thrown_1 : decode cX12_thrown 1 = .ok (.getfield 122, 3) := by decide +kernel
theorem dX12_thrown_4 : decode cX12_thrown 4 = .ok (.ireturn, 1) := by decide +kernel
theorem dX12_isIn_0 : decode cX12_isIn 0 = .ok (.lload_n 0, 1) := by decide +kernel
theorem dX12_isIn_1 : decode cX12_isIn 1 = .ok (.lload_n 2, 1) := by decide +kernel
theorem dX12_isIn_2 : decode cX12_isIn 2 = .ok (.lcmp, 1) := by decide +kernel
theorem dX12_isIn_3 : decode cX12_isIn 3 = .ok (.ifCond .lt 14, 3) := by decide +kernel
theorem dX12_isIn_6 : decode cX12_isIn 6 = .ok (.lload_n 0, 1) := by decide +kernel
theorem dX12_isIn_7 : decode cX12_isIn 7 = .ok (.lload 4, 2) := by decide +kernel
theorem dX12_isIn_9 : decode cX12_isIn 9 = .ok (.lcmp, 1) := by decide +kernel
theorem dX12_isIn_10 : decode cX12_isIn 10 = .ok (.ifCond .gt 7, 3) := by decide +kernel
theorem dX12_isIn_13 : decode cX12_isIn 13 = .ok (.iconst 1, 1) := by decide +kernel
theorem dX12_isIn_14 : decode cX12_isIn 14 = .ok (.goto 4, 3) := by decide +kernel
theorem dX12_isIn_17 : decode cX12_isIn 17 = .ok (.iconst 0, 1) := by decide +kernel
theorem dX12_isIn_18 : decode cX12_isIn 18 = .ok (.ireturn, 1) := by decide +kernel
theorem dX12_isCell_0 : decode cX12_isCell 0 = .ok (.iload_n 1, 1) := by decide +kernel
theorem dX12_isCell_1 : decode cX12_isCell 1 = .ok (.ifCond .lt 15, 3) := by decide +kernel
theorem dX12_isCell_4 : decode cX12_isCell 4 = .ok (.iload_n 1, 1) := by decide +kernel
theorem dX12_isCell_5 : decode cX12_isCell 5 = .ok (.aload_n 0, 1) := by decide +kernel
theorem dX12_isCell_6 : decode cX12_isCell 6 = .ok (.getfield 126, 3) := by decide +kernel
theorem dX12_isCell_9 : decode cX12_isCell 9 = .ok (.if_icmp .ge 7, 3) := by decide +kernel
theorem dX12_isCell_12 : decode cX12_isCell 12 = .ok (.iconst 1, 1) := by decide +kernel
theorem dX12_isCell_13 : decode cX12_isCell 13 = .ok (.goto 4, 3) := by decide +kernel
theorem dX12_isCell_16 : decode cX12_isCell 16 = .ok (.iconst 0, 1) := by decide +kernel
theorem dX12_isCell_17 : decode cX12_isCell 17 = .ok (.ireturn, 1) := by decide +kernel
theorem dX12_isBit_0 : decode cX12_isBit 0 = .ok (.aload_n 0, 1) := by decide +kernel
theorem dX12_isBit_1 : decode cX12_isBit 1 = .ok (.iload_n 1, 1) := by decide +kernel
theorem dX12_isBit_2 : decode cX12_isBit 2 = .ok (.invokevirtual 129, 3) := by decide +kernel
theorem dX12_isBit_5 : decode cX12_isBit 5 = .ok (.ifCond .eq 17, 3) := by decide +kernel
theorem dX12_isBit_8 : decode cX12_isBit 8 = .ok (.aload_n 0, 1) := by decide +kernel
theorem dX12_isBit_9 : decode cX12_isBit 9 = .ok (.getfield 7, 3) := by decide +kernel
theorem dX12_isBit_12 : decode cX12_isBit 12 = .ok (.iload_n 1, 1) := by decide +kernel
theorem dX12_isBit_13 : decode cX12_isBit 13 = .ok (.iaload, 1) := by decide +kernel
theorem dX12_isBit_14 : decode cX12_isBit 14 = .ok (.iconst 4, 1) := by decide +kernel
theorem dX12_isBit_15 : decode cX12_isBit 15 = .ok (.if_icmp .le 7, 3) := by decide +kernel
theorem dX12_isBit_18 : decode cX12_isBit 18 = .ok (.iconst 1, 1) := by decide +kernel
theorem dX12_isBit_19 : decode cX12_isBit 19 = .ok (.goto 4, 3) := by decide +kernel
theorem dX12_isBit_22 : decode cX12_isBit 22 = .ok (.iconst 0, 1) := by decide +kernel
theorem dX12_isBit_23 : decode cX12_isBit 23 = .ok (.ireturn, 1) := by decide +kernel
theorem dX12_isKeeper_0 : decode cX12_isKeeper 0 = .ok (.aload_n 0, 1) := by decide +kernel
theorem dX12_isKeeper_1 : decode cX12_isKeeper 1 = .ok (.iload_n 1, 1) := by decide +kernel
theorem dX12_isKeeper_2 : decode cX12_isKeeper 2 = .ok (.invokevirtual 129, 3) := by decide +kernel
theorem dX12_isKeeper_5 : decode cX12_isKeeper 5 = .ok (.ifCond .eq 18, 3) := by decide +kernel
theorem dX12_isKeeper_8 : decode cX12_isKeeper 8 = .ok (.aload_n 0, 1) := by decide +kernel
theorem dX12_isKeeper_9 : decode cX12_isKeeper 9 = .ok (.getfield 7, 3) := by decide +kernel
theorem dX12_isKeeper_12 : decode cX12_isKeeper 12 = .ok (.iload_n 1, 1) := by decide +kernel
theorem dX12_isKeeper_13 : decode cX12_isKeeper 13 = .ok (.iaload, 1) := by decide +kernel
theorem dX12_isKeeper_14 : decode cX12_isKeeper 14 = .ok (.bipush 6, 2) := by decide +kernel
theorem dX12_isKeeper_16 : decode cX12_isKeeper 16 = .ok (.if_icmp .ne 7, 3) := by decide +kernel
theorem dX12_isKeeper_19 : decode cX12_isKeeper 19 = .ok (.iconst 1, 1) := by decide +kernel
theorem dX12_isKeeper_20 : decode cX12_isKeeper 20 = .ok (.goto 4, 3) := by decide +kernel
theorem dX12_isKeeper_23 : decode cX12_isKeeper 23 = .ok (.iconst 0, 1) := by decide +kernel
theorem dX12_isKeeper_24 : decode cX12_isKeeper 24 = .ok (.ireturn, 1) := by decide +kernel
theorem dX12_bitOf_0 : decode cX12_bitOf 0 = .ok (.iload_n 0, 1) := by decide +kernel
theorem dX12_bitOf_1 : decode cX12_bitOf 1 = .ok (.iload_n 1, 1) := by decide +kernel
theorem dX12_bitOf_2 : decode cX12_bitOf 2 = .ok (.ishr, 1) := by decide +kernel
theorem dX12_bitOf_3 : decode cX12_bitOf 3 = .ok (.iconst 1, 1) := by decide +kernel
theorem dX12_bitOf_4 : decode cX12_bitOf 4 = .ok (.iand, 1) := by decide +kernel
theorem dX12_bitOf_5 : decode cX12_bitOf 5 = .ok (.ireturn, 1) := by decide +kernel
theorem dX12_settle_0 : decode cX12_settle 0 = .ok (.iload_n 1, 1) := by decide +kernel
theorem dX12_settle_1 : decode cX12_settle 1 = .ok (.istore_n 2, 1) := by decide +kernel
theorem dX12_settle_2 : decode cX12_settle 2 = .ok (.iconst 0, 1) := by decide +kernel
theorem dX12_settle_3 : decode cX12_settle 3 = .ok (.istore_n 3, 1) := by decide +kernel
theorem dX12_settle_4 : decode cX12_settle 4 = .ok (.iload_n 3, 1) := by decide +kernel
theorem dX12_settle_5 : decode cX12_settle 5 = .ok (.aload_n 0, 1) := by decide +kernel
theorem dX12_settle_6 : decode cX12_settle 6 = .ok (.getfield 126, 3) := by decide +kernel
theorem dX12_settle_9 : decode cX12_settle 9 = .ok (.if_icmp .ge 172, 3) := by decide +kernel
theorem dX12_settle_12 : decode cX12_settle 12 = .ok (.aload_n 0, 1) := by decide +kernel
theorem dX12_settle_13 : decode cX12_settle 13 = .ok (.getfield 7, 3) := by decide +kernel
theorem dX12_settle_16 : decode cX12_settle 16 = .ok (.iload_n 3, 1) := by decide +kernel
theorem dX12_settle_17 : decode cX12_settle 17 = .ok (.iaload, 1) := by decide +kernel
theorem dX12_settle_18 : decode cX12_settle 18 = .ok (.iconst 4, 1) := by decide +kernel
theorem dX12_settle_19 : decode cX12_settle 19 = .ok (.if_icmp .le 6, 3) := by decide +kernel
theorem dX12_settle_22 : decode cX12_settle 22 = .ok (.goto 153, 3) := by decide +kernel
theorem dX12_settle_25 : decode cX12_settle 25 = .ok (.iload_n 2, 1) := by decide +kernel
theorem dX12_settle_26 : decode cX12_settle 26 = .ok (.aload_n 0, 1) := by decide +kernel
theorem dX12_settle_27 : decode cX12_settle 27 = .ok (.getfield 19, 3) := by decide +kernel
theorem dX12_settle_30 : decode cX12_settle 30 = .ok (.iload_n 3, 1) := by decide +kernel
theorem dX12_settle_31 : decode cX12_settle 31 = .ok (.iaload, 1) := by decide +kernel
theorem dX12_settle_32 : decode cX12_settle 32 = .ok (.invokestatic 133, 3) := by decide +kernel
theorem dX12_settle_35 : decode cX12_settle 35 = .ok (.istore 4, 2) := by decide +kernel
theorem dX12_settle_37 : decode cX12_settle 37 = .ok (.aload_n 0, 1) := by decide +kernel
theorem dX12_settle_38 : decode cX12_settle 38 = .ok (.getfield 7, 3) := by decide +kernel
theorem dX12_settle_41 : decode cX12_settle 41 = .ok (.iload_n 3, 1) := by decide +kernel
theorem dX12_settle_42 : decode cX12_settle 42 = .ok (.iaload, 1) := by decide +kernel
theorem dX12_settle_43 : decode cX12_settle 43 = .ok (.iconst 3, 1) := by decide +kernel
theorem dX12_settle_44 : decode cX12_settle 44 = .ok (.if_icmp .ne 7, 3) := by decide +kernel
theorem dX12_settle_47 : decode cX12_settle 47 = .ok (.iconst 0, 1) := by decide +kernel
theorem dX12_settle_48 : decode cX12_settle 48 = .ok (.goto 13, 3) := by decide +kernel
theorem dX12_settle_51 : decode cX12_settle 51 = .ok (.iload_n 2, 1) := by decide +kernel
theorem dX12_settle_52 : decode cX12_settle 52 = .ok (.aload_n 0, 1) := by decide +kernel
theorem dX12_settle_53 : decode cX12_settle 53 = .ok (.getfield 22, 3) := by decide +kernel
theorem dX12_settle_56 : decode cX12_settle 56 = .ok (.iload_n 3, 1) := by decide +kernel
theorem dX12_settle_57 : decode cX12_settle 57 = .ok (.iaload, 1) := by decide +kernel
theorem dX12_settle_58 : decode cX12_settle 58 = .ok (.invokestatic 133, 3) := by decide +kernel
theorem dX12_settle_61 : decode cX12_settle 61 = .ok (.istore 5, 2) := by decide +kernel
theorem dX12_settle_63 : decode cX12_settle 63 = .ok (.aload_n 0, 1) := by decide +kernel
theorem dX12_settle_64 : decode cX12_settle 64 = .ok (.getfield 7, 3) := by decide +kernel
theorem dX12_settle_67 : decode cX12_settle 67 = .ok (.iload_n 3, 1) := by decide +kernel
theorem dX12_settle_68 : decode cX12_settle 68 = .ok (.iaload, 1) := by decide +kernel
theorem dX12_settle_69 : decode cX12_settle 69 = .ok (.tableswitch 70 0 3 #[31, 41, 51, 61], 31) := by decide +kernel
theorem dX12_settle_100 : decode cX12_settle 100 = .ok (.iload 4, 2) := by decide +kernel
theorem dX12_settle_102 : decode cX12_settle 102 = .ok (.iload 5, 2) := by decide +kernel
theorem dX12_settle_104 : decode cX12_settle 104 = .ok (.iand, 1) := by decide +kernel
theorem dX12_settle_105 : decode cX12_settle 105 = .ok (.istore 6, 2) := by decide +kernel
theorem dX12_settle_107 : decode cX12_settle 107 = .ok (.goto 55, 3) := by decide +kernel
theorem dX12_settle_110 : decode cX12_settle 110 = .ok (.iload 4, 2) := by decide +kernel
theorem dX12_settle_112 : decode cX12_settle 112 = .ok (.iload 5, 2) := by decide +kernel
theorem dX12_settle_114 : decode cX12_settle 114 = .ok (.ior, 1) := by decide +kernel
theorem dX12_settle_115 : decode cX12_settle 115 = .ok (.istore 6, 2) := by decide +kernel
theorem dX12_settle_117 : decode cX12_settle 117 = .ok (.goto 45, 3) := by decide +kernel
theorem dX12_settle_120 : decode cX12_settle 120 = .ok (.iload 4, 2) := by decide +kernel
theorem dX12_settle_122 : decode cX12_settle 122 = .ok (.iload 5, 2) := by decide +kernel
theorem dX12_settle_124 : decode cX12_settle 124 = .ok (.ixor, 1) := by decide +kernel
theorem dX12_settle_125 : decode cX12_settle 125 = .ok (.istore 6, 2) := by decide +kernel
theorem dX12_settle_127 : decode cX12_settle 127 = .ok (.goto 35, 3) := by decide +kernel
theorem dX12_settle_130 : decode cX12_settle 130 = .ok (.iconst 1, 1) := by decide +kernel
theorem dX12_settle_131 : decode cX12_settle 131 = .ok (.iload 4, 2) := by decide +kernel
theorem dX12_settle_133 : decode cX12_settle 133 = .ok (.isub, 1) := by decide +kernel
theorem dX12_settle_134 : decode cX12_settle 134 = .ok (.istore 6, 2) := by decide +kernel
theorem dX12_settle_136 : decode cX12_settle 136 = .ok (.goto 26, 3) := by decide +kernel
theorem dX12_settle_139 : decode cX12_settle 139 = .ok (.iload 4, 2) := by decide +kernel
theorem dX12_settle_141 : decode cX12_settle 141 = .ok (.iconst 1, 1) := by decide +kernel
theorem dX12_settle_142 : decode cX12_settle 142 = .ok (.if_icmp .ne 8, 3) := by decide +kernel
theorem dX12_settle_145 : decode cX12_settle 145 = .ok (.iload 5, 2) := by decide +kernel
theorem dX12_settle_147 : decode cX12_settle 147 = .ok (.goto 13, 3) := by decide +kernel
theorem dX12_settle_150 : decode cX12_settle 150 = .ok (.iload_n 2, 1) := by decide +kernel
theorem dX12_settle_151 : decode cX12_settle 151 = .ok (.aload_n 0, 1) := by decide +kernel
theorem dX12_settle_152 : decode cX12_settle 152 = .ok (.getfield 25, 3) := by decide +kernel
theorem dX12_settle_155 : decode cX12_settle 155 = .ok (.iload_n 3, 1) := by decide +kernel
theorem dX12_settle_156 : decode cX12_settle 156 = .ok (.iaload, 1) := by decide +kernel
theorem dX12_settle_157 : decode cX12_settle 157 = .ok (.invokestatic 133, 3) := by decide +kernel
theorem dX12_settle_160 : decode cX12_settle 160 = .ok (.istore 6, 2) := by decide +kernel
theorem dX12_settle_162 : decode cX12_settle 162 = .ok (.iload_n 2, 1) := by decide +kernel
theorem dX12_settle_163 : decode cX12_settle 163 = .ok (.iconst 1, 1) := by decide +kernel
theorem dX12_settle_164 : decode cX12_settle 164 = .ok (.iload_n 3, 1) := by decide +kernel
theorem dX12_settle_165 : decode cX12_settle 165 = .ok (.ishl, 1) := by decide +kernel
theorem dX12_settle_166 : decode cX12_settle 166 = .ok (.iconst (-1), 1) := by decide +kernel
theorem dX12_settle_167 : decode cX12_settle 167 = .ok (.ixor, 1) := by decide +kernel
theorem dX12_settle_168 : decode cX12_settle 168 = .ok (.iand, 1) := by decide +kernel
theorem dX12_settle_169 : decode cX12_settle 169 = .ok (.iload 6, 2) := by decide +kernel
theorem dX12_settle_171 : decode cX12_settle 171 = .ok (.iload_n 3, 1) := by decide +kernel
theorem dX12_settle_172 : decode cX12_settle 172 = .ok (.ishl, 1) := by decide +kernel
theorem dX12_settle_173 : decode cX12_settle 173 = .ok (.ior, 1) := by decide +kernel
theorem dX12_settle_174 : decode cX12_settle 174 = .ok (.istore_n 2, 1) := by decide +kernel
theorem dX12_settle_175 : decode cX12_settle 175 = .ok (.iinc 3 1, 3) := by decide +kernel
theorem dX12_settle_178 : decode cX12_settle 178 = .ok (.goto (-174), 3) := by decide +kernel
theorem dX12_settle_181 : decode cX12_settle 181 = .ok (.iload_n 2, 1) := by decide +kernel
theorem dX12_settle_182 : decode cX12_settle 182 = .ok (.ireturn, 1) := by decide +kernel
theorem dX12_beginning_0 : decode cX12_beginning 0 = .ok (.iconst 0, 1) := by decide +kernel
theorem dX12_beginning_1 : decode cX12_beginning 1 = .ok (.istore_n 1, 1) := by decide +kernel
theorem dX12_beginning_2 : decode cX12_beginning 2 = .ok (.iconst 0, 1) := by decide +kernel
theorem dX12_beginning_3 : decode cX12_beginning 3 = .ok (.istore_n 2, 1) := by decide +kernel
theorem dX12_beginning_4 : decode cX12_beginning 4 = .ok (.iload_n 2, 1) := by decide +kernel
theorem dX12_beginning_5 : decode cX12_beginning 5 = .ok (.aload_n 0, 1) := by decide +kernel
theorem dX12_beginning_6 : decode cX12_beginning 6 = .ok (.getfield 126, 3) := by decide +kernel
theorem dX12_beginning_9 : decode cX12_beginning 9 = .ok (.if_icmp .ge 40, 3) := by decide +kernel
theorem dX12_beginning_12 : decode cX12_beginning 12 = .ok (.iload_n 1, 1) := by decide +kernel
theorem dX12_beginning_13 : decode cX12_beginning 13 = .ok (.aload_n 0, 1) := by decide +kernel
theorem dX12_beginning_14 : decode cX12_beginning 14 = .ok (.getfield 7, 3) := by decide +kernel
theorem dX12_beginning_17 : decode cX12_beginning 17 = .ok (.iload_n 2, 1) := by decide +kernel
theorem dX12_beginning_18 : decode cX12_beginning 18 = .ok (.iaload, 1) := by decide +kernel
theorem dX12_beginning_19 : decode cX12_beginning 19 = .ok (.bipush 6, 2) := by decide +kernel
theorem dX12_beginning_21 : decode cX12_beginning 21 = .ok (.if_icmp .ne 19, 3) := by decide +kernel
theorem dX12_beginning_24 : decode cX12_beginning 24 = .ok (.aload_n 0, 1) := by decide +kernel
theorem dX12_beginning_25 : decode cX12_beginning 25 = .ok (.getfield 16, 3) := by decide +kernel
theorem dX12_beginning_28 : decode cX12_beginning 28 = .ok (.iload_n 2, 1) := by decide +kernel
theorem dX12_beginning_29 : decode cX12_beginning 29 = .ok (.iaload, 1) := by decide +kernel
theorem dX12_beginning_30 : decode cX12_beginning 30 = .ok (.iconst 1, 1) := by decide +kernel
theorem dX12_beginning_31 : decode cX12_beginning 31 = .ok (.if_icmp .ne 9, 3) := by decide +kernel
theorem dX12_beginning_34 : decode cX12_beginning 34 = .ok (.iconst 1, 1) := by decide +kernel
theorem dX12_beginning_35 : decode cX12_beginning 35 = .ok (.iload_n 2, 1) := by decide +kernel
theorem dX12_beginning_36 : decode cX12_beginning 36 = .ok (.ishl, 1) := by decide +kernel
theorem dX12_beginning_37 : decode cX12_beginning 37 = .ok (.goto 4, 3) := by decide +kernel
theorem dX12_beginning_40 : decode cX12_beginning 40 = .ok (.iconst 0, 1) := by decide +kernel
theorem dX12_beginning_41 : decode cX12_beginning 41 = .ok (.ior, 1) := by decide +kernel
theorem dX12_beginning_42 : decode cX12_beginning 42 = .ok (.istore_n 1, 1) := by decide +kernel
theorem dX12_beginning_43 : decode cX12_beginning 43 = .ok (.iinc 2 1, 3) := by decide +kernel
theorem dX12_beginning_46 : decode cX12_beginning 46 = .ok (.goto (-42), 3) := by decide +kernel
theorem dX12_beginning_49 : decode cX12_beginning 49 = .ok (.aload_n 0, 1) := by decide +kernel
theorem dX12_beginning_50 : decode cX12_beginning 50 = .ok (.iload_n 1, 1) := by decide +kernel
theorem dX12_beginning_51 : decode cX12_beginning 51 = .ok (.invokevirtual 137, 3) := by decide +kernel
theorem dX12_beginning_54 : decode cX12_beginning 54 = .ok (.ireturn, 1) := by decide +kernel
theorem dX12_begin_0 : decode cX12_begin 0 = .ok (.aload_n 0, 1) := by decide +kernel
theorem dX12_begin_1 : decode cX12_begin 1 = .ok (.iconst 0, 1) := by decide +kernel
theorem dX12_begin_2 : decode cX12_begin 2 = .ok (.putfield 141, 3) := by decide +kernel
theorem dX12_begin_5 : decode cX12_begin 5 = .ok (.aload_n 0, 1) := by decide +kernel
theorem dX12_begin_6 : decode cX12_begin 6 = .ok (.iconst 0, 1) := by decide +kernel
theorem dX12_begin_7 : decode cX12_begin 7 = .ok (.putfield 144, 3) := by decide +kernel
theorem dX12_begin_10 : decode cX12_begin 10 = .ok (.aload_n 0, 1) := by decide +kernel
theorem dX12_begin_11 : decode cX12_begin 11 = .ok (.getfield 44, 3) := by decide +kernel
theorem dX12_begin_14 : decode cX12_begin 14 = .ok (.iconst 0, 1) := by decide +kernel
theorem dX12_begin_15 : decode cX12_begin 15 = .ok (.aload_n 0, 1) := by decide +kernel
theorem dX12_begin_16 : decode cX12_begin 16 = .ok (.invokevirtual 147, 3) := by decide +kernel
theorem dX12_begin_19 : decode cX12_begin 19 = .ok (.iastore, 1) := by decide +kernel
theorem dX12_begin_20 : decode cX12_begin 20 = .ok (.iconst 0, 1) := by decide +kernel
theorem dX12_begin_21 : decode cX12_begin 21 = .ok (.istore_n 1, 1) := by decide +kernel
theorem dX12_begin_22 : decode cX12_begin 22 = .ok (.iload_n 1, 1) := by decide +kernel
theorem dX12_begin_23 : decode cX12_begin 23 = .ok (.bipush 16, 2) := by decide +kernel
theorem dX12_begin_25 : decode cX12_begin 25 = .ok (.if_icmp .ge 16, 3) := by decide +kernel
theorem dX12_begin_28 : decode cX12_begin 28 = .ok (.aload_n 0, 1) := by decide +kernel
theorem dX12_begin_29 : decode cX12_begin 29 = .ok (.getfield 50, 3) := by decide +kernel
theorem dX12_begin_32 : decode cX12_begin 32 = .ok (.iload_n 1, 1) := by decide +kernel
theorem dX12_begin_33 : decode cX12_begin 33 = .ok (.iconst 0, 1) := by decide +kernel
theorem dX12_begin_34 : decode cX12_begin 34 = .ok (.iastore, 1) := by decide +kernel
theorem dX12_begin_35 : decode cX12_begin 35 = .ok (.iinc 1 1, 3) := by decide +kernel
theorem dX12_begin_38 : decode cX12_begin 38 = .ok (.goto (-16), 3) := by decide +kernel
theorem dX12_begin_41 : decode cX12_begin 41 = .ok (.return_, 1) := by decide +kernel
theorem dX12_changed_0 : decode cX12_changed 0 = .ok (.aload_n 0, 1) := by decide +kernel
theorem dX12_changed_1 : decode cX12_changed 1 = .ok (.invokevirtual 119, 3) := by decide +kernel
theorem dX12_changed_4 : decode cX12_changed 4 = .ok (.aload_n 0, 1) := by decide +kernel
theorem dX12_changed_5 : decode cX12_changed 5 = .ok (.invokevirtual 151, 3) := by decide +kernel
theorem dX12_changed_8 : decode cX12_changed 8 = .ok (.return_, 1) := by decide +kernel
theorem dX12_input_0 : decode cX12_input 0 = .ok (.aload_n 0, 1) := by decide +kernel
theorem dX12_input_1 : decode cX12_input 1 = .ok (.iconst 0, 1) := by decide +kernel
theorem dX12_input_2 : decode cX12_input 2 = .ok (.putfield 122, 3) := by decide +kernel
theorem dX12_input_5 : decode cX12_input 5 = .ok (.iload_n 1, 1) := by decide +kernel
theorem dX12_input_6 : decode cX12_input 6 = .ok (.i2l, 1) := by decide +kernel
theorem dX12_input_7 : decode cX12_input 7 = .ok (.lconst 0, 1) := by decide +kernel
theorem dX12_input_8 : decode cX12_input 8 = .ok (.ldc2_w 154, 3) := by decide +kernel
theorem dX12_input_11 : decode cX12_input 11 = .ok (.invokestatic 156, 3) := by decide +kernel
theorem dX12_input_14 : decode cX12_input 14 = .ok (.ifCond .ne 5, 3) := by decide +kernel
theorem dX12_input_17 : decode cX12_input 17 = .ok (.iconst (-1), 1) := by decide +kernel
theorem dX12_input_18 : decode cX12_input 18 = .ok (.ireturn, 1) := by decide +kernel
theorem dX12_input_19 : decode cX12_input 19 = .ok (.aload_n 0, 1) := by decide +kernel
theorem dX12_input_20 : decode cX12_input 20 = .ok (.getfield 126, 3) := by decide +kernel
theorem dX12_input_23 : decode cX12_input 23 = .ok (.bipush 24, 2) := by decide +kernel
theorem dX12_input_25 : decode cX12_input 25 = .ok (.if_icmp .eq 12, 3) := by decide +kernel
theorem dX12_input_28 : decode cX12_input 28 = .ok (.aload_n 0, 1) := by decide +kernel
theorem dX12_input_29 : decode cX12_input 29 = .ok (.getfield 160, 3) := by decide +kernel
theorem dX12_input_32 : decode cX12_input 32 = .ok (.bipush 10, 2) := by decide +kernel
theorem dX12_input_34 : decode cX12_input 34 = .ok (.if_icmp .ne 6, 3) := by decide +kernel
theorem dX12_input_37 : decode cX12_input 37 = .ok (.bipush (-2), 2) := by decide +kernel
theorem dX12_input_39 : decode cX12_input 39 = .ok (.ireturn, 1) := by decide +kernel
theorem dX12_input_40 : decode cX12_input 40 = .ok (.aload_n 0, 1) := by decide +kernel
theorem dX12_input_41 : decode cX12_input 41 = .ok (.iconst 5, 1) := by decide +kernel
theorem dX12_input_42 : decode cX12_input 42 = .ok (.iload_n 1, 1) := by decide +kernel
theorem dX12_input_43 : decode cX12_input 43 = .ok (.iconst 0, 1) := by decide +kernel
theorem dX12_input_44 : decode cX12_input 44 = .ok (.invokevirtual 163, 3) := by decide +kernel
theorem dX12_input_47 : decode cX12_input 47 = .ok (.aload_n 0, 1) := by decide +kernel
theorem dX12_input_48 : decode cX12_input 48 = .ok (.getfield 126, 3) := by decide +kernel
theorem dX12_input_51 : decode cX12_input 51 = .ok (.iconst 1, 1) := by decide +kernel
theorem dX12_input_52 : decode cX12_input 52 = .ok (.isub, 1) := by decide +kernel
theorem dX12_input_53 : decode cX12_input 53 = .ok (.ireturn, 1) := by decide +kernel
theorem dX12_add_0 : decode cX12_add 0 = .ok (.aload_n 0, 1) := by decide +kernel
theorem dX12_add_1 : decode cX12_add 1 = .ok (.getfield 7, 3) := by decide +kernel
theorem dX12_add_4 : decode cX12_add 4 = .ok (.aload_n 0, 1) := by decide +kernel
theorem dX12_add_5 : decode cX12_add 5 = .ok (.getfield 126, 3) := by decide +kernel
theorem dX12_add_8 : decode cX12_add 8 = .ok (.iload_n 1, 1) := by decide +kernel
theorem dX12_add_9 : decode cX12_add 9 = .ok (.iastore, 1) := by decide +kernel
theorem dX12_add_10 : decode cX12_add 10 = .ok (.aload_n 0, 1) := by decide +kernel
theorem dX12_add_11 : decode cX12_add 11 = .ok (.getfield 13, 3) := by decide +kernel
theorem dX12_add_14 : decode cX12_add 14 = .ok (.aload_n 0, 1) := by decide +kernel
theorem dX12_add_15 : decode cX12_add 15 = .ok (.getfield 126, 3) := by decide +kernel
theorem dX12_add_18 : decode cX12_add 18 = .ok (.iload_n 2, 1) := by decide +kernel
theorem dX12_add_19 : decode cX12_add 19 = .ok (.iastore, 1) := by decide +kernel
theorem dX12_add_20 : decode cX12_add 20 = .ok (.aload_n 0, 1) := by decide +kernel
theorem dX12_add_21 : decode cX12_add 21 = .ok (.getfield 16, 3) := by decide +kernel
theorem dX12_add_24 : decode cX12_add 24 = .ok (.aload_n 0, 1) := by decide +kernel
theorem dX12_add_25 : decode cX12_add 25 = .ok (.getfield 126, 3) := by decide +kernel
theorem dX12_add_28 : decode cX12_add 28 = .ok (.iload_n 3, 1) := by decide +kernel
theorem dX12_add_29 : decode cX12_add 29 = .ok (.iastore, 1) := by decide +kernel
theorem dX12_add_30 : decode cX12_add 30 = .ok (.aload_n 0, 1) := by decide +kernel
theorem dX12_add_31 : decode cX12_add 31 = .ok (.getfield 19, 3) := by decide +kernel
theorem dX12_add_34 : decode cX12_add 34 = .ok (.aload_n 0, 1) := by decide +kernel
theorem dX12_add_35 : decode cX12_add 35 = .ok (.getfield 126, 3) := by decide +kernel
theorem dX12_add_38 : decode cX12_add 38 = .ok (.aload_n 0, 1) := by decide +kernel
theorem dX12_add_39 : decode cX12_add 39 = .ok (.getfield 126, 3) := by decide +kernel
theorem dX12_add_42 : decode cX12_add 42 = .ok (.iastore, 1) := by decide +kernel
theorem dX12_add_43 : decode cX12_add 43 = .ok (.aload_n 0, 1) := by decide +kernel
theorem dX12_add_44 : decode cX12_add 44 = .ok (.getfield 22, 3) := by decide +kernel
theorem dX12_add_47 : decode cX12_add 47 = .ok (.aload_n 0, 1) := by decide +kernel
theorem dX12_add_48 : decode cX12_add 48 = .ok (.getfield 126, 3) := by decide +kernel
theorem dX12_add_51 : decode cX12_add 51 = .ok (.bipush (-2), 2) := by decide +kernel
theorem dX12_add_53 : decode cX12_add 53 = .ok (.iastore, 1) := by decide +kernel
theorem dX12_add_54 : decode cX12_add 54 = .ok (.aload_n 0, 1) := by decide +kernel
theorem dX12_add_55 : decode cX12_add 55 = .ok (.getfield 25, 3) := by decide +kernel
theorem dX12_add_58 : decode cX12_add 58 = .ok (.aload_n 0, 1) := by decide +kernel
theorem dX12_add_59 : decode cX12_add 59 = .ok (.getfield 126, 3) := by decide +kernel
theorem dX12_add_62 : decode cX12_add 62 = .ok (.bipush (-2), 2) := by decide +kernel
theorem dX12_add_64 : decode cX12_add 64 = .ok (.iastore, 1) := by decide +kernel
theorem dX12_add_65 : decode cX12_add 65 = .ok (.aload_n 0, 1) := by decide +kernel
theorem dX12_add_66 : decode cX12_add 66 = .ok (.getfield 28, 3) := by decide +kernel
theorem dX12_add_69 : decode cX12_add 69 = .ok (.aload_n 0, 1) := by decide +kernel
theorem dX12_add_70 : decode cX12_add 70 = .ok (.getfield 126, 3) := by decide +kernel
theorem dX12_add_73 : decode cX12_add 73 = .ok (.iconst 0, 1) := by decide +kernel
theorem dX12_add_74 : decode cX12_add 74 = .ok (.bastore, 1) := by decide +kernel
theorem dX12_add_75 : decode cX12_add 75 = .ok (.aload_n 0, 1) := by decide +kernel
theorem dX12_add_76 : decode cX12_add 76 = .ok (.dup, 1) := by decide +kernel
theorem dX12_add_77 : decode cX12_add 77 = .ok (.getfield 160, 3) := by decide +kernel
theorem dX12_add_80 : decode cX12_add 80 = .ok (.iconst 1, 1) := by decide +kernel
theorem dX12_add_81 : decode cX12_add 81 = .ok (.iadd, 1) := by decide +kernel
theorem dX12_add_82 : decode cX12_add 82 = .ok (.putfield 160, 3) := by decide +kernel
theorem dX12_add_85 : decode cX12_add 85 = .ok (.aload_n 0, 1) := by decide +kernel
theorem dX12_add_86 : decode cX12_add 86 = .ok (.dup, 1) := by decide +kernel
theorem dX12_add_87 : decode cX12_add 87 = .ok (.getfield 126, 3) := by decide +kernel
theorem dX12_add_90 : decode cX12_add 90 = .ok (.iconst 1, 1) := by decide +kernel
theorem dX12_add_91 : decode cX12_add 91 = .ok (.iadd, 1) := by decide +kernel
theorem dX12_add_92 : decode cX12_add 92 = .ok (.putfield 126, 3) := by decide +kernel
theorem dX12_add_95 : decode cX12_add 95 = .ok (.aload_n 0, 1) := by decide +kernel
theorem dX12_add_96 : decode cX12_add 96 = .ok (.invokevirtual 167, 3) := by decide +kernel
theorem dX12_add_99 : decode cX12_add 99 = .ok (.return_, 1) := by decide +kernel
theorem dX12_keeper_0 : decode cX12_keeper 0 = .ok (.aload_n 0, 1) := by decide +kernel
theorem dX12_keeper_1 : decode cX12_keeper 1 = .ok (.iconst 0, 1) := by decide +kernel
theorem dX12_keeper_2 : decode cX12_keeper 2 = .ok (.putfield 122, 3) := by decide +kernel
theorem dX12_keeper_5 : decode cX12_keeper 5 = .ok (.iload_n 1, 1) := by decide +kernel
theorem dX12_keeper_6 : decode cX12_keeper 6 = .ok (.i2l, 1) := by decide +kernel
theorem dX12_keeper_7 : decode cX12_keeper 7 = .ok (.lconst 0, 1) := by decide +kernel
theorem dX12_keeper_8 : decode cX12_keeper 8 = .ok (.ldc2_w 154, 3) := by decide +kernel
theorem dX12_keeper_11 : decode cX12_keeper 11 = .ok (.invokestatic 156, 3) := by decide +kernel
theorem dX12_keeper_14 : decode cX12_keeper 14 = .ok (.ifCond .eq 13, 3) := by decide +kernel
theorem dX12_keeper_17 : decode cX12_keeper 17 = .ok (.iload_n 2, 1) := by decide +kernel
theorem dX12_keeper_18 : decode cX12_keeper 18 = .ok (.i2l, 1) := by decide +kernel
theorem dX12_keeper_19 : decode cX12_keeper 19 = .ok (.lconst 0, 1) := by decide +kernel
theorem dX12_keeper_20 : decode cX12_keeper 20 = .ok (.lconst 1, 1) := by decide +kernel
theorem dX12_keeper_21 : decode cX12_keeper 21 = .ok (.invokestatic 156, 3) := by decide +kernel
theorem dX12_keeper_24 : decode cX12_keeper 24 = .ok (.ifCond .ne 5, 3) := by decide +kernel
theorem dX12_keeper_27 : decode cX12_keeper 27 = .ok (.iconst (-1), 1) := by decide +kernel
theorem dX12_keeper_28 : decode cX12_keeper 28 = .ok (.ireturn, 1) := by decide +kernel
theorem dX12_keeper_29 : decode cX12_keeper 29 = .ok (.aload_n 0, 1) := by decide +kernel
theorem dX12_keeper_30 : decode cX12_keeper 30 = .ok (.getfield 126, 3) := by decide +kernel
theorem dX12_keeper_33 : decode cX12_keeper 33 = .ok (.bipush 24, 2) := by decide +kernel
theorem dX12_keeper_35 : decode cX12_keeper 35 = .ok (.if_icmp .eq 12, 3) := by decide +kernel
theorem dX12_keeper_38 : decode cX12_keeper 38 = .ok (.aload_n 0, 1) := by decide +kernel
theorem dX12_keeper_39 : decode cX12_keeper 39 = .ok (.getfield 160, 3) := by decide +kernel
theorem dX12_keeper_42 : decode cX12_keeper 42 = .ok (.bipush 10, 2) := by decide +kernel
theorem dX12_keeper_44 : decode cX12_keeper 44 = .ok (.if_icmp .ne 6, 3) := by decide +kernel
theorem dX12_keeper_47 : decode cX12_keeper 47 = .ok (.bipush (-2), 2) := by decide +kernel
theorem dX12_keeper_49 : decode cX12_keeper 49 = .ok (.ireturn, 1) := by decide +kernel
theorem dX12_keeper_50 : decode cX12_keeper 50 = .ok (.aload_n 0, 1) := by decide +kernel
theorem dX12_keeper_51 : decode cX12_keeper 51 = .ok (.bipush 6, 2) := by decide +kernel
theorem dX12_keeper_53 : decode cX12_keeper 53 = .ok (.iload_n 1, 1) := by decide +kernel
theorem dX12_keeper_54 : decode cX12_keeper 54 = .ok (.iload_n 2, 1) := by decide +kernel
theorem dX12_keeper_55 : decode cX12_keeper 55 = .ok (.invokevirtual 163, 3) := by decide +kernel
theorem dX12_keeper_58 : decode cX12_keeper 58 = .ok (.aload_n 0, 1) := by decide +kernel
theorem dX12_keeper_59 : decode cX12_keeper 59 = .ok (.getfield 126, 3) := by decide +kernel
theorem dX12_keeper_62 : decode cX12_keeper 62 = .ok (.iconst 1, 1) := by decide +kernel
theorem dX12_keeper_63 : decode cX12_keeper 63 = .ok (.isub, 1) := by decide +kernel
theorem dX12_keeper_64 : decode cX12_keeper 64 = .ok (.ireturn, 1) := by decide +kernel
theorem dX12_gate_0 : decode cX12_gate 0 = .ok (.aload_n 0, 1) := by decide +kernel
theorem dX12_gate_1 : decode cX12_gate 1 = .ok (.iconst 0, 1) := by decide +kernel
theorem dX12_gate_2 : decode cX12_gate 2 = .ok (.putfield 122, 3) := by decide +kernel
theorem dX12_gate_5 : decode cX12_gate 5 = .ok (.iload_n 1, 1) := by decide +kernel
theorem dX12_gate_6 : decode cX12_gate 6 = .ok (.i2l, 1) := by decide +kernel
theorem dX12_gate_7 : decode cX12_gate 7 = .ok (.lconst 0, 1) := by decide +kernel
theorem dX12_gate_8 : decode cX12_gate 8 = .ok (.ldc2_w 170, 3) := by decide +kernel
theorem dX12_gate_11 : decode cX12_gate 11 = .ok (.invokestatic 156, 3) := by decide +kernel
theorem dX12_gate_14 : decode cX12_gate 14 = .ok (.ifCond .eq 38, 3) := by decide +kernel
theorem dX12_gate_17 : decode cX12_gate 17 = .ok (.aload_n 0, 1) := by decide +kernel
theorem dX12_gate_18 : decode cX12_gate 18 = .ok (.iload_n 2, 1) := by decide +kernel
theorem dX12_gate_19 : decode cX12_gate 19 = .ok (.invokevirtual 129, 3) := by decide +kernel
theorem dX12_gate_22 : decode cX12_gate 22 = .ok (.ifCond .eq 30, 3) := by decide +kernel
theorem dX12_gate_25 : decode cX12_gate 25 = .ok (.iload_n 1, 1) := by decide +kernel
theorem dX12_gate_26 : decode cX12_gate 26 = .ok (.iconst 3, 1) := by decide +kernel
theorem dX12_gate_27 : decode cX12_gate 27 = .ok (.if_icmp .eq 11, 3) := by decide +kernel
theorem dX12_gate_30 : decode cX12_gate 30 = .ok (.aload_n 0, 1) := by decide +kernel
theorem dX12_gate_31 : decode cX12_gate 31 = .ok (.iload_n 3, 1) := by decide +kernel
theorem dX12_gate_32 : decode cX12_gate 32 = .ok (.invokevirtual 129, 3) := by decide +kernel
theorem dX12_gate_35 : decode cX12_gate 35 = .ok (.ifCond .eq 17, 3) := by decide +kernel
theorem dX12_gate_38 : decode cX12_gate 38 = .ok (.iload_n 1, 1) := by decide +kernel
theorem dX12_gate_39 : decode cX12_gate 39 = .ok (.iconst 4, 1) := by decide +kernel
theorem dX12_gate_40 : decode cX12_gate 40 = .ok (.if_icmp .ne 14, 3) := by decide +kernel
theorem dX12_gate_43 : decode cX12_gate 43 = .ok (.aload_n 0, 1) := by decide +kernel
theorem dX12_gate_44 : decode cX12_gate 44 = .ok (.iload 4, 2) := by decide +kernel
theorem dX12_gate_46 : decode cX12_gate 46 = .ok (.invokevirtual 129, 3) := by decide +kernel
theorem dX12_gate_49 : decode cX12_gate 49 = .ok (.ifCond .ne 5, 3) := by decide +kernel
theorem dX12_gate_52 : decode cX12_gate 52 = .ok (.iconst (-1), 1) := by decide +kernel
theorem dX12_gate_53 : decode cX12_gate 53 = .ok (.ireturn, 1) := by decide +kernel
theorem dX12_gate_54 : decode cX12_gate 54 = .ok (.aload_n 0, 1) := by decide +kernel
theorem dX12_gate_55 : decode cX12_gate 55 = .ok (.getfield 126, 3) := by decide +kernel
theorem dX12_gate_58 : decode cX12_gate 58 = .ok (.bipush 24, 2) := by decide +kernel
theorem dX12_gate_60 : decode cX12_gate 60 = .ok (.if_icmp .ne 6, 3) := by decide +kernel
theorem dX12_gate_63 : decode cX12_gate 63 = .ok (.bipush (-2), 2) := by decide +kernel
theorem dX12_gate_65 : decode cX12_gate 65 = .ok (.ireturn, 1) := by decide +kernel
theorem dX12_gate_66 : decode cX12_gate 66 = .ok (.aload_n 0, 1) := by decide +kernel
theorem dX12_gate_67 : decode cX12_gate 67 = .ok (.getfield 7, 3) := by decide +kernel
theorem dX12_gate_70 : decode cX12_gate 70 = .ok (.aload_n 0, 1) := by decide +kernel
theorem dX12_gate_71 : decode cX12_gate 71 = .ok (.getfield 126, 3) := by decide +kernel
theorem dX12_gate_74 : decode cX12_gate 74 = .ok (.iload_n 1, 1) := by decide +kernel
theorem dX12_gate_75 : decode cX12_gate 75 = .ok (.iastore, 1) := by decide +kernel
theorem dX12_gate_76 : decode cX12_gate 76 = .ok (.aload_n 0, 1) := by decide +kernel
theorem dX12_gate_77 : decode cX12_gate 77 = .ok (.getfield 13, 3) := by decide +kernel
theorem dX12_gate_80 : decode cX12_gate 80 = .ok (.aload_n 0, 1) := by decide +kernel
theorem dX12_gate_81 : decode cX12_gate 81 = .ok (.getfield 126, 3) := by decide +kernel
theorem dX12_gate_84 : decode cX12_gate 84 = .ok (.bipush (-2), 2) := by decide +kernel
theorem dX12_gate_86 : decode cX12_gate 86 = .ok (.iastore, 1) := by decide +kernel
theorem dX12_gate_87 : decode cX12_gate 87 = .ok (.aload_n 0, 1) := by decide +kernel
theorem dX12_gate_88 : decode cX12_gate 88 = .ok (.getfield 19, 3) := by decide +kernel
theorem dX12_gate_91 : decode cX12_gate 91 = .ok (.aload_n 0, 1) := by decide +kernel
theorem dX12_gate_92 : decode cX12_gate 92 = .ok (.getfield 126, 3) := by decide +kernel
theorem dX12_gate_95 : decode cX12_gate 95 = .ok (.iload_n 2, 1) := by decide +kernel
theorem dX12_gate_96 : decode cX12_gate 96 = .ok (.iastore, 1) := by decide +kernel
theorem dX12_gate_97 : decode cX12_gate 97 = .ok (.aload_n 0, 1) := by decide +kernel
theorem dX12_gate_98 : decode cX12_gate 98 = .ok (.getfield 22, 3) := by decide +kernel
theorem dX12_gate_101 : decode cX12_gate 101 = .ok (.aload_n 0, 1) := by decide +kernel
theorem dX12_gate_102 : decode cX12_gate 102 = .ok (.getfield 126, 3) := by decide +kernel
theorem dX12_gate_105 : decode cX12_gate 105 = .ok (.iload_n 1, 1) := by decide +kernel
theorem dX12_gate_106 : decode cX12_gate 106 = .ok (.iconst 3, 1) := by decide +kernel
theorem dX12_gate_107 : decode cX12_gate 107 = .ok (.if_icmp .ne 8, 3) := by decide +kernel
theorem dX12_gate_110 : decode cX12_gate 110 = .ok (.bipush (-2), 2) := by decide +kernel
theorem dX12_gate_112 : decode cX12_gate 112 = .ok (.goto 4, 3) := by decide +kernel
theorem dX12_gate_115 : decode cX12_gate 115 = .ok (.iload_n 3, 1) := by decide +kernel
theorem dX12_gate_116 : decode cX12_gate 116 = .ok (.iastore, 1) := by decide +kernel
theorem dX12_gate_117 : decode cX12_gate 117 = .ok (.aload_n 0, 1) := by decide +kernel
theorem dX12_gate_118 : decode cX12_gate 118 = .ok (.getfield 25, 3) := by decide +kernel
theorem dX12_gate_121 : decode cX12_gate 121 = .ok (.aload_n 0, 1) := by decide +kernel
theorem dX12_gate_122 : decode cX12_gate 122 = .ok (.getfield 126, 3) := by decide +kernel
theorem dX12_gate_125 : decode cX12_gate 125 = .ok (.iload_n 1, 1) := by decide +kernel
theorem dX12_gate_126 : decode cX12_gate 126 = .ok (.iconst 4, 1) := by decide +kernel
theorem dX12_gate_127 : decode cX12_gate 127 = .ok (.if_icmp .ne 8, 3) := by decide +kernel
theorem dX12_gate_130 : decode cX12_gate 130 = .ok (.iload 4, 2) := by decide +kernel
theorem dX12_gate_132 : decode cX12_gate 132 = .ok (.goto 5, 3) := by decide +kernel
theorem dX12_gate_135 : decode cX12_gate 135 = .ok (.bipush (-2), 2) := by decide +kernel
theorem dX12_gate_137 : decode cX12_gate 137 = .ok (.iastore, 1) := by decide +kernel
theorem dX12_gate_138 : decode cX12_gate 138 = .ok (.aload_n 0, 1) := by decide +kernel
theorem dX12_gate_139 : decode cX12_gate 139 = .ok (.getfield 28, 3) := by decide +kernel
theorem dX12_gate_142 : decode cX12_gate 142 = .ok (.aload_n 0, 1) := by decide +kernel
theorem dX12_gate_143 : decode cX12_gate 143 = .ok (.getfield 126, 3) := by decide +kernel
theorem dX12_gate_146 : decode cX12_gate 146 = .ok (.iconst 0, 1) := by decide +kernel
theorem dX12_gate_147 : decode cX12_gate 147 = .ok (.bastore, 1) := by decide +kernel
theorem dX12_gate_148 : decode cX12_gate 148 = .ok (.aload_n 0, 1) := by decide +kernel
theorem dX12_gate_149 : decode cX12_gate 149 = .ok (.dup, 1) := by decide +kernel
theorem dX12_gate_150 : decode cX12_gate 150 = .ok (.getfield 126, 3) := by decide +kernel
theorem dX12_gate_153 : decode cX12_gate 153 = .ok (.iconst 1, 1) := by decide +kernel
theorem dX12_gate_154 : decode cX12_gate 154 = .ok (.iadd, 1) := by decide +kernel
theorem dX12_gate_155 : decode cX12_gate 155 = .ok (.putfield 126, 3) := by decide +kernel
theorem dX12_gate_158 : decode cX12_gate 158 = .ok (.aload_n 0, 1) := by decide +kernel
theorem dX12_gate_159 : decode cX12_gate 159 = .ok (.invokevirtual 167, 3) := by decide +kernel
theorem dX12_gate_162 : decode cX12_gate 162 = .ok (.aload_n 0, 1) := by decide +kernel
theorem dX12_gate_163 : decode cX12_gate 163 = .ok (.getfield 126, 3) := by decide +kernel
theorem dX12_gate_166 : decode cX12_gate 166 = .ok (.iconst 1, 1) := by decide +kernel
theorem dX12_gate_167 : decode cX12_gate 167 = .ok (.isub, 1) := by decide +kernel
theorem dX12_gate_168 : decode cX12_gate 168 = .ok (.ireturn, 1) := by decide +kernel
theorem dX12_connect_0 : decode cX12_connect 0 = .ok (.aload_n 0, 1) := by decide +kernel
theorem dX12_connect_1 : decode cX12_connect 1 = .ok (.iconst 0, 1) := by decide +kernel
theorem dX12_connect_2 : decode cX12_connect 2 = .ok (.putfield 122, 3) := by decide +kernel
theorem dX12_connect_5 : decode cX12_connect 5 = .ok (.aload_n 0, 1) := by decide +kernel
theorem dX12_connect_6 : decode cX12_connect 6 = .ok (.iload_n 1, 1) := by decide +kernel
theorem dX12_connect_7 : decode cX12_connect 7 = .ok (.invokevirtual 172, 3) := by decide +kernel
theorem dX12_connect_10 : decode cX12_connect 10 = .ok (.ifCond .eq 11, 3) := by decide +kernel
theorem dX12_connect_13 : decode cX12_connect 13 = .ok (.aload_n 0, 1) := by decide +kernel
theorem dX12_connect_14 : decode cX12_connect 14 = .ok (.iload_n 2, 1) := by decide +kernel
theorem dX12_connect_15 : decode cX12_connect 15 = .ok (.invokevirtual 129, 3) := by decide +kernel
theorem dX12_connect_18 : decode cX12_connect 18 = .ok (.ifCond .ne 5, 3) := by decide +kernel
theorem dX12_connect_21 : decode cX12_connect 21 = .ok (.iconst (-1), 1) := by decide +kernel
theorem dX12_connect_22 : decode cX12_connect 22 = .ok (.ireturn, 1) := by decide +kernel
theorem dX12_connect_23 : decode cX12_connect 23 = .ok (.aload_n 0, 1) := by decide +kernel
theorem dX12_connect_24 : decode cX12_connect 24 = .ok (.getfield 19, 3) := by decide +kernel
theorem dX12_connect_27 : decode cX12_connect 27 = .ok (.iload_n 1, 1) := by decide +kernel
theorem dX12_connect_28 : decode cX12_connect 28 = .ok (.iaload, 1) := by decide +kernel
theorem dX12_connect_29 : decode cX12_connect 29 = .ok (.istore_n 3, 1) := by decide +kernel
theorem dX12_connect_30 : decode cX12_connect 30 = .ok (.aload_n 0, 1) := by decide +kernel
theorem dX12_connect_31 : decode cX12_connect 31 = .ok (.getfield 19, 3) := by decide +kernel
theorem dX12_connect_34 : decode cX12_connect 34 = .ok (.iload_n 1, 1) := by decide +kernel
theorem dX12_connect_35 : decode cX12_connect 35 = .ok (.iload_n 2, 1) := by decide +kernel
theorem dX12_connect_36 : decode cX12_connect 36 = .ok (.iastore, 1) := by decide +kernel
theorem dX12_connect_37 : decode cX12_connect 37 = .ok (.aload_n 0, 1) := by decide +kernel
theorem dX12_connect_38 : decode cX12_connect 38 = .ok (.invokevirtual 167, 3) := by decide +kernel
theorem dX12_connect_41 : decode cX12_connect 41 = .ok (.iload_n 3, 1) := by decide +kernel
theorem dX12_connect_42 : decode cX12_connect 42 = .ok (.ireturn, 1) := by decide +kernel
theorem dX12_bound_0 : decode cX12_bound 0 = .ok (.aload_n 0, 1) := by decide +kernel
theorem dX12_bound_1 : decode cX12_bound 1 = .ok (.iconst 0, 1) := by decide +kernel
theorem dX12_bound_2 : decode cX12_bound 2 = .ok (.putfield 122, 3) := by decide +kernel
theorem dX12_bound_5 : decode cX12_bound 5 = .ok (.iload_n 1, 1) := by decide +kernel
theorem dX12_bound_6 : decode cX12_bound 6 = .ok (.i2l, 1) := by decide +kernel
theorem dX12_bound_7 : decode cX12_bound 7 = .ok (.lconst 0, 1) := by decide +kernel
theorem dX12_bound_8 : decode cX12_bound 8 = .ok (.ldc2_w 154, 3) := by decide +kernel
theorem dX12_bound_11 : decode cX12_bound 11 = .ok (.invokestatic 156, 3) := by decide +kernel
theorem dX12_bound_14 : decode cX12_bound 14 = .ok (.ifCond .eq 32, 3) := by decide +kernel
theorem dX12_bound_17 : decode cX12_bound 17 = .ok (.iload_n 2, 1) := by decide +kernel
theorem dX12_bound_18 : decode cX12_bound 18 = .ok (.i2l, 1) := by decide +kernel
theorem dX12_bound_19 : decode cX12_bound 19 = .ok (.lconst 0, 1) := by decide +kernel
theorem dX12_bound_20 : decode cX12_bound 20 = .ok (.ldc2_w 154, 3) := by decide +kernel
theorem dX12_bound_23 : decode cX12_bound 23 = .ok (.invokestatic 156, 3) := by decide +kernel
theorem dX12_bound_26 : decode cX12_bound 26 = .ok (.ifCond .eq 20, 3) := by decide +kernel
theorem dX12_bound_29 : decode cX12_bound 29 = .ok (.iload_n 1, 1) := by decide +kernel
theorem dX12_bound_30 : decode cX12_bound 30 = .ok (.iload_n 2, 1) := by decide +kernel
theorem dX12_bound_31 : decode cX12_bound 31 = .ok (.if_icmp .eq 15, 3) := by decide +kernel
theorem dX12_bound_34 : decode cX12_bound 34 = .ok (.iload_n 3, 1) := by decide +kernel
theorem dX12_bound_35 : decode cX12_bound 35 = .ok (.i2l, 1) := by decide +kernel
theorem dX12_bound_36 : decode cX12_bound 36 = .ok (.lconst 0, 1) := by decide +kernel
theorem dX12_bound_37 : decode cX12_bound 37 = .ok (.ldc2_w 175, 3) := by decide +kernel
theorem dX12_bound_40 : decode cX12_bound 40 = .ok (.invokestatic 156, 3) := by decide +kernel
theorem dX12_bound_43 : decode cX12_bound 43 = .ok (.ifCond .ne 5, 3) := by decide +kernel
theorem dX12_bound_46 : decode cX12_bound 46 = .ok (.iconst (-1), 1) := by decide +kernel
theorem dX12_bound_47 : decode cX12_bound 47 = .ok (.ireturn, 1) := by decide +kernel
theorem dX12_bound_48 : decode cX12_bound 48 = .ok (.aload_n 0, 1) := by decide +kernel
theorem dX12_bound_49 : decode cX12_bound 49 = .ok (.getfield 32, 3) := by decide +kernel
theorem dX12_bound_52 : decode cX12_bound 52 = .ok (.iconst 4, 1) := by decide +kernel
theorem dX12_bound_53 : decode cX12_bound 53 = .ok (.iload_n 1, 1) := by decide +kernel
theorem dX12_bound_54 : decode cX12_bound 54 = .ok (.imul, 1) := by decide +kernel
theorem dX12_bound_55 : decode cX12_bound 55 = .ok (.iload_n 2, 1) := by decide +kernel
theorem dX12_bound_56 : decode cX12_bound 56 = .ok (.iadd, 1) := by decide +kernel
theorem dX12_bound_57 : decode cX12_bound 57 = .ok (.iaload, 1) := by decide +kernel
theorem dX12_bound_58 : decode cX12_bound 58 = .ok (.istore 4, 2) := by decide +kernel
theorem dX12_bound_60 : decode cX12_bound 60 = .ok (.aload_n 0, 1) := by decide +kernel
theorem dX12_bound_61 : decode cX12_bound 61 = .ok (.getfield 32, 3) := by decide +kernel
theorem dX12_bound_64 : decode cX12_bound 64 = .ok (.iconst 4, 1) := by decide +kernel
theorem dX12_bound_65 : decode cX12_bound 65 = .ok (.iload_n 1, 1) := by decide +kernel
theorem dX12_bound_66 : decode cX12_bound 66 = .ok (.imul, 1) := by decide +kernel
theorem dX12_bound_67 : decode cX12_bound 67 = .ok (.iload_n 2, 1) := by decide +kernel
theorem dX12_bound_68 : decode cX12_bound 68 = .ok (.iadd, 1) := by decide +kernel
theorem dX12_bound_69 : decode cX12_bound 69 = .ok (.iload_n 3, 1) := by decide +kernel
theorem dX12_bound_70 : decode cX12_bound 70 = .ok (.iastore, 1) := by decide +kernel
theorem dX12_bound_71 : decode cX12_bound 71 = .ok (.aload_n 0, 1) := by decide +kernel
theorem dX12_bound_72 : decode cX12_bound 72 = .ok (.invokevirtual 167, 3) := by decide +kernel
theorem dX12_bound_75 : decode cX12_bound 75 = .ok (.iload 4, 2) := by decide +kernel
theorem dX12_bound_77 : decode cX12_bound 77 = .ok (.ireturn, 1) := by decide +kernel
theorem dX12_still_0 : decode cX12_still 0 = .ok (.aload_n 0, 1) := by decide +kernel
theorem dX12_still_1 : decode cX12_still 1 = .ok (.iconst 0, 1) := by decide +kernel
theorem dX12_still_2 : decode cX12_still 2 = .ok (.putfield 122, 3) := by decide +kernel
theorem dX12_still_5 : decode cX12_still 5 = .ok (.aload_n 0, 1) := by decide +kernel
theorem dX12_still_6 : decode cX12_still 6 = .ok (.iload_n 1, 1) := by decide +kernel
theorem dX12_still_7 : decode cX12_still 7 = .ok (.invokevirtual 177, 3) := by decide +kernel
theorem dX12_still_10 : decode cX12_still 10 = .ok (.ifCond .ne 5, 3) := by decide +kernel
theorem dX12_still_13 : decode cX12_still 13 = .ok (.iconst (-1), 1) := by decide +kernel
theorem dX12_still_14 : decode cX12_still 14 = .ok (.ireturn, 1) := by decide +kernel
theorem dX12_still_15 : decode cX12_still 15 = .ok (.aload_n 0, 1) := by decide +kernel
theorem dX12_still_16 : decode cX12_still 16 = .ok (.getfield 28, 3) := by decide +kernel
theorem dX12_still_19 : decode cX12_still 19 = .ok (.iload_n 1, 1) := by decide +kernel
theorem dX12_still_20 : decode cX12_still 20 = .ok (.baload, 1) := by decide +kernel
theorem dX12_still_21 : decode cX12_still 21 = .ok (.istore_n 3, 1) := by decide +kernel
theorem dX12_still_22 : decode cX12_still 22 = .ok (.aload_n 0, 1) := by decide +kernel
theorem dX12_still_23 : decode cX12_still 23 = .ok (.getfield 28, 3) := by decide +kernel
theorem dX12_still_26 : decode cX12_still 26 = .ok (.iload_n 1, 1) := by decide +kernel
theorem dX12_still_27 : decode cX12_still 27 = .ok (.iload_n 2, 1) := by decide +kernel
theorem dX12_still_28 : decode cX12_still 28 = .ok (.bastore, 1) := by decide +kernel
theorem dX12_still_29 : decode cX12_still 29 = .ok (.iload_n 3, 1) := by decide +kernel
theorem dX12_still_30 : decode cX12_still 30 = .ok (.ifCond .eq 7, 3) := by decide +kernel
theorem dX12_still_33 : decode cX12_still 33 = .ok (.iconst 1, 1) := by decide +kernel
theorem dX12_still_34 : decode cX12_still 34 = .ok (.goto 4, 3) := by decide +kernel
theorem dX12_still_37 : decode cX12_still 37 = .ok (.iconst 0, 1) := by decide +kernel
theorem dX12_still_38 : decode cX12_still 38 = .ok (.ireturn, 1) := by decide +kernel
theorem dX12_promise_0 : decode cX12_promise 0 = .ok (.aload_n 0, 1) := by decide +kernel
theorem dX12_promise_1 : decode cX12_promise 1 = .ok (.iconst 0, 1) := by decide +kernel
theorem dX12_promise_2 : decode cX12_promise 2 = .ok (.putfield 122, 3) := by decide +kernel
theorem dX12_promise_5 : decode cX12_promise 5 = .ok (.iload_n 1, 1) := by decide +kernel
theorem dX12_promise_6 : decode cX12_promise 6 = .ok (.i2l, 1) := by decide +kernel
theorem dX12_promise_7 : decode cX12_promise 7 = .ok (.lconst 0, 1) := by decide +kernel
theorem dX12_promise_8 : decode cX12_promise 8 = .ok (.ldc2_w 154, 3) := by decide +kernel
theorem dX12_promise_11 : decode cX12_promise 11 = .ok (.invokestatic 156, 3) := by decide +kernel
theorem dX12_promise_14 : decode cX12_promise 14 = .ok (.ifCond .eq 33, 3) := by decide +kernel
theorem dX12_promise_17 : decode cX12_promise 17 = .ok (.aload_n 0, 1) := by decide +kernel
theorem dX12_promise_18 : decode cX12_promise 18 = .ok (.iload_n 2, 1) := by decide +kernel
theorem dX12_promise_19 : decode cX12_promise 19 = .ok (.invokevirtual 129, 3) := by decide +kernel
theorem dX12_promise_22 : decode cX12_promise 22 = .ok (.ifCond .eq 25, 3) := by decide +kernel
theorem dX12_promise_25 : decode cX12_promise 25 = .ok (.iload_n 1, 1) := by decide +kernel
theorem dX12_promise_26 : decode cX12_promise 26 = .ok (.ifCond .le 11, 3) := by decide +kernel
theorem dX12_promise_29 : decode cX12_promise 29 = .ok (.aload_n 0, 1) := by decide +kernel
theorem dX12_promise_30 : decode cX12_promise 30 = .ok (.iload_n 3, 1) := by decide +kernel
theorem dX12_promise_31 : decode cX12_promise 31 = .ok (.invokevirtual 129, 3) := by decide +kernel
theorem dX12_promise_34 : decode cX12_promise 34 = .ok (.ifCond .eq 13, 3) := by decide +kernel
theorem dX12_promise_37 : decode cX12_promise 37 = .ok (.iload_n 1, 1) := by decide +kernel
theorem dX12_promise_38 : decode cX12_promise 38 = .ok (.iconst 3, 1) := by decide +kernel
theorem dX12_promise_39 : decode cX12_promise 39 = .ok (.if_icmp .ne 10, 3) := by decide +kernel
theorem dX12_promise_42 : decode cX12_promise 42 = .ok (.iload_n 2, 1) := by decide +kernel
theorem dX12_promise_43 : decode cX12_promise 43 = .ok (.iload_n 3, 1) := by decide +kernel
theorem dX12_promise_44 : decode cX12_promise 44 = .ok (.if_icmp .le 5, 3) := by decide +kernel
theorem dX12_promise_47 : decode cX12_promise 47 = .ok (.iconst (-1), 1) := by decide +kernel
theorem dX12_promise_48 : decode cX12_promise 48 = .ok (.ireturn, 1) := by decide +kernel
theorem dX12_promise_49 : decode cX12_promise 49 = .ok (.aload_n 0, 1) := by decide +kernel
theorem dX12_promise_50 : decode cX12_promise 50 = .ok (.getfield 180, 3) := by decide +kernel
theorem dX12_promise_53 : decode cX12_promise 53 = .ok (.bipush 8, 2) := by decide +kernel
theorem dX12_promise_55 : decode cX12_promise 55 = .ok (.if_icmp .ne 6, 3) := by decide +kernel
theorem dX12_promise_58 : decode cX12_promise 58 = .ok (.bipush (-2), 2) := by decide +kernel
theorem dX12_promise_60 : decode cX12_promise 60 = .ok (.ireturn, 1) := by decide +kernel
theorem dX12_promise_61 : decode cX12_promise 61 = .ok (.aload_n 0, 1) := by decide +kernel
theorem dX12_promise_62 : decode cX12_promise 62 = .ok (.getfield 35, 3) := by decide +kernel
theorem dX12_promise_65 : decode cX12_promise 65 = .ok (.aload_n 0, 1) := by decide +kernel
theorem dX12_promise_66 : decode cX12_promise 66 = .ok (.getfield 180, 3) := by decide +kernel
theorem dX12_promise_69 : decode cX12_promise 69 = .ok (.iload_n 1, 1) := by decide +kernel
theorem dX12_promise_70 : decode cX12_promise 70 = .ok (.iastore, 1) := by decide +kernel
theorem dX12_promise_71 : decode cX12_promise 71 = .ok (.aload_n 0, 1) := by decide +kernel
theorem dX12_promise_72 : decode cX12_promise 72 = .ok (.getfield 38, 3) := by decide +kernel
theorem dX12_promise_75 : decode cX12_promise 75 = .ok (.aload_n 0, 1) := by decide +kernel
theorem dX12_promise_76 : decode cX12_promise 76 = .ok (.getfield 180, 3) := by decide +kernel
theorem dX12_promise_79 : decode cX12_promise 79 = .ok (.iload_n 2, 1) := by decide +kernel
theorem dX12_promise_80 : decode cX12_promise 80 = .ok (.iastore, 1) := by decide +kernel
theorem dX12_promise_81 : decode cX12_promise 81 = .ok (.aload_n 0, 1) := by decide +kernel
theorem dX12_promise_82 : decode cX12_promise 82 = .ok (.getfield 41, 3) := by decide +kernel
theorem dX12_promise_85 : decode cX12_promise 85 = .ok (.aload_n 0, 1) := by decide +kernel
theorem dX12_promise_86 : decode cX12_promise 86 = .ok (.getfield 180, 3) := by decide +kernel
theorem dX12_promise_89 : decode cX12_promise 89 = .ok (.iload_n 3, 1) := by decide +kernel
theorem dX12_promise_90 : decode cX12_promise 90 = .ok (.iastore, 1) := by decide +kernel
theorem dX12_promise_91 : decode cX12_promise 91 = .ok (.aload_n 0, 1) := by decide +kernel
theorem dX12_promise_92 : decode cX12_promise 92 = .ok (.dup, 1) := by decide +kernel
theorem dX12_promise_93 : decode cX12_promise 93 = .ok (.getfield 180, 3) := by decide +kernel
theorem dX12_promise_96 : decode cX12_promise 96 = .ok (.iconst 1, 1) := by decide +kernel
theorem dX12_promise_97 : decode cX12_promise 97 = .ok (.iadd, 1) := by decide +kernel
theorem dX12_promise_98 : decode cX12_promise 98 = .ok (.putfield 180, 3) := by decide +kernel
theorem dX12_promise_101 : decode cX12_promise 101 = .ok (.aload_n 0, 1) := by decide +kernel
