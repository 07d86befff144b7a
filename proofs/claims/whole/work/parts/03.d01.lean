theorem dX4_workOut_40 : decode cX4_workOut 40 = .ok (.aload_n 0, 1) := by decide +kernel
theorem dX4_workOut_41 : decode cX4_workOut 41 = .ok (.getfield 40, 3) := by decide +kernel
theorem dX4_workOut_44 : decode cX4_workOut 44 = .ok (.iload_n 1, 1) := by decide +kernel
theorem dX4_workOut_45 : decode cX4_workOut 45 = .ok (.iaload, 1) := by decide +kernel
theorem dX4_workOut_46 : decode cX4_workOut 46 = .ok (.istore 4, 2) := by decide +kernel
theorem dX4_workOut_48 : decode cX4_workOut 48 = .ok (.aload_n 0, 1) := by decide +kernel
theorem dX4_workOut_49 : decode cX4_workOut 49 = .ok (.getfield 52, 3) := by decide +kernel
theorem dX4_workOut_52 : decode cX4_workOut 52 = .ok (.iload_n 1, 1) := by decide +kernel
theorem dX4_workOut_53 : decode cX4_workOut 53 = .ok (.aload_n 0, 1) := by decide +kernel
theorem dX4_workOut_54 : decode cX4_workOut 54 = .ok (.getfield 52, 3) := by decide +kernel
theorem dX4_workOut_57 : decode cX4_workOut 57 = .ok (.iload_n 2, 1) := by decide +kernel
theorem dX4_workOut_58 : decode cX4_workOut 58 = .ok (.iaload, 1) := by decide +kernel
theorem dX4_workOut_59 : decode cX4_workOut 59 = .ok (.aload_n 0, 1) := by decide +kernel
theorem dX4_workOut_60 : decode cX4_workOut 60 = .ok (.getfield 52, 3) := by decide +kernel
theorem dX4_workOut_63 : decode cX4_workOut 63 = .ok (.iload_n 3, 1) := by decide +kernel
theorem dX4_workOut_64 : decode cX4_workOut 64 = .ok (.iaload, 1) := by decide +kernel
theorem dX4_workOut_65 : decode cX4_workOut 65 = .ok (.ior, 1) := by decide +kernel
theorem dX4_workOut_66 : decode cX4_workOut 66 = .ok (.aload_n 0, 1) := by decide +kernel
theorem dX4_workOut_67 : decode cX4_workOut 67 = .ok (.getfield 52, 3) := by decide +kernel
theorem dX4_workOut_70 : decode cX4_workOut 70 = .ok (.iload 4, 2) := by decide +kernel
theorem dX4_workOut_72 : decode cX4_workOut 72 = .ok (.iaload, 1) := by decide +kernel
theorem dX4_workOut_73 : decode cX4_workOut 73 = .ok (.ior, 1) := by decide +kernel
theorem dX4_workOut_74 : decode cX4_workOut 74 = .ok (.iastore, 1) := by decide +kernel
theorem dX4_workOut_75 : decode cX4_workOut 75 = .ok (.iconst 0, 1) := by decide +kernel
theorem dX4_workOut_76 : decode cX4_workOut 76 = .ok (.istore 5, 2) := by decide +kernel
theorem dX4_workOut_78 : decode cX4_workOut 78 = .ok (.iload 5, 2) := by decide +kernel
theorem dX4_workOut_80 : decode cX4_workOut 80 = .ok (.bipush 16, 2) := by decide +kernel
theorem dX4_workOut_82 : decode cX4_workOut 82 = .ok (.if_icmp .ge 67, 3) := by decide +kernel
theorem dX4_workOut_85 : decode cX4_workOut 85 = .ok (.aload_n 0, 1) := by decide +kernel
theorem dX4_workOut_86 : decode cX4_workOut 86 = .ok (.getfield 55, 3) := by decide +kernel
theorem dX4_workOut_89 : decode cX4_workOut 89 = .ok (.iload_n 1, 1) := by decide +kernel
theorem dX4_workOut_90 : decode cX4_workOut 90 = .ok (.bipush 16, 2) := by decide +kernel
theorem dX4_workOut_92 : decode cX4_workOut 92 = .ok (.imul, 1) := by decide +kernel
theorem dX4_workOut_93 : decode cX4_workOut 93 = .ok (.iload 5, 2) := by decide +kernel
theorem dX4_workOut_95 : decode cX4_workOut 95 = .ok (.iadd, 1) := by decide +kernel
theorem dX4_workOut_96 : decode cX4_workOut 96 = .ok (.aload_n 0, 1) := by decide +kernel
theorem dX4_workOut_97 : decode cX4_workOut 97 = .ok (.getfield 27, 3) := by decide +kernel
theorem dX4_workOut_100 : decode cX4_workOut 100 = .ok (.iload_n 1, 1) := by decide +kernel
theorem dX4_workOut_101 : decode cX4_workOut 101 = .ok (.iaload, 1) := by decide +kernel
theorem dX4_workOut_102 : decode cX4_workOut 102 = .ok (.aload_n 0, 1) := by decide +kernel
theorem dX4_workOut_103 : decode cX4_workOut 103 = .ok (.getfield 55, 3) := by decide +kernel
theorem dX4_workOut_106 : decode cX4_workOut 106 = .ok (.iload_n 2, 1) := by decide +kernel
theorem dX4_workOut_107 : decode cX4_workOut 107 = .ok (.bipush 16, 2) := by decide +kernel
theorem dX4_workOut_109 : decode cX4_workOut 109 = .ok (.imul, 1) := by decide +kernel
theorem dX4_workOut_110 : decode cX4_workOut 110 = .ok (.iload 5, 2) := by decide +kernel
theorem dX4_workOut_112 : decode cX4_workOut 112 = .ok (.iadd, 1) := by decide +kernel
theorem dX4_workOut_113 : decode cX4_workOut 113 = .ok (.laload, 1) := by decide +kernel
theorem dX4_workOut_114 : decode cX4_workOut 114 = .ok (.aload_n 0, 1) := by decide +kernel
theorem dX4_workOut_115 : decode cX4_workOut 115 = .ok (.getfield 55, 3) := by decide +kernel
theorem dX4_workOut_118 : decode cX4_workOut 118 = .ok (.iload_n 3, 1) := by decide +kernel
theorem dX4_workOut_119 : decode cX4_workOut 119 = .ok (.bipush 16, 2) := by decide +kernel
theorem dX4_workOut_121 : decode cX4_workOut 121 = .ok (.imul, 1) := by decide +kernel
theorem dX4_workOut_122 : decode cX4_workOut 122 = .ok (.iload 5, 2) := by decide +kernel
theorem dX4_workOut_124 : decode cX4_workOut 124 = .ok (.iadd, 1) := by decide +kernel
theorem dX4_workOut_125 : decode cX4_workOut 125 = .ok (.laload, 1) := by decide +kernel
theorem dX4_workOut_126 : decode cX4_workOut 126 = .ok (.aload_n 0, 1) := by decide +kernel
theorem dX4_workOut_127 : decode cX4_workOut 127 = .ok (.getfield 55, 3) := by decide +kernel
theorem dX4_workOut_130 : decode cX4_workOut 130 = .ok (.iload 4, 2) := by decide +kernel
theorem dX4_workOut_132 : decode cX4_workOut 132 = .ok (.bipush 16, 2) := by decide +kernel
theorem dX4_workOut_134 : decode cX4_workOut 134 = .ok (.imul, 1) := by decide +kernel
theorem dX4_workOut_135 : decode cX4_workOut 135 = .ok (.iload 5, 2) := by decide +kernel
theorem dX4_workOut_137 : decode cX4_workOut 137 = .ok (.iadd, 1) := by decide +kernel
theorem dX4_workOut_138 : decode cX4_workOut 138 = .ok (.laload, 1) := by decide +kernel
theorem dX4_workOut_139 : decode cX4_workOut 139 = .ok (.invokestatic 84, 3) := by decide +kernel
theorem dX4_workOut_142 : decode cX4_workOut 142 = .ok (.lastore, 1) := by decide +kernel
theorem dX4_workOut_143 : decode cX4_workOut 143 = .ok (.iinc 5 1, 3) := by decide +kernel
theorem dX4_workOut_146 : decode cX4_workOut 146 = .ok (.goto (-68), 3) := by decide +kernel
theorem dX4_workOut_149 : decode cX4_workOut 149 = .ok (.return_, 1) := by decide +kernel
theorem dX4_wordOfBit_0 : decode cX4_wordOfBit 0 = .ok (.iload_n 0, 1) := by decide +kernel
theorem dX4_wordOfBit_1 : decode cX4_wordOfBit 1 = .ok (.getstatic 79, 3) := by decide +kernel
theorem dX4_wordOfBit_4 : decode cX4_wordOfBit 4 = .ok (.arraylength, 1) := by decide +kernel
theorem dX4_wordOfBit_5 : decode cX4_wordOfBit 5 = .ok (.if_icmp .ge 9, 3) := by decide +kernel
theorem dX4_wordOfBit_8 : decode cX4_wordOfBit 8 = .ok (.getstatic 79, 3) := by decide +kernel
theorem dX4_wordOfBit_11 : decode cX4_wordOfBit 11 = .ok (.iload_n 0, 1) := by decide +kernel
theorem dX4_wordOfBit_12 : decode cX4_wordOfBit 12 = .ok (.laload, 1) := by decide +kernel
theorem dX4_wordOfBit_13 : decode cX4_wordOfBit 13 = .ok (.lreturn, 1) := by decide +kernel
theorem dX4_wordOfBit_14 : decode cX4_wordOfBit 14 = .ok (.iload_n 1, 1) := by decide +kernel
theorem dX4_wordOfBit_15 : decode cX4_wordOfBit 15 = .ok (.iload_n 0, 1) := by decide +kernel
theorem dX4_wordOfBit_16 : decode cX4_wordOfBit 16 = .ok (.getstatic 79, 3) := by decide +kernel
theorem dX4_wordOfBit_19 : decode cX4_wordOfBit 19 = .ok (.arraylength, 1) := by decide +kernel
theorem dX4_wordOfBit_20 : decode cX4_wordOfBit 20 = .ok (.isub, 1) := by decide +kernel
theorem dX4_wordOfBit_21 : decode cX4_wordOfBit 21 = .ok (.ishr, 1) := by decide +kernel
theorem dX4_wordOfBit_22 : decode cX4_wordOfBit 22 = .ok (.iconst 1, 1) := by decide +kernel
theorem dX4_wordOfBit_23 : decode cX4_wordOfBit 23 = .ok (.iand, 1) := by decide +kernel
theorem dX4_wordOfBit_24 : decode cX4_wordOfBit 24 = .ok (.iconst 1, 1) := by decide +kernel
theorem dX4_wordOfBit_25 : decode cX4_wordOfBit 25 = .ok (.if_icmp .ne 9, 3) := by decide +kernel
theorem dX4_wordOfBit_28 : decode cX4_wordOfBit 28 = .ok (.ldc2_w 82, 3) := by decide +kernel
theorem dX4_wordOfBit_31 : decode cX4_wordOfBit 31 = .ok (.goto 4, 3) := by decide +kernel
theorem dX4_wordOfBit_34 : decode cX4_wordOfBit 34 = .ok (.lconst 0, 1) := by decide +kernel
theorem dX4_wordOfBit_35 : decode cX4_wordOfBit 35 = .ok (.lreturn, 1) := by decide +kernel
theorem dX4_wordOfGate_0 : decode cX4_wordOfGate 0 = .ok (.iload_n 0, 1) := by decide +kernel
theorem dX4_wordOfGate_1 : decode cX4_wordOfGate 1 = .ok (.tableswitch 49 0 3 #[31, 35, 39, 43], 31) := by decide +kernel
theorem dX4_wordOfGate_32 : decode cX4_wordOfGate 32 = .ok (.lload_n 1, 1) := by decide +kernel
theorem dX4_wordOfGate_33 : decode cX4_wordOfGate 33 = .ok (.lload_n 3, 1) := by decide +kernel
theorem dX4_wordOfGate_34 : decode cX4_wordOfGate 34 = .ok (.land, 1) := by decide +kernel
theorem dX4_wordOfGate_35 : decode cX4_wordOfGate 35 = .ok (.lreturn, 1) := by decide +kernel
theorem dX4_wordOfGate_36 : decode cX4_wordOfGate 36 = .ok (.lload_n 1, 1) := by decide +kernel
theorem dX4_wordOfGate_37 : decode cX4_wordOfGate 37 = .ok (.lload_n 3, 1) := by decide +kernel
theorem dX4_wordOfGate_38 : decode cX4_wordOfGate 38 = .ok (.lor, 1) := by decide +kernel
theorem dX4_wordOfGate_39 : decode cX4_wordOfGate 39 = .ok (.lreturn, 1) := by decide +kernel
theorem dX4_wordOfGate_40 : decode cX4_wordOfGate 40 = .ok (.lload_n 1, 1) := by decide +kernel
theorem dX4_wordOfGate_41 : decode cX4_wordOfGate 41 = .ok (.lload_n 3, 1) := by decide +kernel
theorem dX4_wordOfGate_42 : decode cX4_wordOfGate 42 = .ok (.lxor, 1) := by decide +kernel
theorem dX4_wordOfGate_43 : decode cX4_wordOfGate 43 = .ok (.lreturn, 1) := by decide +kernel
theorem dX4_wordOfGate_44 : decode cX4_wordOfGate 44 = .ok (.lload_n 1, 1) := by decide +kernel
theorem dX4_wordOfGate_45 : decode cX4_wordOfGate 45 = .ok (.ldc2_w 82, 3) := by decide +kernel
theorem dX4_wordOfGate_48 : decode cX4_wordOfGate 48 = .ok (.lxor, 1) := by decide +kernel
theorem dX4_wordOfGate_49 : decode cX4_wordOfGate 49 = .ok (.lreturn, 1) := by decide +kernel
theorem dX4_wordOfGate_50 : decode cX4_wordOfGate 50 = .ok (.lload_n 1, 1) := by decide +kernel
theorem dX4_wordOfGate_51 : decode cX4_wordOfGate 51 = .ok (.lload_n 3, 1) := by decide +kernel
theorem dX4_wordOfGate_52 : decode cX4_wordOfGate 52 = .ok (.land, 1) := by decide +kernel
theorem dX4_wordOfGate_53 : decode cX4_wordOfGate 53 = .ok (.lload_n 1, 1) := by decide +kernel
theorem dX4_wordOfGate_54 : decode cX4_wordOfGate 54 = .ok (.ldc2_w 82, 3) := by decide +kernel
theorem dX4_wordOfGate_57 : decode cX4_wordOfGate 57 = .ok (.lxor, 1) := by decide +kernel
theorem dX4_wordOfGate_58 : decode cX4_wordOfGate 58 = .ok (.lload 5, 2) := by decide +kernel
theorem dX4_wordOfGate_60 : decode cX4_wordOfGate 60 = .ok (.land, 1) := by decide +kernel
theorem dX4_wordOfGate_61 : decode cX4_wordOfGate 61 = .ok (.lor, 1) := by decide +kernel
theorem dX4_wordOfGate_62 : decode cX4_wordOfGate 62 = .ok (.lreturn, 1) := by decide +kernel
theorem dX5_init_0 : decode cX5_init 0 = .ok (.aload_n 0, 1) := by decide +kernel
theorem dX5_init_1 : decode cX5_init 1 = .ok (.invokespecial 3, 3) := by decide +kernel
theorem dX5_init_4 : decode cX5_init 4 = .ok (.aload_n 0, 1) := by decide +kernel
theorem dX5_init_5 : decode cX5_init 5 = .ok (.iconst 0, 1) := by decide +kernel
theorem dX5_init_6 : decode cX5_init 6 = .ok (.putfield 9, 3) := by decide +kernel
theorem dX5_init_9 : decode cX5_init 9 = .ok (.aload_n 0, 1) := by decide +kernel
theorem dX5_init_10 : decode cX5_init 10 = .ok (.bipush 8, 2) := by decide +kernel
theorem dX5_init_12 : decode cX5_init 12 = .ok (.newarray .int, 2) := by decide +kernel
theorem dX5_init_14 : decode cX5_init 14 = .ok (.putfield 15, 3) := by decide +kernel
theorem dX5_init_17 : decode cX5_init 17 = .ok (.aload_n 0, 1) := by decide +kernel
theorem dX5_init_18 : decode cX5_init 18 = .ok (.bipush 8, 2) := by decide +kernel
theorem dX5_init_20 : decode cX5_init 20 = .ok (.newarray .int, 2) := by decide +kernel
theorem dX5_init_22 : decode cX5_init 22 = .ok (.putfield 19, 3) := by decide +kernel
theorem dX5_init_25 : decode cX5_init 25 = .ok (.aload_n 0, 1) := by decide +kernel
theorem dX5_init_26 : decode cX5_init 26 = .ok (.bipush 8, 2) := by decide +kernel
theorem dX5_init_28 : decode cX5_init 28 = .ok (.newarray .int, 2) := by decide +kernel
theorem dX5_init_30 : decode cX5_init 30 = .ok (.putfield 22, 3) := by decide +kernel
theorem dX5_init_33 : decode cX5_init 33 = .ok (.aload_n 0, 1) := by decide +kernel
theorem dX5_init_34 : decode cX5_init 34 = .ok (.bipush 8, 2) := by decide +kernel
theorem dX5_init_36 : decode cX5_init 36 = .ok (.newarray .int, 2) := by decide +kernel
theorem dX5_init_38 : decode cX5_init 38 = .ok (.putfield 25, 3) := by decide +kernel
theorem dX5_init_41 : decode cX5_init 41 = .ok (.aload_n 0, 1) := by decide +kernel
theorem dX5_init_42 : decode cX5_init 42 = .ok (.aload_n 1, 1) := by decide +kernel
theorem dX5_init_43 : decode cX5_init 43 = .ok (.putfield 28, 3) := by decide +kernel
theorem dX5_init_46 : decode cX5_init 46 = .ok (.return_, 1) := by decide +kernel
theorem dX5_has_0 : decode cX5_has 0 = .ok (.iload_n 1, 1) := by decide +kernel
theorem dX5_has_1 : decode cX5_has 1 = .ok (.ifCond .lt 15, 3) := by decide +kernel
theorem dX5_has_4 : decode cX5_has 4 = .ok (.iload_n 1, 1) := by decide +kernel
theorem dX5_has_5 : decode cX5_has 5 = .ok (.aload_n 0, 1) := by decide +kernel
theorem dX5_has_6 : decode cX5_has 6 = .ok (.getfield 9, 3) := by decide +kernel
theorem dX5_has_9 : decode cX5_has 9 = .ok (.if_icmp .ge 7, 3) := by decide +kernel
theorem dX5_has_12 : decode cX5_has 12 = .ok (.iconst 1, 1) := by decide +kernel
theorem dX5_has_13 : decode cX5_has 13 = .ok (.goto 4, 3) := by decide +kernel
theorem dX5_has_16 : decode cX5_has 16 = .ok (.iconst 0, 1) := by decide +kernel
theorem dX5_has_17 : decode cX5_has 17 = .ok (.ireturn, 1) := by decide +kernel
theorem dX5_add_0 : decode cX5_add 0 = .ok (.aload_n 0, 1) := by decide +kernel
theorem dX5_add_1 : decode cX5_add 1 = .ok (.getfield 9, 3) := by decide +kernel
theorem dX5_add_4 : decode cX5_add 4 = .ok (.istore 4, 2) := by decide +kernel
theorem dX5_add_6 : decode cX5_add 6 = .ok (.aload_n 0, 1) := by decide +kernel
theorem dX5_add_7 : decode cX5_add 7 = .ok (.getfield 15, 3) := by decide +kernel
theorem dX5_add_10 : decode cX5_add 10 = .ok (.iload 4, 2) := by decide +kernel
theorem dX5_add_12 : decode cX5_add 12 = .ok (.iload_n 1, 1) := by decide +kernel
theorem dX5_add_13 : decode cX5_add 13 = .ok (.iastore, 1) := by decide +kernel
theorem dX5_add_14 : decode cX5_add 14 = .ok (.aload_n 0, 1) := by decide +kernel
theorem dX5_add_15 : decode cX5_add 15 = .ok (.getfield 19, 3) := by decide +kernel
theorem dX5_add_18 : decode cX5_add 18 = .ok (.iload 4, 2) := by decide +kernel
theorem dX5_add_20 : decode cX5_add 20 = .ok (.iload_n 2, 1) := by decide +kernel
theorem dX5_add_21 : decode cX5_add 21 = .ok (.iastore, 1) := by decide +kernel
theorem dX5_add_22 : decode cX5_add 22 = .ok (.aload_n 0, 1) := by decide +kernel
theorem dX5_add_23 : decode cX5_add 23 = .ok (.getfield 22, 3) := by decide +kernel
theorem dX5_add_26 : decode cX5_add 26 = .ok (.iload 4, 2) := by decide +kernel
theorem dX5_add_28 : decode cX5_add 28 = .ok (.iload_n 3, 1) := by decide +kernel
theorem dX5_add_29 : decode cX5_add 29 = .ok (.iastore, 1) := by decide +kernel
theorem dX5_add_30 : decode cX5_add 30 = .ok (.aload_n 0, 1) := by decide +kernel
theorem dX5_add_31 : decode cX5_add 31 = .ok (.getfield 25, 3) := by decide +kernel
theorem dX5_add_34 : decode cX5_add 34 = .ok (.iload 4, 2) := by decide +kernel
theorem dX5_add_36 : decode cX5_add 36 = .ok (.aload_n 0, 1) := by decide +kernel
theorem dX5_add_37 : decode cX5_add 37 = .ok (.getfield 28, 3) := by decide +kernel
theorem dX5_add_40 : decode cX5_add 40 = .ok (.iload_n 2, 1) := by decide +kernel
theorem dX5_add_41 : decode cX5_add 41 = .ok (.iload_n 3, 1) := by decide +kernel
theorem dX5_add_42 : decode cX5_add 42 = .ok (.invokevirtual 32, 3) := by decide +kernel
theorem dX5_add_45 : decode cX5_add 45 = .ok (.iastore, 1) := by decide +kernel
theorem dX5_add_46 : decode cX5_add 46 = .ok (.aload_n 0, 1) := by decide +kernel
theorem dX5_add_47 : decode cX5_add 47 = .ok (.dup, 1) := by decide +kernel
theorem dX5_add_48 : decode cX5_add 48 = .ok (.getfield 9, 3) := by decide +kernel
theorem dX5_add_51 : decode cX5_add 51 = .ok (.iconst 1, 1) := by decide +kernel
theorem dX5_add_52 : decode cX5_add 52 = .ok (.iadd, 1) := by decide +kernel
theorem dX5_add_53 : decode cX5_add 53 = .ok (.putfield 9, 3) := by decide +kernel
theorem dX5_add_56 : decode cX5_add 56 = .ok (.iload 4, 2) := by decide +kernel
theorem dX5_add_58 : decode cX5_add 58 = .ok (.ireturn, 1) := by decide +kernel
theorem dX5_holds_0 : decode cX5_holds 0 = .ok (.aload_n 0, 1) := by decide +kernel
theorem dX5_holds_1 : decode cX5_holds 1 = .ok (.getfield 15, 3) := by decide +kernel
theorem dX5_holds_4 : decode cX5_holds 4 = .ok (.iload_n 1, 1) := by decide +kernel
theorem dX5_holds_5 : decode cX5_holds 5 = .ok (.iaload, 1) := by decide +kernel
theorem dX5_holds_6 : decode cX5_holds 6 = .ok (.tableswitch 125 0 2 #[26, 50, 88], 26) := by decide +kernel
theorem dX5_holds_32 : decode cX5_holds 32 = .ok (.aload_n 0, 1) := by decide +kernel
theorem dX5_holds_33 : decode cX5_holds 33 = .ok (.getfield 28, 3) := by decide +kernel
theorem dX5_holds_36 : decode cX5_holds 36 = .ok (.aload_n 0, 1) := by decide +kernel
theorem dX5_holds_37 : decode cX5_holds 37 = .ok (.getfield 19, 3) := by decide +kernel
theorem dX5_holds_40 : decode cX5_holds 40 = .ok (.iload_n 1, 1) := by decide +kernel
theorem dX5_holds_41 : decode cX5_holds 41 = .ok (.iaload, 1) := by decide +kernel
theorem dX5_holds_42 : decode cX5_holds 42 = .ok (.iload_n 3, 1) := by decide +kernel
theorem dX5_holds_43 : decode cX5_holds 43 = .ok (.invokevirtual 38, 3) := by decide +kernel
theorem dX5_holds_46 : decode cX5_holds 46 = .ok (.iconst 1, 1) := by decide +kernel
theorem dX5_holds_47 : decode cX5_holds 47 = .ok (.if_icmp .ne 7, 3) := by decide +kernel
theorem dX5_holds_50 : decode cX5_holds 50 = .ok (.iconst 1, 1) := by decide +kernel
theorem dX5_holds_51 : decode cX5_holds 51 = .ok (.goto 4, 3) := by decide +kernel
theorem dX5_holds_54 : decode cX5_holds 54 = .ok (.iconst 0, 1) := by decide +kernel
theorem dX5_holds_55 : decode cX5_holds 55 = .ok (.ireturn, 1) := by decide +kernel
theorem dX5_holds_56 : decode cX5_holds 56 = .ok (.aload_n 0, 1) := by decide +kernel
theorem dX5_holds_57 : decode cX5_holds 57 = .ok (.getfield 28, 3) := by decide +kernel
theorem dX5_holds_60 : decode cX5_holds 60 = .ok (.aload_n 0, 1) := by decide +kernel
theorem dX5_holds_61 : decode cX5_holds 61 = .ok (.getfield 19, 3) := by decide +kernel
theorem dX5_holds_64 : decode cX5_holds 64 = .ok (.iload_n 1, 1) := by decide +kernel
theorem dX5_holds_65 : decode cX5_holds 65 = .ok (.iaload, 1) := by decide +kernel
theorem dX5_holds_66 : decode cX5_holds 66 = .ok (.iload_n 3, 1) := by decide +kernel
theorem dX5_holds_67 : decode cX5_holds 67 = .ok (.invokevirtual 38, 3) := by decide +kernel
theorem dX5_holds_70 : decode cX5_holds 70 = .ok (.aload_n 0, 1) := by decide +kernel
theorem dX5_holds_71 : decode cX5_holds 71 = .ok (.getfield 28, 3) := by decide +kernel
theorem dX5_holds_74 : decode cX5_holds 74 = .ok (.aload_n 0, 1) := by decide +kernel
theorem dX5_holds_75 : decode cX5_holds 75 = .ok (.getfield 22, 3) := by decide +kernel
theorem dX5_holds_78 : decode cX5_holds 78 = .ok (.iload_n 1, 1) := by decide +kernel
theorem dX5_holds_79 : decode cX5_holds 79 = .ok (.iaload, 1) := by decide +kernel
theorem dX5_holds_80 : decode cX5_holds 80 = .ok (.iload_n 3, 1) := by decide +kernel
theorem dX5_holds_81 : decode cX5_holds 81 = .ok (.invokevirtual 38, 3) := by decide +kernel
theorem dX5_holds_84 : decode cX5_holds 84 = .ok (.iand, 1) := by decide +kernel
theorem dX5_holds_85 : decode cX5_holds 85 = .ok (.ifCond .ne 7, 3) := by decide +kernel
theorem dX5_holds_88 : decode cX5_holds 88 = .ok (.iconst 1, 1) := by decide +kernel
theorem dX5_holds_89 : decode cX5_holds 89 = .ok (.goto 4, 3) := by decide +kernel
theorem dX5_holds_92 : decode cX5_holds 92 = .ok (.iconst 0, 1) := by decide +kernel
theorem dX5_holds_93 : decode cX5_holds 93 = .ok (.ireturn, 1) := by decide +kernel
theorem dX5_holds_94 : decode cX5_holds 94 = .ok (.aload_n 0, 1) := by decide +kernel
theorem dX5_holds_95 : decode cX5_holds 95 = .ok (.getfield 28, 3) := by decide +kernel
theorem dX5_holds_98 : decode cX5_holds 98 = .ok (.aload_n 0, 1) := by decide +kernel
theorem dX5_holds_99 : decode cX5_holds 99 = .ok (.getfield 19, 3) := by decide +kernel
theorem dX5_holds_102 : decode cX5_holds 102 = .ok (.iload_n 1, 1) := by decide +kernel
theorem dX5_holds_103 : decode cX5_holds 103 = .ok (.iaload, 1) := by decide +kernel
theorem dX5_holds_104 : decode cX5_holds 104 = .ok (.iload_n 3, 1) := by decide +kernel
theorem dX5_holds_105 : decode cX5_holds 105 = .ok (.invokevirtual 38, 3) := by decide +kernel
theorem dX5_holds_108 : decode cX5_holds 108 = .ok (.aload_n 0, 1) := by decide +kernel
theorem dX5_holds_109 : decode cX5_holds 109 = .ok (.getfield 28, 3) := by decide +kernel
theorem dX5_holds_112 : decode cX5_holds 112 = .ok (.aload_n 0, 1) := by decide +kernel
theorem dX5_holds_113 : decode cX5_holds 113 = .ok (.getfield 22, 3) := by decide +kernel
theorem dX5_holds_116 : decode cX5_holds 116 = .ok (.iload_n 1, 1) := by decide +kernel
theorem dX5_holds_117 : decode cX5_holds 117 = .ok (.iaload, 1) := by decide +kernel
theorem dX5_holds_118 : decode cX5_holds 118 = .ok (.iload_n 3, 1) := by decide +kernel
theorem dX5_holds_119 : decode cX5_holds 119 = .ok (.invokevirtual 38, 3) := by decide +kernel
theorem dX5_holds_122 : decode cX5_holds 122 = .ok (.if_icmp .ne 7, 3) := by decide +kernel
theorem dX5_holds_125 : decode cX5_holds 125 = .ok (.iconst 1, 1) := by decide +kernel
theorem dX5_holds_126 : decode cX5_holds 126 = .ok (.goto 4, 3) := by decide +kernel
theorem dX5_holds_129 : decode cX5_holds 129 = .ok (.iconst 0, 1) := by decide +kernel
theorem dX5_holds_130 : decode cX5_holds 130 = .ok (.ireturn, 1) := by decide +kernel
theorem dX5_holds_131 : decode cX5_holds 131 = .ok (.iload_n 2, 1) := by decide +kernel
theorem dX5_holds_132 : decode cX5_holds 132 = .ok (.iload_n 3, 1) := by decide +kernel
theorem dX5_holds_133 : decode cX5_holds 133 = .ok (.ixor, 1) := by decide +kernel
theorem dX5_holds_134 : decode cX5_holds 134 = .ok (.aload_n 0, 1) := by decide +kernel
theorem dX5_holds_135 : decode cX5_holds 135 = .ok (.getfield 25, 3) := by decide +kernel
theorem dX5_holds_138 : decode cX5_holds 138 = .ok (.iload_n 1, 1) := by decide +kernel
theorem dX5_holds_139 : decode cX5_holds 139 = .ok (.iaload, 1) := by decide +kernel
theorem dX5_holds_140 : decode cX5_holds 140 = .ok (.iand, 1) := by decide +kernel
theorem dX5_holds_141 : decode cX5_holds 141 = .ok (.invokestatic 41, 3) := by decide +kernel
theorem dX5_holds_144 : decode cX5_holds 144 = .ok (.iconst 1, 1) := by decide +kernel
theorem dX5_holds_145 : decode cX5_holds 145 = .ok (.if_icmp .gt 7, 3) := by decide +kernel
theorem dX5_holds_148 : decode cX5_holds 148 = .ok (.iconst 1, 1) := by decide +kernel
theorem dX5_holds_149 : decode cX5_holds 149 = .ok (.goto 4, 3) := by decide +kernel
theorem dX5_holds_152 : decode cX5_holds 152 = .ok (.iconst 0, 1) := by decide +kernel
theorem dX5_holds_153 : decode cX5_holds 153 = .ok (.ireturn, 1) := by decide +kernel
theorem dX6_init_0 : decode cX6_init 0 = .ok (.aload_n 0, 1) := by decide +kernel
theorem dX6_init_1 : decode cX6_init 1 = .ok (.invokespecial 3, 3) := by decide +kernel
theorem dX6_init_4 : decode cX6_init 4 = .ok (.aload_n 0, 1) := by decide +kernel
theorem dX6_init_5 : decode cX6_init 5 = .ok (.iload_n 1, 1) := by decide +kernel
theorem dX6_init_6 : decode cX6_init 6 = .ok (.putfield 9, 3) := by decide +kernel
theorem dX6_init_9 : decode cX6_init 9 = .ok (.aload_n 0, 1) := by decide +kernel
theorem dX6_init_10 : decode cX6_init 10 = .ok (.iload_n 2, 1) := by decide +kernel
theorem dX6_init_11 : decode cX6_init 11 = .ok (.ifCond .ge 7, 3) := by decide +kernel
theorem dX6_init_14 : decode cX6_init 14 = .ok (.iconst 0, 1) := by decide +kernel
theorem dX6_init_15 : decode cX6_init 15 = .ok (.goto 4, 3) := by decide +kernel
theorem dX6_init_18 : decode cX6_init 18 = .ok (.iload_n 2, 1) := by decide +kernel
theorem dX6_init_19 : decode cX6_init 19 = .ok (.newarray .int, 2) := by decide +kernel
theorem dX6_init_21 : decode cX6_init 21 = .ok (.putfield 15, 3) := by decide +kernel
theorem dX6_init_24 : decode cX6_init 24 = .ok (.return_, 1) := by decide +kernel
theorem dX6_hasSpan_0 : decode cX6_hasSpan 0 = .ok (.iload_n 1, 1) := by decide +kernel
theorem dX6_hasSpan_1 : decode cX6_hasSpan 1 = .ok (.ifCond .lt 31, 3) := by decide +kernel
theorem dX6_hasSpan_4 : decode cX6_hasSpan 4 = .ok (.iload_n 2, 1) := by decide +kernel
theorem dX6_hasSpan_5 : decode cX6_hasSpan 5 = .ok (.ifCond .lt 27, 3) := by decide +kernel
theorem dX6_hasSpan_8 : decode cX6_hasSpan 8 = .ok (.iload_n 1, 1) := by decide +kernel
theorem dX6_hasSpan_9 : decode cX6_hasSpan 9 = .ok (.aload_n 0, 1) := by decide +kernel
theorem dX6_hasSpan_10 : decode cX6_hasSpan 10 = .ok (.getfield 15, 3) := by decide +kernel
theorem dX6_hasSpan_13 : decode cX6_hasSpan 13 = .ok (.arraylength, 1) := by decide +kernel
theorem dX6_hasSpan_14 : decode cX6_hasSpan 14 = .ok (.if_icmp .gt 18, 3) := by decide +kernel
theorem dX6_hasSpan_17 : decode cX6_hasSpan 17 = .ok (.iload_n 2, 1) := by decide +kernel
theorem dX6_hasSpan_18 : decode cX6_hasSpan 18 = .ok (.aload_n 0, 1) := by decide +kernel
theorem dX6_hasSpan_19 : decode cX6_hasSpan 19 = .ok (.getfield 15, 3) := by decide +kernel
theorem dX6_hasSpan_22 : decode cX6_hasSpan 22 = .ok (.arraylength, 1) := by decide +kernel
theorem dX6_hasSpan_23 : decode cX6_hasSpan 23 = .ok (.iload_n 1, 1) := by decide +kernel
theorem dX6_hasSpan_24 : decode cX6_hasSpan 24 = .ok (.isub, 1) := by decide +kernel
theorem dX6_hasSpan_25 : decode cX6_hasSpan 25 = .ok (.if_icmp .gt 7, 3) := by decide +kernel
theorem dX6_hasSpan_28 : decode cX6_hasSpan 28 = .ok (.iconst 1, 1) := by decide +kernel
theorem dX6_hasSpan_29 : decode cX6_hasSpan 29 = .ok (.goto 4, 3) := by decide +kernel
theorem dX6_hasSpan_32 : decode cX6_hasSpan 32 = .ok (.iconst 0, 1) := by decide +kernel
theorem dX6_hasSpan_33 : decode cX6_hasSpan 33 = .ok (.ireturn, 1) := by decide +kernel
theorem dX6_weigh_0 : decode cX6_weigh 0 = .ok (.bipush (-12), 2) := by decide +kernel
theorem dX6_weigh_2 : decode cX6_weigh 2 = .ok (.ireturn, 1) := by decide +kernel
theorem dX6_clockOfFailure_0 : decode cX6_clockOfFailure 0 = .ok (.bipush (-12), 2) := by decide +kernel
theorem dX6_clockOfFailure_2 : decode cX6_clockOfFailure 2 = .ok (.ireturn, 1) := by decide +kernel
theorem dX7_init_0 : decode cX7_init 0 = .ok (.aload_n 0, 1) := by decide +kernel
theorem dX7_init_1 : decode cX7_init 1 = .ok (.invokespecial 3, 3) := by decide +kernel
theorem dX7_init_4 : decode cX7_init 4 = .ok (.aload_n 0, 1) := by decide +kernel
theorem dX7_init_5 : decode cX7_init 5 = .ok (.iconst 0, 1) := by decide +kernel
theorem dX7_init_6 : decode cX7_init 6 = .ok (.putfield 9, 3) := by decide +kernel
theorem dX7_init_9 : decode cX7_init 9 = .ok (.aload_n 0, 1) := by decide +kernel
theorem dX7_init_10 : decode cX7_init 10 = .ok (.iconst 0, 1) := by decide +kernel
theorem dX7_init_11 : decode cX7_init 11 = .ok (.putfield 15, 3) := by decide +kernel
theorem dX7_init_14 : decode cX7_init 14 = .ok (.aload_n 0, 1) := by decide +kernel
theorem dX7_init_15 : decode cX7_init 15 = .ok (.lconst 0, 1) := by decide +kernel
theorem dX7_init_16 : decode cX7_init 16 = .ok (.putfield 18, 3) := by decide +kernel
theorem dX7_init_19 : decode cX7_init 19 = .ok (.aload_n 0, 1) := by decide +kernel
theorem dX7_init_20 : decode cX7_init 20 = .ok (.bipush 61, 2) := by decide +kernel
theorem dX7_init_22 : decode cX7_init 22 = .ok (.newarray .int, 2) := by decide +kernel
theorem dX7_init_24 : decode cX7_init 24 = .ok (.putfield 22, 3) := by decide +kernel
theorem dX7_init_27 : decode cX7_init 27 = .ok (.aload_n 0, 1) := by decide +kernel
theorem dX7_init_28 : decode cX7_init 28 = .ok (.bipush 60, 2) := by decide +kernel
theorem dX7_init_30 : decode cX7_init 30 = .ok (.newarray .int, 2) := by decide +kernel
theorem dX7_init_32 : decode cX7_init 32 = .ok (.putfield 26, 3) := by decide +kernel
theorem dX7_init_35 : decode cX7_init 35 = .ok (.aload_n 0, 1) := by decide +kernel
theorem dX7_init_36 : decode cX7_init 36 = .ok (.aload_n 1, 1) := by decide +kernel
theorem dX7_init_37 : decode cX7_init 37 = .ok (.putfield 29, 3) := by decide +kernel
theorem dX7_init_40 : decode cX7_init 40 = .ok (.aload_n 0, 1) := by decide +kernel
theorem dX7_init_41 : decode cX7_init 41 = .ok (.aload_n 2, 1) := by decide +kernel
theorem dX7_init_42 : decode cX7_init 42 = .ok (.putfield 33, 3) := by decide +kernel
theorem dX7_init_45 : decode cX7_init 45 = .ok (.aload_n 0, 1) := by decide +kernel
theorem dX7_init_46 : decode cX7_init 46 = .ok (.aload_n 3, 1) := by decide +kernel
theorem dX7_init_47 : decode cX7_init 47 = .ok (.putfield 37, 3) := by decide +kernel
theorem dX7_init_50 : decode cX7_init 50 = .ok (.return_, 1) := by decide +kernel
theorem dX7_begin_0 : decode cX7_begin 0 = .ok (.aload_n 0, 1) := by decide +kernel
theorem dX7_begin_1 : decode cX7_begin 1 = .ok (.iconst 0, 1) := by decide +kernel
theorem dX7_begin_2 : decode cX7_begin 2 = .ok (.putfield 9, 3) := by decide +kernel
theorem dX7_begin_5 : decode cX7_begin 5 = .ok (.aload_n 0, 1) := by decide +kernel
theorem dX7_begin_6 : decode cX7_begin 6 = .ok (.iconst 0, 1) := by decide +kernel
theorem dX7_begin_7 : decode cX7_begin 7 = .ok (.putfield 15, 3) := by decide +kernel
theorem dX7_begin_10 : decode cX7_begin 10 = .ok (.aload_n 0, 1) := by decide +kernel
theorem dX7_begin_11 : decode cX7_begin 11 = .ok (.lconst 0, 1) := by decide +kernel
theorem dX7_begin_12 : decode cX7_begin 12 = .ok (.putfield 18, 3) := by decide +kernel
theorem dX7_begin_15 : decode cX7_begin 15 = .ok (.aload_n 0, 1) := by decide +kernel
theorem dX7_begin_16 : decode cX7_begin 16 = .ok (.getfield 22, 3) := by decide +kernel
theorem dX7_begin_19 : decode cX7_begin 19 = .ok (.iconst 0, 1) := by decide +kernel
theorem dX7_begin_20 : decode cX7_begin 20 = .ok (.aload_n 0, 1) := by decide +kernel
theorem dX7_begin_21 : decode cX7_begin 21 = .ok (.getfield 29, 3) := by decide +kernel
theorem dX7_begin_24 : decode cX7_begin 24 = .ok (.getfield 41, 3) := by decide +kernel
theorem dX7_begin_27 : decode cX7_begin 27 = .ok (.iastore, 1) := by decide +kernel
theorem dX7_begin_28 : decode cX7_begin 28 = .ok (.return_, 1) := by decide +kernel
theorem dX7_bitsNow_0 : decode cX7_bitsNow 0 = .ok (.aload_n 0, 1) := by decide +kernel
theorem dX7_bitsNow_1 : decode cX7_bitsNow 1 = .ok (.getfield 22, 3) := by decide +kernel
theorem dX7_bitsNow_4 : decode cX7_bitsNow 4 = .ok (.aload_n 0, 1) := by decide +kernel
theorem dX7_bitsNow_5 : decode cX7_bitsNow 5 = .ok (.getfield 9, 3) := by decide +kernel
theorem dX7_bitsNow_8 : decode cX7_bitsNow 8 = .ok (.iaload, 1) := by decide +kernel
theorem dX7_bitsNow_9 : decode cX7_bitsNow 9 = .ok (.ireturn, 1) := by decide +kernel
theorem dX7_go_0 : decode cX7_go 0 = .ok (.aload_n 0, 1) := by decide +kernel
theorem dX7_go_1 : decode cX7_go 1 = .ok (.getfield 33, 3) := by decide +kernel
theorem dX7_go_4 : decode cX7_go 4 = .ok (.aload_n 0, 1) := by decide +kernel
theorem dX7_go_5 : decode cX7_go 5 = .ok (.getfield 18, 3) := by decide +kernel
theorem dX7_go_8 : decode cX7_go 8 = .ok (.iload_n 1, 1) := by decide +kernel
theorem dX7_go_9 : decode cX7_go 9 = .ok (.invokevirtual 46, 3) := by decide +kernel
theorem dX7_go_12 : decode cX7_go 12 = .ok (.lstore 4, 2) := by decide +kernel
theorem dX7_go_14 : decode cX7_go 14 = .ok (.lload 4, 2) := by decide +kernel
theorem dX7_go_16 : decode cX7_go 16 = .ok (.ldc2_w 52, 3) := by decide +kernel
theorem dX7_go_19 : decode cX7_go 19 = .ok (.lcmp, 1) := by decide +kernel
theorem dX7_go_20 : decode cX7_go 20 = .ok (.ifCond .ne 6, 3) := by decide +kernel
theorem dX7_go_23 : decode cX7_go 23 = .ok (.bipush (-2), 2) := by decide +kernel
theorem dX7_go_25 : decode cX7_go 25 = .ok (.ireturn, 1) := by decide +kernel
theorem dX7_go_26 : decode cX7_go 26 = .ok (.aload_n 0, 1) := by decide +kernel
theorem dX7_go_27 : decode cX7_go 27 = .ok (.getfield 9, 3) := by decide +kernel
theorem dX7_go_30 : decode cX7_go 30 = .ok (.bipush 60, 2) := by decide +kernel
theorem dX7_go_32 : decode cX7_go 32 = .ok (.if_icmp .lt 6, 3) := by decide +kernel
theorem dX7_go_35 : decode cX7_go 35 = .ok (.bipush (-3), 2) := by decide +kernel
theorem dX7_go_37 : decode cX7_go 37 = .ok (.ireturn, 1) := by decide +kernel
theorem dX7_go_38 : decode cX7_go 38 = .ok (.aload_n 0, 1) := by decide +kernel
theorem dX7_go_39 : decode cX7_go 39 = .ok (.getfield 37, 3) := by decide +kernel
theorem dX7_go_42 : decode cX7_go 42 = .ok (.aload_n 0, 1) := by decide +kernel
theorem dX7_go_43 : decode cX7_go 43 = .ok (.getfield 22, 3) := by decide +kernel
theorem dX7_go_46 : decode cX7_go 46 = .ok (.aload_n 0, 1) := by decide +kernel
theorem dX7_go_47 : decode cX7_go 47 = .ok (.getfield 9, 3) := by decide +kernel
theorem dX7_go_50 : decode cX7_go 50 = .ok (.iaload, 1) := by decide +kernel
theorem dX7_go_51 : decode cX7_go 51 = .ok (.iload_n 1, 1) := by decide +kernel
theorem dX7_go_52 : decode cX7_go 52 = .ok (.invokevirtual 54, 3) := by decide +kernel
theorem dX7_go_55 : decode cX7_go 55 = .ok (.aload_n 0, 1) := by decide +kernel
theorem dX7_go_56 : decode cX7_go 56 = .ok (.getfield 37, 3) := by decide +kernel
theorem dX7_go_59 : decode cX7_go 59 = .ok (.iload_n 2, 1) := by decide +kernel
theorem dX7_go_60 : decode cX7_go 60 = .ok (.invokevirtual 60, 3) := by decide +kernel
theorem dX7_go_63 : decode cX7_go 63 = .ok (.aload_n 0, 1) := by decide +kernel
theorem dX7_go_64 : decode cX7_go 64 = .ok (.getfield 26, 3) := by decide +kernel
theorem dX7_go_67 : decode cX7_go 67 = .ok (.aload_n 0, 1) := by decide +kernel
theorem dX7_go_68 : decode cX7_go 68 = .ok (.getfield 9, 3) := by decide +kernel
theorem dX7_go_71 : decode cX7_go 71 = .ok (.iload_n 1, 1) := by decide +kernel
theorem dX7_go_72 : decode cX7_go 72 = .ok (.iastore, 1) := by decide +kernel
theorem dX7_go_73 : decode cX7_go 73 = .ok (.aload_n 0, 1) := by decide +kernel
theorem dX7_go_74 : decode cX7_go 74 = .ok (.dup, 1) := by decide +kernel
theorem dX7_go_75 : decode cX7_go 75 = .ok (.getfield 9, 3) := by decide +kernel
theorem dX7_go_78 : decode cX7_go 78 = .ok (.iconst 1, 1) := by decide +kernel
theorem dX7_go_79 : decode cX7_go 79 = .ok (.iadd, 1) := by decide +kernel
theorem dX7_go_80 : decode cX7_go 80 = .ok (.putfield 9, 3) := by decide +kernel
theorem dX7_go_83 : decode cX7_go 83 = .ok (.aload_n 0, 1) := by decide +kernel
theorem dX7_go_84 : decode cX7_go 84 = .ok (.getfield 22, 3) := by decide +kernel
theorem dX7_go_87 : decode cX7_go 87 = .ok (.aload_n 0, 1) := by decide +kernel
theorem dX7_go_88 : decode cX7_go 88 = .ok (.getfield 9, 3) := by decide +kernel
theorem dX7_go_91 : decode cX7_go 91 = .ok (.aload_n 0, 1) := by decide +kernel
theorem dX7_go_92 : decode cX7_go 92 = .ok (.getfield 37, 3) := by decide +kernel
theorem dX7_go_95 : decode cX7_go 95 = .ok (.iload_n 3, 1) := by decide +kernel
theorem dX7_go_96 : decode cX7_go 96 = .ok (.invokevirtual 64, 3) := by decide +kernel
theorem dX7_go_99 : decode cX7_go 99 = .ok (.iastore, 1) := by decide +kernel
theorem dX7_go_100 : decode cX7_go 100 = .ok (.aload_n 0, 1) := by decide +kernel
theorem dX7_go_101 : decode cX7_go 101 = .ok (.lload 4, 2) := by decide +kernel
theorem dX7_go_103 : decode cX7_go 103 = .ok (.putfield 18, 3) := by decide +kernel
theorem dX7_go_106 : decode cX7_go 106 = .ok (.aload_n 0, 1) := by decide +kernel
theorem dX7_go_107 : decode cX7_go 107 = .ok (.aload_n 0, 1) := by decide +kernel
theorem dX7_go_108 : decode cX7_go 108 = .ok (.getfield 37, 3) := by decide +kernel
theorem dX7_go_111 : decode cX7_go 111 = .ok (.getfield 67, 3) := by decide +kernel
theorem dX7_go_114 : decode cX7_go 114 = .ok (.putfield 15, 3) := by decide +kernel
theorem dX7_go_117 : decode cX7_go 117 = .ok (.aload_n 0, 1) := by decide +kernel
theorem dX7_go_118 : decode cX7_go 118 = .ok (.getfield 15, 3) := by decide +kernel
theorem dX7_go_121 : decode cX7_go 121 = .ok (.invokestatic 68, 3) := by decide +kernel
theorem dX7_go_124 : decode cX7_go 124 = .ok (.ireturn, 1) := by decide +kernel
theorem dX8_init_0 : decode cX8_init 0 = .ok (.aload_n 0, 1) := by decide +kernel
theorem dX8_init_1 : decode cX8_init 1 = .ok (.invokespecial 3, 3) := by decide +kernel
theorem dX8_init_4 : decode cX8_init 4 = .ok (.aload_n 0, 1) := by decide +kernel
theorem dX8_init_5 : decode cX8_init 5 = .ok (.iconst 0, 1) := by decide +kernel
theorem dX8_init_6 : decode cX8_init 6 = .ok (.putfield 9, 3) := by decide +kernel
theorem dX8_init_9 : decode cX8_init 9 = .ok (.aload_n 0, 1) := by decide +kernel
theorem dX8_init_10 : decode cX8_init 10 = .ok (.iconst 0, 1) := by decide +kernel
theorem dX8_init_11 : decode cX8_init 11 = .ok (.putfield 15, 3) := by decide +kernel
theorem dX8_init_14 : decode cX8_init 14 = .ok (.aload_n 0, 1) := by decide +kernel
theorem dX8_init_15 : decode cX8_init 15 = .ok (.iconst 0, 1) := by decide +kernel
theorem dX8_init_16 : decode cX8_init 16 = .ok (.putfield 18, 3) := by decide +kernel
theorem dX8_init_19 : decode cX8_init 19 = .ok (.aload_n 0, 1) := by decide +kernel
theorem dX8_init_20 : decode cX8_init 20 = .ok (.iconst 0, 1) := by decide +kernel
theorem dX8_init_21 : decode cX8_init 21 = .ok (.putfield 21, 3) := by decide +kernel
theorem dX8_init_24 : decode cX8_init 24 = .ok (.aload_n 0, 1) := by decide +kernel
theorem dX8_init_25 : decode cX8_init 25 = .ok (.iconst 0, 1) := by decide +kernel
theorem dX8_init_26 : decode cX8_init 26 = .ok (.putfield 24, 3) := by decide +kernel
theorem dX8_init_29 : decode cX8_init 29 = .ok (.aload_n 0, 1) := by decide +kernel
theorem dX8_init_30 : decode cX8_init 30 = .ok (.iconst 0, 1) := by decide +kernel
theorem dX8_init_31 : decode cX8_init 31 = .ok (.putfield 27, 3) := by decide +kernel
theorem dX8_init_34 : decode cX8_init 34 = .ok (.aload_n 0, 1) := by decide +kernel
theorem dX8_init_35 : decode cX8_init 35 = .ok (.aload_n 1, 1) := by decide +kernel
theorem dX8_init_36 : decode cX8_init 36 = .ok (.putfield 30, 3) := by decide +kernel
theorem dX8_init_39 : decode cX8_init 39 = .ok (.return_, 1) := by decide +kernel
theorem dX8_tick_0 : decode cX8_tick 0 = .ok (.aload_n 0, 1) := by decide +kernel
theorem dX8_tick_1 : decode cX8_tick 1 = .ok (.iload_n 1, 1) := by decide +kernel
theorem dX8_tick_2 : decode cX8_tick 2 = .ok (.putfield 9, 3) := by decide +kernel
theorem dX8_tick_5 : decode cX8_tick 5 = .ok (.aload_n 0, 1) := by decide +kernel
theorem dX8_tick_6 : decode cX8_tick 6 = .ok (.getfield 30, 3) := by decide +kernel
theorem dX8_tick_9 : decode cX8_tick 9 = .ok (.iload_n 2, 1) := by decide +kernel
theorem dX8_tick_10 : decode cX8_tick 10 = .ok (.invokevirtual 34, 3) := by decide +kernel
theorem dX8_tick_13 : decode cX8_tick 13 = .ok (.istore_n 3, 1) := by decide +kernel
theorem dX8_tick_14 : decode cX8_tick 14 = .ok (.aload_n 0, 1) := by decide +kernel
theorem dX8_tick_15 : decode cX8_tick 15 = .ok (.iload_n 3, 1) := by decide +kernel
theorem dX8_tick_16 : decode cX8_tick 16 = .ok (.aload_n 0, 1) := by decide +kernel
theorem dX8_tick_17 : decode cX8_tick 17 = .ok (.getfield 30, 3) := by decide +kernel
theorem dX8_tick_20 : decode cX8_tick 20 = .ok (.getfield 40, 3) := by decide +kernel
theorem dX8_tick_23 : decode cX8_tick 23 = .ok (.iand, 1) := by decide +kernel
theorem dX8_tick_24 : decode cX8_tick 24 = .ok (.putfield 15, 3) := by decide +kernel
theorem dX8_tick_27 : decode cX8_tick 27 = .ok (.aload_n 0, 1) := by decide +kernel
theorem dX8_tick_28 : decode cX8_tick 28 = .ok (.iload_n 3, 1) := by decide +kernel
theorem dX8_tick_29 : decode cX8_tick 29 = .ok (.aload_n 0, 1) := by decide +kernel
theorem dX8_tick_30 : decode cX8_tick 30 = .ok (.getfield 30, 3) := by decide +kernel
theorem dX8_tick_33 : decode cX8_tick 33 = .ok (.getfield 40, 3) := by decide +kernel
theorem dX8_tick_36 : decode cX8_tick 36 = .ok (.iconst (-1), 1) := by decide +kernel
theorem dX8_tick_37 : decode cX8_tick 37 = .ok (.ixor, 1) := by decide +kernel
theorem dX8_tick_38 : decode cX8_tick 38 = .ok (.iand, 1) := by decide +kernel
theorem dX8_tick_39 : decode cX8_tick 39 = .ok (.putfield 24, 3) := by decide +kernel
theorem dX8_tick_42 : decode cX8_tick 42 = .ok (.aload_n 0, 1) := by decide +kernel
theorem dX8_tick_43 : decode cX8_tick 43 = .ok (.aload_n 0, 1) := by decide +kernel
theorem dX8_tick_44 : decode cX8_tick 44 = .ok (.getfield 9, 3) := by decide +kernel
theorem dX8_tick_47 : decode cX8_tick 47 = .ok (.iload_n 3, 1) := by decide +kernel
theorem dX8_tick_48 : decode cX8_tick 48 = .ok (.iconst (-1), 1) := by decide +kernel
theorem dX8_tick_49 : decode cX8_tick 49 = .ok (.ixor, 1) := by decide +kernel
theorem dX8_tick_50 : decode cX8_tick 50 = .ok (.iand, 1) := by decide +kernel
theorem dX8_tick_51 : decode cX8_tick 51 = .ok (.putfield 18, 3) := by decide +kernel
theorem dX8_tick_54 : decode cX8_tick 54 = .ok (.iconst 0, 1) := by decide +kernel
theorem dX8_tick_55 : decode cX8_tick 55 = .ok (.istore 4, 2) := by decide +kernel
theorem dX8_tick_57 : decode cX8_tick 57 = .ok (.iload 4, 2) := by decide +kernel
theorem dX8_tick_59 : decode cX8_tick 59 = .ok (.aload_n 0, 1) := by decide +kernel
theorem dX8_tick_60 : decode cX8_tick 60 = .ok (.getfield 30, 3) := by decide +kernel
theorem dX8_tick_63 : decode cX8_tick 63 = .ok (.getfield 43, 3) := by decide +kernel
theorem dX8_tick_66 : decode cX8_tick 66 = .ok (.if_icmp .ge 63, 3) := by decide +kernel
theorem dX8_tick_69 : decode cX8_tick 69 = .ok (.aload_n 0, 1) := by decide +kernel
theorem dX8_tick_70 : decode cX8_tick 70 = .ok (.getfield 15, 3) := by decide +kernel
theorem dX8_tick_73 : decode cX8_tick 73 = .ok (.iload 4, 2) := by decide +kernel
theorem dX8_tick_75 : decode cX8_tick 75 = .ok (.ishr, 1) := by decide +kernel
theorem dX8_tick_76 : decode cX8_tick 76 = .ok (.iconst 1, 1) := by decide +kernel
theorem dX8_tick_77 : decode cX8_tick 77 = .ok (.iand, 1) := by decide +kernel
theorem dX8_tick_78 : decode cX8_tick 78 = .ok (.iconst 1, 1) := by decide +kernel
theorem dX8_tick_79 : decode cX8_tick 79 = .ok (.if_icmp .ne 44, 3) := by decide +kernel
theorem dX8_tick_82 : decode cX8_tick 82 = .ok (.aload_n 0, 1) := by decide +kernel
theorem dX8_tick_83 : decode cX8_tick 83 = .ok (.dup, 1) := by decide +kernel
theorem dX8_tick_84 : decode cX8_tick 84 = .ok (.getfield 18, 3) := by decide +kernel
theorem dX8_tick_87 : decode cX8_tick 87 = .ok (.aload_n 0, 1) := by decide +kernel
theorem dX8_tick_88 : decode cX8_tick 88 = .ok (.getfield 30, 3) := by decide +kernel
theorem dX8_tick_91 : decode cX8_tick 91 = .ok (.aload_n 0, 1) := by decide +kernel
theorem dX8_tick_92 : decode cX8_tick 92 = .ok (.getfield 30, 3) := by decide +kernel
theorem dX8_tick_95 : decode cX8_tick 95 = .ok (.getfield 46, 3) := by decide +kernel
theorem dX8_tick_98 : decode cX8_tick 98 = .ok (.aload_n 0, 1) := by decide +kernel
theorem dX8_tick_99 : decode cX8_tick 99 = .ok (.getfield 30, 3) := by decide +kernel
theorem dX8_tick_102 : decode cX8_tick 102 = .ok (.getfield 50, 3) := by decide +kernel
theorem dX8_tick_105 : decode cX8_tick 105 = .ok (.iload 4, 2) := by decide +kernel
theorem dX8_tick_107 : decode cX8_tick 107 = .ok (.iaload, 1) := by decide +kernel
theorem dX8_tick_108 : decode cX8_tick 108 = .ok (.iaload, 1) := by decide +kernel
theorem dX8_tick_109 : decode cX8_tick 109 = .ok (.aload_n 0, 1) := by decide +kernel
theorem dX8_tick_110 : decode cX8_tick 110 = .ok (.getfield 9, 3) := by decide +kernel
theorem dX8_tick_113 : decode cX8_tick 113 = .ok (.invokevirtual 53, 3) := by decide +kernel
theorem dX8_tick_116 : decode cX8_tick 116 = .ok (.iload 4, 2) := by decide +kernel
theorem dX8_tick_118 : decode cX8_tick 118 = .ok (.ishl, 1) := by decide +kernel
theorem dX8_tick_119 : decode cX8_tick 119 = .ok (.ior, 1) := by decide +kernel
theorem dX8_tick_120 : decode cX8_tick 120 = .ok (.putfield 18, 3) := by decide +kernel
theorem dX8_tick_123 : decode cX8_tick 123 = .ok (.iinc 4 1, 3) := by decide +kernel
theorem dX8_tick_126 : decode cX8_tick 126 = .ok (.goto (-69), 3) := by decide +kernel
theorem dX8_tick_129 : decode cX8_tick 129 = .ok (.return_, 1) := by decide +kernel
theorem dX8_choose_0 : decode cX8_choose 0 = .ok (.aload_n 0, 1) := by decide +kernel
theorem dX8_choose_1 : decode cX8_choose 1 = .ok (.aload_n 0, 1) := by decide +kernel
theorem dX8_choose_2 : decode cX8_choose 2 = .ok (.getfield 18, 3) := by decide +kernel
theorem dX8_choose_5 : decode cX8_choose 5 = .ok (.iload_n 1, 1) := by decide +kernel
theorem dX8_choose_6 : decode cX8_choose 6 = .ok (.aload_n 0, 1) := by decide +kernel
theorem dX8_choose_7 : decode cX8_choose 7 = .ok (.getfield 24, 3) := by decide +kernel
theorem dX8_choose_10 : decode cX8_choose 10 = .ok (.invokestatic 57, 3) := by decide +kernel
theorem dX8_choose_13 : decode cX8_choose 13 = .ok (.ior, 1) := by decide +kernel
theorem dX8_choose_14 : decode cX8_choose 14 = .ok (.putfield 21, 3) := by decide +kernel
theorem dX8_choose_17 : decode cX8_choose 17 = .ok (.aload_n 0, 1) := by decide +kernel
theorem dX8_choose_18 : decode cX8_choose 18 = .ok (.iconst 0, 1) := by decide +kernel
theorem dX8_choose_19 : decode cX8_choose 19 = .ok (.putfield 27, 3) := by decide +kernel
theorem dX8_choose_22 : decode cX8_choose 22 = .ok (.aload_n 0, 1) := by decide +kernel
theorem dX8_choose_23 : decode cX8_choose 23 = .ok (.getfield 21, 3) := by decide +kernel
theorem dX8_choose_26 : decode cX8_choose 26 = .ok (.aload_n 0, 1) := by decide +kernel
theorem dX8_choose_27 : decode cX8_choose 27 = .ok (.getfield 9, 3) := by decide +kernel
theorem dX8_choose_30 : decode cX8_choose 30 = .ok (.ixor, 1) := by decide +kernel
theorem dX8_choose_31 : decode cX8_choose 31 = .ok (.istore_n 2, 1) := by decide +kernel
theorem dX8_choose_32 : decode cX8_choose 32 = .ok (.iload_n 2, 1) := by decide +kernel
theorem dX8_choose_33 : decode cX8_choose 33 = .ok (.ifCond .ne 4, 3) := by decide +kernel
theorem dX8_choose_36 : decode cX8_choose 36 = .ok (.return_, 1) := by decide +kernel
theorem dX8_choose_37 : decode cX8_choose 37 = .ok (.iconst 0, 1) := by decide +kernel
theorem dX8_choose_38 : decode cX8_choose 38 = .ok (.istore_n 3, 1) := by decide +kernel
theorem dX8_choose_39 : decode cX8_choose 39 = .ok (.iload_n 3, 1) := by decide +kernel
theorem dX8_choose_40 : decode cX8_choose 40 = .ok (.aload_n 0, 1) := by decide +kernel
theorem dX8_choose_41 : decode cX8_choose 41 = .ok (.getfield 30, 3) := by decide +kernel
theorem dX8_choose_44 : decode cX8_choose 44 = .ok (.getfield 43, 3) := by decide +kernel
theorem dX8_choose_47 : decode cX8_choose 47 = .ok (.if_icmp .ge 50, 3) := by decide +kernel
theorem dX8_choose_50 : decode cX8_choose 50 = .ok (.aload_n 0, 1) := by decide +kernel
theorem dX8_choose_51 : decode cX8_choose 51 = .ok (.getfield 15, 3) := by decide +kernel
theorem dX8_choose_54 : decode cX8_choose 54 = .ok (.iload_n 3, 1) := by decide +kernel
theorem dX8_choose_55 : decode cX8_choose 55 = .ok (.ishr, 1) := by decide +kernel
theorem dX8_choose_56 : decode cX8_choose 56 = .ok (.iconst 1, 1) := by decide +kernel
theorem dX8_choose_57 : decode cX8_choose 57 = .ok (.iand, 1) := by decide +kernel
theorem dX8_choose_58 : decode cX8_choose 58 = .ok (.iconst 1, 1) := by decide +kernel
theorem dX8_choose_59 : decode cX8_choose 59 = .ok (.if_icmp .ne 32, 3) := by decide +kernel
theorem dX8_choose_62 : decode cX8_choose 62 = .ok (.aload_n 0, 1) := by decide +kernel
theorem dX8_choose_63 : decode cX8_choose 63 = .ok (.aload_n 0, 1) := by decide +kernel
theorem dX8_choose_64 : decode cX8_choose 64 = .ok (.getfield 30, 3) := by decide +kernel
theorem dX8_choose_67 : decode cX8_choose 67 = .ok (.getfield 50, 3) := by decide +kernel
theorem dX8_choose_70 : decode cX8_choose 70 = .ok (.iload_n 3, 1) := by decide +kernel
theorem dX8_choose_71 : decode cX8_choose 71 = .ok (.iaload, 1) := by decide +kernel
theorem dX8_choose_72 : decode cX8_choose 72 = .ok (.iload_n 2, 1) := by decide +kernel
theorem dX8_choose_73 : decode cX8_choose 73 = .ok (.invokevirtual 60, 3) := by decide +kernel
theorem dX8_choose_76 : decode cX8_choose 76 = .ok (.ifCond .eq 15, 3) := by decide +kernel
theorem dX8_choose_79 : decode cX8_choose 79 = .ok (.aload_n 0, 1) := by decide +kernel
theorem dX8_choose_80 : decode cX8_choose 80 = .ok (.dup, 1) := by decide +kernel
theorem dX8_choose_81 : decode cX8_choose 81 = .ok (.getfield 27, 3) := by decide +kernel
theorem dX8_choose_84 : decode cX8_choose 84 = .ok (.iconst 1, 1) := by decide +kernel
theorem dX8_choose_85 : decode cX8_choose 85 = .ok (.iload_n 3, 1) := by decide +kernel
theorem dX8_choose_86 : decode cX8_choose 86 = .ok (.ishl, 1) := by decide +kernel
theorem dX8_choose_87 : decode cX8_choose 87 = .ok (.ior, 1) := by decide +kernel
theorem dX8_choose_88 : decode cX8_choose 88 = .ok (.putfield 27, 3) := by decide +kernel
theorem dX8_choose_91 : decode cX8_choose 91 = .ok (.iinc 3 1, 3) := by decide +kernel
theorem dX8_choose_94 : decode cX8_choose 94 = .ok (.goto (-55), 3) := by decide +kernel
theorem dX8_choose_97 : decode cX8_choose 97 = .ok (.return_, 1) := by decide +kernel
theorem dX8_behind_0 : decode cX8_behind 0 = .ok (.aload_n 0, 1) := by decide +kernel
theorem dX8_behind_1 : decode cX8_behind 1 = .ok (.getfield 21, 3) := by decide +kernel
theorem dX8_behind_4 : decode cX8_behind 4 = .ok (.iload_n 1, 1) := by decide +kernel
theorem dX8_behind_5 : decode cX8_behind 5 = .ok (.aload_n 0, 1) := by decide +kernel
theorem dX8_behind_6 : decode cX8_behind 6 = .ok (.getfield 27, 3) := by decide +kernel
theorem dX8_behind_9 : decode cX8_behind 9 = .ok (.invokestatic 57, 3) := by decide +kernel
theorem dX8_behind_12 : decode cX8_behind 12 = .ok (.ixor, 1) := by decide +kernel
theorem dX8_behind_13 : decode cX8_behind 13 = .ok (.ireturn, 1) := by decide +kernel
theorem dX8_isEither_0 : decode cX8_isEither 0 = .ok (.iload_n 2, 1) := by decide +kernel
theorem dX8_isEither_1 : decode cX8_isEither 1 = .ok (.aload_n 0, 1) := by decide +kernel
theorem dX8_isEither_2 : decode cX8_isEither 2 = .ok (.getfield 30, 3) := by decide +kernel
theorem dX8_isEither_5 : decode cX8_isEither 5 = .ok (.iload_n 1, 1) := by decide +kernel
theorem dX8_isEither_6 : decode cX8_isEither 6 = .ok (.invokevirtual 64, 3) := by decide +kernel
theorem dX8_isEither_9 : decode cX8_isEither 9 = .ok (.iand, 1) := by decide +kernel
theorem dX8_isEither_10 : decode cX8_isEither 10 = .ok (.istore_n 3, 1) := by decide +kernel
theorem dX8_isEither_11 : decode cX8_isEither 11 = .ok (.iload_n 3, 1) := by decide +kernel
theorem dX8_isEither_12 : decode cX8_isEither 12 = .ok (.ifCond .eq 31, 3) := by decide +kernel
theorem dX8_isEither_15 : decode cX8_isEither 15 = .ok (.aload_n 0, 1) := by decide +kernel
theorem dX8_isEither_16 : decode cX8_isEither 16 = .ok (.getfield 30, 3) := by decide +kernel
theorem dX8_isEither_19 : decode cX8_isEither 19 = .ok (.aload_n 0, 1) := by decide +kernel
theorem dX8_isEither_20 : decode cX8_isEither 20 = .ok (.getfield 30, 3) := by decide +kernel
theorem dX8_isEither_23 : decode cX8_isEither 23 = .ok (.getfield 46, 3) := by decide +kernel
theorem dX8_isEither_26 : decode cX8_isEither 26 = .ok (.iload_n 1, 1) := by decide +kernel
theorem dX8_isEither_27 : decode cX8_isEither 27 = .ok (.iaload, 1) := by decide +kernel
theorem dX8_isEither_28 : decode cX8_isEither 28 = .ok (.aload_n 0, 1) := by decide +kernel
theorem dX8_isEither_29 : decode cX8_isEither 29 = .ok (.getfield 9, 3) := by decide +kernel
theorem dX8_isEither_32 : decode cX8_isEither 32 = .ok (.iload_n 3, 1) := by decide +kernel
theorem dX8_isEither_33 : decode cX8_isEither 33 = .ok (.invokevirtual 67, 3) := by decide +kernel
theorem dX8_isEither_36 : decode cX8_isEither 36 = .ok (.ifCond .eq 7, 3) := by decide +kernel
theorem dX8_isEither_39 : decode cX8_isEither 39 = .ok (.iconst 1, 1) := by decide +kernel
theorem dX8_isEither_40 : decode cX8_isEither 40 = .ok (.goto 4, 3) := by decide +kernel
theorem dX8_isEither_43 : decode cX8_isEither 43 = .ok (.iconst 0, 1) := by decide +kernel
theorem dX8_isEither_44 : decode cX8_isEither 44 = .ok (.ireturn, 1) := by decide +kernel
theorem dX8_spread_0 : decode cX8_spread 0 = .ok (.iload_n 0, 1) := by decide +kernel
theorem dX8_spread_1 : decode cX8_spread 1 = .ok (.istore_n 2, 1) := by decide +kernel
theorem dX8_spread_2 : decode cX8_spread 2 = .ok (.iconst 0, 1) := by decide +kernel
theorem dX8_spread_3 : decode cX8_spread 3 = .ok (.istore_n 3, 1) := by decide +kernel
theorem dX8_spread_4 : decode cX8_spread 4 = .ok (.iconst 0, 1) := by decide +kernel
theorem dX8_spread_5 : decode cX8_spread 5 = .ok (.istore 4, 2) := by decide +kernel
theorem dX8_spread_7 : decode cX8_spread 7 = .ok (.iload 4, 2) := by decide +kernel
theorem dX8_spread_9 : decode cX8_spread 9 = .ok (.bipush 10, 2) := by decide +kernel
theorem dX8_spread_11 : decode cX8_spread 11 = .ok (.if_icmp .ge 36, 3) := by decide +kernel
theorem dX8_spread_14 : decode cX8_spread 14 = .ok (.iload_n 2, 1) := by decide +kernel
theorem dX8_spread_15 : decode cX8_spread 15 = .ok (.ifCond .eq 32, 3) := by decide +kernel
theorem dX8_spread_18 : decode cX8_spread 18 = .ok (.iload_n 1, 1) := by decide +kernel
theorem dX8_spread_19 : decode cX8_spread 19 = .ok (.iload 4, 2) := by decide +kernel
theorem dX8_spread_21 : decode cX8_spread 21 = .ok (.ishr, 1) := by decide +kernel
theorem dX8_spread_22 : decode cX8_spread 22 = .ok (.iconst 1, 1) := by decide +kernel
theorem dX8_spread_23 : decode cX8_spread 23 = .ok (.iand, 1) := by decide +kernel
theorem dX8_spread_24 : decode cX8_spread 24 = .ok (.iconst 1, 1) := by decide +kernel
theorem dX8_spread_25 : decode cX8_spread 25 = .ok (.if_icmp .ne 16, 3) := by decide +kernel
theorem dX8_spread_28 : decode cX8_spread 28 = .ok (.iload_n 3, 1) := by decide +kernel
theorem dX8_spread_29 : decode cX8_spread 29 = .ok (.iload_n 2, 1) := by decide +kernel
theorem dX8_spread_30 : decode cX8_spread 30 = .ok (.iconst 1, 1) := by decide +kernel
theorem dX8_spread_31 : decode cX8_spread 31 = .ok (.iand, 1) := by decide +kernel
theorem dX8_spread_32 : decode cX8_spread 32 = .ok (.iload 4, 2) := by decide +kernel
theorem dX8_spread_34 : decode cX8_spread 34 = .ok (.ishl, 1) := by decide +kernel
theorem dX8_spread_35 : decode cX8_spread 35 = .ok (.ior, 1) := by decide +kernel
theorem dX8_spread_36 : decode cX8_spread 36 = .ok (.istore_n 3, 1) := by decide +kernel
theorem dX8_spread_37 : decode cX8_spread 37 = .ok (.iload_n 2, 1) := by decide +kernel
theorem dX8_spread_38 : decode cX8_spread 38 = .ok (.iconst 1, 1) := by decide +kernel
theorem dX8_spread_39 : decode cX8_spread 39 = .ok (.ishr, 1) := by decide +kernel
theorem dX8_spread_40 : decode cX8_spread 40 = .ok (.istore_n 2, 1) := by decide +kernel
theorem dX8_spread_41 : decode cX8_spread 41 = .ok (.iinc 4 1, 3) := by decide +kernel
theorem dX8_spread_44 : decode cX8_spread 44 = .ok (.goto (-37), 3) := by decide +kernel
theorem dX8_spread_47 : decode cX8_spread 47 = .ok (.iload_n 3, 1) := by decide +kernel
theorem dX8_spread_48 : decode cX8_spread 48 = .ok (.ireturn, 1) := by decide +kernel
theorem dX9_init_0 : decode cX9_init 0 = .ok (.aload_n 0, 1) := by decide +kernel
theorem dX9_init_1 : decode cX9_init 1 = .ok (.invokespecial 3, 3) := by decide +kernel
theorem dX9_init_4 : decode cX9_init 4 = .ok (.aload_n 0, 1) := by decide +kernel
theorem dX9_init_5 : decode cX9_init 5 = .ok (.new 9, 3) := by decide +kernel
theorem dX9_init_8 : decode cX9_init 8 = .ok (.dup, 1) := by decide +kernel
theorem dX9_init_9 : decode cX9_init 9 = .ok (.invokespecial 11, 3) := by decide +kernel
theorem dX9_init_12 : decode cX9_init 12 = .ok (.putfield 12, 3) := by decide +kernel
theorem dX9_init_15 : decode cX9_init 15 = .ok (.aload_n 0, 1) := by decide +kernel
theorem dX9_init_16 : decode cX9_init 16 = .ok (.iconst 0, 1) := by decide +kernel
theorem dX9_init_17 : decode cX9_init 17 = .ok (.putfield 18, 3) := by decide +kernel
theorem dX9_init_20 : decode cX9_init 20 = .ok (.aload_n 0, 1) := by decide +kernel
theorem dX9_init_21 : decode cX9_init 21 = .ok (.iconst 0, 1) := by decide +kernel
theorem dX9_init_22 : decode cX9_init 22 = .ok (.putfield 22, 3) := by decide +kernel
theorem dX9_init_25 : decode cX9_init 25 = .ok (.aload_n 0, 1) := by decide +kernel
theorem dX9_init_26 : decode cX9_init 26 = .ok (.iconst 0, 1) := by decide +kernel
theorem dX9_init_27 : decode cX9_init 27 = .ok (.putfield 25, 3) := by decide +kernel
theorem dX9_init_30 : decode cX9_init 30 = .ok (.aload_n 0, 1) := by decide +kernel
theorem dX9_init_31 : decode cX9_init 31 = .ok (.iconst 0, 1) := by decide +kernel
theorem dX9_init_32 : decode cX9_init 32 = .ok (.putfield 28, 3) := by decide +kernel
theorem dX9_init_35 : decode cX9_init 35 = .ok (.aload_n 0, 1) := by decide +kernel
theorem dX9_init_36 : decode cX9_init 36 = .ok (.sipush 250, 3) := by decide +kernel
theorem dX9_init_39 : decode cX9_init 39 = .ok (.newarray .int, 2) := by decide +kernel
theorem dX9_init_41 : decode cX9_init 41 = .ok (.putfield 32, 3) := by decide +kernel
theorem dX9_init_44 : decode cX9_init 44 = .ok (.aload_n 0, 1) := by decide +kernel
theorem dX9_init_45 : decode cX9_init 45 = .ok (.sipush 250, 3) := by decide +kernel
theorem dX9_init_48 : decode cX9_init 48 = .ok (.newarray .long, 2) := by decide +kernel
theorem dX9_init_50 : decode cX9_init 50 = .ok (.putfield 36, 3) := by decide +kernel
theorem dX9_init_53 : decode cX9_init 53 = .ok (.aload_n 0, 1) := by decide +kernel
theorem dX9_init_54 : decode cX9_init 54 = .ok (.sipush 250, 3) := by decide +kernel
theorem dX9_init_57 : decode cX9_init 57 = .ok (.newarray .int, 2) := by decide +kernel
theorem dX9_init_59 : decode cX9_init 59 = .ok (.putfield 40, 3) := by decide +kernel
theorem dX9_init_62 : decode cX9_init 62 = .ok (.aload_n 0, 1) := by decide +kernel
theorem dX9_init_63 : decode cX9_init 63 = .ok (.sipush 250, 3) := by decide +kernel
theorem dX9_init_66 : decode cX9_init 66 = .ok (.newarray .int, 2) := by decide +kernel
theorem dX9_init_68 : decode cX9_init 68 = .ok (.putfield 43, 3) := by decide +kernel
theorem dX9_init_71 : decode cX9_init 71 = .ok (.aload_n 0, 1) := by decide +kernel
theorem dX9_init_72 : decode cX9_init 72 = .ok (.sipush 1250, 3) := by decide +kernel
theorem dX9_init_75 : decode cX9_init 75 = .ok (.newarray .int, 2) := by decide +kernel
theorem dX9_init_77 : decode cX9_init 77 = .ok (.putfield 46, 3) := by decide +kernel
theorem dX9_init_80 : decode cX9_init 80 = .ok (.aload_n 0, 1) := by decide +kernel
theorem dX9_init_81 : decode cX9_init 81 = .ok (.bipush 40, 2) := by decide +kernel
theorem dX9_init_83 : decode cX9_init 83 = .ok (.newarray .int, 2) := by decide +kernel
theorem dX9_init_85 : decode cX9_init 85 = .ok (.putfield 49, 3) := by decide +kernel
theorem dX9_init_88 : decode cX9_init 88 = .ok (.aload_n 0, 1) := by decide +kernel
theorem dX9_init_89 : decode cX9_init 89 = .ok (.sipush 512, 3) := by decide +kernel
theorem dX9_init_92 : decode cX9_init 92 = .ok (.newarray .int, 2) := by decide +kernel
theorem dX9_init_94 : decode cX9_init 94 = .ok (.putfield 52, 3) := by decide +kernel
theorem dX9_init_97 : decode cX9_init 97 = .ok (.aload_n 0, 1) := by decide +kernel
theorem dX9_init_98 : decode cX9_init 98 = .ok (.bipush 60, 2) := by decide +kernel
theorem dX9_init_100 : decode cX9_init 100 = .ok (.newarray .int, 2) := by decide +kernel
theorem dX9_init_102 : decode cX9_init 102 = .ok (.putfield 55, 3) := by decide +kernel
theorem dX9_init_105 : decode cX9_init 105 = .ok (.aload_n 0, 1) := by decide +kernel
theorem dX9_init_106 : decode cX9_init 106 = .ok (.aload_n 1, 1) := by decide +kernel
theorem dX9_init_107 : decode cX9_init 107 = .ok (.putfield 58, 3) := by decide +kernel
theorem dX9_init_110 : decode cX9_init 110 = .ok (.aload_n 0, 1) := by decide +kernel
theorem dX9_init_111 : decode cX9_init 111 = .ok (.aload_n 2, 1) := by decide +kernel
theorem dX9_init_112 : decode cX9_init 112 = .ok (.putfield 62, 3) := by decide +kernel
theorem dX9_init_115 : decode cX9_init 115 = .ok (.aload_n 0, 1) := by decide +kernel
theorem dX9_init_116 : decode cX9_init 116 = .ok (.aload_n 3, 1) := by decide +kernel
theorem dX9_init_117 : decode cX9_init 117 = .ok (.putfield 66, 3) := by decide +kernel
theorem dX9_init_120 : decode cX9_init 120 = .ok (.aload_n 0, 1) := by decide +kernel
theorem dX9_init_121 : decode cX9_init 121 = .ok (.aload 4, 2) := by decide +kernel
theorem dX9_init_123 : decode cX9_init 123 = .ok (.putfield 70, 3) := by decide +kernel
theorem dX9_init_126 : decode cX9_init 126 = .ok (.return_, 1) := by decide +kernel
theorem dX9_hasState_0 : decode cX9_hasState 0 = .ok (.iload_n 1, 1) := by decide +kernel
theorem dX9_hasState_1 : decode cX9_hasState 1 = .ok (.ifCond .lt 15, 3) := by decide +kernel
theorem dX9_hasState_4 : decode cX9_hasState 4 = .ok (.iload_n 1, 1) := by decide +kernel
theorem dX9_hasState_5 : decode cX9_hasState 5 = .ok (.aload_n 0, 1) := by decide +kernel
theorem dX9_hasState_6 : decode cX9_hasState 6 = .ok (.getfield 18, 3) := by decide +kernel
theorem dX9_hasState_9 : decode cX9_hasState 9 = .ok (.if_icmp .ge 7, 3) := by decide +kernel
theorem dX9_hasState_12 : decode cX9_hasState 12 = .ok (.iconst 1, 1) := by decide +kernel
theorem dX9_hasState_13 : decode cX9_hasState 13 = .ok (.goto 4, 3) := by decide +kernel
theorem dX9_hasState_16 : decode cX9_hasState 16 = .ok (.iconst 0, 1) := by decide +kernel
theorem dX9_hasState_17 : decode cX9_hasState 17 = .ok (.ireturn, 1) := by decide +kernel
theorem dX9_breaks_0 : decode cX9_breaks 0 = .ok (.aload_n 0, 1) := by decide +kernel
theorem dX9_breaks_1 : decode cX9_breaks 1 = .ok (.getfield 49, 3) := by decide +kernel
theorem dX9_breaks_4 : decode cX9_breaks 4 = .ok (.iload_n 1, 1) := by decide +kernel
theorem dX9_breaks_5 : decode cX9_breaks 5 = .ok (.iconst 5, 1) := by decide +kernel
theorem dX9_breaks_6 : decode cX9_breaks 6 = .ok (.imul, 1) := by decide +kernel
theorem dX9_breaks_7 : decode cX9_breaks 7 = .ok (.iconst 5, 1) := by decide +kernel
theorem dX9_breaks_8 : decode cX9_breaks 8 = .ok (.iadd, 1) := by decide +kernel
theorem dX9_breaks_9 : decode cX9_breaks 9 = .ok (.iconst 1, 1) := by decide +kernel
theorem dX9_breaks_10 : decode cX9_breaks 10 = .ok (.isub, 1) := by decide +kernel
theorem dX9_breaks_11 : decode cX9_breaks 11 = .ok (.iaload, 1) := by decide +kernel
theorem dX9_breaks_12 : decode cX9_breaks 12 = .ok (.bipush (-2), 2) := by decide +kernel
theorem dX9_breaks_14 : decode cX9_breaks 14 = .ok (.if_icmp .eq 7, 3) := by decide +kernel
theorem dX9_breaks_17 : decode cX9_breaks 17 = .ok (.iconst 1, 1) := by decide +kernel
theorem dX9_breaks_18 : decode cX9_breaks 18 = .ok (.goto 4, 3) := by decide +kernel
theorem dX9_breaks_21 : decode cX9_breaks 21 = .ok (.iconst 0, 1) := by decide +kernel
theorem dX9_breaks_22 : decode cX9_breaks 22 = .ok (.ireturn, 1) := by decide +kernel
theorem dX9_forget_0 : decode cX9_forget 0 = .ok (.aload_n 0, 1) := by decide +kernel
theorem dX9_forget_1 : decode cX9_forget 1 = .ok (.iconst 0, 1) := by decide +kernel
theorem dX9_forget_2 : decode cX9_forget 2 = .ok (.putfield 18, 3) := by decide +kernel
theorem dX9_forget_5 : decode cX9_forget 5 = .ok (.aload_n 0, 1) := by decide +kernel
theorem dX9_forget_6 : decode cX9_forget 6 = .ok (.iconst 0, 1) := by decide +kernel
theorem dX9_forget_7 : decode cX9_forget 7 = .ok (.putfield 22, 3) := by decide +kernel
theorem dX9_forget_10 : decode cX9_forget 10 = .ok (.aload_n 0, 1) := by decide +kernel
theorem dX9_forget_11 : decode cX9_forget 11 = .ok (.iconst 0, 1) := by decide +kernel
theorem dX9_forget_12 : decode cX9_forget 12 = .ok (.putfield 25, 3) := by decide +kernel
theorem dX9_forget_15 : decode cX9_forget 15 = .ok (.aload_n 0, 1) := by decide +kernel
theorem dX9_forget_16 : decode cX9_forget 16 = .ok (.iconst 0, 1) := by decide +kernel
theorem dX9_forget_17 : decode cX9_forget 17 = .ok (.putfield 28, 3) := by decide +kernel
theorem dX9_forget_20 : decode cX9_forget 20 = .ok (.return_, 1) := by decide +kernel
theorem dX9_begin_0 : decode cX9_begin 0 = .ok (.aload_n 0, 1) := by decide +kernel
theorem dX9_begin_1 : decode cX9_begin 1 = .ok (.invokevirtual 74, 3) := by decide +kernel
theorem dX9_begin_4 : decode cX9_begin 4 = .ok (.aload_n 0, 1) := by decide +kernel
theorem dX9_begin_5 : decode cX9_begin 5 = .ok (.getfield 12, 3) := by decide +kernel
theorem dX9_begin_8 : decode cX9_begin 8 = .ok (.invokevirtual 77, 3) := by decide +kernel
theorem dX9_begin_11 : decode cX9_begin 11 = .ok (.aload_n 0, 1) := by decide +kernel
theorem dX9_begin_12 : decode cX9_begin 12 = .ok (.getfield 52, 3) := by decide +kernel
theorem dX9_begin_15 : decode cX9_begin 15 = .ok (.iconst 0, 1) := by decide +kernel
theorem dX9_begin_16 : decode cX9_begin 16 = .ok (.invokestatic 80, 3) := by decide +kernel
theorem dX9_begin_19 : decode cX9_begin 19 = .ok (.aload_n 0, 1) := by decide +kernel
theorem dX9_begin_20 : decode cX9_begin 20 = .ok (.getfield 49, 3) := by decide +kernel
theorem dX9_begin_23 : decode cX9_begin 23 = .ok (.bipush (-2), 2) := by decide +kernel
theorem dX9_begin_25 : decode cX9_begin 25 = .ok (.invokestatic 80, 3) := by decide +kernel
theorem dX9_begin_28 : decode cX9_begin 28 = .ok (.aload_n 0, 1) := by decide +kernel
theorem dX9_begin_29 : decode cX9_begin 29 = .ok (.getfield 58, 3) := by decide +kernel
theorem dX9_begin_32 : decode cX9_begin 32 = .ok (.getfield 86, 3) := by decide +kernel
theorem dX9_begin_35 : decode cX9_begin 35 = .ok (.istore_n 1, 1) := by decide +kernel
theorem dX9_begin_36 : decode cX9_begin 36 = .ok (.aload_n 0, 1) := by decide +kernel
theorem dX9_begin_37 : decode cX9_begin 37 = .ok (.aload_n 0, 1) := by decide +kernel
theorem dX9_begin_38 : decode cX9_begin 38 = .ok (.iload_n 1, 1) := by decide +kernel
theorem dX9_begin_39 : decode cX9_begin 39 = .ok (.lconst 0, 1) := by decide +kernel
theorem dX9_begin_40 : decode cX9_begin 40 = .ok (.invokevirtual 91, 3) := by decide +kernel
theorem dX9_begin_43 : decode cX9_begin 43 = .ok (.iload_n 1, 1) := by decide +kernel
theorem dX9_begin_44 : decode cX9_begin 44 = .ok (.lconst 0, 1) := by decide +kernel
theorem dX9_begin_45 : decode cX9_begin 45 = .ok (.iconst 0, 1) := by decide +kernel
theorem dX9_begin_46 : decode cX9_begin 46 = .ok (.invokevirtual 95, 3) := by decide +kernel
theorem dX9_begin_49 : decode cX9_begin 49 = .ok (.aload_n 0, 1) := by decide +kernel
theorem dX9_begin_50 : decode cX9_begin 50 = .ok (.getfield 46, 3) := by decide +kernel
theorem dX9_begin_53 : decode cX9_begin 53 = .ok (.iconst 0, 1) := by decide +kernel
theorem dX9_begin_54 : decode cX9_begin 54 = .ok (.bipush (-2), 2) := by decide +kernel
theorem dX9_begin_56 : decode cX9_begin 56 = .ok (.iconst 0, 1) := by decide +kernel
theorem dX9_begin_57 : decode cX9_begin 57 = .ok (.iconst 0, 1) := by decide +kernel
theorem dX9_begin_58 : decode cX9_begin 58 = .ok (.iconst 0, 1) := by decide +kernel
theorem dX9_begin_59 : decode cX9_begin 59 = .ok (.iconst 0, 1) := by decide +kernel
theorem dX9_begin_60 : decode cX9_begin 60 = .ok (.invokestatic 99, 3) := by decide +kernel
theorem dX9_begin_63 : decode cX9_begin 63 = .ok (.aload_n 0, 1) := by decide +kernel
theorem dX9_begin_64 : decode cX9_begin 64 = .ok (.bipush (-2), 2) := by decide +kernel
theorem dX9_begin_66 : decode cX9_begin 66 = .ok (.iconst 0, 1) := by decide +kernel
theorem dX9_begin_67 : decode cX9_begin 67 = .ok (.iconst 0, 1) := by decide +kernel
theorem dX9_begin_68 : decode cX9_begin 68 = .ok (.iconst 0, 1) := by decide +kernel
theorem dX9_begin_69 : decode cX9_begin 69 = .ok (.iconst 0, 1) := by decide +kernel
theorem dX9_begin_70 : decode cX9_begin 70 = .ok (.invokevirtual 103, 3) := by decide +kernel
theorem dX9_begin_73 : decode cX9_begin 73 = .ok (.return_, 1) := by decide +kernel
theorem dX9_goesOn_0 : decode cX9_goesOn 0 = .ok (.iload_n 1, 1) := by decide +kernel
theorem dX9_goesOn_1 : decode cX9_goesOn 1 = .ok (.aload_n 0, 1) := by decide +kernel
theorem dX9_goesOn_2 : decode cX9_goesOn 2 = .ok (.getfield 18, 3) := by decide +kernel
theorem dX9_goesOn_5 : decode cX9_goesOn 5 = .ok (.if_icmp .ge 14, 3) := by decide +kernel
theorem dX9_goesOn_8 : decode cX9_goesOn 8 = .ok (.aload_n 0, 1) := by decide +kernel
theorem dX9_goesOn_9 : decode cX9_goesOn 9 = .ok (.getfield 28, 3) := by decide +kernel
theorem dX9_goesOn_12 : decode cX9_goesOn 12 = .ok (.ifCond .ne 7, 3) := by decide +kernel
theorem dX9_goesOn_15 : decode cX9_goesOn 15 = .ok (.iconst 1, 1) := by decide +kernel
theorem dX9_goesOn_16 : decode cX9_goesOn 16 = .ok (.goto 4, 3) := by decide +kernel
theorem dX9_goesOn_19 : decode cX9_goesOn 19 = .ok (.iconst 0, 1) := by decide +kernel
theorem dX9_goesOn_20 : decode cX9_goesOn 20 = .ok (.ireturn, 1) := by decide +kernel
theorem dX9_lead_0 : decode cX9_lead 0 = .ok (.aload_n 0, 1) := by decide +kernel
theorem dX9_lead_1 : decode cX9_lead 1 = .ok (.getfield 40, 3) := by decide +kernel
theorem dX9_lead_4 : decode cX9_lead 4 = .ok (.iload_n 1, 1) := by decide +kernel
theorem dX9_lead_5 : decode cX9_lead 5 = .ok (.iaload, 1) := by decide +kernel
theorem dX9_lead_6 : decode cX9_lead 6 = .ok (.istore_n 3, 1) := by decide +kernel
theorem dX9_lead_7 : decode cX9_lead 7 = .ok (.iload_n 1, 1) := by decide +kernel
theorem dX9_lead_8 : decode cX9_lead 8 = .ok (.istore 4, 2) := by decide +kernel
theorem dX9_lead_10 : decode cX9_lead 10 = .ok (.iload_n 3, 1) := by decide +kernel
theorem dX9_lead_11 : decode cX9_lead 11 = .ok (.iconst 1, 1) := by decide +kernel
theorem dX9_lead_12 : decode cX9_lead 12 = .ok (.isub, 1) := by decide +kernel
theorem dX9_lead_13 : decode cX9_lead 13 = .ok (.istore 5, 2) := by decide +kernel
theorem dX9_lead_15 : decode cX9_lead 15 = .ok (.iload 5, 2) := by decide +kernel
theorem dX9_lead_17 : decode cX9_lead 17 = .ok (.ifCond .lt 29, 3) := by decide +kernel
theorem dX9_lead_20 : decode cX9_lead 20 = .ok (.aload_n 0, 1) := by decide +kernel
theorem dX9_lead_21 : decode cX9_lead 21 = .ok (.getfield 55, 3) := by decide +kernel
theorem dX9_lead_24 : decode cX9_lead 24 = .ok (.iload 5, 2) := by decide +kernel
theorem dX9_lead_26 : decode cX9_lead 26 = .ok (.iload 4, 2) := by decide +kernel
theorem dX9_lead_28 : decode cX9_lead 28 = .ok (.iastore, 1) := by decide +kernel
theorem dX9_lead_29 : decode cX9_lead 29 = .ok (.aload_n 0, 1) := by decide +kernel
theorem dX9_lead_30 : decode cX9_lead 30 = .ok (.getfield 46, 3) := by decide +kernel
theorem dX9_lead_33 : decode cX9_lead 33 = .ok (.iload 4, 2) := by decide +kernel
theorem dX9_lead_35 : decode cX9_lead 35 = .ok (.iconst 5, 1) := by decide +kernel
theorem dX9_lead_36 : decode cX9_lead 36 = .ok (.imul, 1) := by decide +kernel
theorem dX9_lead_37 : decode cX9_lead 37 = .ok (.iaload, 1) := by decide +kernel
theorem dX9_lead_38 : decode cX9_lead 38 = .ok (.istore 4, 2) := by decide +kernel
theorem dX9_lead_40 : decode cX9_lead 40 = .ok (.iinc 5 (-1), 3) := by decide +kernel
theorem dX9_lead_43 : decode cX9_lead 43 = .ok (.goto (-28), 3) := by decide +kernel
theorem dX9_lead_46 : decode cX9_lead 46 = .ok (.iconst 0, 1) := by decide +kernel
theorem dX9_lead_47 : decode cX9_lead 47 = .ok (.istore 5, 2) := by decide +kernel
theorem dX9_lead_49 : decode cX9_lead 49 = .ok (.iload 5, 2) := by decide +kernel
theorem dX9_lead_51 : decode cX9_lead 51 = .ok (.iload_n 3, 1) := by decide +kernel
theorem dX9_lead_52 : decode cX9_lead 52 = .ok (.if_icmp .ge 52, 3) := by decide +kernel
theorem dX9_lead_55 : decode cX9_lead 55 = .ok (.aload_n 0, 1) := by decide +kernel
theorem dX9_lead_56 : decode cX9_lead 56 = .ok (.getfield 55, 3) := by decide +kernel
theorem dX9_lead_59 : decode cX9_lead 59 = .ok (.iload 5, 2) := by decide +kernel
theorem dX9_lead_61 : decode cX9_lead 61 = .ok (.iaload, 1) := by decide +kernel
theorem dX9_lead_62 : decode cX9_lead 62 = .ok (.iconst 5, 1) := by decide +kernel
theorem dX9_lead_63 : decode cX9_lead 63 = .ok (.imul, 1) := by decide +kernel
theorem dX9_lead_64 : decode cX9_lead 64 = .ok (.istore 6, 2) := by decide +kernel
theorem dX9_lead_66 : decode cX9_lead 66 = .ok (.aload_n 2, 1) := by decide +kernel
theorem dX9_lead_67 : decode cX9_lead 67 = .ok (.aload_n 0, 1) := by decide +kernel
theorem dX9_lead_68 : decode cX9_lead 68 = .ok (.getfield 46, 3) := by decide +kernel
theorem dX9_lead_71 : decode cX9_lead 71 = .ok (.iload 6, 2) := by decide +kernel
theorem dX9_lead_73 : decode cX9_lead 73 = .ok (.iconst 1, 1) := by decide +kernel
theorem dX9_lead_74 : decode cX9_lead 74 = .ok (.iadd, 1) := by decide +kernel
theorem dX9_lead_75 : decode cX9_lead 75 = .ok (.iaload, 1) := by decide +kernel
theorem dX9_lead_76 : decode cX9_lead 76 = .ok (.aload_n 0, 1) := by decide +kernel
theorem dX9_lead_77 : decode cX9_lead 77 = .ok (.getfield 46, 3) := by decide +kernel
theorem dX9_lead_80 : decode cX9_lead 80 = .ok (.iload 6, 2) := by decide +kernel
theorem dX9_lead_82 : decode cX9_lead 82 = .ok (.iconst 2, 1) := by decide +kernel
theorem dX9_lead_83 : decode cX9_lead 83 = .ok (.iadd, 1) := by decide +kernel
theorem dX9_lead_84 : decode cX9_lead 84 = .ok (.iaload, 1) := by decide +kernel
theorem dX9_lead_85 : decode cX9_lead 85 = .ok (.aload_n 0, 1) := by decide +kernel
theorem dX9_lead_86 : decode cX9_lead 86 = .ok (.getfield 46, 3) := by decide +kernel
theorem dX9_lead_89 : decode cX9_lead 89 = .ok (.iload 6, 2) := by decide +kernel
theorem dX9_lead_91 : decode cX9_lead 91 = .ok (.iconst 3, 1) := by decide +kernel
theorem dX9_lead_92 : decode cX9_lead 92 = .ok (.iadd, 1) := by decide +kernel
theorem dX9_lead_93 : decode cX9_lead 93 = .ok (.iaload, 1) := by decide +kernel
theorem dX9_lead_94 : decode cX9_lead 94 = .ok (.invokevirtual 107, 3) := by decide +kernel
theorem dX9_lead_97 : decode cX9_lead 97 = .ok (.pop, 1) := by decide +kernel
theorem dX9_lead_98 : decode cX9_lead 98 = .ok (.iinc 5 1, 3) := by decide +kernel
theorem dX9_lead_101 : decode cX9_lead 101 = .ok (.goto (-52), 3) := by decide +kernel
theorem dX9_lead_104 : decode cX9_lead 104 = .ok (.return_, 1) := by decide +kernel
theorem dX9_lookAt_0 : decode cX9_lookAt 0 = .ok (.aload_n 0, 1) := by decide +kernel
theorem dX9_lookAt_1 : decode cX9_lookAt 1 = .ok (.getfield 25, 3) := by decide +kernel
theorem dX9_lookAt_4 : decode cX9_lookAt 4 = .ok (.istore_n 2, 1) := by decide +kernel
theorem dX9_lookAt_5 : decode cX9_lookAt 5 = .ok (.aload_n 0, 1) := by decide +kernel
theorem dX9_lookAt_6 : decode cX9_lookAt 6 = .ok (.getfield 58, 3) := by decide +kernel
theorem dX9_lookAt_9 : decode cX9_lookAt 9 = .ok (.invokevirtual 113, 3) := by decide +kernel
theorem dX9_lookAt_12 : decode cX9_lookAt 12 = .ok (.iconst (-1), 1) := by decide +kernel
theorem dX9_lookAt_13 : decode cX9_lookAt 13 = .ok (.ixor, 1) := by decide +kernel
theorem dX9_lookAt_14 : decode cX9_lookAt 14 = .ok (.istore_n 3, 1) := by decide +kernel
theorem dX9_lookAt_15 : decode cX9_lookAt 15 = .ok (.iconst 1, 1) := by decide +kernel
theorem dX9_lookAt_16 : decode cX9_lookAt 16 = .ok (.istore 4, 2) := by decide +kernel
theorem dX9_lookAt_18 : decode cX9_lookAt 18 = .ok (.iload 4, 2) := by decide +kernel
theorem dX9_lookAt_20 : decode cX9_lookAt 20 = .ok (.bipush 16, 2) := by decide +kernel
theorem dX9_lookAt_22 : decode cX9_lookAt 22 = .ok (.if_icmp .ge 65, 3) := by decide +kernel
theorem dX9_lookAt_25 : decode cX9_lookAt 25 = .ok (.iload 4, 2) := by decide +kernel
theorem dX9_lookAt_27 : decode cX9_lookAt 27 = .ok (.iload_n 3, 1) := by decide +kernel
theorem dX9_lookAt_28 : decode cX9_lookAt 28 = .ok (.iand, 1) := by decide +kernel
theorem dX9_lookAt_29 : decode cX9_lookAt 29 = .ok (.ifCond .eq 9, 3) := by decide +kernel
theorem dX9_lookAt_32 : decode cX9_lookAt 32 = .ok (.ldc2_w 119, 3) := by decide +kernel
theorem dX9_lookAt_35 : decode cX9_lookAt 35 = .ok (.goto 18, 3) := by decide +kernel
theorem dX9_lookAt_38 : decode cX9_lookAt 38 = .ok (.aload_n 0, 1) := by decide +kernel
theorem dX9_lookAt_39 : decode cX9_lookAt 39 = .ok (.getfield 62, 3) := by decide +kernel
theorem dX9_lookAt_42 : decode cX9_lookAt 42 = .ok (.aload_n 0, 1) := by decide +kernel
theorem dX9_lookAt_43 : decode cX9_lookAt 43 = .ok (.getfield 36, 3) := by decide +kernel
theorem dX9_lookAt_46 : decode cX9_lookAt 46 = .ok (.iload_n 1, 1) := by decide +kernel
theorem dX9_lookAt_47 : decode cX9_lookAt 47 = .ok (.laload, 1) := by decide +kernel
theorem dX9_lookAt_48 : decode cX9_lookAt 48 = .ok (.iload 4, 2) := by decide +kernel
theorem dX9_lookAt_50 : decode cX9_lookAt 50 = .ok (.invokevirtual 121, 3) := by decide +kernel
theorem dX9_lookAt_53 : decode cX9_lookAt 53 = .ok (.lstore 5, 2) := by decide +kernel
theorem dX9_lookAt_55 : decode cX9_lookAt 55 = .ok (.lload 5, 2) := by decide +kernel
theorem dX9_lookAt_57 : decode cX9_lookAt 57 = .ok (.ldc2_w 119, 3) := by decide +kernel
theorem dX9_lookAt_60 : decode cX9_lookAt 60 = .ok (.lcmp, 1) := by decide +kernel
theorem dX9_lookAt_61 : decode cX9_lookAt 61 = .ok (.ifCond .eq 12, 3) := by decide +kernel
theorem dX9_lookAt_64 : decode cX9_lookAt 64 = .ok (.aload_n 0, 1) := by decide +kernel
theorem dX9_lookAt_65 : decode cX9_lookAt 65 = .ok (.iload_n 1, 1) := by decide +kernel
theorem dX9_lookAt_66 : decode cX9_lookAt 66 = .ok (.iload 4, 2) := by decide +kernel
theorem dX9_lookAt_68 : decode cX9_lookAt 68 = .ok (.lload 5, 2) := by decide +kernel
theorem dX9_lookAt_70 : decode cX9_lookAt 70 = .ok (.invokevirtual 125, 3) := by decide +kernel
theorem dX9_lookAt_73 : decode cX9_lookAt 73 = .ok (.aload_n 0, 1) := by decide +kernel
theorem dX9_lookAt_74 : decode cX9_lookAt 74 = .ok (.getfield 28, 3) := by decide +kernel
theorem dX9_lookAt_77 : decode cX9_lookAt 77 = .ok (.ifCond .eq 4, 3) := by decide +kernel
theorem dX9_lookAt_80 : decode cX9_lookAt 80 = .ok (.return_, 1) := by decide +kernel
theorem dX9_lookAt_81 : decode cX9_lookAt 81 = .ok (.iinc 4 1, 3) := by decide +kernel
theorem dX9_lookAt_84 : decode cX9_lookAt 84 = .ok (.goto (-66), 3) := by decide +kernel
theorem dX9_lookAt_87 : decode cX9_lookAt 87 = .ok (.aload_n 0, 1) := by decide +kernel
theorem dX9_lookAt_88 : decode cX9_lookAt 88 = .ok (.getfield 43, 3) := by decide +kernel
theorem dX9_lookAt_91 : decode cX9_lookAt 91 = .ok (.iload_n 1, 1) := by decide +kernel
theorem dX9_lookAt_92 : decode cX9_lookAt 92 = .ok (.aload_n 0, 1) := by decide +kernel
theorem dX9_lookAt_93 : decode cX9_lookAt 93 = .ok (.getfield 25, 3) := by decide +kernel
theorem dX9_lookAt_96 : decode cX9_lookAt 96 = .ok (.iload_n 2, 1) := by decide +kernel
theorem dX9_lookAt_97 : decode cX9_lookAt 97 = .ok (.isub, 1) := by decide +kernel
theorem dX9_lookAt_98 : decode cX9_lookAt 98 = .ok (.iastore, 1) := by decide +kernel
theorem dX9_lookAt_99 : decode cX9_lookAt 99 = .ok (.aload_n 0, 1) := by decide +kernel
theorem dX9_lookAt_100 : decode cX9_lookAt 100 = .ok (.dup, 1) := by decide +kernel
theorem dX9_lookAt_101 : decode cX9_lookAt 101 = .ok (.getfield 22, 3) := by decide +kernel
theorem dX9_lookAt_104 : decode cX9_lookAt 104 = .ok (.iconst 1, 1) := by decide +kernel
theorem dX9_lookAt_105 : decode cX9_lookAt 105 = .ok (.iadd, 1) := by decide +kernel
theorem dX9_lookAt_106 : decode cX9_lookAt 106 = .ok (.putfield 22, 3) := by decide +kernel
theorem dX9_lookAt_109 : decode cX9_lookAt 109 = .ok (.aload_n 0, 1) := by decide +kernel
theorem dX9_lookAt_110 : decode cX9_lookAt 110 = .ok (.getfield 12, 3) := by decide +kernel
theorem dX9_lookAt_113 : decode cX9_lookAt 113 = .ok (.iload_n 1, 1) := by decide +kernel
theorem dX9_lookAt_114 : decode cX9_lookAt 114 = .ok (.aload_n 0, 1) := by decide +kernel
theorem dX9_lookAt_115 : decode cX9_lookAt 115 = .ok (.getfield 25, 3) := by decide +kernel
theorem dX9_lookAt_118 : decode cX9_lookAt 118 = .ok (.invokevirtual 129, 3) := by decide +kernel
theorem dX9_lookAt_121 : decode cX9_lookAt 121 = .ok (.return_, 1) := by decide +kernel
theorem dX9_lookAtSet_0 : decode cX9_lookAtSet 0 = .ok (.aload_n 0, 1) := by decide +kernel
theorem dX9_lookAtSet_1 : decode cX9_lookAtSet 1 = .ok (.getfield 70, 3) := by decide +kernel
theorem dX9_lookAtSet_4 : decode cX9_lookAtSet 4 = .ok (.aload_n 0, 1) := by decide +kernel
theorem dX9_lookAtSet_5 : decode cX9_lookAtSet 5 = .ok (.getfield 32, 3) := by decide +kernel
theorem dX9_lookAtSet_8 : decode cX9_lookAtSet 8 = .ok (.iload_n 1, 1) := by decide +kernel
theorem dX9_lookAtSet_9 : decode cX9_lookAtSet 9 = .ok (.iaload, 1) := by decide +kernel
theorem dX9_lookAtSet_10 : decode cX9_lookAtSet 10 = .ok (.iload_n 2, 1) := by decide +kernel
theorem dX9_lookAtSet_11 : decode cX9_lookAtSet 11 = .ok (.invokevirtual 133, 3) := by decide +kernel
theorem dX9_lookAtSet_14 : decode cX9_lookAtSet 14 = .ok (.iconst 1, 1) := by decide +kernel
theorem dX9_lookAtSet_15 : decode cX9_lookAtSet 15 = .ok (.aload_n 0, 1) := by decide +kernel
theorem dX9_lookAtSet_16 : decode cX9_lookAtSet 16 = .ok (.getfield 70, 3) := by decide +kernel
theorem dX9_lookAtSet_19 : decode cX9_lookAtSet 19 = .ok (.getfield 138, 3) := by decide +kernel
theorem dX9_lookAtSet_22 : decode cX9_lookAtSet 22 = .ok (.invokestatic 141, 3) := by decide +kernel
theorem dX9_lookAtSet_25 : decode cX9_lookAtSet 25 = .ok (.ishl, 1) := by decide +kernel
theorem dX9_lookAtSet_26 : decode cX9_lookAtSet 26 = .ok (.istore 5, 2) := by decide +kernel
theorem dX9_lookAtSet_28 : decode cX9_lookAtSet 28 = .ok (.iconst 0, 1) := by decide +kernel
theorem dX9_lookAtSet_29 : decode cX9_lookAtSet 29 = .ok (.istore 6, 2) := by decide +kernel
theorem dX9_lookAtSet_31 : decode cX9_lookAtSet 31 = .ok (.iload 6, 2) := by decide +kernel
theorem dX9_lookAtSet_33 : decode cX9_lookAtSet 33 = .ok (.iload 5, 2) := by decide +kernel
theorem dX9_lookAtSet_35 : decode cX9_lookAtSet 35 = .ok (.if_icmp .ge 67, 3) := by decide +kernel
theorem dX9_lookAtSet_38 : decode cX9_lookAtSet 38 = .ok (.aload_n 0, 1) := by decide +kernel
theorem dX9_lookAtSet_39 : decode cX9_lookAtSet 39 = .ok (.getfield 70, 3) := by decide +kernel
theorem dX9_lookAtSet_42 : decode cX9_lookAtSet 42 = .ok (.iload 6, 2) := by decide +kernel
theorem dX9_lookAtSet_44 : decode cX9_lookAtSet 44 = .ok (.invokevirtual 147, 3) := by decide +kernel
theorem dX9_lookAtSet_47 : decode cX9_lookAtSet 47 = .ok (.iconst 1, 1) := by decide +kernel
theorem dX9_lookAtSet_48 : decode cX9_lookAtSet 48 = .ok (.aload_n 0, 1) := by decide +kernel
theorem dX9_lookAtSet_49 : decode cX9_lookAtSet 49 = .ok (.getfield 70, 3) := by decide +kernel
theorem dX9_lookAtSet_52 : decode cX9_lookAtSet 52 = .ok (.getfield 151, 3) := by decide +kernel
theorem dX9_lookAtSet_55 : decode cX9_lookAtSet 55 = .ok (.invokestatic 141, 3) := by decide +kernel
theorem dX9_lookAtSet_58 : decode cX9_lookAtSet 58 = .ok (.ishl, 1) := by decide +kernel
theorem dX9_lookAtSet_59 : decode cX9_lookAtSet 59 = .ok (.istore 7, 2) := by decide +kernel
theorem dX9_lookAtSet_61 : decode cX9_lookAtSet 61 = .ok (.iconst 0, 1) := by decide +kernel
theorem dX9_lookAtSet_62 : decode cX9_lookAtSet 62 = .ok (.istore 8, 2) := by decide +kernel
theorem dX9_lookAtSet_64 : decode cX9_lookAtSet 64 = .ok (.iload 8, 2) := by decide +kernel
theorem dX9_lookAtSet_66 : decode cX9_lookAtSet 66 = .ok (.iload 7, 2) := by decide +kernel
theorem dX9_lookAtSet_68 : decode cX9_lookAtSet 68 = .ok (.if_icmp .ge 28, 3) := by decide +kernel
theorem dX9_lookAtSet_71 : decode cX9_lookAtSet 71 = .ok (.aload_n 0, 1) := by decide +kernel
theorem dX9_lookAtSet_72 : decode cX9_lookAtSet 72 = .ok (.iload_n 1, 1) := by decide +kernel
theorem dX9_lookAtSet_73 : decode cX9_lookAtSet 73 = .ok (.iload_n 2, 1) := by decide +kernel
theorem dX9_lookAtSet_74 : decode cX9_lookAtSet 74 = .ok (.iload 6, 2) := by decide +kernel
theorem dX9_lookAtSet_76 : decode cX9_lookAtSet 76 = .ok (.iload 8, 2) := by decide +kernel
theorem dX9_lookAtSet_78 : decode cX9_lookAtSet 78 = .ok (.lload_n 3, 1) := by decide +kernel
theorem dX9_lookAtSet_79 : decode cX9_lookAtSet 79 = .ok (.invokevirtual 154, 3) := by decide +kernel
theorem dX9_lookAtSet_82 : decode cX9_lookAtSet 82 = .ok (.aload_n 0, 1) := by decide +kernel
theorem dX9_lookAtSet_83 : decode cX9_lookAtSet 83 = .ok (.getfield 28, 3) := by decide +kernel
theorem dX9_lookAtSet_86 : decode cX9_lookAtSet 86 = .ok (.ifCond .eq 4, 3) := by decide +kernel
theorem dX9_lookAtSet_89 : decode cX9_lookAtSet 89 = .ok (.return_, 1) := by decide +kernel
theorem dX9_lookAtSet_90 : decode cX9_lookAtSet 90 = .ok (.iinc 8 1, 3) := by decide +kernel
theorem dX9_lookAtSet_93 : decode cX9_lookAtSet 93 = .ok (.goto (-29), 3) := by decide +kernel
theorem dX9_lookAtSet_96 : decode cX9_lookAtSet 96 = .ok (.iinc 6 1, 3) := by decide +kernel
theorem dX9_lookAtSet_99 : decode cX9_lookAtSet 99 = .ok (.goto (-68), 3) := by decide +kernel
theorem dX9_lookAtSet_102 : decode cX9_lookAtSet 102 = .ok (.return_, 1) := by decide +kernel
theorem dX9_arrive_0 : decode cX9_arrive 0 = .ok (.aload_n 0, 1) := by decide +kernel
theorem dX9_arrive_1 : decode cX9_arrive 1 = .ok (.getfield 70, 3) := by decide +kernel
theorem dX9_arrive_4 : decode cX9_arrive 4 = .ok (.iload 4, 2) := by decide +kernel
theorem dX9_arrive_6 : decode cX9_arrive 6 = .ok (.invokevirtual 158, 3) := by decide +kernel
theorem dX9_arrive_9 : decode cX9_arrive 9 = .ok (.istore 7, 2) := by decide +kernel
theorem dX9_arrive_11 : decode cX9_arrive 11 = .ok (.aload_n 0, 1) := by decide +kernel
theorem dX9_arrive_12 : decode cX9_arrive 12 = .ok (.iload 7, 2) := by decide +kernel
theorem dX9_arrive_14 : decode cX9_arrive 14 = .ok (.lload 5, 2) := by decide +kernel
theorem dX9_arrive_16 : decode cX9_arrive 16 = .ok (.invokevirtual 91, 3) := by decide +kernel
theorem dX9_arrive_19 : decode cX9_arrive 19 = .ok (.istore 8, 2) := by decide +kernel
theorem dX9_arrive_21 : decode cX9_arrive 21 = .ok (.aload_n 0, 1) := by decide +kernel
theorem dX9_arrive_22 : decode cX9_arrive 22 = .ok (.getfield 52, 3) := by decide +kernel
theorem dX9_arrive_25 : decode cX9_arrive 25 = .ok (.iload 8, 2) := by decide +kernel
theorem dX9_arrive_27 : decode cX9_arrive 27 = .ok (.iaload, 1) := by decide +kernel
theorem dX9_arrive_28 : decode cX9_arrive 28 = .ok (.ifCond .ne 7, 3) := by decide +kernel
theorem dX9_arrive_31 : decode cX9_arrive 31 = .ok (.iconst 1, 1) := by decide +kernel
theorem dX9_arrive_32 : decode cX9_arrive 32 = .ok (.goto 4, 3) := by decide +kernel
theorem dX9_arrive_35 : decode cX9_arrive 35 = .ok (.iconst 0, 1) := by decide +kernel
theorem dX9_arrive_36 : decode cX9_arrive 36 = .ok (.istore 9, 2) := by decide +kernel
theorem dX9_arrive_38 : decode cX9_arrive 38 = .ok (.aload_n 0, 1) := by decide +kernel
theorem dX9_arrive_39 : decode cX9_arrive 39 = .ok (.getfield 25, 3) := by decide +kernel
theorem dX9_arrive_42 : decode cX9_arrive 42 = .ok (.sipush 20000, 3) := by decide +kernel
theorem dX9_arrive_45 : decode cX9_arrive 45 = .ok (.if_icmp .ge 18, 3) := by decide +kernel
theorem dX9_arrive_48 : decode cX9_arrive 48 = .ok (.iload 9, 2) := by decide +kernel
theorem dX9_arrive_50 : decode cX9_arrive 50 = .ok (.ifCond .eq 19, 3) := by decide +kernel
theorem dX9_arrive_53 : decode cX9_arrive 53 = .ok (.aload_n 0, 1) := by decide +kernel
theorem dX9_arrive_54 : decode cX9_arrive 54 = .ok (.getfield 18, 3) := by decide +kernel
theorem dX9_arrive_57 : decode cX9_arrive 57 = .ok (.sipush 250, 3) := by decide +kernel
theorem dX9_arrive_60 : decode cX9_arrive 60 = .ok (.if_icmp .lt 9, 3) := by decide +kernel
theorem dX9_arrive_63 : decode cX9_arrive 63 = .ok (.aload_n 0, 1) := by decide +kernel
theorem dX9_arrive_64 : decode cX9_arrive 64 = .ok (.iconst 1, 1) := by decide +kernel
theorem dX9_arrive_65 : decode cX9_arrive 65 = .ok (.putfield 28, 3) := by decide +kernel
theorem dX9_arrive_68 : decode cX9_arrive 68 = .ok (.return_, 1) := by decide +kernel
theorem dX9_arrive_69 : decode cX9_arrive 69 = .ok (.iload 9, 2) := by decide +kernel
theorem dX9_arrive_71 : decode cX9_arrive 71 = .ok (.ifCond .eq 41, 3) := by decide +kernel
theorem dX9_arrive_74 : decode cX9_arrive 74 = .ok (.aload_n 0, 1) := by decide +kernel
theorem dX9_arrive_75 : decode cX9_arrive 75 = .ok (.getfield 46, 3) := by decide +kernel
theorem dX9_arrive_78 : decode cX9_arrive 78 = .ok (.aload_n 0, 1) := by decide +kernel
theorem dX9_arrive_79 : decode cX9_arrive 79 = .ok (.getfield 18, 3) := by decide +kernel
theorem dX9_arrive_82 : decode cX9_arrive 82 = .ok (.iload_n 1, 1) := by decide +kernel
theorem dX9_arrive_83 : decode cX9_arrive 83 = .ok (.iload_n 2, 1) := by decide +kernel
theorem dX9_arrive_84 : decode cX9_arrive 84 = .ok (.iload_n 3, 1) := by decide +kernel
theorem dX9_arrive_85 : decode cX9_arrive 85 = .ok (.iload 4, 2) := by decide +kernel
theorem dX9_arrive_87 : decode cX9_arrive 87 = .ok (.aload_n 0, 1) := by decide +kernel
theorem dX9_arrive_88 : decode cX9_arrive 88 = .ok (.getfield 18, 3) := by decide +kernel
theorem dX9_arrive_91 : decode cX9_arrive 91 = .ok (.invokestatic 99, 3) := by decide +kernel
theorem dX9_arrive_94 : decode cX9_arrive 94 = .ok (.aload_n 0, 1) := by decide +kernel
theorem dX9_arrive_95 : decode cX9_arrive 95 = .ok (.iload 8, 2) := by decide +kernel
theorem dX9_arrive_97 : decode cX9_arrive 97 = .ok (.iload 7, 2) := by decide +kernel
theorem dX9_arrive_99 : decode cX9_arrive 99 = .ok (.lload 5, 2) := by decide +kernel
theorem dX9_arrive_101 : decode cX9_arrive 101 = .ok (.aload_n 0, 1) := by decide +kernel
theorem dX9_arrive_102 : decode cX9_arrive 102 = .ok (.getfield 40, 3) := by decide +kernel
theorem dX9_arrive_105 : decode cX9_arrive 105 = .ok (.iload_n 1, 1) := by decide +kernel
theorem dX9_arrive_106 : decode cX9_arrive 106 = .ok (.iaload, 1) := by decide +kernel
theorem dX9_arrive_107 : decode cX9_arrive 107 = .ok (.iconst 1, 1) := by decide +kernel
theorem dX9_arrive_108 : decode cX9_arrive 108 = .ok (.iadd, 1) := by decide +kernel
theorem dX9_arrive_109 : decode cX9_arrive 109 = .ok (.invokevirtual 95, 3) := by decide +kernel
theorem dX9_arrive_112 : decode cX9_arrive 112 = .ok (.aload_n 0, 1) := by decide +kernel
theorem dX9_arrive_113 : decode cX9_arrive 113 = .ok (.getfield 52, 3) := by decide +kernel
theorem dX9_arrive_116 : decode cX9_arrive 116 = .ok (.iload 8, 2) := by decide +kernel
theorem dX9_arrive_118 : decode cX9_arrive 118 = .ok (.iaload, 1) := by decide +kernel
theorem dX9_arrive_119 : decode cX9_arrive 119 = .ok (.iconst 1, 1) := by decide +kernel
theorem dX9_arrive_120 : decode cX9_arrive 120 = .ok (.isub, 1) := by decide +kernel
theorem dX9_arrive_121 : decode cX9_arrive 121 = .ok (.istore 10, 2) := by decide +kernel
theorem dX9_arrive_123 : decode cX9_arrive 123 = .ok (.aload_n 0, 1) := by decide +kernel
theorem dX9_arrive_124 : decode cX9_arrive 124 = .ok (.getfield 12, 3) := by decide +kernel
theorem dX9_arrive_127 : decode cX9_arrive 127 = .ok (.aload_n 0, 1) := by decide +kernel
theorem dX9_arrive_128 : decode cX9_arrive 128 = .ok (.getfield 25, 3) := by decide +kernel
theorem dX9_arrive_131 : decode cX9_arrive 131 = .ok (.iload 10, 2) := by decide +kernel
theorem dX9_arrive_133 : decode cX9_arrive 133 = .ok (.iload 4, 2) := by decide +kernel
theorem dX9_arrive_135 : decode cX9_arrive 135 = .ok (.invokestatic 141, 3) := by decide +kernel
theorem dX9_arrive_138 : decode cX9_arrive 138 = .ok (.invokevirtual 160, 3) := by decide +kernel
theorem dX9_arrive_141 : decode cX9_arrive 141 = .ok (.aload_n 0, 1) := by decide +kernel
theorem dX9_arrive_142 : decode cX9_arrive 142 = .ok (.dup, 1) := by decide +kernel
theorem dX9_arrive_143 : decode cX9_arrive 143 = .ok (.getfield 25, 3) := by decide +kernel
theorem dX9_arrive_146 : decode cX9_arrive 146 = .ok (.iconst 1, 1) := by decide +kernel
theorem dX9_arrive_147 : decode cX9_arrive 147 = .ok (.iadd, 1) := by decide +kernel
theorem dX9_arrive_148 : decode cX9_arrive 148 = .ok (.putfield 25, 3) := by decide +kernel
theorem dX9_arrive_151 : decode cX9_arrive 151 = .ok (.aload_n 0, 1) := by decide +kernel
theorem dX9_arrive_152 : decode cX9_arrive 152 = .ok (.iload_n 1, 1) := by decide +kernel
theorem dX9_arrive_153 : decode cX9_arrive 153 = .ok (.iload_n 2, 1) := by decide +kernel
theorem dX9_arrive_154 : decode cX9_arrive 154 = .ok (.iload_n 3, 1) := by decide +kernel
theorem dX9_arrive_155 : decode cX9_arrive 155 = .ok (.iload 4, 2) := by decide +kernel
theorem dX9_arrive_157 : decode cX9_arrive 157 = .ok (.iload 10, 2) := by decide +kernel
theorem dX9_arrive_159 : decode cX9_arrive 159 = .ok (.invokevirtual 103, 3) := by decide +kernel
theorem dX9_arrive_162 : decode cX9_arrive 162 = .ok (.return_, 1) := by decide +kernel
theorem dX9_addState_0 : decode cX9_addState 0 = .ok (.aload_n 0, 1) := by decide +kernel
theorem dX9_addState_1 : decode cX9_addState 1 = .ok (.getfield 32, 3) := by decide +kernel
theorem dX9_addState_4 : decode cX9_addState 4 = .ok (.aload_n 0, 1) := by decide +kernel
theorem dX9_addState_5 : decode cX9_addState 5 = .ok (.getfield 18, 3) := by decide +kernel
theorem dX9_addState_8 : decode cX9_addState 8 = .ok (.iload_n 2, 1) := by decide +kernel
theorem dX9_addState_9 : decode cX9_addState 9 = .ok (.iastore, 1) := by decide +kernel
theorem dX9_addState_10 : decode cX9_addState 10 = .ok (.aload_n 0, 1) := by decide +kernel
theorem dX9_addState_11 : decode cX9_addState 11 = .ok (.getfield 36, 3) := by decide +kernel
theorem dX9_addState_14 : decode cX9_addState 14 = .ok (.aload_n 0, 1) := by decide +kernel
theorem dX9_addState_15 : decode cX9_addState 15 = .ok (.getfield 18, 3) := by decide +kernel
theorem dX9_addState_18 : decode cX9_addState 18 = .ok (.lload_n 3, 1) := by decide +kernel
theorem dX9_addState_19 : decode cX9_addState 19 = .ok (.lastore, 1) := by decide +kernel
theorem dX9_addState_20 : decode cX9_addState 20 = .ok (.aload_n 0, 1) := by decide +kernel
theorem dX9_addState_21 : decode cX9_addState 21 = .ok (.getfield 40, 3) := by decide +kernel
theorem dX9_addState_24 : decode cX9_addState 24 = .ok (.aload_n 0, 1) := by decide +kernel
theorem dX9_addState_25 : decode cX9_addState 25 = .ok (.getfield 18, 3) := by decide +kernel
theorem dX9_addState_28 : decode cX9_addState 28 = .ok (.iload 5, 2) := by decide +kernel
theorem dX9_addState_30 : decode cX9_addState 30 = .ok (.iastore, 1) := by decide +kernel
theorem dX9_addState_31 : decode cX9_addState 31 = .ok (.aload_n 0, 1) := by decide +kernel
theorem dX9_addState_32 : decode cX9_addState 32 = .ok (.getfield 43, 3) := by decide +kernel
theorem dX9_addState_35 : decode cX9_addState 35 = .ok (.aload_n 0, 1) := by decide +kernel
theorem dX9_addState_36 : decode cX9_addState 36 = .ok (.getfield 18, 3) := by decide +kernel
theorem dX9_addState_39 : decode cX9_addState 39 = .ok (.bipush (-2), 2) := by decide +kernel
theorem dX9_addState_41 : decode cX9_addState 41 = .ok (.iastore, 1) := by decide +kernel
theorem dX9_addState_42 : decode cX9_addState 42 = .ok (.aload_n 0, 1) := by decide +kernel
theorem dX9_addState_43 : decode cX9_addState 43 = .ok (.dup, 1) := by decide +kernel
theorem dX9_addState_44 : decode cX9_addState 44 = .ok (.getfield 18, 3) := by decide +kernel
theorem dX9_addState_47 : decode cX9_addState 47 = .ok (.iconst 1, 1) := by decide +kernel
theorem dX9_addState_48 : decode cX9_addState 48 = .ok (.iadd, 1) := by decide +kernel
theorem dX9_addState_49 : decode cX9_addState 49 = .ok (.putfield 18, 3) := by decide +kernel
theorem dX9_addState_52 : decode cX9_addState 52 = .ok (.aload_n 0, 1) := by decide +kernel
theorem dX9_addState_53 : decode cX9_addState 53 = .ok (.getfield 52, 3) := by decide +kernel
theorem dX9_addState_56 : decode cX9_addState 56 = .ok (.iload_n 1, 1) := by decide +kernel
theorem dX9_addState_57 : decode cX9_addState 57 = .ok (.aload_n 0, 1) := by decide +kernel
theorem dX9_addState_58 : decode cX9_addState 58 = .ok (.getfield 18, 3) := by decide +kernel
theorem dX9_addState_61 : decode cX9_addState 61 = .ok (.iastore, 1) := by decide +kernel
theorem dX9_addState_62 : decode cX9_addState 62 = .ok (.return_, 1) := by decide +kernel
theorem dX9_judge_0 : decode cX9_judge 0 = .ok (.iload_n 1, 1) := by decide +kernel
theorem dX9_judge_1 : decode cX9_judge 1 = .ok (.ifCond .ge 13, 3) := by decide +kernel
