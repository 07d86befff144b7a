theorem dX12_trySet_51 : decode cX12_trySet 51 = .ok (.iaload, 1) := by decide +kernel
theorem dX12_trySet_52 : decode cX12_trySet 52 = .ok (.invokevirtual 212, 3) := by decide +kernel
theorem dX12_trySet_55 : decode cX12_trySet 55 = .ok (.ifCond .eq 7, 3) := by decide +kernel
theorem dX12_trySet_58 : decode cX12_trySet 58 = .ok (.iconst 1, 1) := by decide +kernel
theorem dX12_trySet_59 : decode cX12_trySet 59 = .ok (.goto 4, 3) := by decide +kernel
theorem dX12_trySet_62 : decode cX12_trySet 62 = .ok (.iconst 0, 1) := by decide +kernel
theorem dX12_trySet_63 : decode cX12_trySet 63 = .ok (.istore_n 3, 1) := by decide +kernel
theorem dX12_trySet_64 : decode cX12_trySet 64 = .ok (.iinc 4 1, 3) := by decide +kernel
theorem dX12_trySet_67 : decode cX12_trySet 67 = .ok (.goto (-62), 3) := by decide +kernel
theorem dX12_trySet_70 : decode cX12_trySet 70 = .ok (.iconst 1, 1) := by decide +kernel
theorem dX12_trySet_71 : decode cX12_trySet 71 = .ok (.aload_n 0, 1) := by decide +kernel
theorem dX12_trySet_72 : decode cX12_trySet 72 = .ok (.iload_n 2, 1) := by decide +kernel
theorem dX12_trySet_73 : decode cX12_trySet 73 = .ok (.invokevirtual 266, 3) := by decide +kernel
theorem dX12_trySet_76 : decode cX12_trySet 76 = .ok (.ishl, 1) := by decide +kernel
theorem dX12_trySet_77 : decode cX12_trySet 77 = .ok (.istore 4, 2) := by decide +kernel
theorem dX12_trySet_79 : decode cX12_trySet 79 = .ok (.iconst 0, 1) := by decide +kernel
theorem dX12_trySet_80 : decode cX12_trySet 80 = .ok (.istore 5, 2) := by decide +kernel
theorem dX12_trySet_82 : decode cX12_trySet 82 = .ok (.iload 5, 2) := by decide +kernel
theorem dX12_trySet_84 : decode cX12_trySet 84 = .ok (.iload 4, 2) := by decide +kernel
theorem dX12_trySet_86 : decode cX12_trySet 86 = .ok (.if_icmp .ge 78, 3) := by decide +kernel
theorem dX12_trySet_89 : decode cX12_trySet 89 = .ok (.iload_n 3, 1) := by decide +kernel
theorem dX12_trySet_90 : decode cX12_trySet 90 = .ok (.ifCond .eq 74, 3) := by decide +kernel
theorem dX12_trySet_93 : decode cX12_trySet 93 = .ok (.aload_n 0, 1) := by decide +kernel
theorem dX12_trySet_94 : decode cX12_trySet 94 = .ok (.getfield 237, 3) := by decide +kernel
theorem dX12_trySet_97 : decode cX12_trySet 97 = .ok (.ifCond .ne 67, 3) := by decide +kernel
theorem dX12_trySet_100 : decode cX12_trySet 100 = .ok (.aload_n 0, 1) := by decide +kernel
theorem dX12_trySet_101 : decode cX12_trySet 101 = .ok (.aload_n 0, 1) := by decide +kernel
theorem dX12_trySet_102 : decode cX12_trySet 102 = .ok (.getfield 56, 3) := by decide +kernel
theorem dX12_trySet_105 : decode cX12_trySet 105 = .ok (.iload_n 1, 1) := by decide +kernel
theorem dX12_trySet_106 : decode cX12_trySet 106 = .ok (.iaload, 1) := by decide +kernel
theorem dX12_trySet_107 : decode cX12_trySet 107 = .ok (.iload_n 2, 1) := by decide +kernel
theorem dX12_trySet_108 : decode cX12_trySet 108 = .ok (.iload 5, 2) := by decide +kernel
theorem dX12_trySet_110 : decode cX12_trySet 110 = .ok (.invokevirtual 215, 3) := by decide +kernel
theorem dX12_trySet_113 : decode cX12_trySet 113 = .ok (.iconst 1, 1) := by decide +kernel
theorem dX12_trySet_114 : decode cX12_trySet 114 = .ok (.aload_n 0, 1) := by decide +kernel
theorem dX12_trySet_115 : decode cX12_trySet 115 = .ok (.aload_n 0, 1) := by decide +kernel
theorem dX12_trySet_116 : decode cX12_trySet 116 = .ok (.getfield 199, 3) := by decide +kernel
theorem dX12_trySet_119 : decode cX12_trySet 119 = .ok (.invokevirtual 205, 3) := by decide +kernel
theorem dX12_trySet_122 : decode cX12_trySet 122 = .ok (.ishl, 1) := by decide +kernel
theorem dX12_trySet_123 : decode cX12_trySet 123 = .ok (.istore 6, 2) := by decide +kernel
theorem dX12_trySet_125 : decode cX12_trySet 125 = .ok (.iconst 0, 1) := by decide +kernel
theorem dX12_trySet_126 : decode cX12_trySet 126 = .ok (.istore 7, 2) := by decide +kernel
theorem dX12_trySet_128 : decode cX12_trySet 128 = .ok (.iload 7, 2) := by decide +kernel
theorem dX12_trySet_130 : decode cX12_trySet 130 = .ok (.iload 6, 2) := by decide +kernel
theorem dX12_trySet_132 : decode cX12_trySet 132 = .ok (.if_icmp .ge 26, 3) := by decide +kernel
theorem dX12_trySet_135 : decode cX12_trySet 135 = .ok (.aload_n 0, 1) := by decide +kernel
theorem dX12_trySet_136 : decode cX12_trySet 136 = .ok (.getfield 237, 3) := by decide +kernel
theorem dX12_trySet_139 : decode cX12_trySet 139 = .ok (.ifCond .ne 19, 3) := by decide +kernel
theorem dX12_trySet_142 : decode cX12_trySet 142 = .ok (.aload_n 0, 1) := by decide +kernel
theorem dX12_trySet_143 : decode cX12_trySet 143 = .ok (.iload_n 1, 1) := by decide +kernel
theorem dX12_trySet_144 : decode cX12_trySet 144 = .ok (.iload_n 2, 1) := by decide +kernel
theorem dX12_trySet_145 : decode cX12_trySet 145 = .ok (.iload 5, 2) := by decide +kernel
theorem dX12_trySet_147 : decode cX12_trySet 147 = .ok (.iload 7, 2) := by decide +kernel
theorem dX12_trySet_149 : decode cX12_trySet 149 = .ok (.invokevirtual 269, 3) := by decide +kernel
theorem dX12_trySet_152 : decode cX12_trySet 152 = .ok (.iinc 7 1, 3) := by decide +kernel
theorem dX12_trySet_155 : decode cX12_trySet 155 = .ok (.goto (-27), 3) := by decide +kernel
theorem dX12_trySet_158 : decode cX12_trySet 158 = .ok (.iinc 5 1, 3) := by decide +kernel
theorem dX12_trySet_161 : decode cX12_trySet 161 = .ok (.goto (-79), 3) := by decide +kernel
theorem dX12_trySet_164 : decode cX12_trySet 164 = .ok (.return_, 1) := by decide +kernel
theorem dX12_clocksThere_0 : decode cX12_clocksThere 0 = .ok (.iconst 0, 1) := by decide +kernel
theorem dX12_clocksThere_1 : decode cX12_clocksThere 1 = .ok (.istore_n 1, 1) := by decide +kernel
theorem dX12_clocksThere_2 : decode cX12_clocksThere 2 = .ok (.iconst 0, 1) := by decide +kernel
theorem dX12_clocksThere_3 : decode cX12_clocksThere 3 = .ok (.istore_n 2, 1) := by decide +kernel
theorem dX12_clocksThere_4 : decode cX12_clocksThere 4 = .ok (.iload_n 2, 1) := by decide +kernel
theorem dX12_clocksThere_5 : decode cX12_clocksThere 5 = .ok (.aload_n 0, 1) := by decide +kernel
theorem dX12_clocksThere_6 : decode cX12_clocksThere 6 = .ok (.getfield 126, 3) := by decide +kernel
theorem dX12_clocksThere_9 : decode cX12_clocksThere 9 = .ok (.if_icmp .ge 34, 3) := by decide +kernel
theorem dX12_clocksThere_12 : decode cX12_clocksThere 12 = .ok (.iload_n 1, 1) := by decide +kernel
theorem dX12_clocksThere_13 : decode cX12_clocksThere 13 = .ok (.aload_n 0, 1) := by decide +kernel
theorem dX12_clocksThere_14 : decode cX12_clocksThere 14 = .ok (.getfield 7, 3) := by decide +kernel
theorem dX12_clocksThere_17 : decode cX12_clocksThere 17 = .ok (.iload_n 2, 1) := by decide +kernel
theorem dX12_clocksThere_18 : decode cX12_clocksThere 18 = .ok (.iaload, 1) := by decide +kernel
theorem dX12_clocksThere_19 : decode cX12_clocksThere 19 = .ok (.iconst 4, 1) := by decide +kernel
theorem dX12_clocksThere_20 : decode cX12_clocksThere 20 = .ok (.if_icmp .le 14, 3) := by decide +kernel
theorem dX12_clocksThere_23 : decode cX12_clocksThere 23 = .ok (.iconst 1, 1) := by decide +kernel
theorem dX12_clocksThere_24 : decode cX12_clocksThere 24 = .ok (.aload_n 0, 1) := by decide +kernel
theorem dX12_clocksThere_25 : decode cX12_clocksThere 25 = .ok (.getfield 13, 3) := by decide +kernel
theorem dX12_clocksThere_28 : decode cX12_clocksThere 28 = .ok (.iload_n 2, 1) := by decide +kernel
theorem dX12_clocksThere_29 : decode cX12_clocksThere 29 = .ok (.iaload, 1) := by decide +kernel
theorem dX12_clocksThere_30 : decode cX12_clocksThere 30 = .ok (.ishl, 1) := by decide +kernel
theorem dX12_clocksThere_31 : decode cX12_clocksThere 31 = .ok (.goto 4, 3) := by decide +kernel
theorem dX12_clocksThere_34 : decode cX12_clocksThere 34 = .ok (.iconst 0, 1) := by decide +kernel
theorem dX12_clocksThere_35 : decode cX12_clocksThere 35 = .ok (.ior, 1) := by decide +kernel
theorem dX12_clocksThere_36 : decode cX12_clocksThere 36 = .ok (.istore_n 1, 1) := by decide +kernel
theorem dX12_clocksThere_37 : decode cX12_clocksThere 37 = .ok (.iinc 2 1, 3) := by decide +kernel
theorem dX12_clocksThere_40 : decode cX12_clocksThere 40 = .ok (.goto (-36), 3) := by decide +kernel
theorem dX12_clocksThere_43 : decode cX12_clocksThere 43 = .ok (.iload_n 1, 1) := by decide +kernel
theorem dX12_clocksThere_44 : decode cX12_clocksThere 44 = .ok (.ireturn, 1) := by decide +kernel
theorem dX12_walk_0 : decode cX12_walk 0 = .ok (.aload_n 0, 1) := by decide +kernel
theorem dX12_walk_1 : decode cX12_walk 1 = .ok (.iconst 0, 1) := by decide +kernel
theorem dX12_walk_2 : decode cX12_walk 2 = .ok (.putfield 122, 3) := by decide +kernel
theorem dX12_walk_5 : decode cX12_walk 5 = .ok (.aload_n 0, 1) := by decide +kernel
theorem dX12_walk_6 : decode cX12_walk 6 = .ok (.getfield 160, 3) := by decide +kernel
theorem dX12_walk_9 : decode cX12_walk 9 = .ok (.ifCond .ne 6, 3) := by decide +kernel
theorem dX12_walk_12 : decode cX12_walk 12 = .ok (.bipush (-3), 2) := by decide +kernel
theorem dX12_walk_14 : decode cX12_walk 14 = .ok (.ireturn, 1) := by decide +kernel
theorem dX12_walk_15 : decode cX12_walk 15 = .ok (.aload_n 0, 1) := by decide +kernel
theorem dX12_walk_16 : decode cX12_walk 16 = .ok (.invokevirtual 151, 3) := by decide +kernel
theorem dX12_walk_19 : decode cX12_walk 19 = .ok (.aload_n 0, 1) := by decide +kernel
theorem dX12_walk_20 : decode cX12_walk 20 = .ok (.iconst 1, 1) := by decide +kernel
theorem dX12_walk_21 : decode cX12_walk 21 = .ok (.putfield 233, 3) := by decide +kernel
theorem dX12_walk_24 : decode cX12_walk 24 = .ok (.iconst 0, 1) := by decide +kernel
theorem dX12_walk_25 : decode cX12_walk 25 = .ok (.istore_n 1, 1) := by decide +kernel
theorem dX12_walk_26 : decode cX12_walk 26 = .ok (.iload_n 1, 1) := by decide +kernel
theorem dX12_walk_27 : decode cX12_walk 27 = .ok (.bipush 8, 2) := by decide +kernel
theorem dX12_walk_29 : decode cX12_walk 29 = .ok (.if_icmp .ge 16, 3) := by decide +kernel
theorem dX12_walk_32 : decode cX12_walk 32 = .ok (.aload_n 0, 1) := by decide +kernel
theorem dX12_walk_33 : decode cX12_walk 33 = .ok (.getfield 92, 3) := by decide +kernel
theorem dX12_walk_36 : decode cX12_walk 36 = .ok (.iload_n 1, 1) := by decide +kernel
theorem dX12_walk_37 : decode cX12_walk 37 = .ok (.iconst 0, 1) := by decide +kernel
theorem dX12_walk_38 : decode cX12_walk 38 = .ok (.bastore, 1) := by decide +kernel
theorem dX12_walk_39 : decode cX12_walk 39 = .ok (.iinc 1 1, 3) := by decide +kernel
theorem dX12_walk_42 : decode cX12_walk 42 = .ok (.goto (-16), 3) := by decide +kernel
theorem dX12_walk_45 : decode cX12_walk 45 = .ok (.iconst 0, 1) := by decide +kernel
theorem dX12_walk_46 : decode cX12_walk 46 = .ok (.istore_n 1, 1) := by decide +kernel
theorem dX12_walk_47 : decode cX12_walk 47 = .ok (.iload_n 1, 1) := by decide +kernel
theorem dX12_walk_48 : decode cX12_walk 48 = .ok (.bipush 16, 2) := by decide +kernel
theorem dX12_walk_50 : decode cX12_walk 50 = .ok (.if_icmp .ge 16, 3) := by decide +kernel
theorem dX12_walk_53 : decode cX12_walk 53 = .ok (.aload_n 0, 1) := by decide +kernel
theorem dX12_walk_54 : decode cX12_walk 54 = .ok (.getfield 95, 3) := by decide +kernel
theorem dX12_walk_57 : decode cX12_walk 57 = .ok (.iload_n 1, 1) := by decide +kernel
theorem dX12_walk_58 : decode cX12_walk 58 = .ok (.iconst 0, 1) := by decide +kernel
theorem dX12_walk_59 : decode cX12_walk 59 = .ok (.iastore, 1) := by decide +kernel
theorem dX12_walk_60 : decode cX12_walk 60 = .ok (.iinc 1 1, 3) := by decide +kernel
theorem dX12_walk_63 : decode cX12_walk 63 = .ok (.goto (-16), 3) := by decide +kernel
theorem dX12_walk_66 : decode cX12_walk 66 = .ok (.aload_n 0, 1) := by decide +kernel
theorem dX12_walk_67 : decode cX12_walk 67 = .ok (.invokevirtual 147, 3) := by decide +kernel
theorem dX12_walk_70 : decode cX12_walk 70 = .ok (.istore_n 1, 1) := by decide +kernel
theorem dX12_walk_71 : decode cX12_walk 71 = .ok (.aload_n 0, 1) := by decide +kernel
theorem dX12_walk_72 : decode cX12_walk 72 = .ok (.iload_n 1, 1) := by decide +kernel
theorem dX12_walk_73 : decode cX12_walk 73 = .ok (.iconst (-1), 1) := by decide +kernel
theorem dX12_walk_74 : decode cX12_walk 74 = .ok (.iconst 0, 1) := by decide +kernel
theorem dX12_walk_75 : decode cX12_walk 75 = .ok (.iconst 0, 1) := by decide +kernel
theorem dX12_walk_76 : decode cX12_walk 76 = .ok (.iconst 0, 1) := by decide +kernel
theorem dX12_walk_77 : decode cX12_walk 77 = .ok (.invokevirtual 255, 3) := by decide +kernel
theorem dX12_walk_80 : decode cX12_walk 80 = .ok (.aload_n 0, 1) := by decide +kernel
theorem dX12_walk_81 : decode cX12_walk 81 = .ok (.iconst 0, 1) := by decide +kernel
theorem dX12_walk_82 : decode cX12_walk 82 = .ok (.iload_n 1, 1) := by decide +kernel
theorem dX12_walk_83 : decode cX12_walk 83 = .ok (.iconst (-1), 1) := by decide +kernel
theorem dX12_walk_84 : decode cX12_walk 84 = .ok (.iconst 0, 1) := by decide +kernel
theorem dX12_walk_85 : decode cX12_walk 85 = .ok (.iconst 0, 1) := by decide +kernel
theorem dX12_walk_86 : decode cX12_walk 86 = .ok (.iconst 0, 1) := by decide +kernel
theorem dX12_walk_87 : decode cX12_walk 87 = .ok (.iconst 0, 1) := by decide +kernel
theorem dX12_walk_88 : decode cX12_walk 88 = .ok (.invokevirtual 262, 3) := by decide +kernel
theorem dX12_walk_91 : decode cX12_walk 91 = .ok (.aload_n 0, 1) := by decide +kernel
theorem dX12_walk_92 : decode cX12_walk 92 = .ok (.invokevirtual 273, 3) := by decide +kernel
theorem dX12_walk_95 : decode cX12_walk 95 = .ok (.istore_n 2, 1) := by decide +kernel
theorem dX12_walk_96 : decode cX12_walk 96 = .ok (.iconst 0, 1) := by decide +kernel
theorem dX12_walk_97 : decode cX12_walk 97 = .ok (.istore_n 3, 1) := by decide +kernel
theorem dX12_walk_98 : decode cX12_walk 98 = .ok (.iload_n 3, 1) := by decide +kernel
theorem dX12_walk_99 : decode cX12_walk 99 = .ok (.aload_n 0, 1) := by decide +kernel
theorem dX12_walk_100 : decode cX12_walk 100 = .ok (.getfield 240, 3) := by decide +kernel
theorem dX12_walk_103 : decode cX12_walk 103 = .ok (.if_icmp .ge 91, 3) := by decide +kernel
theorem dX12_walk_106 : decode cX12_walk 106 = .ok (.aload_n 0, 1) := by decide +kernel
theorem dX12_walk_107 : decode cX12_walk 107 = .ok (.getfield 237, 3) := by decide +kernel
theorem dX12_walk_110 : decode cX12_walk 110 = .ok (.ifCond .ne 84, 3) := by decide +kernel
theorem dX12_walk_113 : decode cX12_walk 113 = .ok (.aload_n 0, 1) := by decide +kernel
theorem dX12_walk_114 : decode cX12_walk 114 = .ok (.getfield 249, 3) := by decide +kernel
theorem dX12_walk_117 : decode cX12_walk 117 = .ok (.istore 4, 2) := by decide +kernel
theorem dX12_walk_119 : decode cX12_walk 119 = .ok (.iconst 1, 1) := by decide +kernel
theorem dX12_walk_120 : decode cX12_walk 120 = .ok (.istore 5, 2) := by decide +kernel
theorem dX12_walk_122 : decode cX12_walk 122 = .ok (.iload 5, 2) := by decide +kernel
theorem dX12_walk_124 : decode cX12_walk 124 = .ok (.bipush 16, 2) := by decide +kernel
theorem dX12_walk_126 : decode cX12_walk 126 = .ok (.if_icmp .ge 32, 3) := by decide +kernel
theorem dX12_walk_129 : decode cX12_walk 129 = .ok (.aload_n 0, 1) := by decide +kernel
theorem dX12_walk_130 : decode cX12_walk 130 = .ok (.getfield 237, 3) := by decide +kernel
theorem dX12_walk_133 : decode cX12_walk 133 = .ok (.ifCond .ne 25, 3) := by decide +kernel
theorem dX12_walk_136 : decode cX12_walk 136 = .ok (.iload 5, 2) := by decide +kernel
theorem dX12_walk_138 : decode cX12_walk 138 = .ok (.iload_n 2, 1) := by decide +kernel
theorem dX12_walk_139 : decode cX12_walk 139 = .ok (.iconst (-1), 1) := by decide +kernel
theorem dX12_walk_140 : decode cX12_walk 140 = .ok (.ixor, 1) := by decide +kernel
theorem dX12_walk_141 : decode cX12_walk 141 = .ok (.iand, 1) := by decide +kernel
theorem dX12_walk_142 : decode cX12_walk 142 = .ok (.ifCond .ne 10, 3) := by decide +kernel
theorem dX12_walk_145 : decode cX12_walk 145 = .ok (.aload_n 0, 1) := by decide +kernel
theorem dX12_walk_146 : decode cX12_walk 146 = .ok (.iload_n 3, 1) := by decide +kernel
theorem dX12_walk_147 : decode cX12_walk 147 = .ok (.iload 5, 2) := by decide +kernel
theorem dX12_walk_149 : decode cX12_walk 149 = .ok (.invokevirtual 276, 3) := by decide +kernel
theorem dX12_walk_152 : decode cX12_walk 152 = .ok (.iinc 5 1, 3) := by decide +kernel
theorem dX12_walk_155 : decode cX12_walk 155 = .ok (.goto (-33), 3) := by decide +kernel
theorem dX12_walk_158 : decode cX12_walk 158 = .ok (.aload_n 0, 1) := by decide +kernel
theorem dX12_walk_159 : decode cX12_walk 159 = .ok (.getfield 237, 3) := by decide +kernel
theorem dX12_walk_162 : decode cX12_walk 162 = .ok (.ifCond .ne 26, 3) := by decide +kernel
theorem dX12_walk_165 : decode cX12_walk 165 = .ok (.aload_n 0, 1) := by decide +kernel
theorem dX12_walk_166 : decode cX12_walk 166 = .ok (.getfield 77, 3) := by decide +kernel
theorem dX12_walk_169 : decode cX12_walk 169 = .ok (.iload_n 3, 1) := by decide +kernel
theorem dX12_walk_170 : decode cX12_walk 170 = .ok (.aload_n 0, 1) := by decide +kernel
theorem dX12_walk_171 : decode cX12_walk 171 = .ok (.getfield 249, 3) := by decide +kernel
theorem dX12_walk_174 : decode cX12_walk 174 = .ok (.iload 4, 2) := by decide +kernel
theorem dX12_walk_176 : decode cX12_walk 176 = .ok (.isub, 1) := by decide +kernel
theorem dX12_walk_177 : decode cX12_walk 177 = .ok (.iastore, 1) := by decide +kernel
theorem dX12_walk_178 : decode cX12_walk 178 = .ok (.aload_n 0, 1) := by decide +kernel
theorem dX12_walk_179 : decode cX12_walk 179 = .ok (.dup, 1) := by decide +kernel
theorem dX12_walk_180 : decode cX12_walk 180 = .ok (.getfield 243, 3) := by decide +kernel
theorem dX12_walk_183 : decode cX12_walk 183 = .ok (.iconst 1, 1) := by decide +kernel
theorem dX12_walk_184 : decode cX12_walk 184 = .ok (.iadd, 1) := by decide +kernel
theorem dX12_walk_185 : decode cX12_walk 185 = .ok (.putfield 243, 3) := by decide +kernel
theorem dX12_walk_188 : decode cX12_walk 188 = .ok (.iinc 3 1, 3) := by decide +kernel
theorem dX12_walk_191 : decode cX12_walk 191 = .ok (.goto (-93), 3) := by decide +kernel
theorem dX12_walk_194 : decode cX12_walk 194 = .ok (.aload_n 0, 1) := by decide +kernel
theorem dX12_walk_195 : decode cX12_walk 195 = .ok (.getfield 237, 3) := by decide +kernel
theorem dX12_walk_198 : decode cX12_walk 198 = .ok (.ifCond .eq 13, 3) := by decide +kernel
theorem dX12_walk_201 : decode cX12_walk 201 = .ok (.bipush (-2), 2) := by decide +kernel
theorem dX12_walk_203 : decode cX12_walk 203 = .ok (.aload_n 0, 1) := by decide +kernel
theorem dX12_walk_204 : decode cX12_walk 204 = .ok (.getfield 240, 3) := by decide +kernel
theorem dX12_walk_207 : decode cX12_walk 207 = .ok (.isub, 1) := by decide +kernel
theorem dX12_walk_208 : decode cX12_walk 208 = .ok (.goto 7, 3) := by decide +kernel
theorem dX12_walk_211 : decode cX12_walk 211 = .ok (.aload_n 0, 1) := by decide +kernel
theorem dX12_walk_212 : decode cX12_walk 212 = .ok (.getfield 240, 3) := by decide +kernel
theorem dX12_walk_215 : decode cX12_walk 215 = .ok (.ireturn, 1) := by decide +kernel
theorem dX12_isState_0 : decode cX12_isState 0 = .ok (.iload_n 1, 1) := by decide +kernel
theorem dX12_isState_1 : decode cX12_isState 1 = .ok (.ifCond .lt 15, 3) := by decide +kernel
theorem dX12_isState_4 : decode cX12_isState 4 = .ok (.iload_n 1, 1) := by decide +kernel
theorem dX12_isState_5 : decode cX12_isState 5 = .ok (.aload_n 0, 1) := by decide +kernel
theorem dX12_isState_6 : decode cX12_isState 6 = .ok (.getfield 240, 3) := by decide +kernel
theorem dX12_isState_9 : decode cX12_isState 9 = .ok (.if_icmp .ge 7, 3) := by decide +kernel
theorem dX12_isState_12 : decode cX12_isState 12 = .ok (.iconst 1, 1) := by decide +kernel
theorem dX12_isState_13 : decode cX12_isState 13 = .ok (.goto 4, 3) := by decide +kernel
theorem dX12_isState_16 : decode cX12_isState 16 = .ok (.iconst 0, 1) := by decide +kernel
theorem dX12_isState_17 : decode cX12_isState 17 = .ok (.ireturn, 1) := by decide +kernel
theorem dX12_bitsOf_0 : decode cX12_bitsOf 0 = .ok (.iconst 0, 1) := by decide +kernel
theorem dX12_bitsOf_1 : decode cX12_bitsOf 1 = .ok (.istore_n 2, 1) := by decide +kernel
theorem dX12_bitsOf_2 : decode cX12_bitsOf 2 = .ok (.iconst 0, 1) := by decide +kernel
theorem dX12_bitsOf_3 : decode cX12_bitsOf 3 = .ok (.istore_n 3, 1) := by decide +kernel
theorem dX12_bitsOf_4 : decode cX12_bitsOf 4 = .ok (.iconst 0, 1) := by decide +kernel
theorem dX12_bitsOf_5 : decode cX12_bitsOf 5 = .ok (.istore 4, 2) := by decide +kernel
theorem dX12_bitsOf_7 : decode cX12_bitsOf 7 = .ok (.iload 4, 2) := by decide +kernel
theorem dX12_bitsOf_9 : decode cX12_bitsOf 9 = .ok (.aload_n 0, 1) := by decide +kernel
theorem dX12_bitsOf_10 : decode cX12_bitsOf 10 = .ok (.getfield 126, 3) := by decide +kernel
theorem dX12_bitsOf_13 : decode cX12_bitsOf 13 = .ok (.if_icmp .ge 34, 3) := by decide +kernel
theorem dX12_bitsOf_16 : decode cX12_bitsOf 16 = .ok (.aload_n 0, 1) := by decide +kernel
theorem dX12_bitsOf_17 : decode cX12_bitsOf 17 = .ok (.getfield 7, 3) := by decide +kernel
theorem dX12_bitsOf_20 : decode cX12_bitsOf 20 = .ok (.iload 4, 2) := by decide +kernel
theorem dX12_bitsOf_22 : decode cX12_bitsOf 22 = .ok (.iaload, 1) := by decide +kernel
theorem dX12_bitsOf_23 : decode cX12_bitsOf 23 = .ok (.iconst 4, 1) := by decide +kernel
theorem dX12_bitsOf_24 : decode cX12_bitsOf 24 = .ok (.if_icmp .le 17, 3) := by decide +kernel
theorem dX12_bitsOf_27 : decode cX12_bitsOf 27 = .ok (.iload_n 2, 1) := by decide +kernel
theorem dX12_bitsOf_28 : decode cX12_bitsOf 28 = .ok (.iload_n 1, 1) := by decide +kernel
theorem dX12_bitsOf_29 : decode cX12_bitsOf 29 = .ok (.iload 4, 2) := by decide +kernel
theorem dX12_bitsOf_31 : decode cX12_bitsOf 31 = .ok (.invokestatic 133, 3) := by decide +kernel
theorem dX12_bitsOf_34 : decode cX12_bitsOf 34 = .ok (.iload_n 3, 1) := by decide +kernel
theorem dX12_bitsOf_35 : decode cX12_bitsOf 35 = .ok (.ishl, 1) := by decide +kernel
theorem dX12_bitsOf_36 : decode cX12_bitsOf 36 = .ok (.ior, 1) := by decide +kernel
theorem dX12_bitsOf_37 : decode cX12_bitsOf 37 = .ok (.istore_n 2, 1) := by decide +kernel
theorem dX12_bitsOf_38 : decode cX12_bitsOf 38 = .ok (.iinc 3 1, 3) := by decide +kernel
theorem dX12_bitsOf_41 : decode cX12_bitsOf 41 = .ok (.iinc 4 1, 3) := by decide +kernel
theorem dX12_bitsOf_44 : decode cX12_bitsOf 44 = .ok (.goto (-37), 3) := by decide +kernel
theorem dX12_bitsOf_47 : decode cX12_bitsOf 47 = .ok (.iload_n 2, 1) := by decide +kernel
theorem dX12_bitsOf_48 : decode cX12_bitsOf 48 = .ok (.ireturn, 1) := by decide +kernel
theorem dX12_state_0 : decode cX12_state 0 = .ok (.aload_n 0, 1) := by decide +kernel
theorem dX12_state_1 : decode cX12_state 1 = .ok (.iconst 0, 1) := by decide +kernel
theorem dX12_state_2 : decode cX12_state 2 = .ok (.putfield 122, 3) := by decide +kernel
theorem dX12_state_5 : decode cX12_state 5 = .ok (.aload_n 0, 1) := by decide +kernel
theorem dX12_state_6 : decode cX12_state 6 = .ok (.iload_n 1, 1) := by decide +kernel
theorem dX12_state_7 : decode cX12_state 7 = .ok (.invokevirtual 280, 3) := by decide +kernel
theorem dX12_state_10 : decode cX12_state 10 = .ok (.ifCond .eq 15, 3) := by decide +kernel
theorem dX12_state_13 : decode cX12_state 13 = .ok (.iload_n 2, 1) := by decide +kernel
theorem dX12_state_14 : decode cX12_state 14 = .ok (.i2l, 1) := by decide +kernel
theorem dX12_state_15 : decode cX12_state 15 = .ok (.lconst 0, 1) := by decide +kernel
theorem dX12_state_16 : decode cX12_state 16 = .ok (.ldc2_w 283, 3) := by decide +kernel
theorem dX12_state_19 : decode cX12_state 19 = .ok (.invokestatic 156, 3) := by decide +kernel
theorem dX12_state_22 : decode cX12_state 22 = .ok (.ifCond .ne 5, 3) := by decide +kernel
theorem dX12_state_25 : decode cX12_state 25 = .ok (.iconst (-1), 1) := by decide +kernel
theorem dX12_state_26 : decode cX12_state 26 = .ok (.ireturn, 1) := by decide +kernel
theorem dX12_state_27 : decode cX12_state 27 = .ok (.iload_n 2, 1) := by decide +kernel
theorem dX12_state_28 : decode cX12_state 28 = .ok (.tableswitch 100 0 5 #[40, 51, 72, 79, 86, 93], 40) := by decide +kernel
theorem dX12_state_68 : decode cX12_state 68 = .ok (.aload_n 0, 1) := by decide +kernel
theorem dX12_state_69 : decode cX12_state 69 = .ok (.aload_n 0, 1) := by decide +kernel
theorem dX12_state_70 : decode cX12_state 70 = .ok (.getfield 56, 3) := by decide +kernel
theorem dX12_state_73 : decode cX12_state 73 = .ok (.iload_n 1, 1) := by decide +kernel
theorem dX12_state_74 : decode cX12_state 74 = .ok (.iaload, 1) := by decide +kernel
theorem dX12_state_75 : decode cX12_state 75 = .ok (.invokevirtual 285, 3) := by decide +kernel
theorem dX12_state_78 : decode cX12_state 78 = .ok (.ireturn, 1) := by decide +kernel
theorem dX12_state_79 : decode cX12_state 79 = .ok (.aload_n 0, 1) := by decide +kernel
theorem dX12_state_80 : decode cX12_state 80 = .ok (.getfield 62, 3) := by decide +kernel
theorem dX12_state_83 : decode cX12_state 83 = .ok (.iload_n 1, 1) := by decide +kernel
theorem dX12_state_84 : decode cX12_state 84 = .ok (.iaload, 1) := by decide +kernel
theorem dX12_state_85 : decode cX12_state 85 = .ok (.ifCond .ge 8, 3) := by decide +kernel
theorem dX12_state_88 : decode cX12_state 88 = .ok (.bipush (-2), 2) := by decide +kernel
theorem dX12_state_90 : decode cX12_state 90 = .ok (.goto 9, 3) := by decide +kernel
theorem dX12_state_93 : decode cX12_state 93 = .ok (.aload_n 0, 1) := by decide +kernel
theorem dX12_state_94 : decode cX12_state 94 = .ok (.getfield 62, 3) := by decide +kernel
theorem dX12_state_97 : decode cX12_state 97 = .ok (.iload_n 1, 1) := by decide +kernel
theorem dX12_state_98 : decode cX12_state 98 = .ok (.iaload, 1) := by decide +kernel
theorem dX12_state_99 : decode cX12_state 99 = .ok (.ireturn, 1) := by decide +kernel
theorem dX12_state_100 : decode cX12_state 100 = .ok (.aload_n 0, 1) := by decide +kernel
theorem dX12_state_101 : decode cX12_state 101 = .ok (.getfield 65, 3) := by decide +kernel
theorem dX12_state_104 : decode cX12_state 104 = .ok (.iload_n 1, 1) := by decide +kernel
theorem dX12_state_105 : decode cX12_state 105 = .ok (.iaload, 1) := by decide +kernel
theorem dX12_state_106 : decode cX12_state 106 = .ok (.ireturn, 1) := by decide +kernel
theorem dX12_state_107 : decode cX12_state 107 = .ok (.aload_n 0, 1) := by decide +kernel
theorem dX12_state_108 : decode cX12_state 108 = .ok (.getfield 68, 3) := by decide +kernel
theorem dX12_state_111 : decode cX12_state 111 = .ok (.iload_n 1, 1) := by decide +kernel
theorem dX12_state_112 : decode cX12_state 112 = .ok (.iaload, 1) := by decide +kernel
theorem dX12_state_113 : decode cX12_state 113 = .ok (.ireturn, 1) := by decide +kernel
theorem dX12_state_114 : decode cX12_state 114 = .ok (.aload_n 0, 1) := by decide +kernel
theorem dX12_state_115 : decode cX12_state 115 = .ok (.getfield 71, 3) := by decide +kernel
theorem dX12_state_118 : decode cX12_state 118 = .ok (.iload_n 1, 1) := by decide +kernel
theorem dX12_state_119 : decode cX12_state 119 = .ok (.iaload, 1) := by decide +kernel
theorem dX12_state_120 : decode cX12_state 120 = .ok (.ireturn, 1) := by decide +kernel
theorem dX12_state_121 : decode cX12_state 121 = .ok (.aload_n 0, 1) := by decide +kernel
theorem dX12_state_122 : decode cX12_state 122 = .ok (.getfield 74, 3) := by decide +kernel
theorem dX12_state_125 : decode cX12_state 125 = .ok (.iload_n 1, 1) := by decide +kernel
theorem dX12_state_126 : decode cX12_state 126 = .ok (.iaload, 1) := by decide +kernel
theorem dX12_state_127 : decode cX12_state 127 = .ok (.ireturn, 1) := by decide +kernel
theorem dX12_state_128 : decode cX12_state 128 = .ok (.aload_n 0, 1) := by decide +kernel
theorem dX12_state_129 : decode cX12_state 129 = .ok (.getfield 77, 3) := by decide +kernel
theorem dX12_state_132 : decode cX12_state 132 = .ok (.iload_n 1, 1) := by decide +kernel
theorem dX12_state_133 : decode cX12_state 133 = .ok (.iaload, 1) := by decide +kernel
theorem dX12_state_134 : decode cX12_state 134 = .ok (.ireturn, 1) := by decide +kernel
theorem dX12_shown_0 : decode cX12_shown 0 = .ok (.aload_n 0, 1) := by decide +kernel
theorem dX12_shown_1 : decode cX12_shown 1 = .ok (.iconst 0, 1) := by decide +kernel
theorem dX12_shown_2 : decode cX12_shown 2 = .ok (.putfield 122, 3) := by decide +kernel
theorem dX12_shown_5 : decode cX12_shown 5 = .ok (.aload_n 0, 1) := by decide +kernel
theorem dX12_shown_6 : decode cX12_shown 6 = .ok (.iload_n 1, 1) := by decide +kernel
theorem dX12_shown_7 : decode cX12_shown 7 = .ok (.invokevirtual 280, 3) := by decide +kernel
theorem dX12_shown_10 : decode cX12_shown 10 = .ok (.ifCond .eq 24, 3) := by decide +kernel
theorem dX12_shown_13 : decode cX12_shown 13 = .ok (.aload_n 0, 1) := by decide +kernel
theorem dX12_shown_14 : decode cX12_shown 14 = .ok (.iload_n 2, 1) := by decide +kernel
theorem dX12_shown_15 : decode cX12_shown 15 = .ok (.invokevirtual 129, 3) := by decide +kernel
theorem dX12_shown_18 : decode cX12_shown 18 = .ok (.ifCond .eq 16, 3) := by decide +kernel
theorem dX12_shown_21 : decode cX12_shown 21 = .ok (.aload_n 0, 1) := by decide +kernel
theorem dX12_shown_22 : decode cX12_shown 22 = .ok (.getfield 56, 3) := by decide +kernel
theorem dX12_shown_25 : decode cX12_shown 25 = .ok (.iload_n 1, 1) := by decide +kernel
theorem dX12_shown_26 : decode cX12_shown 26 = .ok (.iaload, 1) := by decide +kernel
theorem dX12_shown_27 : decode cX12_shown 27 = .ok (.iload_n 2, 1) := by decide +kernel
theorem dX12_shown_28 : decode cX12_shown 28 = .ok (.invokestatic 133, 3) := by decide +kernel
theorem dX12_shown_31 : decode cX12_shown 31 = .ok (.goto 4, 3) := by decide +kernel
theorem dX12_shown_34 : decode cX12_shown 34 = .ok (.iconst (-1), 1) := by decide +kernel
theorem dX12_shown_35 : decode cX12_shown 35 = .ok (.ireturn, 1) := by decide +kernel
theorem dX12_never_0 : decode cX12_never 0 = .ok (.aload_n 0, 1) := by decide +kernel
theorem dX12_never_1 : decode cX12_never 1 = .ok (.iconst 0, 1) := by decide +kernel
theorem dX12_never_2 : decode cX12_never 2 = .ok (.putfield 122, 3) := by decide +kernel
theorem dX12_never_5 : decode cX12_never 5 = .ok (.iload_n 1, 1) := by decide +kernel
theorem dX12_never_6 : decode cX12_never 6 = .ok (.ifCond .lt 23, 3) := by decide +kernel
theorem dX12_never_9 : decode cX12_never 9 = .ok (.iload_n 1, 1) := by decide +kernel
theorem dX12_never_10 : decode cX12_never 10 = .ok (.aload_n 0, 1) := by decide +kernel
theorem dX12_never_11 : decode cX12_never 11 = .ok (.getfield 180, 3) := by decide +kernel
theorem dX12_never_14 : decode cX12_never 14 = .ok (.if_icmp .ge 15, 3) := by decide +kernel
theorem dX12_never_17 : decode cX12_never 17 = .ok (.iload_n 2, 1) := by decide +kernel
theorem dX12_never_18 : decode cX12_never 18 = .ok (.i2l, 1) := by decide +kernel
theorem dX12_never_19 : decode cX12_never 19 = .ok (.lconst 0, 1) := by decide +kernel
theorem dX12_never_20 : decode cX12_never 20 = .ok (.ldc2_w 170, 3) := by decide +kernel
theorem dX12_never_23 : decode cX12_never 23 = .ok (.invokestatic 156, 3) := by decide +kernel
theorem dX12_never_26 : decode cX12_never 26 = .ok (.ifCond .ne 5, 3) := by decide +kernel
theorem dX12_never_29 : decode cX12_never 29 = .ok (.iconst (-1), 1) := by decide +kernel
theorem dX12_never_30 : decode cX12_never 30 = .ok (.ireturn, 1) := by decide +kernel
theorem dX12_never_31 : decode cX12_never 31 = .ok (.aload_n 0, 1) := by decide +kernel
theorem dX12_never_32 : decode cX12_never 32 = .ok (.getfield 233, 3) := by decide +kernel
theorem dX12_never_35 : decode cX12_never 35 = .ok (.ifCond .eq 25, 3) := by decide +kernel
theorem dX12_never_38 : decode cX12_never 38 = .ok (.aload_n 0, 1) := by decide +kernel
theorem dX12_never_39 : decode cX12_never 39 = .ok (.getfield 92, 3) := by decide +kernel
theorem dX12_never_42 : decode cX12_never 42 = .ok (.iload_n 1, 1) := by decide +kernel
theorem dX12_never_43 : decode cX12_never 43 = .ok (.baload, 1) := by decide +kernel
theorem dX12_never_44 : decode cX12_never 44 = .ok (.ifCond .eq 16, 3) := by decide +kernel
theorem dX12_never_47 : decode cX12_never 47 = .ok (.aload_n 0, 1) := by decide +kernel
theorem dX12_never_48 : decode cX12_never 48 = .ok (.getfield 89, 3) := by decide +kernel
theorem dX12_never_51 : decode cX12_never 51 = .ok (.iconst 5, 1) := by decide +kernel
theorem dX12_never_52 : decode cX12_never 52 = .ok (.iload_n 1, 1) := by decide +kernel
theorem dX12_never_53 : decode cX12_never 53 = .ok (.imul, 1) := by decide +kernel
theorem dX12_never_54 : decode cX12_never 54 = .ok (.iload_n 2, 1) := by decide +kernel
theorem dX12_never_55 : decode cX12_never 55 = .ok (.iadd, 1) := by decide +kernel
theorem dX12_never_56 : decode cX12_never 56 = .ok (.iaload, 1) := by decide +kernel
theorem dX12_never_57 : decode cX12_never 57 = .ok (.goto 17, 3) := by decide +kernel
theorem dX12_never_60 : decode cX12_never 60 = .ok (.aload_n 0, 1) := by decide +kernel
theorem dX12_never_61 : decode cX12_never 61 = .ok (.getfield 233, 3) := by decide +kernel
theorem dX12_never_64 : decode cX12_never 64 = .ok (.ifCond .eq 8, 3) := by decide +kernel
theorem dX12_never_67 : decode cX12_never 67 = .ok (.bipush (-2), 2) := by decide +kernel
theorem dX12_never_69 : decode cX12_never 69 = .ok (.goto 5, 3) := by decide +kernel
theorem dX12_never_72 : decode cX12_never 72 = .ok (.bipush (-3), 2) := by decide +kernel
theorem dX12_never_74 : decode cX12_never 74 = .ok (.ireturn, 1) := by decide +kernel
theorem dX12_follow_0 : decode cX12_follow 0 = .ok (.aload_n 0, 1) := by decide +kernel
theorem dX12_follow_1 : decode cX12_follow 1 = .ok (.iconst 0, 1) := by decide +kernel
theorem dX12_follow_2 : decode cX12_follow 2 = .ok (.putfield 122, 3) := by decide +kernel
theorem dX12_follow_5 : decode cX12_follow 5 = .ok (.aload_n 0, 1) := by decide +kernel
theorem dX12_follow_6 : decode cX12_follow 6 = .ok (.iload_n 1, 1) := by decide +kernel
theorem dX12_follow_7 : decode cX12_follow 7 = .ok (.invokevirtual 280, 3) := by decide +kernel
theorem dX12_follow_10 : decode cX12_follow 10 = .ok (.ifCond .ne 5, 3) := by decide +kernel
theorem dX12_follow_13 : decode cX12_follow 13 = .ok (.iconst (-1), 1) := by decide +kernel
theorem dX12_follow_14 : decode cX12_follow 14 = .ok (.ireturn, 1) := by decide +kernel
theorem dX12_follow_15 : decode cX12_follow 15 = .ok (.aload_n 0, 1) := by decide +kernel
theorem dX12_follow_16 : decode cX12_follow 16 = .ok (.getfield 74, 3) := by decide +kernel
theorem dX12_follow_19 : decode cX12_follow 19 = .ok (.iload_n 1, 1) := by decide +kernel
theorem dX12_follow_20 : decode cX12_follow 20 = .ok (.iaload, 1) := by decide +kernel
theorem dX12_follow_21 : decode cX12_follow 21 = .ok (.bipush 60, 2) := by decide +kernel
theorem dX12_follow_23 : decode cX12_follow 23 = .ok (.if_icmp .le 6, 3) := by decide +kernel
theorem dX12_follow_26 : decode cX12_follow 26 = .ok (.bipush (-3), 2) := by decide +kernel
theorem dX12_follow_28 : decode cX12_follow 28 = .ok (.ireturn, 1) := by decide +kernel
theorem dX12_follow_29 : decode cX12_follow 29 = .ok (.aload_n 0, 1) := by decide +kernel
theorem dX12_follow_30 : decode cX12_follow 30 = .ok (.invokevirtual 119, 3) := by decide +kernel
theorem dX12_follow_33 : decode cX12_follow 33 = .ok (.iconst 1, 1) := by decide +kernel
theorem dX12_follow_34 : decode cX12_follow 34 = .ok (.istore_n 2, 1) := by decide +kernel
theorem dX12_follow_35 : decode cX12_follow 35 = .ok (.iload_n 2, 1) := by decide +kernel
theorem dX12_follow_36 : decode cX12_follow 36 = .ok (.aload_n 0, 1) := by decide +kernel
theorem dX12_follow_37 : decode cX12_follow 37 = .ok (.getfield 74, 3) := by decide +kernel
theorem dX12_follow_40 : decode cX12_follow 40 = .ok (.iload_n 1, 1) := by decide +kernel
theorem dX12_follow_41 : decode cX12_follow 41 = .ok (.iaload, 1) := by decide +kernel
theorem dX12_follow_42 : decode cX12_follow 42 = .ok (.if_icmp .gt 53, 3) := by decide +kernel
theorem dX12_follow_45 : decode cX12_follow 45 = .ok (.iload_n 1, 1) := by decide +kernel
theorem dX12_follow_46 : decode cX12_follow 46 = .ok (.istore_n 3, 1) := by decide +kernel
theorem dX12_follow_47 : decode cX12_follow 47 = .ok (.aload_n 0, 1) := by decide +kernel
theorem dX12_follow_48 : decode cX12_follow 48 = .ok (.getfield 74, 3) := by decide +kernel
theorem dX12_follow_51 : decode cX12_follow 51 = .ok (.iload_n 3, 1) := by decide +kernel
theorem dX12_follow_52 : decode cX12_follow 52 = .ok (.iaload, 1) := by decide +kernel
theorem dX12_follow_53 : decode cX12_follow 53 = .ok (.iload_n 2, 1) := by decide +kernel
theorem dX12_follow_54 : decode cX12_follow 54 = .ok (.if_icmp .le 13, 3) := by decide +kernel
theorem dX12_follow_57 : decode cX12_follow 57 = .ok (.aload_n 0, 1) := by decide +kernel
theorem dX12_follow_58 : decode cX12_follow 58 = .ok (.getfield 62, 3) := by decide +kernel
theorem dX12_follow_61 : decode cX12_follow 61 = .ok (.iload_n 3, 1) := by decide +kernel
theorem dX12_follow_62 : decode cX12_follow 62 = .ok (.iaload, 1) := by decide +kernel
theorem dX12_follow_63 : decode cX12_follow 63 = .ok (.istore_n 3, 1) := by decide +kernel
theorem dX12_follow_64 : decode cX12_follow 64 = .ok (.goto (-17), 3) := by decide +kernel
theorem dX12_follow_67 : decode cX12_follow 67 = .ok (.aload_n 0, 1) := by decide +kernel
theorem dX12_follow_68 : decode cX12_follow 68 = .ok (.aload_n 0, 1) := by decide +kernel
theorem dX12_follow_69 : decode cX12_follow 69 = .ok (.getfield 65, 3) := by decide +kernel
theorem dX12_follow_72 : decode cX12_follow 72 = .ok (.iload_n 3, 1) := by decide +kernel
theorem dX12_follow_73 : decode cX12_follow 73 = .ok (.iaload, 1) := by decide +kernel
theorem dX12_follow_74 : decode cX12_follow 74 = .ok (.aload_n 0, 1) := by decide +kernel
theorem dX12_follow_75 : decode cX12_follow 75 = .ok (.getfield 68, 3) := by decide +kernel
theorem dX12_follow_78 : decode cX12_follow 78 = .ok (.iload_n 3, 1) := by decide +kernel
theorem dX12_follow_79 : decode cX12_follow 79 = .ok (.iaload, 1) := by decide +kernel
theorem dX12_follow_80 : decode cX12_follow 80 = .ok (.aload_n 0, 1) := by decide +kernel
theorem dX12_follow_81 : decode cX12_follow 81 = .ok (.getfield 71, 3) := by decide +kernel
theorem dX12_follow_84 : decode cX12_follow 84 = .ok (.iload_n 3, 1) := by decide +kernel
theorem dX12_follow_85 : decode cX12_follow 85 = .ok (.iaload, 1) := by decide +kernel
theorem dX12_follow_86 : decode cX12_follow 86 = .ok (.invokevirtual 226, 3) := by decide +kernel
theorem dX12_follow_89 : decode cX12_follow 89 = .ok (.iinc 2 1, 3) := by decide +kernel
theorem dX12_follow_92 : decode cX12_follow 92 = .ok (.goto (-57), 3) := by decide +kernel
theorem dX12_follow_95 : decode cX12_follow 95 = .ok (.aload_n 0, 1) := by decide +kernel
theorem dX12_follow_96 : decode cX12_follow 96 = .ok (.getfield 74, 3) := by decide +kernel
theorem dX12_follow_99 : decode cX12_follow 99 = .ok (.iload_n 1, 1) := by decide +kernel
theorem dX12_follow_100 : decode cX12_follow 100 = .ok (.iaload, 1) := by decide +kernel
theorem dX12_follow_101 : decode cX12_follow 101 = .ok (.ireturn, 1) := by decide +kernel
theorem dX12_fewest_0 : decode cX12_fewest 0 = .ok (.aload_n 0, 1) := by decide +kernel
theorem dX12_fewest_1 : decode cX12_fewest 1 = .ok (.iconst 0, 1) := by decide +kernel
theorem dX12_fewest_2 : decode cX12_fewest 2 = .ok (.putfield 122, 3) := by decide +kernel
theorem dX12_fewest_5 : decode cX12_fewest 5 = .ok (.aload_n 0, 1) := by decide +kernel
theorem dX12_fewest_6 : decode cX12_fewest 6 = .ok (.iload_n 1, 1) := by decide +kernel
theorem dX12_fewest_7 : decode cX12_fewest 7 = .ok (.invokevirtual 280, 3) := by decide +kernel
theorem dX12_fewest_10 : decode cX12_fewest 10 = .ok (.ifCond .ne 5, 3) := by decide +kernel
theorem dX12_fewest_13 : decode cX12_fewest 13 = .ok (.iconst (-1), 1) := by decide +kernel
theorem dX12_fewest_14 : decode cX12_fewest 14 = .ok (.ireturn, 1) := by decide +kernel
theorem dX12_fewest_15 : decode cX12_fewest 15 = .ok (.iconst 0, 1) := by decide +kernel
theorem dX12_fewest_16 : decode cX12_fewest 16 = .ok (.istore_n 2, 1) := by decide +kernel
theorem dX12_fewest_17 : decode cX12_fewest 17 = .ok (.iload_n 2, 1) := by decide +kernel
theorem dX12_fewest_18 : decode cX12_fewest 18 = .ok (.aload_n 0, 1) := by decide +kernel
theorem dX12_fewest_19 : decode cX12_fewest 19 = .ok (.getfield 240, 3) := by decide +kernel
theorem dX12_fewest_22 : decode cX12_fewest 22 = .ok (.if_icmp .ge 26, 3) := by decide +kernel
theorem dX12_fewest_25 : decode cX12_fewest 25 = .ok (.aload_n 0, 1) := by decide +kernel
theorem dX12_fewest_26 : decode cX12_fewest 26 = .ok (.getfield 98, 3) := by decide +kernel
theorem dX12_fewest_29 : decode cX12_fewest 29 = .ok (.iload_n 2, 1) := by decide +kernel
theorem dX12_fewest_30 : decode cX12_fewest 30 = .ok (.iload_n 2, 1) := by decide +kernel
theorem dX12_fewest_31 : decode cX12_fewest 31 = .ok (.ifCond .ne 7, 3) := by decide +kernel
theorem dX12_fewest_34 : decode cX12_fewest 34 = .ok (.iconst 0, 1) := by decide +kernel
theorem dX12_fewest_35 : decode cX12_fewest 35 = .ok (.goto 6, 3) := by decide +kernel
theorem dX12_fewest_38 : decode cX12_fewest 38 = .ok (.ldc_w 288, 3) := by decide +kernel
theorem dX12_fewest_41 : decode cX12_fewest 41 = .ok (.iastore, 1) := by decide +kernel
theorem dX12_fewest_42 : decode cX12_fewest 42 = .ok (.iinc 2 1, 3) := by decide +kernel
theorem dX12_fewest_45 : decode cX12_fewest 45 = .ok (.goto (-28), 3) := by decide +kernel
theorem dX12_fewest_48 : decode cX12_fewest 48 = .ok (.iconst 1, 1) := by decide +kernel
theorem dX12_fewest_49 : decode cX12_fewest 49 = .ok (.istore_n 2, 1) := by decide +kernel
theorem dX12_fewest_50 : decode cX12_fewest 50 = .ok (.iload_n 2, 1) := by decide +kernel
theorem dX12_fewest_51 : decode cX12_fewest 51 = .ok (.ifCond .eq 89, 3) := by decide +kernel
theorem dX12_fewest_54 : decode cX12_fewest 54 = .ok (.iconst 0, 1) := by decide +kernel
theorem dX12_fewest_55 : decode cX12_fewest 55 = .ok (.istore_n 2, 1) := by decide +kernel
theorem dX12_fewest_56 : decode cX12_fewest 56 = .ok (.iconst 0, 1) := by decide +kernel
theorem dX12_fewest_57 : decode cX12_fewest 57 = .ok (.istore_n 3, 1) := by decide +kernel
theorem dX12_fewest_58 : decode cX12_fewest 58 = .ok (.iload_n 3, 1) := by decide +kernel
theorem dX12_fewest_59 : decode cX12_fewest 59 = .ok (.aload_n 0, 1) := by decide +kernel
theorem dX12_fewest_60 : decode cX12_fewest 60 = .ok (.getfield 249, 3) := by decide +kernel
theorem dX12_fewest_63 : decode cX12_fewest 63 = .ok (.if_icmp .ge 74, 3) := by decide +kernel
theorem dX12_fewest_66 : decode cX12_fewest 66 = .ok (.aload_n 0, 1) := by decide +kernel
theorem dX12_fewest_67 : decode cX12_fewest 67 = .ok (.getfield 98, 3) := by decide +kernel
theorem dX12_fewest_70 : decode cX12_fewest 70 = .ok (.aload_n 0, 1) := by decide +kernel
theorem dX12_fewest_71 : decode cX12_fewest 71 = .ok (.getfield 80, 3) := by decide +kernel
theorem dX12_fewest_74 : decode cX12_fewest 74 = .ok (.iload_n 3, 1) := by decide +kernel
theorem dX12_fewest_75 : decode cX12_fewest 75 = .ok (.iaload, 1) := by decide +kernel
theorem dX12_fewest_76 : decode cX12_fewest 76 = .ok (.iaload, 1) := by decide +kernel
theorem dX12_fewest_77 : decode cX12_fewest 77 = .ok (.aload_n 0, 1) := by decide +kernel
theorem dX12_fewest_78 : decode cX12_fewest 78 = .ok (.getfield 86, 3) := by decide +kernel
theorem dX12_fewest_81 : decode cX12_fewest 81 = .ok (.iload_n 3, 1) := by decide +kernel
theorem dX12_fewest_82 : decode cX12_fewest 82 = .ok (.iaload, 1) := by decide +kernel
theorem dX12_fewest_83 : decode cX12_fewest 83 = .ok (.iadd, 1) := by decide +kernel
theorem dX12_fewest_84 : decode cX12_fewest 84 = .ok (.istore 4, 2) := by decide +kernel
theorem dX12_fewest_86 : decode cX12_fewest 86 = .ok (.aload_n 0, 1) := by decide +kernel
theorem dX12_fewest_87 : decode cX12_fewest 87 = .ok (.getfield 77, 3) := by decide +kernel
theorem dX12_fewest_90 : decode cX12_fewest 90 = .ok (.aload_n 0, 1) := by decide +kernel
theorem dX12_fewest_91 : decode cX12_fewest 91 = .ok (.getfield 80, 3) := by decide +kernel
theorem dX12_fewest_94 : decode cX12_fewest 94 = .ok (.iload_n 3, 1) := by decide +kernel
theorem dX12_fewest_95 : decode cX12_fewest 95 = .ok (.iaload, 1) := by decide +kernel
theorem dX12_fewest_96 : decode cX12_fewest 96 = .ok (.iaload, 1) := by decide +kernel
theorem dX12_fewest_97 : decode cX12_fewest 97 = .ok (.ifCond .lt 34, 3) := by decide +kernel
theorem dX12_fewest_100 : decode cX12_fewest 100 = .ok (.iload 4, 2) := by decide +kernel
theorem dX12_fewest_102 : decode cX12_fewest 102 = .ok (.aload_n 0, 1) := by decide +kernel
theorem dX12_fewest_103 : decode cX12_fewest 103 = .ok (.getfield 98, 3) := by decide +kernel
theorem dX12_fewest_106 : decode cX12_fewest 106 = .ok (.aload_n 0, 1) := by decide +kernel
theorem dX12_fewest_107 : decode cX12_fewest 107 = .ok (.getfield 83, 3) := by decide +kernel
theorem dX12_fewest_110 : decode cX12_fewest 110 = .ok (.iload_n 3, 1) := by decide +kernel
theorem dX12_fewest_111 : decode cX12_fewest 111 = .ok (.iaload, 1) := by decide +kernel
theorem dX12_fewest_112 : decode cX12_fewest 112 = .ok (.iaload, 1) := by decide +kernel
theorem dX12_fewest_113 : decode cX12_fewest 113 = .ok (.if_icmp .ge 18, 3) := by decide +kernel
theorem dX12_fewest_116 : decode cX12_fewest 116 = .ok (.aload_n 0, 1) := by decide +kernel
theorem dX12_fewest_117 : decode cX12_fewest 117 = .ok (.getfield 98, 3) := by decide +kernel
theorem dX12_fewest_120 : decode cX12_fewest 120 = .ok (.aload_n 0, 1) := by decide +kernel
theorem dX12_fewest_121 : decode cX12_fewest 121 = .ok (.getfield 83, 3) := by decide +kernel
theorem dX12_fewest_124 : decode cX12_fewest 124 = .ok (.iload_n 3, 1) := by decide +kernel
theorem dX12_fewest_125 : decode cX12_fewest 125 = .ok (.iaload, 1) := by decide +kernel
theorem dX12_fewest_126 : decode cX12_fewest 126 = .ok (.iload 4, 2) := by decide +kernel
theorem dX12_fewest_128 : decode cX12_fewest 128 = .ok (.iastore, 1) := by decide +kernel
theorem dX12_fewest_129 : decode cX12_fewest 129 = .ok (.iconst 1, 1) := by decide +kernel
theorem dX12_fewest_130 : decode cX12_fewest 130 = .ok (.istore_n 2, 1) := by decide +kernel
theorem dX12_fewest_131 : decode cX12_fewest 131 = .ok (.iinc 3 1, 3) := by decide +kernel
theorem dX12_fewest_134 : decode cX12_fewest 134 = .ok (.goto (-76), 3) := by decide +kernel
theorem dX12_fewest_137 : decode cX12_fewest 137 = .ok (.goto (-87), 3) := by decide +kernel
theorem dX12_fewest_140 : decode cX12_fewest 140 = .ok (.aload_n 0, 1) := by decide +kernel
theorem dX12_fewest_141 : decode cX12_fewest 141 = .ok (.getfield 98, 3) := by decide +kernel
theorem dX12_fewest_144 : decode cX12_fewest 144 = .ok (.iload_n 1, 1) := by decide +kernel
theorem dX12_fewest_145 : decode cX12_fewest 145 = .ok (.iaload, 1) := by decide +kernel
theorem dX12_fewest_146 : decode cX12_fewest 146 = .ok (.ldc_w 288, 3) := by decide +kernel
theorem dX12_fewest_149 : decode cX12_fewest 149 = .ok (.if_icmp .ne 8, 3) := by decide +kernel
theorem dX12_fewest_152 : decode cX12_fewest 152 = .ok (.bipush (-2), 2) := by decide +kernel
theorem dX12_fewest_154 : decode cX12_fewest 154 = .ok (.goto 9, 3) := by decide +kernel
theorem dX12_fewest_157 : decode cX12_fewest 157 = .ok (.aload_n 0, 1) := by decide +kernel
theorem dX12_fewest_158 : decode cX12_fewest 158 = .ok (.getfield 98, 3) := by decide +kernel
theorem dX12_fewest_161 : decode cX12_fewest 161 = .ok (.iload_n 1, 1) := by decide +kernel
theorem dX12_fewest_162 : decode cX12_fewest 162 = .ok (.iaload, 1) := by decide +kernel
theorem dX12_fewest_163 : decode cX12_fewest 163 = .ok (.ireturn, 1) := by decide +kernel
theorem dX12_hangs_0 : decode cX12_hangs 0 = .ok (.iconst 1, 1) := by decide +kernel
theorem dX12_hangs_1 : decode cX12_hangs 1 = .ok (.iload_n 1, 1) := by decide +kernel
theorem dX12_hangs_2 : decode cX12_hangs 2 = .ok (.ishl, 1) := by decide +kernel
theorem dX12_hangs_3 : decode cX12_hangs 3 = .ok (.istore_n 2, 1) := by decide +kernel
theorem dX12_hangs_4 : decode cX12_hangs 4 = .ok (.aload_n 0, 1) := by decide +kernel
theorem dX12_hangs_5 : decode cX12_hangs 5 = .ok (.getfield 126, 3) := by decide +kernel
theorem dX12_hangs_8 : decode cX12_hangs 8 = .ok (.iconst 1, 1) := by decide +kernel
theorem dX12_hangs_9 : decode cX12_hangs 9 = .ok (.isub, 1) := by decide +kernel
theorem dX12_hangs_10 : decode cX12_hangs 10 = .ok (.istore_n 3, 1) := by decide +kernel
theorem dX12_hangs_11 : decode cX12_hangs 11 = .ok (.iload_n 3, 1) := by decide +kernel
theorem dX12_hangs_12 : decode cX12_hangs 12 = .ok (.ifCond .lt 83, 3) := by decide +kernel
theorem dX12_hangs_15 : decode cX12_hangs 15 = .ok (.iload_n 2, 1) := by decide +kernel
theorem dX12_hangs_16 : decode cX12_hangs 16 = .ok (.iload_n 3, 1) := by decide +kernel
theorem dX12_hangs_17 : decode cX12_hangs 17 = .ok (.ishr, 1) := by decide +kernel
theorem dX12_hangs_18 : decode cX12_hangs 18 = .ok (.iconst 1, 1) := by decide +kernel
theorem dX12_hangs_19 : decode cX12_hangs 19 = .ok (.iand, 1) := by decide +kernel
theorem dX12_hangs_20 : decode cX12_hangs 20 = .ok (.iconst 1, 1) := by decide +kernel
theorem dX12_hangs_21 : decode cX12_hangs 21 = .ok (.if_icmp .ne 68, 3) := by decide +kernel
theorem dX12_hangs_24 : decode cX12_hangs 24 = .ok (.aload_n 0, 1) := by decide +kernel
theorem dX12_hangs_25 : decode cX12_hangs 25 = .ok (.getfield 7, 3) := by decide +kernel
theorem dX12_hangs_28 : decode cX12_hangs 28 = .ok (.iload_n 3, 1) := by decide +kernel
theorem dX12_hangs_29 : decode cX12_hangs 29 = .ok (.iaload, 1) := by decide +kernel
theorem dX12_hangs_30 : decode cX12_hangs 30 = .ok (.iconst 5, 1) := by decide +kernel
theorem dX12_hangs_31 : decode cX12_hangs 31 = .ok (.if_icmp .ge 58, 3) := by decide +kernel
theorem dX12_hangs_34 : decode cX12_hangs 34 = .ok (.iload_n 2, 1) := by decide +kernel
theorem dX12_hangs_35 : decode cX12_hangs 35 = .ok (.iconst 1, 1) := by decide +kernel
theorem dX12_hangs_36 : decode cX12_hangs 36 = .ok (.aload_n 0, 1) := by decide +kernel
theorem dX12_hangs_37 : decode cX12_hangs 37 = .ok (.getfield 19, 3) := by decide +kernel
theorem dX12_hangs_40 : decode cX12_hangs 40 = .ok (.iload_n 3, 1) := by decide +kernel
theorem dX12_hangs_41 : decode cX12_hangs 41 = .ok (.iaload, 1) := by decide +kernel
theorem dX12_hangs_42 : decode cX12_hangs 42 = .ok (.ishl, 1) := by decide +kernel
theorem dX12_hangs_43 : decode cX12_hangs 43 = .ok (.aload_n 0, 1) := by decide +kernel
theorem dX12_hangs_44 : decode cX12_hangs 44 = .ok (.getfield 22, 3) := by decide +kernel
theorem dX12_hangs_47 : decode cX12_hangs 47 = .ok (.iload_n 3, 1) := by decide +kernel
theorem dX12_hangs_48 : decode cX12_hangs 48 = .ok (.iaload, 1) := by decide +kernel
theorem dX12_hangs_49 : decode cX12_hangs 49 = .ok (.ifCond .ge 7, 3) := by decide +kernel
theorem dX12_hangs_52 : decode cX12_hangs 52 = .ok (.iconst 0, 1) := by decide +kernel
theorem dX12_hangs_53 : decode cX12_hangs 53 = .ok (.goto 11, 3) := by decide +kernel
theorem dX12_hangs_56 : decode cX12_hangs 56 = .ok (.iconst 1, 1) := by decide +kernel
theorem dX12_hangs_57 : decode cX12_hangs 57 = .ok (.aload_n 0, 1) := by decide +kernel
theorem dX12_hangs_58 : decode cX12_hangs 58 = .ok (.getfield 22, 3) := by decide +kernel
theorem dX12_hangs_61 : decode cX12_hangs 61 = .ok (.iload_n 3, 1) := by decide +kernel
theorem dX12_hangs_62 : decode cX12_hangs 62 = .ok (.iaload, 1) := by decide +kernel
theorem dX12_hangs_63 : decode cX12_hangs 63 = .ok (.ishl, 1) := by decide +kernel
theorem dX12_hangs_64 : decode cX12_hangs 64 = .ok (.ior, 1) := by decide +kernel
theorem dX12_hangs_65 : decode cX12_hangs 65 = .ok (.aload_n 0, 1) := by decide +kernel
theorem dX12_hangs_66 : decode cX12_hangs 66 = .ok (.getfield 25, 3) := by decide +kernel
theorem dX12_hangs_69 : decode cX12_hangs 69 = .ok (.iload_n 3, 1) := by decide +kernel
theorem dX12_hangs_70 : decode cX12_hangs 70 = .ok (.iaload, 1) := by decide +kernel
theorem dX12_hangs_71 : decode cX12_hangs 71 = .ok (.ifCond .ge 7, 3) := by decide +kernel
theorem dX12_hangs_74 : decode cX12_hangs 74 = .ok (.iconst 0, 1) := by decide +kernel
theorem dX12_hangs_75 : decode cX12_hangs 75 = .ok (.goto 11, 3) := by decide +kernel
theorem dX12_hangs_78 : decode cX12_hangs 78 = .ok (.iconst 1, 1) := by decide +kernel
theorem dX12_hangs_79 : decode cX12_hangs 79 = .ok (.aload_n 0, 1) := by decide +kernel
theorem dX12_hangs_80 : decode cX12_hangs 80 = .ok (.getfield 25, 3) := by decide +kernel
theorem dX12_hangs_83 : decode cX12_hangs 83 = .ok (.iload_n 3, 1) := by decide +kernel
theorem dX12_hangs_84 : decode cX12_hangs 84 = .ok (.iaload, 1) := by decide +kernel
theorem dX12_hangs_85 : decode cX12_hangs 85 = .ok (.ishl, 1) := by decide +kernel
theorem dX12_hangs_86 : decode cX12_hangs 86 = .ok (.ior, 1) := by decide +kernel
theorem dX12_hangs_87 : decode cX12_hangs 87 = .ok (.ior, 1) := by decide +kernel
theorem dX12_hangs_88 : decode cX12_hangs 88 = .ok (.istore_n 2, 1) := by decide +kernel
theorem dX12_hangs_89 : decode cX12_hangs 89 = .ok (.iinc 3 (-1), 3) := by decide +kernel
theorem dX12_hangs_92 : decode cX12_hangs 92 = .ok (.goto (-81), 3) := by decide +kernel
theorem dX12_hangs_95 : decode cX12_hangs 95 = .ok (.iconst 0, 1) := by decide +kernel
theorem dX12_hangs_96 : decode cX12_hangs 96 = .ok (.istore_n 3, 1) := by decide +kernel
theorem dX12_hangs_97 : decode cX12_hangs 97 = .ok (.iconst 0, 1) := by decide +kernel
theorem dX12_hangs_98 : decode cX12_hangs 98 = .ok (.istore 4, 2) := by decide +kernel
theorem dX12_hangs_100 : decode cX12_hangs 100 = .ok (.iload 4, 2) := by decide +kernel
theorem dX12_hangs_102 : decode cX12_hangs 102 = .ok (.aload_n 0, 1) := by decide +kernel
theorem dX12_hangs_103 : decode cX12_hangs 103 = .ok (.getfield 126, 3) := by decide +kernel
theorem dX12_hangs_106 : decode cX12_hangs 106 = .ok (.if_icmp .ge 41, 3) := by decide +kernel
theorem dX12_hangs_109 : decode cX12_hangs 109 = .ok (.iload_n 3, 1) := by decide +kernel
theorem dX12_hangs_110 : decode cX12_hangs 110 = .ok (.iload_n 2, 1) := by decide +kernel
theorem dX12_hangs_111 : decode cX12_hangs 111 = .ok (.iload 4, 2) := by decide +kernel
theorem dX12_hangs_113 : decode cX12_hangs 113 = .ok (.ishr, 1) := by decide +kernel
theorem dX12_hangs_114 : decode cX12_hangs 114 = .ok (.iconst 1, 1) := by decide +kernel
theorem dX12_hangs_115 : decode cX12_hangs 115 = .ok (.iand, 1) := by decide +kernel
theorem dX12_hangs_116 : decode cX12_hangs 116 = .ok (.iconst 1, 1) := by decide +kernel
theorem dX12_hangs_117 : decode cX12_hangs 117 = .ok (.if_icmp .ne 21, 3) := by decide +kernel
theorem dX12_hangs_120 : decode cX12_hangs 120 = .ok (.aload_n 0, 1) := by decide +kernel
theorem dX12_hangs_121 : decode cX12_hangs 121 = .ok (.getfield 7, 3) := by decide +kernel
theorem dX12_hangs_124 : decode cX12_hangs 124 = .ok (.iload 4, 2) := by decide +kernel
theorem dX12_hangs_126 : decode cX12_hangs 126 = .ok (.iaload, 1) := by decide +kernel
theorem dX12_hangs_127 : decode cX12_hangs 127 = .ok (.iconst 4, 1) := by decide +kernel
theorem dX12_hangs_128 : decode cX12_hangs 128 = .ok (.if_icmp .le 10, 3) := by decide +kernel
theorem dX12_hangs_131 : decode cX12_hangs 131 = .ok (.iconst 1, 1) := by decide +kernel
theorem dX12_hangs_132 : decode cX12_hangs 132 = .ok (.iload 4, 2) := by decide +kernel
theorem dX12_hangs_134 : decode cX12_hangs 134 = .ok (.ishl, 1) := by decide +kernel
theorem dX12_hangs_135 : decode cX12_hangs 135 = .ok (.goto 4, 3) := by decide +kernel
theorem dX12_hangs_138 : decode cX12_hangs 138 = .ok (.iconst 0, 1) := by decide +kernel
theorem dX12_hangs_139 : decode cX12_hangs 139 = .ok (.ior, 1) := by decide +kernel
theorem dX12_hangs_140 : decode cX12_hangs 140 = .ok (.istore_n 3, 1) := by decide +kernel
theorem dX12_hangs_141 : decode cX12_hangs 141 = .ok (.iinc 4 1, 3) := by decide +kernel
theorem dX12_hangs_144 : decode cX12_hangs 144 = .ok (.goto (-44), 3) := by decide +kernel
theorem dX12_hangs_147 : decode cX12_hangs 147 = .ok (.iload_n 3, 1) := by decide +kernel
theorem dX12_hangs_148 : decode cX12_hangs 148 = .ok (.ireturn, 1) := by decide +kernel
theorem dX12_foreign_0 : decode cX12_foreign 0 = .ok (.aload_n 0, 1) := by decide +kernel
theorem dX12_foreign_1 : decode cX12_foreign 1 = .ok (.aload_n 0, 1) := by decide +kernel
theorem dX12_foreign_2 : decode cX12_foreign 2 = .ok (.getfield 19, 3) := by decide +kernel
theorem dX12_foreign_5 : decode cX12_foreign 5 = .ok (.iload_n 1, 1) := by decide +kernel
theorem dX12_foreign_6 : decode cX12_foreign 6 = .ok (.iaload, 1) := by decide +kernel
theorem dX12_foreign_7 : decode cX12_foreign 7 = .ok (.invokevirtual 289, 3) := by decide +kernel
theorem dX12_foreign_10 : decode cX12_foreign 10 = .ok (.istore_n 2, 1) := by decide +kernel
theorem dX12_foreign_11 : decode cX12_foreign 11 = .ok (.iconst 0, 1) := by decide +kernel
theorem dX12_foreign_12 : decode cX12_foreign 12 = .ok (.istore_n 3, 1) := by decide +kernel
theorem dX12_foreign_13 : decode cX12_foreign 13 = .ok (.iconst 0, 1) := by decide +kernel
theorem dX12_foreign_14 : decode cX12_foreign 14 = .ok (.istore 4, 2) := by decide +kernel
theorem dX12_foreign_16 : decode cX12_foreign 16 = .ok (.iload 4, 2) := by decide +kernel
theorem dX12_foreign_18 : decode cX12_foreign 18 = .ok (.aload_n 0, 1) := by decide +kernel
theorem dX12_foreign_19 : decode cX12_foreign 19 = .ok (.getfield 126, 3) := by decide +kernel
theorem dX12_foreign_22 : decode cX12_foreign 22 = .ok (.if_icmp .ge 46, 3) := by decide +kernel
theorem dX12_foreign_25 : decode cX12_foreign 25 = .ok (.iload_n 3, 1) := by decide +kernel
theorem dX12_foreign_26 : decode cX12_foreign 26 = .ok (.iload_n 2, 1) := by decide +kernel
theorem dX12_foreign_27 : decode cX12_foreign 27 = .ok (.iload 4, 2) := by decide +kernel
theorem dX12_foreign_29 : decode cX12_foreign 29 = .ok (.ishr, 1) := by decide +kernel
theorem dX12_foreign_30 : decode cX12_foreign 30 = .ok (.iconst 1, 1) := by decide +kernel
theorem dX12_foreign_31 : decode cX12_foreign 31 = .ok (.iand, 1) := by decide +kernel
theorem dX12_foreign_32 : decode cX12_foreign 32 = .ok (.iconst 1, 1) := by decide +kernel
theorem dX12_foreign_33 : decode cX12_foreign 33 = .ok (.if_icmp .ne 26, 3) := by decide +kernel
theorem dX12_foreign_36 : decode cX12_foreign 36 = .ok (.aload_n 0, 1) := by decide +kernel
theorem dX12_foreign_37 : decode cX12_foreign 37 = .ok (.getfield 13, 3) := by decide +kernel
theorem dX12_foreign_40 : decode cX12_foreign 40 = .ok (.iload 4, 2) := by decide +kernel
theorem dX12_foreign_42 : decode cX12_foreign 42 = .ok (.iaload, 1) := by decide +kernel
theorem dX12_foreign_43 : decode cX12_foreign 43 = .ok (.aload_n 0, 1) := by decide +kernel
theorem dX12_foreign_44 : decode cX12_foreign 44 = .ok (.getfield 13, 3) := by decide +kernel
theorem dX12_foreign_47 : decode cX12_foreign 47 = .ok (.iload_n 1, 1) := by decide +kernel
theorem dX12_foreign_48 : decode cX12_foreign 48 = .ok (.iaload, 1) := by decide +kernel
theorem dX12_foreign_49 : decode cX12_foreign 49 = .ok (.if_icmp .eq 10, 3) := by decide +kernel
theorem dX12_foreign_52 : decode cX12_foreign 52 = .ok (.iconst 1, 1) := by decide +kernel
theorem dX12_foreign_53 : decode cX12_foreign 53 = .ok (.iload 4, 2) := by decide +kernel
theorem dX12_foreign_55 : decode cX12_foreign 55 = .ok (.ishl, 1) := by decide +kernel
theorem dX12_foreign_56 : decode cX12_foreign 56 = .ok (.goto 4, 3) := by decide +kernel
theorem dX12_foreign_59 : decode cX12_foreign 59 = .ok (.iconst 0, 1) := by decide +kernel
theorem dX12_foreign_60 : decode cX12_foreign 60 = .ok (.ior, 1) := by decide +kernel
theorem dX12_foreign_61 : decode cX12_foreign 61 = .ok (.istore_n 3, 1) := by decide +kernel
theorem dX12_foreign_62 : decode cX12_foreign 62 = .ok (.iinc 4 1, 3) := by decide +kernel
theorem dX12_foreign_65 : decode cX12_foreign 65 = .ok (.goto (-49), 3) := by decide +kernel
theorem dX12_foreign_68 : decode cX12_foreign 68 = .ok (.iload_n 3, 1) := by decide +kernel
theorem dX12_foreign_69 : decode cX12_foreign 69 = .ok (.ireturn, 1) := by decide +kernel
theorem dX12_isCrossing_0 : decode cX12_isCrossing 0 = .ok (.aload_n 0, 1) := by decide +kernel
theorem dX12_isCrossing_1 : decode cX12_isCrossing 1 = .ok (.getfield 7, 3) := by decide +kernel
theorem dX12_isCrossing_4 : decode cX12_isCrossing 4 = .ok (.iload_n 1, 1) := by decide +kernel
theorem dX12_isCrossing_5 : decode cX12_isCrossing 5 = .ok (.iaload, 1) := by decide +kernel
theorem dX12_isCrossing_6 : decode cX12_isCrossing 6 = .ok (.bipush 6, 2) := by decide +kernel
theorem dX12_isCrossing_8 : decode cX12_isCrossing 8 = .ok (.if_icmp .ne 15, 3) := by decide +kernel
theorem dX12_isCrossing_11 : decode cX12_isCrossing 11 = .ok (.aload_n 0, 1) := by decide +kernel
theorem dX12_isCrossing_12 : decode cX12_isCrossing 12 = .ok (.iload_n 1, 1) := by decide +kernel
theorem dX12_isCrossing_13 : decode cX12_isCrossing 13 = .ok (.invokevirtual 292, 3) := by decide +kernel
theorem dX12_isCrossing_16 : decode cX12_isCrossing 16 = .ok (.ifCond .eq 7, 3) := by decide +kernel
theorem dX12_isCrossing_19 : decode cX12_isCrossing 19 = .ok (.iconst 1, 1) := by decide +kernel
theorem dX12_isCrossing_20 : decode cX12_isCrossing 20 = .ok (.goto 4, 3) := by decide +kernel
theorem dX12_isCrossing_23 : decode cX12_isCrossing 23 = .ok (.iconst 0, 1) := by decide +kernel
theorem dX12_isCrossing_24 : decode cX12_isCrossing 24 = .ok (.ireturn, 1) := by decide +kernel
theorem dX12_crossingAt_0 : decode cX12_crossingAt 0 = .ok (.iconst 0, 1) := by decide +kernel
theorem dX12_crossingAt_1 : decode cX12_crossingAt 1 = .ok (.istore_n 2, 1) := by decide +kernel
theorem dX12_crossingAt_2 : decode cX12_crossingAt 2 = .ok (.iconst 0, 1) := by decide +kernel
theorem dX12_crossingAt_3 : decode cX12_crossingAt 3 = .ok (.istore_n 3, 1) := by decide +kernel
theorem dX12_crossingAt_4 : decode cX12_crossingAt 4 = .ok (.iload_n 3, 1) := by decide +kernel
theorem dX12_crossingAt_5 : decode cX12_crossingAt 5 = .ok (.aload_n 0, 1) := by decide +kernel
theorem dX12_crossingAt_6 : decode cX12_crossingAt 6 = .ok (.getfield 126, 3) := by decide +kernel
theorem dX12_crossingAt_9 : decode cX12_crossingAt 9 = .ok (.if_icmp .ge 27, 3) := by decide +kernel
theorem dX12_crossingAt_12 : decode cX12_crossingAt 12 = .ok (.aload_n 0, 1) := by decide +kernel
theorem dX12_crossingAt_13 : decode cX12_crossingAt 13 = .ok (.iload_n 3, 1) := by decide +kernel
theorem dX12_crossingAt_14 : decode cX12_crossingAt 14 = .ok (.invokevirtual 295, 3) := by decide +kernel
theorem dX12_crossingAt_17 : decode cX12_crossingAt 17 = .ok (.ifCond .eq 13, 3) := by decide +kernel
theorem dX12_crossingAt_20 : decode cX12_crossingAt 20 = .ok (.iload_n 2, 1) := by decide +kernel
theorem dX12_crossingAt_21 : decode cX12_crossingAt 21 = .ok (.iload_n 1, 1) := by decide +kernel
theorem dX12_crossingAt_22 : decode cX12_crossingAt 22 = .ok (.if_icmp .ne 5, 3) := by decide +kernel
theorem dX12_crossingAt_25 : decode cX12_crossingAt 25 = .ok (.iload_n 3, 1) := by decide +kernel
theorem dX12_crossingAt_26 : decode cX12_crossingAt 26 = .ok (.ireturn, 1) := by decide +kernel
theorem dX12_crossingAt_27 : decode cX12_crossingAt 27 = .ok (.iinc 2 1, 3) := by decide +kernel
theorem dX12_crossingAt_30 : decode cX12_crossingAt 30 = .ok (.iinc 3 1, 3) := by decide +kernel
theorem dX12_crossingAt_33 : decode cX12_crossingAt 33 = .ok (.goto (-29), 3) := by decide +kernel
theorem dX12_crossingAt_36 : decode cX12_crossingAt 36 = .ok (.iconst (-1), 1) := by decide +kernel
theorem dX12_crossingAt_37 : decode cX12_crossingAt 37 = .ok (.ireturn, 1) := by decide +kernel
theorem dX12_isForeignBit_0 : decode cX12_isForeignBit 0 = .ok (.iload_n 1, 1) := by decide +kernel
theorem dX12_isForeignBit_1 : decode cX12_isForeignBit 1 = .ok (.ifCond .lt 32, 3) := by decide +kernel
theorem dX12_isForeignBit_4 : decode cX12_isForeignBit 4 = .ok (.aload_n 0, 1) := by decide +kernel
theorem dX12_isForeignBit_5 : decode cX12_isForeignBit 5 = .ok (.getfield 7, 3) := by decide +kernel
theorem dX12_isForeignBit_8 : decode cX12_isForeignBit 8 = .ok (.iload_n 1, 1) := by decide +kernel
theorem dX12_isForeignBit_9 : decode cX12_isForeignBit 9 = .ok (.iaload, 1) := by decide +kernel
theorem dX12_isForeignBit_10 : decode cX12_isForeignBit 10 = .ok (.iconst 4, 1) := by decide +kernel
theorem dX12_isForeignBit_11 : decode cX12_isForeignBit 11 = .ok (.if_icmp .le 22, 3) := by decide +kernel
theorem dX12_isForeignBit_14 : decode cX12_isForeignBit 14 = .ok (.aload_n 0, 1) := by decide +kernel
theorem dX12_isForeignBit_15 : decode cX12_isForeignBit 15 = .ok (.getfield 13, 3) := by decide +kernel
theorem dX12_isForeignBit_18 : decode cX12_isForeignBit 18 = .ok (.iload_n 1, 1) := by decide +kernel
theorem dX12_isForeignBit_19 : decode cX12_isForeignBit 19 = .ok (.iaload, 1) := by decide +kernel
theorem dX12_isForeignBit_20 : decode cX12_isForeignBit 20 = .ok (.aload_n 0, 1) := by decide +kernel
theorem dX12_isForeignBit_21 : decode cX12_isForeignBit 21 = .ok (.getfield 13, 3) := by decide +kernel
theorem dX12_isForeignBit_24 : decode cX12_isForeignBit 24 = .ok (.iload_n 2, 1) := by decide +kernel
theorem dX12_isForeignBit_25 : decode cX12_isForeignBit 25 = .ok (.iaload, 1) := by decide +kernel
theorem dX12_isForeignBit_26 : decode cX12_isForeignBit 26 = .ok (.if_icmp .eq 7, 3) := by decide +kernel
theorem dX12_isForeignBit_29 : decode cX12_isForeignBit 29 = .ok (.iconst 1, 1) := by decide +kernel
theorem dX12_isForeignBit_30 : decode cX12_isForeignBit 30 = .ok (.goto 4, 3) := by decide +kernel
theorem dX12_isForeignBit_33 : decode cX12_isForeignBit 33 = .ok (.iconst 0, 1) := by decide +kernel
theorem dX12_isForeignBit_34 : decode cX12_isForeignBit 34 = .ok (.ireturn, 1) := by decide +kernel
theorem dX12_isUsedOnce_0 : decode cX12_isUsedOnce 0 = .ok (.iconst 0, 1) := by decide +kernel
theorem dX12_isUsedOnce_1 : decode cX12_isUsedOnce 1 = .ok (.istore_n 2, 1) := by decide +kernel
theorem dX12_isUsedOnce_2 : decode cX12_isUsedOnce 2 = .ok (.iconst 1, 1) := by decide +kernel
theorem dX12_isUsedOnce_3 : decode cX12_isUsedOnce 3 = .ok (.istore_n 3, 1) := by decide +kernel
theorem dX12_isUsedOnce_4 : decode cX12_isUsedOnce 4 = .ok (.iconst 0, 1) := by decide +kernel
theorem dX12_isUsedOnce_5 : decode cX12_isUsedOnce 5 = .ok (.istore 4, 2) := by decide +kernel
theorem dX12_isUsedOnce_7 : decode cX12_isUsedOnce 7 = .ok (.iload 4, 2) := by decide +kernel
theorem dX12_isUsedOnce_9 : decode cX12_isUsedOnce 9 = .ok (.aload_n 0, 1) := by decide +kernel
theorem dX12_isUsedOnce_10 : decode cX12_isUsedOnce 10 = .ok (.getfield 126, 3) := by decide +kernel
theorem dX12_isUsedOnce_13 : decode cX12_isUsedOnce 13 = .ok (.if_icmp .ge 124, 3) := by decide +kernel
theorem dX12_isUsedOnce_16 : decode cX12_isUsedOnce 16 = .ok (.aload_n 0, 1) := by decide +kernel
theorem dX12_isUsedOnce_17 : decode cX12_isUsedOnce 17 = .ok (.getfield 7, 3) := by decide +kernel
theorem dX12_isUsedOnce_20 : decode cX12_isUsedOnce 20 = .ok (.iload 4, 2) := by decide +kernel
theorem dX12_isUsedOnce_22 : decode cX12_isUsedOnce 22 = .ok (.iaload, 1) := by decide +kernel
theorem dX12_isUsedOnce_23 : decode cX12_isUsedOnce 23 = .ok (.iconst 5, 1) := by decide +kernel
theorem dX12_isUsedOnce_24 : decode cX12_isUsedOnce 24 = .ok (.if_icmp .ge 49, 3) := by decide +kernel
theorem dX12_isUsedOnce_27 : decode cX12_isUsedOnce 27 = .ok (.iload_n 3, 1) := by decide +kernel
theorem dX12_isUsedOnce_28 : decode cX12_isUsedOnce 28 = .ok (.ifCond .eq 40, 3) := by decide +kernel
theorem dX12_isUsedOnce_31 : decode cX12_isUsedOnce 31 = .ok (.aload_n 0, 1) := by decide +kernel
theorem dX12_isUsedOnce_32 : decode cX12_isUsedOnce 32 = .ok (.getfield 19, 3) := by decide +kernel
theorem dX12_isUsedOnce_35 : decode cX12_isUsedOnce 35 = .ok (.iload 4, 2) := by decide +kernel
theorem dX12_isUsedOnce_37 : decode cX12_isUsedOnce 37 = .ok (.iaload, 1) := by decide +kernel
theorem dX12_isUsedOnce_38 : decode cX12_isUsedOnce 38 = .ok (.iload_n 1, 1) := by decide +kernel
theorem dX12_isUsedOnce_39 : decode cX12_isUsedOnce 39 = .ok (.if_icmp .eq 29, 3) := by decide +kernel
theorem dX12_isUsedOnce_42 : decode cX12_isUsedOnce 42 = .ok (.aload_n 0, 1) := by decide +kernel
theorem dX12_isUsedOnce_43 : decode cX12_isUsedOnce 43 = .ok (.getfield 22, 3) := by decide +kernel
theorem dX12_isUsedOnce_46 : decode cX12_isUsedOnce 46 = .ok (.iload 4, 2) := by decide +kernel
theorem dX12_isUsedOnce_48 : decode cX12_isUsedOnce 48 = .ok (.iaload, 1) := by decide +kernel
theorem dX12_isUsedOnce_49 : decode cX12_isUsedOnce 49 = .ok (.iload_n 1, 1) := by decide +kernel
theorem dX12_isUsedOnce_50 : decode cX12_isUsedOnce 50 = .ok (.if_icmp .eq 18, 3) := by decide +kernel
theorem dX12_isUsedOnce_53 : decode cX12_isUsedOnce 53 = .ok (.aload_n 0, 1) := by decide +kernel
theorem dX12_isUsedOnce_54 : decode cX12_isUsedOnce 54 = .ok (.getfield 25, 3) := by decide +kernel
theorem dX12_isUsedOnce_57 : decode cX12_isUsedOnce 57 = .ok (.iload 4, 2) := by decide +kernel
theorem dX12_isUsedOnce_59 : decode cX12_isUsedOnce 59 = .ok (.iaload, 1) := by decide +kernel
theorem dX12_isUsedOnce_60 : decode cX12_isUsedOnce 60 = .ok (.iload_n 1, 1) := by decide +kernel
theorem dX12_isUsedOnce_61 : decode cX12_isUsedOnce 61 = .ok (.if_icmp .eq 7, 3) := by decide +kernel
theorem dX12_isUsedOnce_64 : decode cX12_isUsedOnce 64 = .ok (.iconst 1, 1) := by decide +kernel
theorem dX12_isUsedOnce_65 : decode cX12_isUsedOnce 65 = .ok (.goto 4, 3) := by decide +kernel
theorem dX12_isUsedOnce_68 : decode cX12_isUsedOnce 68 = .ok (.iconst 0, 1) := by decide +kernel
theorem dX12_isUsedOnce_69 : decode cX12_isUsedOnce 69 = .ok (.istore_n 3, 1) := by decide +kernel
theorem dX12_isUsedOnce_70 : decode cX12_isUsedOnce 70 = .ok (.goto 61, 3) := by decide +kernel
theorem dX12_isUsedOnce_73 : decode cX12_isUsedOnce 73 = .ok (.aload_n 0, 1) := by decide +kernel
theorem dX12_isUsedOnce_74 : decode cX12_isUsedOnce 74 = .ok (.getfield 7, 3) := by decide +kernel
theorem dX12_isUsedOnce_77 : decode cX12_isUsedOnce 77 = .ok (.iload 4, 2) := by decide +kernel
theorem dX12_isUsedOnce_79 : decode cX12_isUsedOnce 79 = .ok (.iaload, 1) := by decide +kernel
theorem dX12_isUsedOnce_80 : decode cX12_isUsedOnce 80 = .ok (.bipush 6, 2) := by decide +kernel
theorem dX12_isUsedOnce_82 : decode cX12_isUsedOnce 82 = .ok (.if_icmp .ne 49, 3) := by decide +kernel
theorem dX12_isUsedOnce_85 : decode cX12_isUsedOnce 85 = .ok (.aload_n 0, 1) := by decide +kernel
theorem dX12_isUsedOnce_86 : decode cX12_isUsedOnce 86 = .ok (.getfield 19, 3) := by decide +kernel
theorem dX12_isUsedOnce_89 : decode cX12_isUsedOnce 89 = .ok (.iload 4, 2) := by decide +kernel
theorem dX12_isUsedOnce_91 : decode cX12_isUsedOnce 91 = .ok (.iaload, 1) := by decide +kernel
theorem dX12_isUsedOnce_92 : decode cX12_isUsedOnce 92 = .ok (.iload_n 1, 1) := by decide +kernel
theorem dX12_isUsedOnce_93 : decode cX12_isUsedOnce 93 = .ok (.if_icmp .ne 38, 3) := by decide +kernel
theorem dX12_isUsedOnce_96 : decode cX12_isUsedOnce 96 = .ok (.iinc 2 1, 3) := by decide +kernel
theorem dX12_isUsedOnce_99 : decode cX12_isUsedOnce 99 = .ok (.iload_n 3, 1) := by decide +kernel
theorem dX12_isUsedOnce_100 : decode cX12_isUsedOnce 100 = .ok (.ifCond .eq 29, 3) := by decide +kernel
theorem dX12_isUsedOnce_103 : decode cX12_isUsedOnce 103 = .ok (.iload 4, 2) := by decide +kernel
theorem dX12_isUsedOnce_105 : decode cX12_isUsedOnce 105 = .ok (.iload_n 1, 1) := by decide +kernel
theorem dX12_isUsedOnce_106 : decode cX12_isUsedOnce 106 = .ok (.if_icmp .eq 23, 3) := by decide +kernel
theorem dX12_isUsedOnce_109 : decode cX12_isUsedOnce 109 = .ok (.aload_n 0, 1) := by decide +kernel
theorem dX12_isUsedOnce_110 : decode cX12_isUsedOnce 110 = .ok (.getfield 13, 3) := by decide +kernel
theorem dX12_isUsedOnce_113 : decode cX12_isUsedOnce 113 = .ok (.iload 4, 2) := by decide +kernel
theorem dX12_isUsedOnce_115 : decode cX12_isUsedOnce 115 = .ok (.iaload, 1) := by decide +kernel
theorem dX12_isUsedOnce_116 : decode cX12_isUsedOnce 116 = .ok (.aload_n 0, 1) := by decide +kernel
theorem dX12_isUsedOnce_117 : decode cX12_isUsedOnce 117 = .ok (.getfield 13, 3) := by decide +kernel
theorem dX12_isUsedOnce_120 : decode cX12_isUsedOnce 120 = .ok (.iload_n 1, 1) := by decide +kernel
theorem dX12_isUsedOnce_121 : decode cX12_isUsedOnce 121 = .ok (.iaload, 1) := by decide +kernel
theorem dX12_isUsedOnce_122 : decode cX12_isUsedOnce 122 = .ok (.if_icmp .ne 7, 3) := by decide +kernel
theorem dX12_isUsedOnce_125 : decode cX12_isUsedOnce 125 = .ok (.iconst 1, 1) := by decide +kernel
theorem dX12_isUsedOnce_126 : decode cX12_isUsedOnce 126 = .ok (.goto 4, 3) := by decide +kernel
theorem dX12_isUsedOnce_129 : decode cX12_isUsedOnce 129 = .ok (.iconst 0, 1) := by decide +kernel
theorem dX12_isUsedOnce_130 : decode cX12_isUsedOnce 130 = .ok (.istore_n 3, 1) := by decide +kernel
theorem dX12_isUsedOnce_131 : decode cX12_isUsedOnce 131 = .ok (.iinc 4 1, 3) := by decide +kernel
theorem dX12_isUsedOnce_134 : decode cX12_isUsedOnce 134 = .ok (.goto (-127), 3) := by decide +kernel
theorem dX12_isUsedOnce_137 : decode cX12_isUsedOnce 137 = .ok (.iload_n 3, 1) := by decide +kernel
theorem dX12_isUsedOnce_138 : decode cX12_isUsedOnce 138 = .ok (.ifCond .eq 12, 3) := by decide +kernel
theorem dX12_isUsedOnce_141 : decode cX12_isUsedOnce 141 = .ok (.iload_n 2, 1) := by decide +kernel
theorem dX12_isUsedOnce_142 : decode cX12_isUsedOnce 142 = .ok (.iconst 1, 1) := by decide +kernel
theorem dX12_isUsedOnce_143 : decode cX12_isUsedOnce 143 = .ok (.if_icmp .ne 7, 3) := by decide +kernel
theorem dX12_isUsedOnce_146 : decode cX12_isUsedOnce 146 = .ok (.iconst 1, 1) := by decide +kernel
theorem dX12_isUsedOnce_147 : decode cX12_isUsedOnce 147 = .ok (.goto 4, 3) := by decide +kernel
theorem dX12_isUsedOnce_150 : decode cX12_isUsedOnce 150 = .ok (.iconst 0, 1) := by decide +kernel
theorem dX12_isUsedOnce_151 : decode cX12_isUsedOnce 151 = .ok (.ireturn, 1) := by decide +kernel
theorem dX12_allStill_0 : decode cX12_allStill 0 = .ok (.iconst 1, 1) := by decide +kernel
theorem dX12_allStill_1 : decode cX12_allStill 1 = .ok (.istore_n 2, 1) := by decide +kernel
theorem dX12_allStill_2 : decode cX12_allStill 2 = .ok (.iconst 0, 1) := by decide +kernel
theorem dX12_allStill_3 : decode cX12_allStill 3 = .ok (.istore_n 3, 1) := by decide +kernel
theorem dX12_allStill_4 : decode cX12_allStill 4 = .ok (.iload_n 3, 1) := by decide +kernel
theorem dX12_allStill_5 : decode cX12_allStill 5 = .ok (.aload_n 0, 1) := by decide +kernel
theorem dX12_allStill_6 : decode cX12_allStill 6 = .ok (.getfield 126, 3) := by decide +kernel
theorem dX12_allStill_9 : decode cX12_allStill 9 = .ok (.if_icmp .ge 36, 3) := by decide +kernel
theorem dX12_allStill_12 : decode cX12_allStill 12 = .ok (.iload_n 2, 1) := by decide +kernel
theorem dX12_allStill_13 : decode cX12_allStill 13 = .ok (.ifCond .eq 24, 3) := by decide +kernel
theorem dX12_allStill_16 : decode cX12_allStill 16 = .ok (.iload_n 1, 1) := by decide +kernel
theorem dX12_allStill_17 : decode cX12_allStill 17 = .ok (.iload_n 3, 1) := by decide +kernel
theorem dX12_allStill_18 : decode cX12_allStill 18 = .ok (.ishr, 1) := by decide +kernel
theorem dX12_allStill_19 : decode cX12_allStill 19 = .ok (.iconst 1, 1) := by decide +kernel
theorem dX12_allStill_20 : decode cX12_allStill 20 = .ok (.iand, 1) := by decide +kernel
theorem dX12_allStill_21 : decode cX12_allStill 21 = .ok (.ifCond .eq 12, 3) := by decide +kernel
theorem dX12_allStill_24 : decode cX12_allStill 24 = .ok (.aload_n 0, 1) := by decide +kernel
theorem dX12_allStill_25 : decode cX12_allStill 25 = .ok (.getfield 28, 3) := by decide +kernel
theorem dX12_allStill_28 : decode cX12_allStill 28 = .ok (.iload_n 3, 1) := by decide +kernel
theorem dX12_allStill_29 : decode cX12_allStill 29 = .ok (.baload, 1) := by decide +kernel
theorem dX12_allStill_30 : decode cX12_allStill 30 = .ok (.ifCond .eq 7, 3) := by decide +kernel
theorem dX12_allStill_33 : decode cX12_allStill 33 = .ok (.iconst 1, 1) := by decide +kernel
theorem dX12_allStill_34 : decode cX12_allStill 34 = .ok (.goto 4, 3) := by decide +kernel
theorem dX12_allStill_37 : decode cX12_allStill 37 = .ok (.iconst 0, 1) := by decide +kernel
theorem dX12_allStill_38 : decode cX12_allStill 38 = .ok (.istore_n 2, 1) := by decide +kernel
theorem dX12_allStill_39 : decode cX12_allStill 39 = .ok (.iinc 3 1, 3) := by decide +kernel
theorem dX12_allStill_42 : decode cX12_allStill 42 = .ok (.goto (-38), 3) := by decide +kernel
theorem dX12_allStill_45 : decode cX12_allStill 45 = .ok (.iload_n 2, 1) := by decide +kernel
theorem dX12_allStill_46 : decode cX12_allStill 46 = .ok (.ireturn, 1) := by decide +kernel
theorem dX12_isTwice_0 : decode cX12_isTwice 0 = .ok (.aload_n 0, 1) := by decide +kernel
theorem dX12_isTwice_1 : decode cX12_isTwice 1 = .ok (.iload_n 1, 1) := by decide +kernel
theorem dX12_isTwice_2 : decode cX12_isTwice 2 = .ok (.invokevirtual 295, 3) := by decide +kernel
theorem dX12_isTwice_5 : decode cX12_isTwice 5 = .ok (.ifCond .eq 41, 3) := by decide +kernel
theorem dX12_isTwice_8 : decode cX12_isTwice 8 = .ok (.aload_n 0, 1) := by decide +kernel
theorem dX12_isTwice_9 : decode cX12_isTwice 9 = .ok (.aload_n 0, 1) := by decide +kernel
theorem dX12_isTwice_10 : decode cX12_isTwice 10 = .ok (.iload_n 1, 1) := by decide +kernel
theorem dX12_isTwice_11 : decode cX12_isTwice 11 = .ok (.invokevirtual 292, 3) := by decide +kernel
theorem dX12_isTwice_14 : decode cX12_isTwice 14 = .ok (.invokevirtual 298, 3) := by decide +kernel
theorem dX12_isTwice_17 : decode cX12_isTwice 17 = .ok (.ifCond .ne 29, 3) := by decide +kernel
theorem dX12_isTwice_20 : decode cX12_isTwice 20 = .ok (.aload_n 0, 1) := by decide +kernel
theorem dX12_isTwice_21 : decode cX12_isTwice 21 = .ok (.aload_n 0, 1) := by decide +kernel
theorem dX12_isTwice_22 : decode cX12_isTwice 22 = .ok (.getfield 19, 3) := by decide +kernel
theorem dX12_isTwice_25 : decode cX12_isTwice 25 = .ok (.iload_n 1, 1) := by decide +kernel
theorem dX12_isTwice_26 : decode cX12_isTwice 26 = .ok (.iaload, 1) := by decide +kernel
theorem dX12_isTwice_27 : decode cX12_isTwice 27 = .ok (.iload_n 1, 1) := by decide +kernel
theorem dX12_isTwice_28 : decode cX12_isTwice 28 = .ok (.invokevirtual 301, 3) := by decide +kernel
theorem dX12_isTwice_31 : decode cX12_isTwice 31 = .ok (.ifCond .eq 15, 3) := by decide +kernel
theorem dX12_isTwice_34 : decode cX12_isTwice 34 = .ok (.aload_n 0, 1) := by decide +kernel
theorem dX12_isTwice_35 : decode cX12_isTwice 35 = .ok (.iload_n 1, 1) := by decide +kernel
theorem dX12_isTwice_36 : decode cX12_isTwice 36 = .ok (.invokevirtual 304, 3) := by decide +kernel
theorem dX12_isTwice_39 : decode cX12_isTwice 39 = .ok (.ifCond .eq 7, 3) := by decide +kernel
theorem dX12_isTwice_42 : decode cX12_isTwice 42 = .ok (.iconst 1, 1) := by decide +kernel
theorem dX12_isTwice_43 : decode cX12_isTwice 43 = .ok (.goto 4, 3) := by decide +kernel
theorem dX12_isTwice_46 : decode cX12_isTwice 46 = .ok (.iconst 0, 1) := by decide +kernel
theorem dX12_isTwice_47 : decode cX12_isTwice 47 = .ok (.ireturn, 1) := by decide +kernel
theorem dX12_isHeldOne_0 : decode cX12_isHeldOne 0 = .ok (.aload_n 0, 1) := by decide +kernel
theorem dX12_isHeldOne_1 : decode cX12_isHeldOne 1 = .ok (.getfield 19, 3) := by decide +kernel
theorem dX12_isHeldOne_4 : decode cX12_isHeldOne 4 = .ok (.iload_n 1, 1) := by decide +kernel
theorem dX12_isHeldOne_5 : decode cX12_isHeldOne 5 = .ok (.iaload, 1) := by decide +kernel
theorem dX12_isHeldOne_6 : decode cX12_isHeldOne 6 = .ok (.istore_n 2, 1) := by decide +kernel
theorem dX12_isHeldOne_7 : decode cX12_isHeldOne 7 = .ok (.aload_n 0, 1) := by decide +kernel
theorem dX12_isHeldOne_8 : decode cX12_isHeldOne 8 = .ok (.getfield 7, 3) := by decide +kernel
theorem dX12_isHeldOne_11 : decode cX12_isHeldOne 11 = .ok (.iload_n 2, 1) := by decide +kernel
theorem dX12_isHeldOne_12 : decode cX12_isHeldOne 12 = .ok (.iaload, 1) := by decide +kernel
theorem dX12_isHeldOne_13 : decode cX12_isHeldOne 13 = .ok (.iconst 4, 1) := by decide +kernel
theorem dX12_isHeldOne_14 : decode cX12_isHeldOne 14 = .ok (.if_icmp .ne 27, 3) := by decide +kernel
theorem dX12_isHeldOne_17 : decode cX12_isHeldOne 17 = .ok (.aload_n 0, 1) := by decide +kernel
theorem dX12_isHeldOne_18 : decode cX12_isHeldOne 18 = .ok (.aload_n 0, 1) := by decide +kernel
theorem dX12_isHeldOne_19 : decode cX12_isHeldOne 19 = .ok (.getfield 22, 3) := by decide +kernel
theorem dX12_isHeldOne_22 : decode cX12_isHeldOne 22 = .ok (.iload_n 2, 1) := by decide +kernel
theorem dX12_isHeldOne_23 : decode cX12_isHeldOne 23 = .ok (.iaload, 1) := by decide +kernel
theorem dX12_isHeldOne_24 : decode cX12_isHeldOne 24 = .ok (.iload_n 1, 1) := by decide +kernel
theorem dX12_isHeldOne_25 : decode cX12_isHeldOne 25 = .ok (.invokevirtual 301, 3) := by decide +kernel
theorem dX12_isHeldOne_28 : decode cX12_isHeldOne 28 = .ok (.ifCond .eq 13, 3) := by decide +kernel
theorem dX12_isHeldOne_31 : decode cX12_isHeldOne 31 = .ok (.aload_n 0, 1) := by decide +kernel
theorem dX12_isHeldOne_32 : decode cX12_isHeldOne 32 = .ok (.getfield 25, 3) := by decide +kernel
theorem dX12_isHeldOne_35 : decode cX12_isHeldOne 35 = .ok (.iload_n 2, 1) := by decide +kernel
theorem dX12_isHeldOne_36 : decode cX12_isHeldOne 36 = .ok (.iaload, 1) := by decide +kernel
theorem dX12_isHeldOne_37 : decode cX12_isHeldOne 37 = .ok (.iload_n 1, 1) := by decide +kernel
theorem dX12_isHeldOne_38 : decode cX12_isHeldOne 38 = .ok (.if_icmp .eq 5, 3) := by decide +kernel
theorem dX12_isHeldOne_41 : decode cX12_isHeldOne 41 = .ok (.iconst 0, 1) := by decide +kernel
theorem dX12_isHeldOne_42 : decode cX12_isHeldOne 42 = .ok (.ireturn, 1) := by decide +kernel
theorem dX12_isHeldOne_43 : decode cX12_isHeldOne 43 = .ok (.aload_n 0, 1) := by decide +kernel
theorem dX12_isHeldOne_44 : decode cX12_isHeldOne 44 = .ok (.getfield 19, 3) := by decide +kernel
theorem dX12_isHeldOne_47 : decode cX12_isHeldOne 47 = .ok (.iload_n 2, 1) := by decide +kernel
theorem dX12_isHeldOne_48 : decode cX12_isHeldOne 48 = .ok (.iaload, 1) := by decide +kernel
theorem dX12_isHeldOne_49 : decode cX12_isHeldOne 49 = .ok (.istore_n 3, 1) := by decide +kernel
theorem dX12_isHeldOne_50 : decode cX12_isHeldOne 50 = .ok (.aload_n 0, 1) := by decide +kernel
theorem dX12_isHeldOne_51 : decode cX12_isHeldOne 51 = .ok (.getfield 7, 3) := by decide +kernel
theorem dX12_isHeldOne_54 : decode cX12_isHeldOne 54 = .ok (.iload_n 3, 1) := by decide +kernel
theorem dX12_isHeldOne_55 : decode cX12_isHeldOne 55 = .ok (.iaload, 1) := by decide +kernel
theorem dX12_isHeldOne_56 : decode cX12_isHeldOne 56 = .ok (.bipush 6, 2) := by decide +kernel
theorem dX12_isHeldOne_58 : decode cX12_isHeldOne 58 = .ok (.if_icmp .ne 51, 3) := by decide +kernel
theorem dX12_isHeldOne_61 : decode cX12_isHeldOne 61 = .ok (.aload_n 0, 1) := by decide +kernel
theorem dX12_isHeldOne_62 : decode cX12_isHeldOne 62 = .ok (.getfield 13, 3) := by decide +kernel
theorem dX12_isHeldOne_65 : decode cX12_isHeldOne 65 = .ok (.iload_n 3, 1) := by decide +kernel
theorem dX12_isHeldOne_66 : decode cX12_isHeldOne 66 = .ok (.iaload, 1) := by decide +kernel
theorem dX12_isHeldOne_67 : decode cX12_isHeldOne 67 = .ok (.aload_n 0, 1) := by decide +kernel
theorem dX12_isHeldOne_68 : decode cX12_isHeldOne 68 = .ok (.getfield 13, 3) := by decide +kernel
theorem dX12_isHeldOne_71 : decode cX12_isHeldOne 71 = .ok (.iload_n 1, 1) := by decide +kernel
theorem dX12_isHeldOne_72 : decode cX12_isHeldOne 72 = .ok (.iaload, 1) := by decide +kernel
theorem dX12_isHeldOne_73 : decode cX12_isHeldOne 73 = .ok (.if_icmp .ne 36, 3) := by decide +kernel
theorem dX12_isHeldOne_76 : decode cX12_isHeldOne 76 = .ok (.aload_n 0, 1) := by decide +kernel
theorem dX12_isHeldOne_77 : decode cX12_isHeldOne 77 = .ok (.getfield 7, 3) := by decide +kernel
theorem dX12_isHeldOne_80 : decode cX12_isHeldOne 80 = .ok (.aload_n 0, 1) := by decide +kernel
theorem dX12_isHeldOne_81 : decode cX12_isHeldOne 81 = .ok (.getfield 19, 3) := by decide +kernel
theorem dX12_isHeldOne_84 : decode cX12_isHeldOne 84 = .ok (.iload_n 3, 1) := by decide +kernel
theorem dX12_isHeldOne_85 : decode cX12_isHeldOne 85 = .ok (.iaload, 1) := by decide +kernel
theorem dX12_isHeldOne_86 : decode cX12_isHeldOne 86 = .ok (.iaload, 1) := by decide +kernel
theorem dX12_isHeldOne_87 : decode cX12_isHeldOne 87 = .ok (.bipush 6, 2) := by decide +kernel
theorem dX12_isHeldOne_89 : decode cX12_isHeldOne 89 = .ok (.if_icmp .ne 20, 3) := by decide +kernel
theorem dX12_isHeldOne_92 : decode cX12_isHeldOne 92 = .ok (.aload_n 0, 1) := by decide +kernel
theorem dX12_isHeldOne_93 : decode cX12_isHeldOne 93 = .ok (.aload_n 0, 1) := by decide +kernel
theorem dX12_isHeldOne_94 : decode cX12_isHeldOne 94 = .ok (.getfield 19, 3) := by decide +kernel
theorem dX12_isHeldOne_97 : decode cX12_isHeldOne 97 = .ok (.iload_n 3, 1) := by decide +kernel
theorem dX12_isHeldOne_98 : decode cX12_isHeldOne 98 = .ok (.iaload, 1) := by decide +kernel
theorem dX12_isHeldOne_99 : decode cX12_isHeldOne 99 = .ok (.invokevirtual 307, 3) := by decide +kernel
theorem dX12_isHeldOne_102 : decode cX12_isHeldOne 102 = .ok (.ifCond .eq 7, 3) := by decide +kernel
theorem dX12_isHeldOne_105 : decode cX12_isHeldOne 105 = .ok (.iconst 1, 1) := by decide +kernel
theorem dX12_isHeldOne_106 : decode cX12_isHeldOne 106 = .ok (.goto 4, 3) := by decide +kernel
theorem dX12_isHeldOne_109 : decode cX12_isHeldOne 109 = .ok (.iconst 0, 1) := by decide +kernel
theorem dX12_isHeldOne_110 : decode cX12_isHeldOne 110 = .ok (.ireturn, 1) := by decide +kernel
theorem dX12_kindOf_0 : decode cX12_kindOf 0 = .ok (.aload_n 0, 1) := by decide +kernel
theorem dX12_kindOf_1 : decode cX12_kindOf 1 = .ok (.aload_n 0, 1) := by decide +kernel
theorem dX12_kindOf_2 : decode cX12_kindOf 2 = .ok (.iload_n 1, 1) := by decide +kernel
theorem dX12_kindOf_3 : decode cX12_kindOf 3 = .ok (.invokevirtual 292, 3) := by decide +kernel
theorem dX12_kindOf_6 : decode cX12_kindOf 6 = .ok (.invokevirtual 298, 3) := by decide +kernel
theorem dX12_kindOf_9 : decode cX12_kindOf 9 = .ok (.ifCond .eq 7, 3) := by decide +kernel
theorem dX12_kindOf_12 : decode cX12_kindOf 12 = .ok (.iconst 0, 1) := by decide +kernel
theorem dX12_kindOf_13 : decode cX12_kindOf 13 = .ok (.goto 46, 3) := by decide +kernel
theorem dX12_kindOf_16 : decode cX12_kindOf 16 = .ok (.aload_n 0, 1) := by decide +kernel
theorem dX12_kindOf_17 : decode cX12_kindOf 17 = .ok (.iload_n 1, 1) := by decide +kernel
theorem dX12_kindOf_18 : decode cX12_kindOf 18 = .ok (.invokevirtual 307, 3) := by decide +kernel
theorem dX12_kindOf_21 : decode cX12_kindOf 21 = .ok (.ifCond .eq 7, 3) := by decide +kernel
theorem dX12_kindOf_24 : decode cX12_kindOf 24 = .ok (.iconst 1, 1) := by decide +kernel
theorem dX12_kindOf_25 : decode cX12_kindOf 25 = .ok (.goto 34, 3) := by decide +kernel
theorem dX12_kindOf_28 : decode cX12_kindOf 28 = .ok (.aload_n 0, 1) := by decide +kernel
theorem dX12_kindOf_29 : decode cX12_kindOf 29 = .ok (.iload_n 1, 1) := by decide +kernel
theorem dX12_kindOf_30 : decode cX12_kindOf 30 = .ok (.invokevirtual 310, 3) := by decide +kernel
theorem dX12_kindOf_33 : decode cX12_kindOf 33 = .ok (.ifCond .eq 7, 3) := by decide +kernel
theorem dX12_kindOf_36 : decode cX12_kindOf 36 = .ok (.iconst 2, 1) := by decide +kernel
theorem dX12_kindOf_37 : decode cX12_kindOf 37 = .ok (.goto 22, 3) := by decide +kernel
theorem dX12_kindOf_40 : decode cX12_kindOf 40 = .ok (.aload_n 0, 1) := by decide +kernel
theorem dX12_kindOf_41 : decode cX12_kindOf 41 = .ok (.aload_n 0, 1) := by decide +kernel
theorem dX12_kindOf_42 : decode cX12_kindOf 42 = .ok (.getfield 19, 3) := by decide +kernel
theorem dX12_kindOf_45 : decode cX12_kindOf 45 = .ok (.iload_n 1, 1) := by decide +kernel
theorem dX12_kindOf_46 : decode cX12_kindOf 46 = .ok (.iaload, 1) := by decide +kernel
theorem dX12_kindOf_47 : decode cX12_kindOf 47 = .ok (.iload_n 1, 1) := by decide +kernel
theorem dX12_kindOf_48 : decode cX12_kindOf 48 = .ok (.invokevirtual 301, 3) := by decide +kernel
theorem dX12_kindOf_51 : decode cX12_kindOf 51 = .ok (.ifCond .eq 7, 3) := by decide +kernel
theorem dX12_kindOf_54 : decode cX12_kindOf 54 = .ok (.iconst 3, 1) := by decide +kernel
theorem dX12_kindOf_55 : decode cX12_kindOf 55 = .ok (.goto 4, 3) := by decide +kernel
theorem dX12_kindOf_58 : decode cX12_kindOf 58 = .ok (.iconst 4, 1) := by decide +kernel
theorem dX12_kindOf_59 : decode cX12_kindOf 59 = .ok (.ireturn, 1) := by decide +kernel
theorem dX12_meets_0 : decode cX12_meets 0 = .ok (.iconst 0, 1) := by decide +kernel
theorem dX12_meets_1 : decode cX12_meets 1 = .ok (.istore_n 2, 1) := by decide +kernel
theorem dX12_meets_2 : decode cX12_meets 2 = .ok (.iconst 0, 1) := by decide +kernel
theorem dX12_meets_3 : decode cX12_meets 3 = .ok (.istore_n 3, 1) := by decide +kernel
theorem dX12_meets_4 : decode cX12_meets 4 = .ok (.iload_n 3, 1) := by decide +kernel
theorem dX12_meets_5 : decode cX12_meets 5 = .ok (.aload_n 0, 1) := by decide +kernel
theorem dX12_meets_6 : decode cX12_meets 6 = .ok (.getfield 126, 3) := by decide +kernel
theorem dX12_meets_9 : decode cX12_meets 9 = .ok (.if_icmp .ge 70, 3) := by decide +kernel
theorem dX12_meets_12 : decode cX12_meets 12 = .ok (.iload_n 2, 1) := by decide +kernel
theorem dX12_meets_13 : decode cX12_meets 13 = .ok (.ifCond .ne 54, 3) := by decide +kernel
theorem dX12_meets_16 : decode cX12_meets 16 = .ok (.iload_n 3, 1) := by decide +kernel
theorem dX12_meets_17 : decode cX12_meets 17 = .ok (.iload_n 1, 1) := by decide +kernel
theorem dX12_meets_18 : decode cX12_meets 18 = .ok (.if_icmp .eq 53, 3) := by decide +kernel
theorem dX12_meets_21 : decode cX12_meets 21 = .ok (.aload_n 0, 1) := by decide +kernel
theorem dX12_meets_22 : decode cX12_meets 22 = .ok (.iload_n 1, 1) := by decide +kernel
theorem dX12_meets_23 : decode cX12_meets 23 = .ok (.invokevirtual 307, 3) := by decide +kernel
theorem dX12_meets_26 : decode cX12_meets 26 = .ok (.ifCond .eq 45, 3) := by decide +kernel
theorem dX12_meets_29 : decode cX12_meets 29 = .ok (.aload_n 0, 1) := by decide +kernel
theorem dX12_meets_30 : decode cX12_meets 30 = .ok (.iload_n 3, 1) := by decide +kernel
theorem dX12_meets_31 : decode cX12_meets 31 = .ok (.invokevirtual 307, 3) := by decide +kernel
theorem dX12_meets_34 : decode cX12_meets 34 = .ok (.ifCond .eq 37, 3) := by decide +kernel
theorem dX12_meets_37 : decode cX12_meets 37 = .ok (.aload_n 0, 1) := by decide +kernel
theorem dX12_meets_38 : decode cX12_meets 38 = .ok (.getfield 13, 3) := by decide +kernel
theorem dX12_meets_41 : decode cX12_meets 41 = .ok (.iload_n 3, 1) := by decide +kernel
theorem dX12_meets_42 : decode cX12_meets 42 = .ok (.iaload, 1) := by decide +kernel
theorem dX12_meets_43 : decode cX12_meets 43 = .ok (.aload_n 0, 1) := by decide +kernel
theorem dX12_meets_44 : decode cX12_meets 44 = .ok (.getfield 13, 3) := by decide +kernel
theorem dX12_meets_47 : decode cX12_meets 47 = .ok (.iload_n 1, 1) := by decide +kernel
theorem dX12_meets_48 : decode cX12_meets 48 = .ok (.iaload, 1) := by decide +kernel
theorem dX12_meets_49 : decode cX12_meets 49 = .ok (.if_icmp .ne 22, 3) := by decide +kernel
theorem dX12_meets_52 : decode cX12_meets 52 = .ok (.aload_n 0, 1) := by decide +kernel
theorem dX12_meets_53 : decode cX12_meets 53 = .ok (.getfield 19, 3) := by decide +kernel
theorem dX12_meets_56 : decode cX12_meets 56 = .ok (.iload_n 3, 1) := by decide +kernel
theorem dX12_meets_57 : decode cX12_meets 57 = .ok (.iaload, 1) := by decide +kernel
theorem dX12_meets_58 : decode cX12_meets 58 = .ok (.aload_n 0, 1) := by decide +kernel
theorem dX12_meets_59 : decode cX12_meets 59 = .ok (.getfield 19, 3) := by decide +kernel
theorem dX12_meets_62 : decode cX12_meets 62 = .ok (.iload_n 1, 1) := by decide +kernel
theorem dX12_meets_63 : decode cX12_meets 63 = .ok (.iaload, 1) := by decide +kernel
theorem dX12_meets_64 : decode cX12_meets 64 = .ok (.if_icmp .ne 7, 3) := by decide +kernel
theorem dX12_meets_67 : decode cX12_meets 67 = .ok (.iconst 1, 1) := by decide +kernel
theorem dX12_meets_68 : decode cX12_meets 68 = .ok (.goto 4, 3) := by decide +kernel
theorem dX12_meets_71 : decode cX12_meets 71 = .ok (.iconst 0, 1) := by decide +kernel
theorem dX12_meets_72 : decode cX12_meets 72 = .ok (.istore_n 2, 1) := by decide +kernel
theorem dX12_meets_73 : decode cX12_meets 73 = .ok (.iinc 3 1, 3) := by decide +kernel
theorem dX12_meets_76 : decode cX12_meets 76 = .ok (.goto (-72), 3) := by decide +kernel
theorem dX12_meets_79 : decode cX12_meets 79 = .ok (.iload_n 2, 1) := by decide +kernel
theorem dX12_meets_80 : decode cX12_meets 80 = .ok (.ireturn, 1) := by decide +kernel
theorem dX12_crossings_0 : decode cX12_crossings 0 = .ok (.aload_n 0, 1) := by decide +kernel
theorem dX12_crossings_1 : decode cX12_crossings 1 = .ok (.iconst 0, 1) := by decide +kernel
theorem dX12_crossings_2 : decode cX12_crossings 2 = .ok (.putfield 122, 3) := by decide +kernel
theorem dX12_crossings_5 : decode cX12_crossings 5 = .ok (.iconst 0, 1) := by decide +kernel
theorem dX12_crossings_6 : decode cX12_crossings 6 = .ok (.istore_n 1, 1) := by decide +kernel
theorem dX12_crossings_7 : decode cX12_crossings 7 = .ok (.iconst 0, 1) := by decide +kernel
theorem dX12_crossings_8 : decode cX12_crossings 8 = .ok (.istore_n 2, 1) := by decide +kernel
theorem dX12_crossings_9 : decode cX12_crossings 9 = .ok (.iload_n 2, 1) := by decide +kernel
theorem dX12_crossings_10 : decode cX12_crossings 10 = .ok (.aload_n 0, 1) := by decide +kernel
theorem dX12_crossings_11 : decode cX12_crossings 11 = .ok (.getfield 126, 3) := by decide +kernel
theorem dX12_crossings_14 : decode cX12_crossings 14 = .ok (.if_icmp .ge 25, 3) := by decide +kernel
theorem dX12_crossings_17 : decode cX12_crossings 17 = .ok (.iload_n 1, 1) := by decide +kernel
theorem dX12_crossings_18 : decode cX12_crossings 18 = .ok (.aload_n 0, 1) := by decide +kernel
theorem dX12_crossings_19 : decode cX12_crossings 19 = .ok (.iload_n 2, 1) := by decide +kernel
theorem dX12_crossings_20 : decode cX12_crossings 20 = .ok (.invokevirtual 295, 3) := by decide +kernel
theorem dX12_crossings_23 : decode cX12_crossings 23 = .ok (.ifCond .eq 7, 3) := by decide +kernel
theorem dX12_crossings_26 : decode cX12_crossings 26 = .ok (.iconst 1, 1) := by decide +kernel
theorem dX12_crossings_27 : decode cX12_crossings 27 = .ok (.goto 4, 3) := by decide +kernel
theorem dX12_crossings_30 : decode cX12_crossings 30 = .ok (.iconst 0, 1) := by decide +kernel
theorem dX12_crossings_31 : decode cX12_crossings 31 = .ok (.iadd, 1) := by decide +kernel
theorem dX12_crossings_32 : decode cX12_crossings 32 = .ok (.istore_n 1, 1) := by decide +kernel
theorem dX12_crossings_33 : decode cX12_crossings 33 = .ok (.iinc 2 1, 3) := by decide +kernel
theorem dX12_crossings_36 : decode cX12_crossings 36 = .ok (.goto (-27), 3) := by decide +kernel
theorem dX12_crossings_39 : decode cX12_crossings 39 = .ok (.iload_n 1, 1) := by decide +kernel
theorem dX12_crossings_40 : decode cX12_crossings 40 = .ok (.ireturn, 1) := by decide +kernel
theorem dX12_crossing_0 : decode cX12_crossing 0 = .ok (.aload_n 0, 1) := by decide +kernel
theorem dX12_crossing_1 : decode cX12_crossing 1 = .ok (.iconst 0, 1) := by decide +kernel
theorem dX12_crossing_2 : decode cX12_crossing 2 = .ok (.putfield 122, 3) := by decide +kernel
theorem dX12_crossing_5 : decode cX12_crossing 5 = .ok (.iload_n 1, 1) := by decide +kernel
theorem dX12_crossing_6 : decode cX12_crossing 6 = .ok (.ifCond .ge 7, 3) := by decide +kernel
theorem dX12_crossing_9 : decode cX12_crossing 9 = .ok (.iconst (-1), 1) := by decide +kernel
theorem dX12_crossing_10 : decode cX12_crossing 10 = .ok (.goto 8, 3) := by decide +kernel
theorem dX12_crossing_13 : decode cX12_crossing 13 = .ok (.aload_n 0, 1) := by decide +kernel
theorem dX12_crossing_14 : decode cX12_crossing 14 = .ok (.iload_n 1, 1) := by decide +kernel
theorem dX12_crossing_15 : decode cX12_crossing 15 = .ok (.invokevirtual 313, 3) := by decide +kernel
theorem dX12_crossing_18 : decode cX12_crossing 18 = .ok (.istore_n 3, 1) := by decide +kernel
theorem dX12_crossing_19 : decode cX12_crossing 19 = .ok (.iload_n 3, 1) := by decide +kernel
theorem dX12_crossing_20 : decode cX12_crossing 20 = .ok (.ifCond .lt 15, 3) := by decide +kernel
theorem dX12_crossing_23 : decode cX12_crossing 23 = .ok (.iload_n 2, 1) := by decide +kernel
theorem dX12_crossing_24 : decode cX12_crossing 24 = .ok (.i2l, 1) := by decide +kernel
theorem dX12_crossing_25 : decode cX12_crossing 25 = .ok (.lconst 0, 1) := by decide +kernel
theorem dX12_crossing_26 : decode cX12_crossing 26 = .ok (.ldc2_w 170, 3) := by decide +kernel
theorem dX12_crossing_29 : decode cX12_crossing 29 = .ok (.invokestatic 156, 3) := by decide +kernel
theorem dX12_crossing_32 : decode cX12_crossing 32 = .ok (.ifCond .ne 5, 3) := by decide +kernel
theorem dX12_crossing_35 : decode cX12_crossing 35 = .ok (.iconst (-1), 1) := by decide +kernel
theorem dX12_crossing_36 : decode cX12_crossing 36 = .ok (.ireturn, 1) := by decide +kernel
theorem dX12_crossing_37 : decode cX12_crossing 37 = .ok (.iload_n 2, 1) := by decide +kernel
theorem dX12_crossing_38 : decode cX12_crossing 38 = .ok (.tableswitch 75 0 3 #[30, 32, 38, 52], 30) := by decide +kernel
theorem dX12_crossing_68 : decode cX12_crossing 68 = .ok (.iload_n 3, 1) := by decide +kernel
theorem dX12_crossing_69 : decode cX12_crossing 69 = .ok (.ireturn, 1) := by decide +kernel
theorem dX12_crossing_70 : decode cX12_crossing 70 = .ok (.aload_n 0, 1) := by decide +kernel
theorem dX12_crossing_71 : decode cX12_crossing 71 = .ok (.iload_n 3, 1) := by decide +kernel
theorem dX12_crossing_72 : decode cX12_crossing 72 = .ok (.invokevirtual 316, 3) := by decide +kernel
theorem dX12_crossing_75 : decode cX12_crossing 75 = .ok (.ireturn, 1) := by decide +kernel
theorem dX12_crossing_76 : decode cX12_crossing 76 = .ok (.aload_n 0, 1) := by decide +kernel
theorem dX12_crossing_77 : decode cX12_crossing 77 = .ok (.iload_n 3, 1) := by decide +kernel
theorem dX12_crossing_78 : decode cX12_crossing 78 = .ok (.invokevirtual 319, 3) := by decide +kernel
theorem dX12_crossing_81 : decode cX12_crossing 81 = .ok (.ifCond .eq 7, 3) := by decide +kernel
theorem dX12_crossing_84 : decode cX12_crossing 84 = .ok (.iconst 1, 1) := by decide +kernel
theorem dX12_crossing_85 : decode cX12_crossing 85 = .ok (.goto 4, 3) := by decide +kernel
theorem dX12_crossing_88 : decode cX12_crossing 88 = .ok (.iconst 0, 1) := by decide +kernel
theorem dX12_crossing_89 : decode cX12_crossing 89 = .ok (.ireturn, 1) := by decide +kernel
theorem dX12_crossing_90 : decode cX12_crossing 90 = .ok (.aload_n 0, 1) := by decide +kernel
theorem dX12_crossing_91 : decode cX12_crossing 91 = .ok (.iload_n 3, 1) := by decide +kernel
theorem dX12_crossing_92 : decode cX12_crossing 92 = .ok (.invokevirtual 316, 3) := by decide +kernel
theorem dX12_crossing_95 : decode cX12_crossing 95 = .ok (.iconst 2, 1) := by decide +kernel
theorem dX12_crossing_96 : decode cX12_crossing 96 = .ok (.if_icmp .gt 11, 3) := by decide +kernel
theorem dX12_crossing_99 : decode cX12_crossing 99 = .ok (.aload_n 0, 1) := by decide +kernel
theorem dX12_crossing_100 : decode cX12_crossing 100 = .ok (.iload_n 3, 1) := by decide +kernel
theorem dX12_crossing_101 : decode cX12_crossing 101 = .ok (.invokevirtual 319, 3) := by decide +kernel
theorem dX12_crossing_104 : decode cX12_crossing 104 = .ok (.ifCond .eq 7, 3) := by decide +kernel
theorem dX12_crossing_107 : decode cX12_crossing 107 = .ok (.iconst 1, 1) := by decide +kernel
theorem dX12_crossing_108 : decode cX12_crossing 108 = .ok (.goto 4, 3) := by decide +kernel
theorem dX12_crossing_111 : decode cX12_crossing 111 = .ok (.iconst 0, 1) := by decide +kernel
theorem dX12_crossing_112 : decode cX12_crossing 112 = .ok (.ireturn, 1) := by decide +kernel
theorem dX12_crossing_113 : decode cX12_crossing 113 = .ok (.aload_n 0, 1) := by decide +kernel
theorem dX12_crossing_114 : decode cX12_crossing 114 = .ok (.iload_n 3, 1) := by decide +kernel
theorem dX12_crossing_115 : decode cX12_crossing 115 = .ok (.invokevirtual 292, 3) := by decide +kernel
theorem dX12_crossing_118 : decode cX12_crossing 118 = .ok (.ireturn, 1) := by decide +kernel
theorem dX12_mend_0 : decode cX12_mend 0 = .ok (.aload_n 0, 1) := by decide +kernel
theorem dX12_mend_1 : decode cX12_mend 1 = .ok (.iconst 0, 1) := by decide +kernel
theorem dX12_mend_2 : decode cX12_mend 2 = .ok (.putfield 122, 3) := by decide +kernel
theorem dX12_mend_5 : decode cX12_mend 5 = .ok (.iload_n 1, 1) := by decide +kernel
theorem dX12_mend_6 : decode cX12_mend 6 = .ok (.ifCond .ge 7, 3) := by decide +kernel
theorem dX12_mend_9 : decode cX12_mend 9 = .ok (.iconst (-1), 1) := by decide +kernel
theorem dX12_mend_10 : decode cX12_mend 10 = .ok (.goto 8, 3) := by decide +kernel
theorem dX12_mend_13 : decode cX12_mend 13 = .ok (.aload_n 0, 1) := by decide +kernel
theorem dX12_mend_14 : decode cX12_mend 14 = .ok (.iload_n 1, 1) := by decide +kernel
theorem dX12_mend_15 : decode cX12_mend 15 = .ok (.invokevirtual 313, 3) := by decide +kernel
theorem dX12_mend_18 : decode cX12_mend 18 = .ok (.istore_n 2, 1) := by decide +kernel
theorem dX12_mend_19 : decode cX12_mend 19 = .ok (.iload_n 2, 1) := by decide +kernel
theorem dX12_mend_20 : decode cX12_mend 20 = .ok (.ifCond .ge 5, 3) := by decide +kernel
theorem dX12_mend_23 : decode cX12_mend 23 = .ok (.iconst (-1), 1) := by decide +kernel
theorem dX12_mend_24 : decode cX12_mend 24 = .ok (.ireturn, 1) := by decide +kernel
