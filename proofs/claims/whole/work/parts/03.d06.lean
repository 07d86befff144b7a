theorem dX12_mend_25 : decode cX12_mend 25 = .ok (.aload_n 0, 1) := by decide +kernel
theorem dX12_mend_26 : decode cX12_mend 26 = .ok (.getfield 126, 3) := by decide +kernel
theorem dX12_mend_29 : decode cX12_mend 29 = .ok (.bipush 24, 2) := by decide +kernel
theorem dX12_mend_31 : decode cX12_mend 31 = .ok (.if_icmp .eq 12, 3) := by decide +kernel
theorem dX12_mend_34 : decode cX12_mend 34 = .ok (.aload_n 0, 1) := by decide +kernel
theorem dX12_mend_35 : decode cX12_mend 35 = .ok (.getfield 160, 3) := by decide +kernel
theorem dX12_mend_38 : decode cX12_mend 38 = .ok (.bipush 10, 2) := by decide +kernel
theorem dX12_mend_40 : decode cX12_mend 40 = .ok (.if_icmp .ne 6, 3) := by decide +kernel
theorem dX12_mend_43 : decode cX12_mend 43 = .ok (.bipush (-2), 2) := by decide +kernel
theorem dX12_mend_45 : decode cX12_mend 45 = .ok (.ireturn, 1) := by decide +kernel
theorem dX12_mend_46 : decode cX12_mend 46 = .ok (.aload_n 0, 1) := by decide +kernel
theorem dX12_mend_47 : decode cX12_mend 47 = .ok (.iload_n 2, 1) := by decide +kernel
theorem dX12_mend_48 : decode cX12_mend 48 = .ok (.invokevirtual 316, 3) := by decide +kernel
theorem dX12_mend_51 : decode cX12_mend 51 = .ok (.iconst 3, 1) := by decide +kernel
theorem dX12_mend_52 : decode cX12_mend 52 = .ok (.if_icmp .eq 6, 3) := by decide +kernel
theorem dX12_mend_55 : decode cX12_mend 55 = .ok (.bipush (-3), 2) := by decide +kernel
theorem dX12_mend_57 : decode cX12_mend 57 = .ok (.ireturn, 1) := by decide +kernel
theorem dX12_mend_58 : decode cX12_mend 58 = .ok (.aload_n 0, 1) := by decide +kernel
theorem dX12_mend_59 : decode cX12_mend 59 = .ok (.getfield 126, 3) := by decide +kernel
theorem dX12_mend_62 : decode cX12_mend 62 = .ok (.istore_n 3, 1) := by decide +kernel
theorem dX12_mend_63 : decode cX12_mend 63 = .ok (.iconst 0, 1) := by decide +kernel
theorem dX12_mend_64 : decode cX12_mend 64 = .ok (.istore 4, 2) := by decide +kernel
theorem dX12_mend_66 : decode cX12_mend 66 = .ok (.iload 4, 2) := by decide +kernel
theorem dX12_mend_68 : decode cX12_mend 68 = .ok (.iload_n 3, 1) := by decide +kernel
theorem dX12_mend_69 : decode cX12_mend 69 = .ok (.if_icmp .ge 125, 3) := by decide +kernel
theorem dX12_mend_72 : decode cX12_mend 72 = .ok (.aload_n 0, 1) := by decide +kernel
theorem dX12_mend_73 : decode cX12_mend 73 = .ok (.getfield 7, 3) := by decide +kernel
theorem dX12_mend_76 : decode cX12_mend 76 = .ok (.iload 4, 2) := by decide +kernel
theorem dX12_mend_78 : decode cX12_mend 78 = .ok (.iaload, 1) := by decide +kernel
theorem dX12_mend_79 : decode cX12_mend 79 = .ok (.iconst 5, 1) := by decide +kernel
theorem dX12_mend_80 : decode cX12_mend 80 = .ok (.if_icmp .lt 21, 3) := by decide +kernel
theorem dX12_mend_83 : decode cX12_mend 83 = .ok (.aload_n 0, 1) := by decide +kernel
theorem dX12_mend_84 : decode cX12_mend 84 = .ok (.getfield 7, 3) := by decide +kernel
theorem dX12_mend_87 : decode cX12_mend 87 = .ok (.iload 4, 2) := by decide +kernel
theorem dX12_mend_89 : decode cX12_mend 89 = .ok (.iaload, 1) := by decide +kernel
theorem dX12_mend_90 : decode cX12_mend 90 = .ok (.bipush 6, 2) := by decide +kernel
theorem dX12_mend_92 : decode cX12_mend 92 = .ok (.if_icmp .ne 96, 3) := by decide +kernel
theorem dX12_mend_95 : decode cX12_mend 95 = .ok (.iload 4, 2) := by decide +kernel
theorem dX12_mend_97 : decode cX12_mend 97 = .ok (.iload_n 2, 1) := by decide +kernel
theorem dX12_mend_98 : decode cX12_mend 98 = .ok (.if_icmp .eq 90, 3) := by decide +kernel
theorem dX12_mend_101 : decode cX12_mend 101 = .ok (.aload_n 0, 1) := by decide +kernel
theorem dX12_mend_102 : decode cX12_mend 102 = .ok (.getfield 19, 3) := by decide +kernel
theorem dX12_mend_105 : decode cX12_mend 105 = .ok (.iload 4, 2) := by decide +kernel
theorem dX12_mend_107 : decode cX12_mend 107 = .ok (.aload_n 0, 1) := by decide +kernel
theorem dX12_mend_108 : decode cX12_mend 108 = .ok (.getfield 19, 3) := by decide +kernel
theorem dX12_mend_111 : decode cX12_mend 111 = .ok (.iload 4, 2) := by decide +kernel
theorem dX12_mend_113 : decode cX12_mend 113 = .ok (.iaload, 1) := by decide +kernel
theorem dX12_mend_114 : decode cX12_mend 114 = .ok (.iload_n 2, 1) := by decide +kernel
theorem dX12_mend_115 : decode cX12_mend 115 = .ok (.if_icmp .ne 7, 3) := by decide +kernel
theorem dX12_mend_118 : decode cX12_mend 118 = .ok (.iload_n 3, 1) := by decide +kernel
theorem dX12_mend_119 : decode cX12_mend 119 = .ok (.goto 10, 3) := by decide +kernel
theorem dX12_mend_122 : decode cX12_mend 122 = .ok (.aload_n 0, 1) := by decide +kernel
theorem dX12_mend_123 : decode cX12_mend 123 = .ok (.getfield 19, 3) := by decide +kernel
theorem dX12_mend_126 : decode cX12_mend 126 = .ok (.iload 4, 2) := by decide +kernel
theorem dX12_mend_128 : decode cX12_mend 128 = .ok (.iaload, 1) := by decide +kernel
theorem dX12_mend_129 : decode cX12_mend 129 = .ok (.iastore, 1) := by decide +kernel
theorem dX12_mend_130 : decode cX12_mend 130 = .ok (.aload_n 0, 1) := by decide +kernel
theorem dX12_mend_131 : decode cX12_mend 131 = .ok (.getfield 22, 3) := by decide +kernel
theorem dX12_mend_134 : decode cX12_mend 134 = .ok (.iload 4, 2) := by decide +kernel
theorem dX12_mend_136 : decode cX12_mend 136 = .ok (.aload_n 0, 1) := by decide +kernel
theorem dX12_mend_137 : decode cX12_mend 137 = .ok (.getfield 22, 3) := by decide +kernel
theorem dX12_mend_140 : decode cX12_mend 140 = .ok (.iload 4, 2) := by decide +kernel
theorem dX12_mend_142 : decode cX12_mend 142 = .ok (.iaload, 1) := by decide +kernel
theorem dX12_mend_143 : decode cX12_mend 143 = .ok (.iload_n 2, 1) := by decide +kernel
theorem dX12_mend_144 : decode cX12_mend 144 = .ok (.if_icmp .ne 7, 3) := by decide +kernel
theorem dX12_mend_147 : decode cX12_mend 147 = .ok (.iload_n 3, 1) := by decide +kernel
theorem dX12_mend_148 : decode cX12_mend 148 = .ok (.goto 10, 3) := by decide +kernel
theorem dX12_mend_151 : decode cX12_mend 151 = .ok (.aload_n 0, 1) := by decide +kernel
theorem dX12_mend_152 : decode cX12_mend 152 = .ok (.getfield 22, 3) := by decide +kernel
theorem dX12_mend_155 : decode cX12_mend 155 = .ok (.iload 4, 2) := by decide +kernel
theorem dX12_mend_157 : decode cX12_mend 157 = .ok (.iaload, 1) := by decide +kernel
theorem dX12_mend_158 : decode cX12_mend 158 = .ok (.iastore, 1) := by decide +kernel
theorem dX12_mend_159 : decode cX12_mend 159 = .ok (.aload_n 0, 1) := by decide +kernel
theorem dX12_mend_160 : decode cX12_mend 160 = .ok (.getfield 25, 3) := by decide +kernel
theorem dX12_mend_163 : decode cX12_mend 163 = .ok (.iload 4, 2) := by decide +kernel
theorem dX12_mend_165 : decode cX12_mend 165 = .ok (.aload_n 0, 1) := by decide +kernel
theorem dX12_mend_166 : decode cX12_mend 166 = .ok (.getfield 25, 3) := by decide +kernel
theorem dX12_mend_169 : decode cX12_mend 169 = .ok (.iload 4, 2) := by decide +kernel
theorem dX12_mend_171 : decode cX12_mend 171 = .ok (.iaload, 1) := by decide +kernel
theorem dX12_mend_172 : decode cX12_mend 172 = .ok (.iload_n 2, 1) := by decide +kernel
theorem dX12_mend_173 : decode cX12_mend 173 = .ok (.if_icmp .ne 7, 3) := by decide +kernel
theorem dX12_mend_176 : decode cX12_mend 176 = .ok (.iload_n 3, 1) := by decide +kernel
theorem dX12_mend_177 : decode cX12_mend 177 = .ok (.goto 10, 3) := by decide +kernel
theorem dX12_mend_180 : decode cX12_mend 180 = .ok (.aload_n 0, 1) := by decide +kernel
theorem dX12_mend_181 : decode cX12_mend 181 = .ok (.getfield 25, 3) := by decide +kernel
theorem dX12_mend_184 : decode cX12_mend 184 = .ok (.iload 4, 2) := by decide +kernel
theorem dX12_mend_186 : decode cX12_mend 186 = .ok (.iaload, 1) := by decide +kernel
theorem dX12_mend_187 : decode cX12_mend 187 = .ok (.iastore, 1) := by decide +kernel
theorem dX12_mend_188 : decode cX12_mend 188 = .ok (.iinc 4 1, 3) := by decide +kernel
theorem dX12_mend_191 : decode cX12_mend 191 = .ok (.goto (-125), 3) := by decide +kernel
theorem dX12_mend_194 : decode cX12_mend 194 = .ok (.aload_n 0, 1) := by decide +kernel
theorem dX12_mend_195 : decode cX12_mend 195 = .ok (.bipush 6, 2) := by decide +kernel
theorem dX12_mend_197 : decode cX12_mend 197 = .ok (.aload_n 0, 1) := by decide +kernel
theorem dX12_mend_198 : decode cX12_mend 198 = .ok (.getfield 13, 3) := by decide +kernel
theorem dX12_mend_201 : decode cX12_mend 201 = .ok (.iload_n 2, 1) := by decide +kernel
theorem dX12_mend_202 : decode cX12_mend 202 = .ok (.iaload, 1) := by decide +kernel
theorem dX12_mend_203 : decode cX12_mend 203 = .ok (.aload_n 0, 1) := by decide +kernel
theorem dX12_mend_204 : decode cX12_mend 204 = .ok (.getfield 16, 3) := by decide +kernel
theorem dX12_mend_207 : decode cX12_mend 207 = .ok (.iload_n 2, 1) := by decide +kernel
theorem dX12_mend_208 : decode cX12_mend 208 = .ok (.iaload, 1) := by decide +kernel
theorem dX12_mend_209 : decode cX12_mend 209 = .ok (.invokevirtual 163, 3) := by decide +kernel
theorem dX12_mend_212 : decode cX12_mend 212 = .ok (.aload_n 0, 1) := by decide +kernel
theorem dX12_mend_213 : decode cX12_mend 213 = .ok (.getfield 19, 3) := by decide +kernel
theorem dX12_mend_216 : decode cX12_mend 216 = .ok (.iload_n 3, 1) := by decide +kernel
theorem dX12_mend_217 : decode cX12_mend 217 = .ok (.iload_n 2, 1) := by decide +kernel
theorem dX12_mend_218 : decode cX12_mend 218 = .ok (.iastore, 1) := by decide +kernel
theorem dX12_mend_219 : decode cX12_mend 219 = .ok (.aload_n 0, 1) := by decide +kernel
theorem dX12_mend_220 : decode cX12_mend 220 = .ok (.invokevirtual 167, 3) := by decide +kernel
theorem dX12_mend_223 : decode cX12_mend 223 = .ok (.iload_n 3, 1) := by decide +kernel
theorem dX12_mend_224 : decode cX12_mend 224 = .ok (.ireturn, 1) := by decide +kernel
theorem dX12_count_0 : decode cX12_count 0 = .ok (.aload_n 0, 1) := by decide +kernel
theorem dX12_count_1 : decode cX12_count 1 = .ok (.iconst 0, 1) := by decide +kernel
theorem dX12_count_2 : decode cX12_count 2 = .ok (.putfield 122, 3) := by decide +kernel
theorem dX12_count_5 : decode cX12_count 5 = .ok (.iload_n 1, 1) := by decide +kernel
theorem dX12_count_6 : decode cX12_count 6 = .ok (.tableswitch 91 0 7 #[46, 51, 56, 66, 71, 76, 81, 86], 46) := by decide +kernel
theorem dX12_count_52 : decode cX12_count 52 = .ok (.aload_n 0, 1) := by decide +kernel
theorem dX12_count_53 : decode cX12_count 53 = .ok (.getfield 126, 3) := by decide +kernel
theorem dX12_count_56 : decode cX12_count 56 = .ok (.ireturn, 1) := by decide +kernel
theorem dX12_count_57 : decode cX12_count 57 = .ok (.aload_n 0, 1) := by decide +kernel
theorem dX12_count_58 : decode cX12_count 58 = .ok (.getfield 160, 3) := by decide +kernel
theorem dX12_count_61 : decode cX12_count 61 = .ok (.ireturn, 1) := by decide +kernel
theorem dX12_count_62 : decode cX12_count 62 = .ok (.aload_n 0, 1) := by decide +kernel
theorem dX12_count_63 : decode cX12_count 63 = .ok (.getfield 126, 3) := by decide +kernel
theorem dX12_count_66 : decode cX12_count 66 = .ok (.aload_n 0, 1) := by decide +kernel
theorem dX12_count_67 : decode cX12_count 67 = .ok (.getfield 160, 3) := by decide +kernel
theorem dX12_count_70 : decode cX12_count 70 = .ok (.isub, 1) := by decide +kernel
theorem dX12_count_71 : decode cX12_count 71 = .ok (.ireturn, 1) := by decide +kernel
theorem dX12_count_72 : decode cX12_count 72 = .ok (.aload_n 0, 1) := by decide +kernel
theorem dX12_count_73 : decode cX12_count 73 = .ok (.getfield 180, 3) := by decide +kernel
theorem dX12_count_76 : decode cX12_count 76 = .ok (.ireturn, 1) := by decide +kernel
theorem dX12_count_77 : decode cX12_count 77 = .ok (.aload_n 0, 1) := by decide +kernel
theorem dX12_count_78 : decode cX12_count 78 = .ok (.getfield 141, 3) := by decide +kernel
theorem dX12_count_81 : decode cX12_count 81 = .ok (.ireturn, 1) := by decide +kernel
theorem dX12_count_82 : decode cX12_count 82 = .ok (.aload_n 0, 1) := by decide +kernel
theorem dX12_count_83 : decode cX12_count 83 = .ok (.getfield 240, 3) := by decide +kernel
theorem dX12_count_86 : decode cX12_count 86 = .ok (.ireturn, 1) := by decide +kernel
theorem dX12_count_87 : decode cX12_count 87 = .ok (.aload_n 0, 1) := by decide +kernel
theorem dX12_count_88 : decode cX12_count 88 = .ok (.getfield 243, 3) := by decide +kernel
theorem dX12_count_91 : decode cX12_count 91 = .ok (.ireturn, 1) := by decide +kernel
theorem dX12_count_92 : decode cX12_count 92 = .ok (.aload_n 0, 1) := by decide +kernel
theorem dX12_count_93 : decode cX12_count 93 = .ok (.getfield 246, 3) := by decide +kernel
theorem dX12_count_96 : decode cX12_count 96 = .ok (.ireturn, 1) := by decide +kernel
theorem dX12_count_97 : decode cX12_count 97 = .ok (.iconst (-1), 1) := by decide +kernel
theorem dX12_count_98 : decode cX12_count 98 = .ok (.ireturn, 1) := by decide +kernel
theorem dX12_look__0 : decode cX12_look_ 0 = .ok (.aload_n 0, 1) := by decide +kernel
theorem dX12_look__1 : decode cX12_look_ 1 = .ok (.iconst 0, 1) := by decide +kernel
theorem dX12_look__2 : decode cX12_look_ 2 = .ok (.putfield 122, 3) := by decide +kernel
theorem dX12_look__5 : decode cX12_look_ 5 = .ok (.aload_n 0, 1) := by decide +kernel
theorem dX12_look__6 : decode cX12_look_ 6 = .ok (.iload_n 1, 1) := by decide +kernel
theorem dX12_look__7 : decode cX12_look_ 7 = .ok (.invokevirtual 129, 3) := by decide +kernel
theorem dX12_look__10 : decode cX12_look_ 10 = .ok (.ifCond .eq 15, 3) := by decide +kernel
theorem dX12_look__13 : decode cX12_look_ 13 = .ok (.iload_n 2, 1) := by decide +kernel
theorem dX12_look__14 : decode cX12_look_ 14 = .ok (.i2l, 1) := by decide +kernel
theorem dX12_look__15 : decode cX12_look_ 15 = .ok (.lconst 0, 1) := by decide +kernel
theorem dX12_look__16 : decode cX12_look_ 16 = .ok (.ldc2_w 170, 3) := by decide +kernel
theorem dX12_look__19 : decode cX12_look_ 19 = .ok (.invokestatic 156, 3) := by decide +kernel
theorem dX12_look__22 : decode cX12_look_ 22 = .ok (.ifCond .ne 5, 3) := by decide +kernel
theorem dX12_look__25 : decode cX12_look_ 25 = .ok (.iconst (-1), 1) := by decide +kernel
theorem dX12_look__26 : decode cX12_look_ 26 = .ok (.ireturn, 1) := by decide +kernel
theorem dX12_look__27 : decode cX12_look_ 27 = .ok (.iload_n 2, 1) := by decide +kernel
theorem dX12_look__28 : decode cX12_look_ 28 = .ok (.tableswitch 90 0 3 #[32, 39, 61, 83], 32) := by decide +kernel
theorem dX12_look__60 : decode cX12_look_ 60 = .ok (.aload_n 0, 1) := by decide +kernel
theorem dX12_look__61 : decode cX12_look_ 61 = .ok (.getfield 7, 3) := by decide +kernel
theorem dX12_look__64 : decode cX12_look_ 64 = .ok (.iload_n 1, 1) := by decide +kernel
theorem dX12_look__65 : decode cX12_look_ 65 = .ok (.iaload, 1) := by decide +kernel
theorem dX12_look__66 : decode cX12_look_ 66 = .ok (.ireturn, 1) := by decide +kernel
theorem dX12_look__67 : decode cX12_look_ 67 = .ok (.aload_n 0, 1) := by decide +kernel
theorem dX12_look__68 : decode cX12_look_ 68 = .ok (.getfield 7, 3) := by decide +kernel
theorem dX12_look__71 : decode cX12_look_ 71 = .ok (.iload_n 1, 1) := by decide +kernel
theorem dX12_look__72 : decode cX12_look_ 72 = .ok (.iaload, 1) := by decide +kernel
theorem dX12_look__73 : decode cX12_look_ 73 = .ok (.iconst 4, 1) := by decide +kernel
theorem dX12_look__74 : decode cX12_look_ 74 = .ok (.if_icmp .le 12, 3) := by decide +kernel
theorem dX12_look__77 : decode cX12_look_ 77 = .ok (.aload_n 0, 1) := by decide +kernel
theorem dX12_look__78 : decode cX12_look_ 78 = .ok (.getfield 13, 3) := by decide +kernel
theorem dX12_look__81 : decode cX12_look_ 81 = .ok (.iload_n 1, 1) := by decide +kernel
theorem dX12_look__82 : decode cX12_look_ 82 = .ok (.iaload, 1) := by decide +kernel
theorem dX12_look__83 : decode cX12_look_ 83 = .ok (.goto 5, 3) := by decide +kernel
theorem dX12_look__86 : decode cX12_look_ 86 = .ok (.bipush (-2), 2) := by decide +kernel
theorem dX12_look__88 : decode cX12_look_ 88 = .ok (.ireturn, 1) := by decide +kernel
theorem dX12_look__89 : decode cX12_look_ 89 = .ok (.aload_n 0, 1) := by decide +kernel
theorem dX12_look__90 : decode cX12_look_ 90 = .ok (.getfield 7, 3) := by decide +kernel
theorem dX12_look__93 : decode cX12_look_ 93 = .ok (.iload_n 1, 1) := by decide +kernel
theorem dX12_look__94 : decode cX12_look_ 94 = .ok (.iaload, 1) := by decide +kernel
theorem dX12_look__95 : decode cX12_look_ 95 = .ok (.iconst 5, 1) := by decide +kernel
theorem dX12_look__96 : decode cX12_look_ 96 = .ok (.if_icmp .ne 8, 3) := by decide +kernel
theorem dX12_look__99 : decode cX12_look_ 99 = .ok (.bipush (-2), 2) := by decide +kernel
theorem dX12_look__101 : decode cX12_look_ 101 = .ok (.goto 9, 3) := by decide +kernel
theorem dX12_look__104 : decode cX12_look_ 104 = .ok (.aload_n 0, 1) := by decide +kernel
theorem dX12_look__105 : decode cX12_look_ 105 = .ok (.getfield 19, 3) := by decide +kernel
theorem dX12_look__108 : decode cX12_look_ 108 = .ok (.iload_n 1, 1) := by decide +kernel
theorem dX12_look__109 : decode cX12_look_ 109 = .ok (.iaload, 1) := by decide +kernel
theorem dX12_look__110 : decode cX12_look_ 110 = .ok (.ireturn, 1) := by decide +kernel
theorem dX12_look__111 : decode cX12_look_ 111 = .ok (.aload_n 0, 1) := by decide +kernel
theorem dX12_look__112 : decode cX12_look_ 112 = .ok (.getfield 22, 3) := by decide +kernel
theorem dX12_look__115 : decode cX12_look_ 115 = .ok (.iload_n 1, 1) := by decide +kernel
theorem dX12_look__116 : decode cX12_look_ 116 = .ok (.iaload, 1) := by decide +kernel
theorem dX12_look__117 : decode cX12_look_ 117 = .ok (.ireturn, 1) := by decide +kernel
theorem dX12_look__118 : decode cX12_look_ 118 = .ok (.aload_n 0, 1) := by decide +kernel
theorem dX12_look__119 : decode cX12_look_ 119 = .ok (.getfield 25, 3) := by decide +kernel
theorem dX12_look__122 : decode cX12_look_ 122 = .ok (.iload_n 1, 1) := by decide +kernel
theorem dX12_look__123 : decode cX12_look_ 123 = .ok (.iaload, 1) := by decide +kernel
theorem dX12_look__124 : decode cX12_look_ 124 = .ok (.ireturn, 1) := by decide +kernel
theorem dX12_isShelf_0 : decode cX12_isShelf 0 = .ok (.iload_n 0, 1) := by decide +kernel
theorem dX12_isShelf_1 : decode cX12_isShelf 1 = .ok (.ifCond .lt 13, 3) := by decide +kernel
theorem dX12_isShelf_4 : decode cX12_isShelf 4 = .ok (.iload_n 0, 1) := by decide +kernel
theorem dX12_isShelf_5 : decode cX12_isShelf 5 = .ok (.bipush 8, 2) := by decide +kernel
theorem dX12_isShelf_7 : decode cX12_isShelf 7 = .ok (.if_icmp .ge 7, 3) := by decide +kernel
theorem dX12_isShelf_10 : decode cX12_isShelf 10 = .ok (.iconst 1, 1) := by decide +kernel
theorem dX12_isShelf_11 : decode cX12_isShelf 11 = .ok (.goto 4, 3) := by decide +kernel
theorem dX12_isShelf_14 : decode cX12_isShelf 14 = .ok (.iconst 0, 1) := by decide +kernel
theorem dX12_isShelf_15 : decode cX12_isShelf 15 = .ok (.ireturn, 1) := by decide +kernel
theorem dX12_keep_0 : decode cX12_keep 0 = .ok (.aload_n 0, 1) := by decide +kernel
theorem dX12_keep_1 : decode cX12_keep 1 = .ok (.iconst 0, 1) := by decide +kernel
theorem dX12_keep_2 : decode cX12_keep 2 = .ok (.putfield 122, 3) := by decide +kernel
theorem dX12_keep_5 : decode cX12_keep 5 = .ok (.iload_n 1, 1) := by decide +kernel
theorem dX12_keep_6 : decode cX12_keep 6 = .ok (.invokestatic 322, 3) := by decide +kernel
theorem dX12_keep_9 : decode cX12_keep 9 = .ok (.ifCond .eq 34, 3) := by decide +kernel
theorem dX12_keep_12 : decode cX12_keep 12 = .ok (.iload_n 2, 1) := by decide +kernel
theorem dX12_keep_13 : decode cX12_keep 13 = .ok (.ifCond .eq 26, 3) := by decide +kernel
theorem dX12_keep_16 : decode cX12_keep 16 = .ok (.iload_n 2, 1) := by decide +kernel
theorem dX12_keep_17 : decode cX12_keep 17 = .ok (.iconst 1, 1) := by decide +kernel
theorem dX12_keep_18 : decode cX12_keep 18 = .ok (.if_icmp .ne 11, 3) := by decide +kernel
theorem dX12_keep_21 : decode cX12_keep 21 = .ok (.aload_n 0, 1) := by decide +kernel
theorem dX12_keep_22 : decode cX12_keep 22 = .ok (.iload_n 3, 1) := by decide +kernel
theorem dX12_keep_23 : decode cX12_keep 23 = .ok (.invokevirtual 129, 3) := by decide +kernel
theorem dX12_keep_26 : decode cX12_keep 26 = .ok (.ifCond .ne 13, 3) := by decide +kernel
theorem dX12_keep_29 : decode cX12_keep 29 = .ok (.iload_n 2, 1) := by decide +kernel
theorem dX12_keep_30 : decode cX12_keep 30 = .ok (.iconst 3, 1) := by decide +kernel
theorem dX12_keep_31 : decode cX12_keep 31 = .ok (.if_icmp .eq 8, 3) := by decide +kernel
theorem dX12_keep_34 : decode cX12_keep 34 = .ok (.iload_n 2, 1) := by decide +kernel
theorem dX12_keep_35 : decode cX12_keep 35 = .ok (.iconst 4, 1) := by decide +kernel
theorem dX12_keep_36 : decode cX12_keep 36 = .ok (.if_icmp .ne 7, 3) := by decide +kernel
theorem dX12_keep_39 : decode cX12_keep 39 = .ok (.iconst 1, 1) := by decide +kernel
theorem dX12_keep_40 : decode cX12_keep 40 = .ok (.goto 4, 3) := by decide +kernel
theorem dX12_keep_43 : decode cX12_keep 43 = .ok (.iconst 0, 1) := by decide +kernel
theorem dX12_keep_44 : decode cX12_keep 44 = .ok (.istore 4, 2) := by decide +kernel
theorem dX12_keep_46 : decode cX12_keep 46 = .ok (.iload 4, 2) := by decide +kernel
theorem dX12_keep_48 : decode cX12_keep 48 = .ok (.ifCond .ne 5, 3) := by decide +kernel
theorem dX12_keep_51 : decode cX12_keep 51 = .ok (.iconst (-1), 1) := by decide +kernel
theorem dX12_keep_52 : decode cX12_keep 52 = .ok (.ireturn, 1) := by decide +kernel
theorem dX12_keep_53 : decode cX12_keep 53 = .ok (.aload_n 0, 1) := by decide +kernel
theorem dX12_keep_54 : decode cX12_keep 54 = .ok (.getfield 101, 3) := by decide +kernel
theorem dX12_keep_57 : decode cX12_keep 57 = .ok (.iload_n 1, 1) := by decide +kernel
theorem dX12_keep_58 : decode cX12_keep 58 = .ok (.iload_n 2, 1) := by decide +kernel
theorem dX12_keep_59 : decode cX12_keep 59 = .ok (.iastore, 1) := by decide +kernel
theorem dX12_keep_60 : decode cX12_keep 60 = .ok (.aload_n 0, 1) := by decide +kernel
theorem dX12_keep_61 : decode cX12_keep 61 = .ok (.getfield 104, 3) := by decide +kernel
theorem dX12_keep_64 : decode cX12_keep 64 = .ok (.iload_n 1, 1) := by decide +kernel
theorem dX12_keep_65 : decode cX12_keep 65 = .ok (.iload_n 2, 1) := by decide +kernel
theorem dX12_keep_66 : decode cX12_keep 66 = .ok (.iconst 3, 1) := by decide +kernel
theorem dX12_keep_67 : decode cX12_keep 67 = .ok (.if_icmp .ne 10, 3) := by decide +kernel
theorem dX12_keep_70 : decode cX12_keep 70 = .ok (.aload_n 0, 1) := by decide +kernel
theorem dX12_keep_71 : decode cX12_keep 71 = .ok (.getfield 126, 3) := by decide +kernel
theorem dX12_keep_74 : decode cX12_keep 74 = .ok (.goto 16, 3) := by decide +kernel
theorem dX12_keep_77 : decode cX12_keep 77 = .ok (.iload_n 2, 1) := by decide +kernel
theorem dX12_keep_78 : decode cX12_keep 78 = .ok (.iconst 4, 1) := by decide +kernel
theorem dX12_keep_79 : decode cX12_keep 79 = .ok (.if_icmp .ne 10, 3) := by decide +kernel
theorem dX12_keep_82 : decode cX12_keep 82 = .ok (.aload_n 0, 1) := by decide +kernel
theorem dX12_keep_83 : decode cX12_keep 83 = .ok (.getfield 141, 3) := by decide +kernel
theorem dX12_keep_86 : decode cX12_keep 86 = .ok (.goto 4, 3) := by decide +kernel
theorem dX12_keep_89 : decode cX12_keep 89 = .ok (.iconst 0, 1) := by decide +kernel
theorem dX12_keep_90 : decode cX12_keep 90 = .ok (.iastore, 1) := by decide +kernel
theorem dX12_keep_91 : decode cX12_keep 91 = .ok (.iload_n 2, 1) := by decide +kernel
theorem dX12_keep_92 : decode cX12_keep 92 = .ok (.iconst 1, 1) := by decide +kernel
theorem dX12_keep_93 : decode cX12_keep 93 = .ok (.if_icmp .ne 109, 3) := by decide +kernel
theorem dX12_keep_96 : decode cX12_keep 96 = .ok (.iload_n 3, 1) := by decide +kernel
theorem dX12_keep_97 : decode cX12_keep 97 = .ok (.iconst 1, 1) := by decide +kernel
theorem dX12_keep_98 : decode cX12_keep 98 = .ok (.iadd, 1) := by decide +kernel
theorem dX12_keep_99 : decode cX12_keep 99 = .ok (.istore 5, 2) := by decide +kernel
theorem dX12_keep_101 : decode cX12_keep 101 = .ok (.aload_n 0, 1) := by decide +kernel
theorem dX12_keep_102 : decode cX12_keep 102 = .ok (.getfield 107, 3) := by decide +kernel
theorem dX12_keep_105 : decode cX12_keep 105 = .ok (.iload_n 1, 1) := by decide +kernel
theorem dX12_keep_106 : decode cX12_keep 106 = .ok (.aload_n 0, 1) := by decide +kernel
theorem dX12_keep_107 : decode cX12_keep 107 = .ok (.getfield 7, 3) := by decide +kernel
theorem dX12_keep_110 : decode cX12_keep 110 = .ok (.iload_n 3, 1) := by decide +kernel
theorem dX12_keep_111 : decode cX12_keep 111 = .ok (.iaload, 1) := by decide +kernel
theorem dX12_keep_112 : decode cX12_keep 112 = .ok (.iconst 4, 1) := by decide +kernel
theorem dX12_keep_113 : decode cX12_keep 113 = .ok (.if_icmp .ne 13, 3) := by decide +kernel
theorem dX12_keep_116 : decode cX12_keep 116 = .ok (.iconst 3, 1) := by decide +kernel
theorem dX12_keep_117 : decode cX12_keep 117 = .ok (.iload 5, 2) := by decide +kernel
theorem dX12_keep_119 : decode cX12_keep 119 = .ok (.bipush 10, 2) := by decide +kernel
theorem dX12_keep_121 : decode cX12_keep 121 = .ok (.iadd, 1) := by decide +kernel
theorem dX12_keep_122 : decode cX12_keep 122 = .ok (.imul, 1) := by decide +kernel
theorem dX12_keep_123 : decode cX12_keep 123 = .ok (.goto 51, 3) := by decide +kernel
theorem dX12_keep_126 : decode cX12_keep 126 = .ok (.aload_n 0, 1) := by decide +kernel
theorem dX12_keep_127 : decode cX12_keep 127 = .ok (.getfield 7, 3) := by decide +kernel
theorem dX12_keep_130 : decode cX12_keep 130 = .ok (.iload_n 3, 1) := by decide +kernel
theorem dX12_keep_131 : decode cX12_keep 131 = .ok (.iaload, 1) := by decide +kernel
theorem dX12_keep_132 : decode cX12_keep 132 = .ok (.iconst 4, 1) := by decide +kernel
theorem dX12_keep_133 : decode cX12_keep 133 = .ok (.if_icmp .ge 11, 3) := by decide +kernel
theorem dX12_keep_136 : decode cX12_keep 136 = .ok (.iload 5, 2) := by decide +kernel
theorem dX12_keep_138 : decode cX12_keep 138 = .ok (.bipush 10, 2) := by decide +kernel
theorem dX12_keep_140 : decode cX12_keep 140 = .ok (.iadd, 1) := by decide +kernel
theorem dX12_keep_141 : decode cX12_keep 141 = .ok (.goto 33, 3) := by decide +kernel
theorem dX12_keep_144 : decode cX12_keep 144 = .ok (.aload_n 0, 1) := by decide +kernel
theorem dX12_keep_145 : decode cX12_keep 145 = .ok (.getfield 7, 3) := by decide +kernel
theorem dX12_keep_148 : decode cX12_keep 148 = .ok (.iload_n 3, 1) := by decide +kernel
theorem dX12_keep_149 : decode cX12_keep 149 = .ok (.iaload, 1) := by decide +kernel
theorem dX12_keep_150 : decode cX12_keep 150 = .ok (.iconst 5, 1) := by decide +kernel
theorem dX12_keep_151 : decode cX12_keep 151 = .ok (.if_icmp .ne 11, 3) := by decide +kernel
theorem dX12_keep_154 : decode cX12_keep 154 = .ok (.iload 5, 2) := by decide +kernel
theorem dX12_keep_156 : decode cX12_keep 156 = .ok (.bipush 100, 2) := by decide +kernel
theorem dX12_keep_158 : decode cX12_keep 158 = .ok (.iadd, 1) := by decide +kernel
theorem dX12_keep_159 : decode cX12_keep 159 = .ok (.goto 15, 3) := by decide +kernel
theorem dX12_keep_162 : decode cX12_keep 162 = .ok (.iload 5, 2) := by decide +kernel
theorem dX12_keep_164 : decode cX12_keep 164 = .ok (.bipush 105, 2) := by decide +kernel
theorem dX12_keep_166 : decode cX12_keep 166 = .ok (.iadd, 1) := by decide +kernel
theorem dX12_keep_167 : decode cX12_keep 167 = .ok (.aload_n 0, 1) := by decide +kernel
theorem dX12_keep_168 : decode cX12_keep 168 = .ok (.getfield 19, 3) := by decide +kernel
theorem dX12_keep_171 : decode cX12_keep 171 = .ok (.iload_n 3, 1) := by decide +kernel
theorem dX12_keep_172 : decode cX12_keep 172 = .ok (.iaload, 1) := by decide +kernel
theorem dX12_keep_173 : decode cX12_keep 173 = .ok (.iadd, 1) := by decide +kernel
theorem dX12_keep_174 : decode cX12_keep 174 = .ok (.iastore, 1) := by decide +kernel
theorem dX12_keep_175 : decode cX12_keep 175 = .ok (.aload_n 0, 1) := by decide +kernel
theorem dX12_keep_176 : decode cX12_keep 176 = .ok (.getfield 110, 3) := by decide +kernel
theorem dX12_keep_179 : decode cX12_keep 179 = .ok (.iload_n 1, 1) := by decide +kernel
theorem dX12_keep_180 : decode cX12_keep 180 = .ok (.aload_n 0, 1) := by decide +kernel
theorem dX12_keep_181 : decode cX12_keep 181 = .ok (.getfield 7, 3) := by decide +kernel
theorem dX12_keep_184 : decode cX12_keep 184 = .ok (.iload_n 3, 1) := by decide +kernel
theorem dX12_keep_185 : decode cX12_keep 185 = .ok (.iaload, 1) := by decide +kernel
theorem dX12_keep_186 : decode cX12_keep 186 = .ok (.iconst 4, 1) := by decide +kernel
theorem dX12_keep_187 : decode cX12_keep 187 = .ok (.if_icmp .le 12, 3) := by decide +kernel
theorem dX12_keep_190 : decode cX12_keep 190 = .ok (.aload_n 0, 1) := by decide +kernel
theorem dX12_keep_191 : decode cX12_keep 191 = .ok (.getfield 13, 3) := by decide +kernel
theorem dX12_keep_194 : decode cX12_keep 194 = .ok (.iload_n 3, 1) := by decide +kernel
theorem dX12_keep_195 : decode cX12_keep 195 = .ok (.iaload, 1) := by decide +kernel
theorem dX12_keep_196 : decode cX12_keep 196 = .ok (.goto 5, 3) := by decide +kernel
theorem dX12_keep_199 : decode cX12_keep 199 = .ok (.bipush (-15), 2) := by decide +kernel
theorem dX12_keep_201 : decode cX12_keep 201 = .ok (.iastore, 1) := by decide +kernel
theorem dX12_keep_202 : decode cX12_keep 202 = .ok (.iconst 0, 1) := by decide +kernel
theorem dX12_keep_203 : decode cX12_keep 203 = .ok (.istore 5, 2) := by decide +kernel
theorem dX12_keep_205 : decode cX12_keep 205 = .ok (.iload 5, 2) := by decide +kernel
theorem dX12_keep_207 : decode cX12_keep 207 = .ok (.aload_n 0, 1) := by decide +kernel
theorem dX12_keep_208 : decode cX12_keep 208 = .ok (.getfield 104, 3) := by decide +kernel
theorem dX12_keep_211 : decode cX12_keep 211 = .ok (.iload_n 1, 1) := by decide +kernel
theorem dX12_keep_212 : decode cX12_keep 212 = .ok (.iaload, 1) := by decide +kernel
theorem dX12_keep_213 : decode cX12_keep 213 = .ok (.if_icmp .ge 50, 3) := by decide +kernel
theorem dX12_keep_216 : decode cX12_keep 216 = .ok (.aload_n 0, 1) := by decide +kernel
theorem dX12_keep_217 : decode cX12_keep 217 = .ok (.getfield 113, 3) := by decide +kernel
theorem dX12_keep_220 : decode cX12_keep 220 = .ok (.bipush 60, 2) := by decide +kernel
theorem dX12_keep_222 : decode cX12_keep 222 = .ok (.iload_n 1, 1) := by decide +kernel
theorem dX12_keep_223 : decode cX12_keep 223 = .ok (.imul, 1) := by decide +kernel
theorem dX12_keep_224 : decode cX12_keep 224 = .ok (.iload 5, 2) := by decide +kernel
theorem dX12_keep_226 : decode cX12_keep 226 = .ok (.iadd, 1) := by decide +kernel
theorem dX12_keep_227 : decode cX12_keep 227 = .ok (.iload_n 2, 1) := by decide +kernel
theorem dX12_keep_228 : decode cX12_keep 228 = .ok (.iconst 3, 1) := by decide +kernel
theorem dX12_keep_229 : decode cX12_keep 229 = .ok (.if_icmp .ne 20, 3) := by decide +kernel
theorem dX12_keep_232 : decode cX12_keep 232 = .ok (.aload_n 0, 1) := by decide +kernel
theorem dX12_keep_233 : decode cX12_keep 233 = .ok (.getfield 44, 3) := by decide +kernel
theorem dX12_keep_236 : decode cX12_keep 236 = .ok (.aload_n 0, 1) := by decide +kernel
theorem dX12_keep_237 : decode cX12_keep 237 = .ok (.getfield 141, 3) := by decide +kernel
theorem dX12_keep_240 : decode cX12_keep 240 = .ok (.iaload, 1) := by decide +kernel
theorem dX12_keep_241 : decode cX12_keep 241 = .ok (.iload 5, 2) := by decide +kernel
theorem dX12_keep_243 : decode cX12_keep 243 = .ok (.invokestatic 133, 3) := by decide +kernel
theorem dX12_keep_246 : decode cX12_keep 246 = .ok (.goto 10, 3) := by decide +kernel
theorem dX12_keep_249 : decode cX12_keep 249 = .ok (.aload_n 0, 1) := by decide +kernel
theorem dX12_keep_250 : decode cX12_keep 250 = .ok (.getfield 47, 3) := by decide +kernel
theorem dX12_keep_253 : decode cX12_keep 253 = .ok (.iload 5, 2) := by decide +kernel
theorem dX12_keep_255 : decode cX12_keep 255 = .ok (.iaload, 1) := by decide +kernel
theorem dX12_keep_256 : decode cX12_keep 256 = .ok (.iastore, 1) := by decide +kernel
theorem dX12_keep_257 : decode cX12_keep 257 = .ok (.iinc 5 1, 3) := by decide +kernel
theorem dX12_keep_260 : decode cX12_keep 260 = .ok (.goto (-55), 3) := by decide +kernel
theorem dX12_keep_263 : decode cX12_keep 263 = .ok (.iconst 0, 1) := by decide +kernel
theorem dX12_keep_264 : decode cX12_keep 264 = .ok (.ireturn, 1) := by decide +kernel
theorem dX12_make_0 : decode cX12_make 0 = .ok (.aload_n 0, 1) := by decide +kernel
theorem dX12_make_1 : decode cX12_make 1 = .ok (.iconst 0, 1) := by decide +kernel
theorem dX12_make_2 : decode cX12_make 2 = .ok (.putfield 122, 3) := by decide +kernel
theorem dX12_make_5 : decode cX12_make 5 = .ok (.iload_n 1, 1) := by decide +kernel
theorem dX12_make_6 : decode cX12_make 6 = .ok (.invokestatic 322, 3) := by decide +kernel
theorem dX12_make_9 : decode cX12_make 9 = .ok (.ifCond .eq 23, 3) := by decide +kernel
theorem dX12_make_12 : decode cX12_make 12 = .ok (.iload_n 2, 1) := by decide +kernel
theorem dX12_make_13 : decode cX12_make 13 = .ok (.i2l, 1) := by decide +kernel
theorem dX12_make_14 : decode cX12_make 14 = .ok (.ldc2_w 154, 3) := by decide +kernel
theorem dX12_make_17 : decode cX12_make 17 = .ok (.ldc2_w 170, 3) := by decide +kernel
theorem dX12_make_20 : decode cX12_make 20 = .ok (.invokestatic 156, 3) := by decide +kernel
theorem dX12_make_23 : decode cX12_make 23 = .ok (.ifCond .eq 9, 3) := by decide +kernel
theorem dX12_make_26 : decode cX12_make 26 = .ok (.iload_n 3, 1) := by decide +kernel
theorem dX12_make_27 : decode cX12_make 27 = .ok (.bipush 60, 2) := by decide +kernel
theorem dX12_make_29 : decode cX12_make 29 = .ok (.if_icmp .le 5, 3) := by decide +kernel
theorem dX12_make_32 : decode cX12_make 32 = .ok (.iconst (-1), 1) := by decide +kernel
theorem dX12_make_33 : decode cX12_make 33 = .ok (.ireturn, 1) := by decide +kernel
theorem dX12_make_34 : decode cX12_make 34 = .ok (.iload_n 3, 1) := by decide +kernel
theorem dX12_make_35 : decode cX12_make 35 = .ok (.ifCond .ge 6, 3) := by decide +kernel
theorem dX12_make_38 : decode cX12_make 38 = .ok (.bipush (-14), 2) := by decide +kernel
theorem dX12_make_40 : decode cX12_make 40 = .ok (.ireturn, 1) := by decide +kernel
theorem dX12_make_41 : decode cX12_make 41 = .ok (.aload_n 0, 1) := by decide +kernel
theorem dX12_make_42 : decode cX12_make 42 = .ok (.getfield 101, 3) := by decide +kernel
theorem dX12_make_45 : decode cX12_make 45 = .ok (.iload_n 1, 1) := by decide +kernel
theorem dX12_make_46 : decode cX12_make 46 = .ok (.iload_n 2, 1) := by decide +kernel
theorem dX12_make_47 : decode cX12_make 47 = .ok (.iastore, 1) := by decide +kernel
theorem dX12_make_48 : decode cX12_make 48 = .ok (.aload_n 0, 1) := by decide +kernel
theorem dX12_make_49 : decode cX12_make 49 = .ok (.getfield 104, 3) := by decide +kernel
theorem dX12_make_52 : decode cX12_make 52 = .ok (.iload_n 1, 1) := by decide +kernel
theorem dX12_make_53 : decode cX12_make 53 = .ok (.iload_n 3, 1) := by decide +kernel
theorem dX12_make_54 : decode cX12_make 54 = .ok (.iastore, 1) := by decide +kernel
theorem dX12_make_55 : decode cX12_make 55 = .ok (.iconst 0, 1) := by decide +kernel
theorem dX12_make_56 : decode cX12_make 56 = .ok (.istore 4, 2) := by decide +kernel
theorem dX12_make_58 : decode cX12_make 58 = .ok (.iload 4, 2) := by decide +kernel
theorem dX12_make_60 : decode cX12_make 60 = .ok (.iload_n 3, 1) := by decide +kernel
theorem dX12_make_61 : decode cX12_make 61 = .ok (.if_icmp .ge 22, 3) := by decide +kernel
theorem dX12_make_64 : decode cX12_make 64 = .ok (.aload_n 0, 1) := by decide +kernel
theorem dX12_make_65 : decode cX12_make 65 = .ok (.getfield 113, 3) := by decide +kernel
theorem dX12_make_68 : decode cX12_make 68 = .ok (.bipush 60, 2) := by decide +kernel
theorem dX12_make_70 : decode cX12_make 70 = .ok (.iload_n 1, 1) := by decide +kernel
theorem dX12_make_71 : decode cX12_make 71 = .ok (.imul, 1) := by decide +kernel
theorem dX12_make_72 : decode cX12_make 72 = .ok (.iload 4, 2) := by decide +kernel
theorem dX12_make_74 : decode cX12_make 74 = .ok (.iadd, 1) := by decide +kernel
theorem dX12_make_75 : decode cX12_make 75 = .ok (.iconst 0, 1) := by decide +kernel
theorem dX12_make_76 : decode cX12_make 76 = .ok (.iastore, 1) := by decide +kernel
theorem dX12_make_77 : decode cX12_make 77 = .ok (.iinc 4 1, 3) := by decide +kernel
theorem dX12_make_80 : decode cX12_make 80 = .ok (.goto (-22), 3) := by decide +kernel
theorem dX12_make_83 : decode cX12_make 83 = .ok (.iconst 0, 1) := by decide +kernel
theorem dX12_make_84 : decode cX12_make 84 = .ok (.ireturn, 1) := by decide +kernel
theorem dX12_element_0 : decode cX12_element 0 = .ok (.iload_n 1, 1) := by decide +kernel
theorem dX12_element_1 : decode cX12_element 1 = .ok (.invokestatic 322, 3) := by decide +kernel
theorem dX12_element_4 : decode cX12_element 4 = .ok (.ifCond .eq 35, 3) := by decide +kernel
theorem dX12_element_7 : decode cX12_element 7 = .ok (.aload_n 0, 1) := by decide +kernel
theorem dX12_element_8 : decode cX12_element 8 = .ok (.getfield 101, 3) := by decide +kernel
theorem dX12_element_11 : decode cX12_element 11 = .ok (.iload_n 1, 1) := by decide +kernel
theorem dX12_element_12 : decode cX12_element 12 = .ok (.iaload, 1) := by decide +kernel
theorem dX12_element_13 : decode cX12_element 13 = .ok (.iconst 2, 1) := by decide +kernel
theorem dX12_element_14 : decode cX12_element 14 = .ok (.if_icmp .le 25, 3) := by decide +kernel
theorem dX12_element_17 : decode cX12_element 17 = .ok (.iload_n 2, 1) := by decide +kernel
theorem dX12_element_18 : decode cX12_element 18 = .ok (.i2l, 1) := by decide +kernel
theorem dX12_element_19 : decode cX12_element 19 = .ok (.lconst 0, 1) := by decide +kernel
theorem dX12_element_20 : decode cX12_element 20 = .ok (.aload_n 0, 1) := by decide +kernel
theorem dX12_element_21 : decode cX12_element 21 = .ok (.getfield 104, 3) := by decide +kernel
theorem dX12_element_24 : decode cX12_element 24 = .ok (.iload_n 1, 1) := by decide +kernel
theorem dX12_element_25 : decode cX12_element 25 = .ok (.iaload, 1) := by decide +kernel
theorem dX12_element_26 : decode cX12_element 26 = .ok (.iconst 1, 1) := by decide +kernel
theorem dX12_element_27 : decode cX12_element 27 = .ok (.isub, 1) := by decide +kernel
theorem dX12_element_28 : decode cX12_element 28 = .ok (.i2l, 1) := by decide +kernel
theorem dX12_element_29 : decode cX12_element 29 = .ok (.invokestatic 156, 3) := by decide +kernel
theorem dX12_element_32 : decode cX12_element 32 = .ok (.ifCond .eq 7, 3) := by decide +kernel
theorem dX12_element_35 : decode cX12_element 35 = .ok (.iconst 1, 1) := by decide +kernel
theorem dX12_element_36 : decode cX12_element 36 = .ok (.goto 4, 3) := by decide +kernel
theorem dX12_element_39 : decode cX12_element 39 = .ok (.iconst 0, 1) := by decide +kernel
theorem dX12_element_40 : decode cX12_element 40 = .ok (.istore_n 3, 1) := by decide +kernel
theorem dX12_element_41 : decode cX12_element 41 = .ok (.aload_n 0, 1) := by decide +kernel
theorem dX12_element_42 : decode cX12_element 42 = .ok (.iload_n 1, 1) := by decide +kernel
theorem dX12_element_43 : decode cX12_element 43 = .ok (.invokestatic 322, 3) := by decide +kernel
theorem dX12_element_46 : decode cX12_element 46 = .ok (.ifCond .ne 7, 3) := by decide +kernel
theorem dX12_element_49 : decode cX12_element 49 = .ok (.iconst 1, 1) := by decide +kernel
theorem dX12_element_50 : decode cX12_element 50 = .ok (.goto 12, 3) := by decide +kernel
theorem dX12_element_53 : decode cX12_element 53 = .ok (.iload_n 3, 1) := by decide +kernel
theorem dX12_element_54 : decode cX12_element 54 = .ok (.ifCond .eq 7, 3) := by decide +kernel
theorem dX12_element_57 : decode cX12_element 57 = .ok (.iconst 0, 1) := by decide +kernel
theorem dX12_element_58 : decode cX12_element 58 = .ok (.goto 4, 3) := by decide +kernel
theorem dX12_element_61 : decode cX12_element 61 = .ok (.iconst 2, 1) := by decide +kernel
theorem dX12_element_62 : decode cX12_element 62 = .ok (.putfield 122, 3) := by decide +kernel
theorem dX12_element_65 : decode cX12_element 65 = .ok (.iload_n 3, 1) := by decide +kernel
theorem dX12_element_66 : decode cX12_element 66 = .ok (.ifCond .eq 18, 3) := by decide +kernel
theorem dX12_element_69 : decode cX12_element 69 = .ok (.aload_n 0, 1) := by decide +kernel
theorem dX12_element_70 : decode cX12_element 70 = .ok (.getfield 113, 3) := by decide +kernel
theorem dX12_element_73 : decode cX12_element 73 = .ok (.bipush 60, 2) := by decide +kernel
theorem dX12_element_75 : decode cX12_element 75 = .ok (.iload_n 1, 1) := by decide +kernel
theorem dX12_element_76 : decode cX12_element 76 = .ok (.imul, 1) := by decide +kernel
theorem dX12_element_77 : decode cX12_element 77 = .ok (.iload_n 2, 1) := by decide +kernel
theorem dX12_element_78 : decode cX12_element 78 = .ok (.iadd, 1) := by decide +kernel
theorem dX12_element_79 : decode cX12_element 79 = .ok (.iaload, 1) := by decide +kernel
theorem dX12_element_80 : decode cX12_element 80 = .ok (.i2l, 1) := by decide +kernel
theorem dX12_element_81 : decode cX12_element 81 = .ok (.goto 4, 3) := by decide +kernel
theorem dX12_element_84 : decode cX12_element 84 = .ok (.lconst 0, 1) := by decide +kernel
theorem dX12_element_85 : decode cX12_element 85 = .ok (.lreturn, 1) := by decide +kernel
theorem dX12_hasPlaces_0 : decode cX12_hasPlaces 0 = .ok (.iload_n 3, 1) := by decide +kernel
theorem dX12_hasPlaces_1 : decode cX12_hasPlaces 1 = .ok (.ifCond .lt 33, 3) := by decide +kernel
theorem dX12_hasPlaces_4 : decode cX12_hasPlaces 4 = .ok (.iload_n 2, 1) := by decide +kernel
theorem dX12_hasPlaces_5 : decode cX12_hasPlaces 5 = .ok (.ifCond .lt 29, 3) := by decide +kernel
theorem dX12_hasPlaces_8 : decode cX12_hasPlaces 8 = .ok (.iload_n 2, 1) := by decide +kernel
theorem dX12_hasPlaces_9 : decode cX12_hasPlaces 9 = .ok (.aload_n 0, 1) := by decide +kernel
theorem dX12_hasPlaces_10 : decode cX12_hasPlaces 10 = .ok (.getfield 104, 3) := by decide +kernel
theorem dX12_hasPlaces_13 : decode cX12_hasPlaces 13 = .ok (.iload_n 1, 1) := by decide +kernel
theorem dX12_hasPlaces_14 : decode cX12_hasPlaces 14 = .ok (.iaload, 1) := by decide +kernel
theorem dX12_hasPlaces_15 : decode cX12_hasPlaces 15 = .ok (.if_icmp .gt 19, 3) := by decide +kernel
theorem dX12_hasPlaces_18 : decode cX12_hasPlaces 18 = .ok (.iload_n 3, 1) := by decide +kernel
theorem dX12_hasPlaces_19 : decode cX12_hasPlaces 19 = .ok (.aload_n 0, 1) := by decide +kernel
theorem dX12_hasPlaces_20 : decode cX12_hasPlaces 20 = .ok (.getfield 104, 3) := by decide +kernel
theorem dX12_hasPlaces_23 : decode cX12_hasPlaces 23 = .ok (.iload_n 1, 1) := by decide +kernel
theorem dX12_hasPlaces_24 : decode cX12_hasPlaces 24 = .ok (.iaload, 1) := by decide +kernel
theorem dX12_hasPlaces_25 : decode cX12_hasPlaces 25 = .ok (.iload_n 2, 1) := by decide +kernel
theorem dX12_hasPlaces_26 : decode cX12_hasPlaces 26 = .ok (.isub, 1) := by decide +kernel
theorem dX12_hasPlaces_27 : decode cX12_hasPlaces 27 = .ok (.if_icmp .gt 7, 3) := by decide +kernel
theorem dX12_hasPlaces_30 : decode cX12_hasPlaces 30 = .ok (.iconst 1, 1) := by decide +kernel
theorem dX12_hasPlaces_31 : decode cX12_hasPlaces 31 = .ok (.goto 4, 3) := by decide +kernel
theorem dX12_hasPlaces_34 : decode cX12_hasPlaces 34 = .ok (.iconst 0, 1) := by decide +kernel
theorem dX12_hasPlaces_35 : decode cX12_hasPlaces 35 = .ok (.ireturn, 1) := by decide +kernel
theorem dX12_copy_0 : decode cX12_copy 0 = .ok (.aload_n 0, 1) := by decide +kernel
theorem dX12_copy_1 : decode cX12_copy 1 = .ok (.iconst 0, 1) := by decide +kernel
theorem dX12_copy_2 : decode cX12_copy 2 = .ok (.putfield 122, 3) := by decide +kernel
theorem dX12_copy_5 : decode cX12_copy 5 = .ok (.iload_n 1, 1) := by decide +kernel
theorem dX12_copy_6 : decode cX12_copy 6 = .ok (.invokestatic 322, 3) := by decide +kernel
theorem dX12_copy_9 : decode cX12_copy 9 = .ok (.ifCond .eq 10, 3) := by decide +kernel
theorem dX12_copy_12 : decode cX12_copy 12 = .ok (.iload_n 3, 1) := by decide +kernel
theorem dX12_copy_13 : decode cX12_copy 13 = .ok (.invokestatic 322, 3) := by decide +kernel
theorem dX12_copy_16 : decode cX12_copy 16 = .ok (.ifCond .ne 5, 3) := by decide +kernel
theorem dX12_copy_19 : decode cX12_copy 19 = .ok (.iconst (-1), 1) := by decide +kernel
theorem dX12_copy_20 : decode cX12_copy 20 = .ok (.ireturn, 1) := by decide +kernel
theorem dX12_copy_21 : decode cX12_copy 21 = .ok (.aload_n 0, 1) := by decide +kernel
theorem dX12_copy_22 : decode cX12_copy 22 = .ok (.getfield 101, 3) := by decide +kernel
theorem dX12_copy_25 : decode cX12_copy 25 = .ok (.iload_n 1, 1) := by decide +kernel
theorem dX12_copy_26 : decode cX12_copy 26 = .ok (.iaload, 1) := by decide +kernel
theorem dX12_copy_27 : decode cX12_copy 27 = .ok (.ifCond .eq 12, 3) := by decide +kernel
theorem dX12_copy_30 : decode cX12_copy 30 = .ok (.aload_n 0, 1) := by decide +kernel
theorem dX12_copy_31 : decode cX12_copy 31 = .ok (.getfield 101, 3) := by decide +kernel
theorem dX12_copy_34 : decode cX12_copy 34 = .ok (.iload_n 3, 1) := by decide +kernel
theorem dX12_copy_35 : decode cX12_copy 35 = .ok (.iaload, 1) := by decide +kernel
theorem dX12_copy_36 : decode cX12_copy 36 = .ok (.ifCond .ne 6, 3) := by decide +kernel
theorem dX12_copy_39 : decode cX12_copy 39 = .ok (.bipush (-11), 2) := by decide +kernel
theorem dX12_copy_41 : decode cX12_copy 41 = .ok (.ireturn, 1) := by decide +kernel
theorem dX12_copy_42 : decode cX12_copy 42 = .ok (.aload_n 0, 1) := by decide +kernel
theorem dX12_copy_43 : decode cX12_copy 43 = .ok (.getfield 101, 3) := by decide +kernel
theorem dX12_copy_46 : decode cX12_copy 46 = .ok (.iload_n 1, 1) := by decide +kernel
theorem dX12_copy_47 : decode cX12_copy 47 = .ok (.iaload, 1) := by decide +kernel
theorem dX12_copy_48 : decode cX12_copy 48 = .ok (.iconst 3, 1) := by decide +kernel
theorem dX12_copy_49 : decode cX12_copy 49 = .ok (.if_icmp .lt 18, 3) := by decide +kernel
theorem dX12_copy_52 : decode cX12_copy 52 = .ok (.aload_n 0, 1) := by decide +kernel
theorem dX12_copy_53 : decode cX12_copy 53 = .ok (.getfield 101, 3) := by decide +kernel
theorem dX12_copy_56 : decode cX12_copy 56 = .ok (.iload_n 1, 1) := by decide +kernel
theorem dX12_copy_57 : decode cX12_copy 57 = .ok (.iaload, 1) := by decide +kernel
theorem dX12_copy_58 : decode cX12_copy 58 = .ok (.aload_n 0, 1) := by decide +kernel
theorem dX12_copy_59 : decode cX12_copy 59 = .ok (.getfield 101, 3) := by decide +kernel
theorem dX12_copy_62 : decode cX12_copy 62 = .ok (.iload_n 3, 1) := by decide +kernel
theorem dX12_copy_63 : decode cX12_copy 63 = .ok (.iaload, 1) := by decide +kernel
theorem dX12_copy_64 : decode cX12_copy 64 = .ok (.if_icmp .eq 6, 3) := by decide +kernel
theorem dX12_copy_67 : decode cX12_copy 67 = .ok (.bipush (-12), 2) := by decide +kernel
theorem dX12_copy_69 : decode cX12_copy 69 = .ok (.ireturn, 1) := by decide +kernel
theorem dX12_copy_70 : decode cX12_copy 70 = .ok (.aload_n 0, 1) := by decide +kernel
theorem dX12_copy_71 : decode cX12_copy 71 = .ok (.iload_n 1, 1) := by decide +kernel
theorem dX12_copy_72 : decode cX12_copy 72 = .ok (.iload_n 2, 1) := by decide +kernel
theorem dX12_copy_73 : decode cX12_copy 73 = .ok (.iload 5, 2) := by decide +kernel
theorem dX12_copy_75 : decode cX12_copy 75 = .ok (.invokevirtual 325, 3) := by decide +kernel
theorem dX12_copy_78 : decode cX12_copy 78 = .ok (.ifCond .eq 15, 3) := by decide +kernel
theorem dX12_copy_81 : decode cX12_copy 81 = .ok (.aload_n 0, 1) := by decide +kernel
theorem dX12_copy_82 : decode cX12_copy 82 = .ok (.iload_n 3, 1) := by decide +kernel
theorem dX12_copy_83 : decode cX12_copy 83 = .ok (.iload 4, 2) := by decide +kernel
theorem dX12_copy_85 : decode cX12_copy 85 = .ok (.iload 5, 2) := by decide +kernel
theorem dX12_copy_87 : decode cX12_copy 87 = .ok (.invokevirtual 325, 3) := by decide +kernel
theorem dX12_copy_90 : decode cX12_copy 90 = .ok (.ifCond .ne 6, 3) := by decide +kernel
theorem dX12_copy_93 : decode cX12_copy 93 = .ok (.bipush (-13), 2) := by decide +kernel
theorem dX12_copy_95 : decode cX12_copy 95 = .ok (.ireturn, 1) := by decide +kernel
theorem dX12_copy_96 : decode cX12_copy 96 = .ok (.iconst 0, 1) := by decide +kernel
theorem dX12_copy_97 : decode cX12_copy 97 = .ok (.istore 6, 2) := by decide +kernel
theorem dX12_copy_99 : decode cX12_copy 99 = .ok (.iload 6, 2) := by decide +kernel
theorem dX12_copy_101 : decode cX12_copy 101 = .ok (.iload 5, 2) := by decide +kernel
theorem dX12_copy_103 : decode cX12_copy 103 = .ok (.if_icmp .ge 30, 3) := by decide +kernel
theorem dX12_copy_106 : decode cX12_copy 106 = .ok (.aload_n 0, 1) := by decide +kernel
theorem dX12_copy_107 : decode cX12_copy 107 = .ok (.getfield 116, 3) := by decide +kernel
theorem dX12_copy_110 : decode cX12_copy 110 = .ok (.iload 6, 2) := by decide +kernel
theorem dX12_copy_112 : decode cX12_copy 112 = .ok (.aload_n 0, 1) := by decide +kernel
theorem dX12_copy_113 : decode cX12_copy 113 = .ok (.getfield 113, 3) := by decide +kernel
theorem dX12_copy_116 : decode cX12_copy 116 = .ok (.bipush 60, 2) := by decide +kernel
theorem dX12_copy_118 : decode cX12_copy 118 = .ok (.iload_n 1, 1) := by decide +kernel
theorem dX12_copy_119 : decode cX12_copy 119 = .ok (.imul, 1) := by decide +kernel
theorem dX12_copy_120 : decode cX12_copy 120 = .ok (.iload_n 2, 1) := by decide +kernel
theorem dX12_copy_121 : decode cX12_copy 121 = .ok (.iadd, 1) := by decide +kernel
theorem dX12_copy_122 : decode cX12_copy 122 = .ok (.iload 6, 2) := by decide +kernel
theorem dX12_copy_124 : decode cX12_copy 124 = .ok (.iadd, 1) := by decide +kernel
theorem dX12_copy_125 : decode cX12_copy 125 = .ok (.iaload, 1) := by decide +kernel
theorem dX12_copy_126 : decode cX12_copy 126 = .ok (.iastore, 1) := by decide +kernel
theorem dX12_copy_127 : decode cX12_copy 127 = .ok (.iinc 6 1, 3) := by decide +kernel
theorem dX12_copy_130 : decode cX12_copy 130 = .ok (.goto (-31), 3) := by decide +kernel
theorem dX12_copy_133 : decode cX12_copy 133 = .ok (.iconst 0, 1) := by decide +kernel
theorem dX12_copy_134 : decode cX12_copy 134 = .ok (.istore 6, 2) := by decide +kernel
theorem dX12_copy_136 : decode cX12_copy 136 = .ok (.iload 6, 2) := by decide +kernel
theorem dX12_copy_138 : decode cX12_copy 138 = .ok (.iload 5, 2) := by decide +kernel
theorem dX12_copy_140 : decode cX12_copy 140 = .ok (.if_icmp .ge 31, 3) := by decide +kernel
theorem dX12_copy_143 : decode cX12_copy 143 = .ok (.aload_n 0, 1) := by decide +kernel
theorem dX12_copy_144 : decode cX12_copy 144 = .ok (.getfield 113, 3) := by decide +kernel
theorem dX12_copy_147 : decode cX12_copy 147 = .ok (.bipush 60, 2) := by decide +kernel
theorem dX12_copy_149 : decode cX12_copy 149 = .ok (.iload_n 3, 1) := by decide +kernel
theorem dX12_copy_150 : decode cX12_copy 150 = .ok (.imul, 1) := by decide +kernel
theorem dX12_copy_151 : decode cX12_copy 151 = .ok (.iload 4, 2) := by decide +kernel
theorem dX12_copy_153 : decode cX12_copy 153 = .ok (.iadd, 1) := by decide +kernel
theorem dX12_copy_154 : decode cX12_copy 154 = .ok (.iload 6, 2) := by decide +kernel
theorem dX12_copy_156 : decode cX12_copy 156 = .ok (.iadd, 1) := by decide +kernel
theorem dX12_copy_157 : decode cX12_copy 157 = .ok (.aload_n 0, 1) := by decide +kernel
theorem dX12_copy_158 : decode cX12_copy 158 = .ok (.getfield 116, 3) := by decide +kernel
theorem dX12_copy_161 : decode cX12_copy 161 = .ok (.iload 6, 2) := by decide +kernel
theorem dX12_copy_163 : decode cX12_copy 163 = .ok (.iaload, 1) := by decide +kernel
theorem dX12_copy_164 : decode cX12_copy 164 = .ok (.iastore, 1) := by decide +kernel
theorem dX12_copy_165 : decode cX12_copy 165 = .ok (.iinc 6 1, 3) := by decide +kernel
theorem dX12_copy_168 : decode cX12_copy 168 = .ok (.goto (-32), 3) := by decide +kernel
theorem dX12_copy_171 : decode cX12_copy 171 = .ok (.iload 5, 2) := by decide +kernel
theorem dX12_copy_173 : decode cX12_copy 173 = .ok (.ireturn, 1) := by decide +kernel
theorem dX12_denied_0 : decode cX12_denied 0 = .ok (.iload_n 1, 1) := by decide +kernel
theorem dX12_denied_1 : decode cX12_denied 1 = .ok (.invokestatic 322, 3) := by decide +kernel
theorem dX12_denied_4 : decode cX12_denied 4 = .ok (.ifCond .ne 7, 3) := by decide +kernel
theorem dX12_denied_7 : decode cX12_denied 7 = .ok (.iconst (-1), 1) := by decide +kernel
theorem dX12_denied_8 : decode cX12_denied 8 = .ok (.goto 33, 3) := by decide +kernel
theorem dX12_denied_11 : decode cX12_denied 11 = .ok (.aload_n 0, 1) := by decide +kernel
theorem dX12_denied_12 : decode cX12_denied 12 = .ok (.getfield 101, 3) := by decide +kernel
theorem dX12_denied_15 : decode cX12_denied 15 = .ok (.iload_n 1, 1) := by decide +kernel
theorem dX12_denied_16 : decode cX12_denied 16 = .ok (.iaload, 1) := by decide +kernel
theorem dX12_denied_17 : decode cX12_denied 17 = .ok (.ifCond .ne 8, 3) := by decide +kernel
theorem dX12_denied_20 : decode cX12_denied 20 = .ok (.bipush (-11), 2) := by decide +kernel
theorem dX12_denied_22 : decode cX12_denied 22 = .ok (.goto 19, 3) := by decide +kernel
theorem dX12_denied_25 : decode cX12_denied 25 = .ok (.aload_n 0, 1) := by decide +kernel
theorem dX12_denied_26 : decode cX12_denied 26 = .ok (.getfield 101, 3) := by decide +kernel
theorem dX12_denied_29 : decode cX12_denied 29 = .ok (.iload_n 1, 1) := by decide +kernel
theorem dX12_denied_30 : decode cX12_denied 30 = .ok (.iaload, 1) := by decide +kernel
theorem dX12_denied_31 : decode cX12_denied 31 = .ok (.iconst 1, 1) := by decide +kernel
theorem dX12_denied_32 : decode cX12_denied 32 = .ok (.if_icmp .le 8, 3) := by decide +kernel
theorem dX12_denied_35 : decode cX12_denied 35 = .ok (.bipush (-12), 2) := by decide +kernel
theorem dX12_denied_37 : decode cX12_denied 37 = .ok (.goto 4, 3) := by decide +kernel
theorem dX12_denied_40 : decode cX12_denied 40 = .ok (.iconst 0, 1) := by decide +kernel
theorem dX12_denied_41 : decode cX12_denied 41 = .ok (.ireturn, 1) := by decide +kernel
theorem dX12_weight_0 : decode cX12_weight 0 = .ok (.aload_n 0, 1) := by decide +kernel
theorem dX12_weight_1 : decode cX12_weight 1 = .ok (.iconst 0, 1) := by decide +kernel
theorem dX12_weight_2 : decode cX12_weight 2 = .ok (.putfield 122, 3) := by decide +kernel
theorem dX12_weight_5 : decode cX12_weight 5 = .ok (.aload_n 0, 1) := by decide +kernel
theorem dX12_weight_6 : decode cX12_weight 6 = .ok (.iload_n 1, 1) := by decide +kernel
theorem dX12_weight_7 : decode cX12_weight 7 = .ok (.invokevirtual 329, 3) := by decide +kernel
theorem dX12_weight_10 : decode cX12_weight 10 = .ok (.istore_n 2, 1) := by decide +kernel
theorem dX12_weight_11 : decode cX12_weight 11 = .ok (.iload_n 2, 1) := by decide +kernel
theorem dX12_weight_12 : decode cX12_weight 12 = .ok (.ifCond .ge 7, 3) := by decide +kernel
theorem dX12_weight_15 : decode cX12_weight 15 = .ok (.iload_n 2, 1) := by decide +kernel
theorem dX12_weight_16 : decode cX12_weight 16 = .ok (.goto 9, 3) := by decide +kernel
theorem dX12_weight_19 : decode cX12_weight 19 = .ok (.aload_n 0, 1) := by decide +kernel
theorem dX12_weight_20 : decode cX12_weight 20 = .ok (.getfield 107, 3) := by decide +kernel
theorem dX12_weight_23 : decode cX12_weight 23 = .ok (.iload_n 1, 1) := by decide +kernel
theorem dX12_weight_24 : decode cX12_weight 24 = .ok (.iaload, 1) := by decide +kernel
theorem dX12_weight_25 : decode cX12_weight 25 = .ok (.ireturn, 1) := by decide +kernel
theorem dX12_toss_0 : decode cX12_toss 0 = .ok (.aload_n 0, 1) := by decide +kernel
theorem dX12_toss_1 : decode cX12_toss 1 = .ok (.iconst 0, 1) := by decide +kernel
theorem dX12_toss_2 : decode cX12_toss 2 = .ok (.putfield 122, 3) := by decide +kernel
theorem dX12_toss_5 : decode cX12_toss 5 = .ok (.aload_n 0, 1) := by decide +kernel
theorem dX12_toss_6 : decode cX12_toss 6 = .ok (.iload_n 1, 1) := by decide +kernel
theorem dX12_toss_7 : decode cX12_toss 7 = .ok (.invokevirtual 329, 3) := by decide +kernel
theorem dX12_toss_10 : decode cX12_toss 10 = .ok (.istore_n 2, 1) := by decide +kernel
theorem dX12_toss_11 : decode cX12_toss 11 = .ok (.iload_n 2, 1) := by decide +kernel
theorem dX12_toss_12 : decode cX12_toss 12 = .ok (.ifCond .ge 7, 3) := by decide +kernel
theorem dX12_toss_15 : decode cX12_toss 15 = .ok (.iload_n 2, 1) := by decide +kernel
theorem dX12_toss_16 : decode cX12_toss 16 = .ok (.goto 9, 3) := by decide +kernel
theorem dX12_toss_19 : decode cX12_toss 19 = .ok (.aload_n 0, 1) := by decide +kernel
theorem dX12_toss_20 : decode cX12_toss 20 = .ok (.getfield 110, 3) := by decide +kernel
theorem dX12_toss_23 : decode cX12_toss 23 = .ok (.iload_n 1, 1) := by decide +kernel
theorem dX12_toss_24 : decode cX12_toss 24 = .ok (.iaload, 1) := by decide +kernel
theorem dX12_toss_25 : decode cX12_toss 25 = .ok (.ireturn, 1) := by decide +kernel
theorem dJ6_bitCount_0f7a4_0 : decode cJ6_bitCount_0f7a4 0 = .ok (.iload_n 0, 1) := by decide +kernel
theorem dJ6_bitCount_0f7a4_1 : decode cJ6_bitCount_0f7a4 1 = .ok (.iload_n 0, 1) := by decide +kernel
theorem dJ6_bitCount_0f7a4_2 : decode cJ6_bitCount_0f7a4 2 = .ok (.iconst 1, 1) := by decide +kernel
theorem dJ6_bitCount_0f7a4_3 : decode cJ6_bitCount_0f7a4 3 = .ok (.iushr, 1) := by decide +kernel
theorem dJ6_bitCount_0f7a4_4 : decode cJ6_bitCount_0f7a4 4 = .ok (.ldc_w 265, 3) := by decide +kernel
theorem dJ6_bitCount_0f7a4_7 : decode cJ6_bitCount_0f7a4 7 = .ok (.iand, 1) := by decide +kernel
theorem dJ6_bitCount_0f7a4_8 : decode cJ6_bitCount_0f7a4 8 = .ok (.isub, 1) := by decide +kernel
theorem dJ6_bitCount_0f7a4_9 : decode cJ6_bitCount_0f7a4 9 = .ok (.istore_n 0, 1) := by decide +kernel
theorem dJ6_bitCount_0f7a4_10 : decode cJ6_bitCount_0f7a4 10 = .ok (.iload_n 0, 1) := by decide +kernel
theorem dJ6_bitCount_0f7a4_11 : decode cJ6_bitCount_0f7a4 11 = .ok (.ldc_w 266, 3) := by decide +kernel
theorem dJ6_bitCount_0f7a4_14 : decode cJ6_bitCount_0f7a4 14 = .ok (.iand, 1) := by decide +kernel
theorem dJ6_bitCount_0f7a4_15 : decode cJ6_bitCount_0f7a4 15 = .ok (.iload_n 0, 1) := by decide +kernel
theorem dJ6_bitCount_0f7a4_16 : decode cJ6_bitCount_0f7a4 16 = .ok (.iconst 2, 1) := by decide +kernel
theorem dJ6_bitCount_0f7a4_17 : decode cJ6_bitCount_0f7a4 17 = .ok (.iushr, 1) := by decide +kernel
theorem dJ6_bitCount_0f7a4_18 : decode cJ6_bitCount_0f7a4 18 = .ok (.ldc_w 266, 3) := by decide +kernel
theorem dJ6_bitCount_0f7a4_21 : decode cJ6_bitCount_0f7a4 21 = .ok (.iand, 1) := by decide +kernel
theorem dJ6_bitCount_0f7a4_22 : decode cJ6_bitCount_0f7a4 22 = .ok (.iadd, 1) := by decide +kernel
theorem dJ6_bitCount_0f7a4_23 : decode cJ6_bitCount_0f7a4 23 = .ok (.istore_n 0, 1) := by decide +kernel
theorem dJ6_bitCount_0f7a4_24 : decode cJ6_bitCount_0f7a4 24 = .ok (.iload_n 0, 1) := by decide +kernel
theorem dJ6_bitCount_0f7a4_25 : decode cJ6_bitCount_0f7a4 25 = .ok (.iload_n 0, 1) := by decide +kernel
theorem dJ6_bitCount_0f7a4_26 : decode cJ6_bitCount_0f7a4 26 = .ok (.iconst 4, 1) := by decide +kernel
theorem dJ6_bitCount_0f7a4_27 : decode cJ6_bitCount_0f7a4 27 = .ok (.iushr, 1) := by decide +kernel
theorem dJ6_bitCount_0f7a4_28 : decode cJ6_bitCount_0f7a4 28 = .ok (.iadd, 1) := by decide +kernel
theorem dJ6_bitCount_0f7a4_29 : decode cJ6_bitCount_0f7a4 29 = .ok (.ldc_w 267, 3) := by decide +kernel
theorem dJ6_bitCount_0f7a4_32 : decode cJ6_bitCount_0f7a4 32 = .ok (.iand, 1) := by decide +kernel
theorem dJ6_bitCount_0f7a4_33 : decode cJ6_bitCount_0f7a4 33 = .ok (.istore_n 0, 1) := by decide +kernel
theorem dJ6_bitCount_0f7a4_34 : decode cJ6_bitCount_0f7a4 34 = .ok (.iload_n 0, 1) := by decide +kernel
theorem dJ6_bitCount_0f7a4_35 : decode cJ6_bitCount_0f7a4 35 = .ok (.iload_n 0, 1) := by decide +kernel
theorem dJ6_bitCount_0f7a4_36 : decode cJ6_bitCount_0f7a4 36 = .ok (.bipush 8, 2) := by decide +kernel
theorem dJ6_bitCount_0f7a4_38 : decode cJ6_bitCount_0f7a4 38 = .ok (.iushr, 1) := by decide +kernel
theorem dJ6_bitCount_0f7a4_39 : decode cJ6_bitCount_0f7a4 39 = .ok (.iadd, 1) := by decide +kernel
theorem dJ6_bitCount_0f7a4_40 : decode cJ6_bitCount_0f7a4 40 = .ok (.istore_n 0, 1) := by decide +kernel
theorem dJ6_bitCount_0f7a4_41 : decode cJ6_bitCount_0f7a4 41 = .ok (.iload_n 0, 1) := by decide +kernel
theorem dJ6_bitCount_0f7a4_42 : decode cJ6_bitCount_0f7a4 42 = .ok (.iload_n 0, 1) := by decide +kernel
theorem dJ6_bitCount_0f7a4_43 : decode cJ6_bitCount_0f7a4 43 = .ok (.bipush 16, 2) := by decide +kernel
theorem dJ6_bitCount_0f7a4_45 : decode cJ6_bitCount_0f7a4 45 = .ok (.iushr, 1) := by decide +kernel
theorem dJ6_bitCount_0f7a4_46 : decode cJ6_bitCount_0f7a4 46 = .ok (.iadd, 1) := by decide +kernel
theorem dJ6_bitCount_0f7a4_47 : decode cJ6_bitCount_0f7a4 47 = .ok (.istore_n 0, 1) := by decide +kernel
theorem dJ6_bitCount_0f7a4_48 : decode cJ6_bitCount_0f7a4 48 = .ok (.iload_n 0, 1) := by decide +kernel
theorem dJ6_bitCount_0f7a4_49 : decode cJ6_bitCount_0f7a4 49 = .ok (.bipush 63, 2) := by decide +kernel
theorem dJ6_bitCount_0f7a4_51 : decode cJ6_bitCount_0f7a4 51 = .ok (.iand, 1) := by decide +kernel
theorem dJ6_bitCount_0f7a4_52 : decode cJ6_bitCount_0f7a4 52 = .ok (.ireturn, 1) := by decide +kernel
theorem dJ7_fill_d0a16_0 : decode cJ7_fill_d0a16 0 = .ok (.iconst 0, 1) := by decide +kernel
theorem dJ7_fill_d0a16_1 : decode cJ7_fill_d0a16 1 = .ok (.istore_n 3, 1) := by decide +kernel
theorem dJ7_fill_d0a16_2 : decode cJ7_fill_d0a16 2 = .ok (.aload_n 0, 1) := by decide +kernel
theorem dJ7_fill_d0a16_3 : decode cJ7_fill_d0a16 3 = .ok (.arraylength, 1) := by decide +kernel
theorem dJ7_fill_d0a16_4 : decode cJ7_fill_d0a16 4 = .ok (.istore 4, 2) := by decide +kernel
theorem dJ7_fill_d0a16_6 : decode cJ7_fill_d0a16 6 = .ok (.iload_n 3, 1) := by decide +kernel
theorem dJ7_fill_d0a16_7 : decode cJ7_fill_d0a16 7 = .ok (.iload 4, 2) := by decide +kernel
theorem dJ7_fill_d0a16_9 : decode cJ7_fill_d0a16 9 = .ok (.if_icmp .ge 13, 3) := by decide +kernel
theorem dJ7_fill_d0a16_12 : decode cJ7_fill_d0a16 12 = .ok (.aload_n 0, 1) := by decide +kernel
theorem dJ7_fill_d0a16_13 : decode cJ7_fill_d0a16 13 = .ok (.iload_n 3, 1) := by decide +kernel
theorem dJ7_fill_d0a16_14 : decode cJ7_fill_d0a16 14 = .ok (.lload_n 1, 1) := by decide +kernel
theorem dJ7_fill_d0a16_15 : decode cJ7_fill_d0a16 15 = .ok (.lastore, 1) := by decide +kernel
theorem dJ7_fill_d0a16_16 : decode cJ7_fill_d0a16 16 = .ok (.iinc 3 1, 3) := by decide +kernel
theorem dJ7_fill_d0a16_19 : decode cJ7_fill_d0a16 19 = .ok (.goto (-13), 3) := by decide +kernel
theorem dJ7_fill_d0a16_22 : decode cJ7_fill_d0a16 22 = .ok (.return_, 1) := by decide +kernel
theorem dJ7_fill_53178_0 : decode cJ7_fill_53178 0 = .ok (.iconst 0, 1) := by decide +kernel
theorem dJ7_fill_53178_1 : decode cJ7_fill_53178 1 = .ok (.istore_n 2, 1) := by decide +kernel
theorem dJ7_fill_53178_2 : decode cJ7_fill_53178 2 = .ok (.aload_n 0, 1) := by decide +kernel
theorem dJ7_fill_53178_3 : decode cJ7_fill_53178 3 = .ok (.arraylength, 1) := by decide +kernel
theorem dJ7_fill_53178_4 : decode cJ7_fill_53178 4 = .ok (.istore_n 3, 1) := by decide +kernel
theorem dJ7_fill_53178_5 : decode cJ7_fill_53178 5 = .ok (.iload_n 2, 1) := by decide +kernel
theorem dJ7_fill_53178_6 : decode cJ7_fill_53178 6 = .ok (.iload_n 3, 1) := by decide +kernel
theorem dJ7_fill_53178_7 : decode cJ7_fill_53178 7 = .ok (.if_icmp .ge 13, 3) := by decide +kernel
theorem dJ7_fill_53178_10 : decode cJ7_fill_53178 10 = .ok (.aload_n 0, 1) := by decide +kernel
theorem dJ7_fill_53178_11 : decode cJ7_fill_53178 11 = .ok (.iload_n 2, 1) := by decide +kernel
theorem dJ7_fill_53178_12 : decode cJ7_fill_53178 12 = .ok (.iload_n 1, 1) := by decide +kernel
theorem dJ7_fill_53178_13 : decode cJ7_fill_53178 13 = .ok (.iastore, 1) := by decide +kernel
theorem dJ7_fill_53178_14 : decode cJ7_fill_53178 14 = .ok (.iinc 2 1, 3) := by decide +kernel
theorem dJ7_fill_53178_17 : decode cJ7_fill_53178 17 = .ok (.goto (-12), 3) := by decide +kernel
theorem dJ7_fill_53178_20 : decode cJ7_fill_53178 20 = .ok (.return_, 1) := by decide +kernel
theorem dL_element_0 : decode cL_element 0 = .ok (.aload_n 3, 1) := by decide +kernel
theorem dL_element_1 : decode cL_element 1 = .ok (.iconst 0, 1) := by decide +kernel
theorem dL_element_2 : decode cL_element 2 = .ok (.aload_n 0, 1) := by decide +kernel
theorem dL_element_3 : decode cL_element 3 = .ok (.iload_n 1, 1) := by decide +kernel
theorem dL_element_4 : decode cL_element 4 = .ok (.iload_n 2, 1) := by decide +kernel
theorem dL_element_5 : decode cL_element 5 = .ok (.invokevirtual 7, 3) := by decide +kernel
theorem dL_element_8 : decode cL_element 8 = .ok (.lastore, 1) := by decide +kernel
theorem dL_element_9 : decode cL_element 9 = .ok (.goto 11, 3) := by decide +kernel
theorem dL_element_12 : decode cL_element 12 = .ok (.astore 4, 2) := by decide +kernel
theorem dL_element_14 : decode cL_element 14 = .ok (.iconst 1, 1) := by decide +kernel
theorem dL_element_15 : decode cL_element 15 = .ok (.ireturn, 1) := by decide +kernel
theorem dL_element_16 : decode cL_element 16 = .ok (.astore 4, 2) := by decide +kernel
theorem dL_element_18 : decode cL_element 18 = .ok (.iconst 2, 1) := by decide +kernel
theorem dL_element_19 : decode cL_element 19 = .ok (.ireturn, 1) := by decide +kernel
theorem dL_element_20 : decode cL_element 20 = .ok (.iconst 0, 1) := by decide +kernel
theorem dL_element_21 : decode cL_element 21 = .ok (.ireturn, 1) := by decide +kernel
theorem dL_law_0 : decode cL_law 0 = .ok (.new 8, 3) := by decide +kernel
theorem dL_law_3 : decode cL_law 3 = .ok (.dup, 1) := by decide +kernel
theorem dL_law_4 : decode cL_law 4 = .ok (.invokespecial 17, 3) := by decide +kernel
theorem dL_law_7 : decode cL_law 7 = .ok (.astore_n 1, 1) := by decide +kernel
theorem dL_law_8 : decode cL_law 8 = .ok (.new 18, 3) := by decide +kernel
theorem dL_law_11 : decode cL_law 11 = .ok (.dup, 1) := by decide +kernel
theorem dL_law_12 : decode cL_law 12 = .ok (.invokespecial 20, 3) := by decide +kernel
theorem dL_law_15 : decode cL_law 15 = .ok (.astore_n 2, 1) := by decide +kernel
theorem dL_law_16 : decode cL_law 16 = .ok (.iconst 1, 1) := by decide +kernel
theorem dL_law_17 : decode cL_law 17 = .ok (.newarray .long, 2) := by decide +kernel
theorem dL_law_19 : decode cL_law 19 = .ok (.astore_n 3, 1) := by decide +kernel
theorem dL_law_20 : decode cL_law 20 = .ok (.iconst 0, 1) := by decide +kernel
theorem dL_law_21 : decode cL_law 21 = .ok (.istore 4, 2) := by decide +kernel
theorem dL_law_23 : decode cL_law 23 = .ok (.iload 4, 2) := by decide +kernel
theorem dL_law_25 : decode cL_law 25 = .ok (.aload_n 0, 1) := by decide +kernel
theorem dL_law_26 : decode cL_law 26 = .ok (.arraylength, 1) := by decide +kernel
theorem dL_law_27 : decode cL_law 27 = .ok (.bipush 6, 2) := by decide +kernel
theorem dL_law_29 : decode cL_law 29 = .ok (.isub, 1) := by decide +kernel
theorem dL_law_30 : decode cL_law 30 = .ok (.if_icmp .gt 1236, 3) := by decide +kernel
theorem dL_law_33 : decode cL_law 33 = .ok (.aload_n 0, 1) := by decide +kernel
theorem dL_law_34 : decode cL_law 34 = .ok (.iload 4, 2) := by decide +kernel
theorem dL_law_36 : decode cL_law 36 = .ok (.iaload, 1) := by decide +kernel
theorem dL_law_37 : decode cL_law 37 = .ok (.bipush 31, 2) := by decide +kernel
theorem dL_law_39 : decode cL_law 39 = .ok (.iand, 1) := by decide +kernel
theorem dL_law_40 : decode cL_law 40 = .ok (.tableswitch 1220 0 29 #[136, 161, 198, 259, 296, 345, 398, 447, 460, 509, 534, 559, 596, 621, 634, 671, 708, 745, 770, 795, 808, 845, 870, 895, 932, 981, 1030, 1097, 1170, 1195], 136) := by decide +kernel
theorem dL_law_176 : decode cL_law 176 = .ok (.aload_n 1, 1) := by decide +kernel
theorem dL_law_177 : decode cL_law 177 = .ok (.aload_n 0, 1) := by decide +kernel
theorem dL_law_178 : decode cL_law 178 = .ok (.iload 4, 2) := by decide +kernel
theorem dL_law_180 : decode cL_law 180 = .ok (.iconst 1, 1) := by decide +kernel
theorem dL_law_181 : decode cL_law 181 = .ok (.iadd, 1) := by decide +kernel
theorem dL_law_182 : decode cL_law 182 = .ok (.iaload, 1) := by decide +kernel
theorem dL_law_183 : decode cL_law 183 = .ok (.invokevirtual 21, 3) := by decide +kernel
theorem dL_law_186 : decode cL_law 186 = .ok (.aload_n 2, 1) := by decide +kernel
theorem dL_law_187 : decode cL_law 187 = .ok (.aload_n 0, 1) := by decide +kernel
theorem dL_law_188 : decode cL_law 188 = .ok (.iload 4, 2) := by decide +kernel
theorem dL_law_190 : decode cL_law 190 = .ok (.iconst 1, 1) := by decide +kernel
theorem dL_law_191 : decode cL_law 191 = .ok (.iadd, 1) := by decide +kernel
theorem dL_law_192 : decode cL_law 192 = .ok (.iaload, 1) := by decide +kernel
theorem dL_law_193 : decode cL_law 193 = .ok (.invokevirtual 25, 3) := by decide +kernel
theorem dL_law_196 : decode cL_law 196 = .ok (.if_icmp .eq 1064, 3) := by decide +kernel
theorem dL_law_199 : decode cL_law 199 = .ok (.iconst 0, 1) := by decide +kernel
theorem dL_law_200 : decode cL_law 200 = .ok (.ireturn, 1) := by decide +kernel
theorem dL_law_201 : decode cL_law 201 = .ok (.aload_n 1, 1) := by decide +kernel
theorem dL_law_202 : decode cL_law 202 = .ok (.aload_n 0, 1) := by decide +kernel
theorem dL_law_203 : decode cL_law 203 = .ok (.iload 4, 2) := by decide +kernel
theorem dL_law_205 : decode cL_law 205 = .ok (.iconst 1, 1) := by decide +kernel
theorem dL_law_206 : decode cL_law 206 = .ok (.iadd, 1) := by decide +kernel
theorem dL_law_207 : decode cL_law 207 = .ok (.iaload, 1) := by decide +kernel
theorem dL_law_208 : decode cL_law 208 = .ok (.aload_n 0, 1) := by decide +kernel
theorem dL_law_209 : decode cL_law 209 = .ok (.iload 4, 2) := by decide +kernel
theorem dL_law_211 : decode cL_law 211 = .ok (.iconst 2, 1) := by decide +kernel
theorem dL_law_212 : decode cL_law 212 = .ok (.iadd, 1) := by decide +kernel
theorem dL_law_213 : decode cL_law 213 = .ok (.iaload, 1) := by decide +kernel
theorem dL_law_214 : decode cL_law 214 = .ok (.invokevirtual 26, 3) := by decide +kernel
theorem dL_law_217 : decode cL_law 217 = .ok (.aload_n 2, 1) := by decide +kernel
theorem dL_law_218 : decode cL_law 218 = .ok (.aload_n 0, 1) := by decide +kernel
theorem dL_law_219 : decode cL_law 219 = .ok (.iload 4, 2) := by decide +kernel
theorem dL_law_221 : decode cL_law 221 = .ok (.iconst 1, 1) := by decide +kernel
theorem dL_law_222 : decode cL_law 222 = .ok (.iadd, 1) := by decide +kernel
theorem dL_law_223 : decode cL_law 223 = .ok (.iaload, 1) := by decide +kernel
theorem dL_law_224 : decode cL_law 224 = .ok (.aload_n 0, 1) := by decide +kernel
theorem dL_law_225 : decode cL_law 225 = .ok (.iload 4, 2) := by decide +kernel
theorem dL_law_227 : decode cL_law 227 = .ok (.iconst 2, 1) := by decide +kernel
theorem dL_law_228 : decode cL_law 228 = .ok (.iadd, 1) := by decide +kernel
theorem dL_law_229 : decode cL_law 229 = .ok (.iaload, 1) := by decide +kernel
theorem dL_law_230 : decode cL_law 230 = .ok (.invokevirtual 30, 3) := by decide +kernel
theorem dL_law_233 : decode cL_law 233 = .ok (.if_icmp .eq 1027, 3) := by decide +kernel
theorem dL_law_236 : decode cL_law 236 = .ok (.iconst 0, 1) := by decide +kernel
theorem dL_law_237 : decode cL_law 237 = .ok (.ireturn, 1) := by decide +kernel
theorem dL_law_238 : decode cL_law 238 = .ok (.aload_n 1, 1) := by decide +kernel
theorem dL_law_239 : decode cL_law 239 = .ok (.aload_n 0, 1) := by decide +kernel
theorem dL_law_240 : decode cL_law 240 = .ok (.iload 4, 2) := by decide +kernel
theorem dL_law_242 : decode cL_law 242 = .ok (.iconst 1, 1) := by decide +kernel
theorem dL_law_243 : decode cL_law 243 = .ok (.iadd, 1) := by decide +kernel
theorem dL_law_244 : decode cL_law 244 = .ok (.iaload, 1) := by decide +kernel
theorem dL_law_245 : decode cL_law 245 = .ok (.aload_n 0, 1) := by decide +kernel
theorem dL_law_246 : decode cL_law 246 = .ok (.iload 4, 2) := by decide +kernel
theorem dL_law_248 : decode cL_law 248 = .ok (.iconst 2, 1) := by decide +kernel
theorem dL_law_249 : decode cL_law 249 = .ok (.iadd, 1) := by decide +kernel
theorem dL_law_250 : decode cL_law 250 = .ok (.iaload, 1) := by decide +kernel
theorem dL_law_251 : decode cL_law 251 = .ok (.aload_n 0, 1) := by decide +kernel
theorem dL_law_252 : decode cL_law 252 = .ok (.iload 4, 2) := by decide +kernel
theorem dL_law_254 : decode cL_law 254 = .ok (.iconst 3, 1) := by decide +kernel
theorem dL_law_255 : decode cL_law 255 = .ok (.iadd, 1) := by decide +kernel
theorem dL_law_256 : decode cL_law 256 = .ok (.iaload, 1) := by decide +kernel
theorem dL_law_257 : decode cL_law 257 = .ok (.aload_n 0, 1) := by decide +kernel
theorem dL_law_258 : decode cL_law 258 = .ok (.iload 4, 2) := by decide +kernel
theorem dL_law_260 : decode cL_law 260 = .ok (.iconst 4, 1) := by decide +kernel
theorem dL_law_261 : decode cL_law 261 = .ok (.iadd, 1) := by decide +kernel
theorem dL_law_262 : decode cL_law 262 = .ok (.iaload, 1) := by decide +kernel
theorem dL_law_263 : decode cL_law 263 = .ok (.invokevirtual 31, 3) := by decide +kernel
theorem dL_law_266 : decode cL_law 266 = .ok (.aload_n 2, 1) := by decide +kernel
theorem dL_law_267 : decode cL_law 267 = .ok (.aload_n 0, 1) := by decide +kernel
theorem dL_law_268 : decode cL_law 268 = .ok (.iload 4, 2) := by decide +kernel
theorem dL_law_270 : decode cL_law 270 = .ok (.iconst 1, 1) := by decide +kernel
theorem dL_law_271 : decode cL_law 271 = .ok (.iadd, 1) := by decide +kernel
theorem dL_law_272 : decode cL_law 272 = .ok (.iaload, 1) := by decide +kernel
theorem dL_law_273 : decode cL_law 273 = .ok (.aload_n 0, 1) := by decide +kernel
theorem dL_law_274 : decode cL_law 274 = .ok (.iload 4, 2) := by decide +kernel
theorem dL_law_276 : decode cL_law 276 = .ok (.iconst 2, 1) := by decide +kernel
theorem dL_law_277 : decode cL_law 277 = .ok (.iadd, 1) := by decide +kernel
theorem dL_law_278 : decode cL_law 278 = .ok (.iaload, 1) := by decide +kernel
theorem dL_law_279 : decode cL_law 279 = .ok (.aload_n 0, 1) := by decide +kernel
theorem dL_law_280 : decode cL_law 280 = .ok (.iload 4, 2) := by decide +kernel
theorem dL_law_282 : decode cL_law 282 = .ok (.iconst 3, 1) := by decide +kernel
theorem dL_law_283 : decode cL_law 283 = .ok (.iadd, 1) := by decide +kernel
theorem dL_law_284 : decode cL_law 284 = .ok (.iaload, 1) := by decide +kernel
theorem dL_law_285 : decode cL_law 285 = .ok (.aload_n 0, 1) := by decide +kernel
theorem dL_law_286 : decode cL_law 286 = .ok (.iload 4, 2) := by decide +kernel
theorem dL_law_288 : decode cL_law 288 = .ok (.iconst 4, 1) := by decide +kernel
theorem dL_law_289 : decode cL_law 289 = .ok (.iadd, 1) := by decide +kernel
theorem dL_law_290 : decode cL_law 290 = .ok (.iaload, 1) := by decide +kernel
theorem dL_law_291 : decode cL_law 291 = .ok (.invokevirtual 35, 3) := by decide +kernel
theorem dL_law_294 : decode cL_law 294 = .ok (.if_icmp .eq 966, 3) := by decide +kernel
theorem dL_law_297 : decode cL_law 297 = .ok (.iconst 0, 1) := by decide +kernel
theorem dL_law_298 : decode cL_law 298 = .ok (.ireturn, 1) := by decide +kernel
theorem dL_law_299 : decode cL_law 299 = .ok (.aload_n 1, 1) := by decide +kernel
theorem dL_law_300 : decode cL_law 300 = .ok (.aload_n 0, 1) := by decide +kernel
theorem dL_law_301 : decode cL_law 301 = .ok (.iload 4, 2) := by decide +kernel
theorem dL_law_303 : decode cL_law 303 = .ok (.iconst 1, 1) := by decide +kernel
theorem dL_law_304 : decode cL_law 304 = .ok (.iadd, 1) := by decide +kernel
theorem dL_law_305 : decode cL_law 305 = .ok (.iaload, 1) := by decide +kernel
theorem dL_law_306 : decode cL_law 306 = .ok (.aload_n 0, 1) := by decide +kernel
theorem dL_law_307 : decode cL_law 307 = .ok (.iload 4, 2) := by decide +kernel
theorem dL_law_309 : decode cL_law 309 = .ok (.iconst 2, 1) := by decide +kernel
theorem dL_law_310 : decode cL_law 310 = .ok (.iadd, 1) := by decide +kernel
theorem dL_law_311 : decode cL_law 311 = .ok (.iaload, 1) := by decide +kernel
theorem dL_law_312 : decode cL_law 312 = .ok (.invokevirtual 36, 3) := by decide +kernel
theorem dL_law_315 : decode cL_law 315 = .ok (.aload_n 2, 1) := by decide +kernel
theorem dL_law_316 : decode cL_law 316 = .ok (.aload_n 0, 1) := by decide +kernel
theorem dL_law_317 : decode cL_law 317 = .ok (.iload 4, 2) := by decide +kernel
theorem dL_law_319 : decode cL_law 319 = .ok (.iconst 1, 1) := by decide +kernel
theorem dL_law_320 : decode cL_law 320 = .ok (.iadd, 1) := by decide +kernel
theorem dL_law_321 : decode cL_law 321 = .ok (.iaload, 1) := by decide +kernel
theorem dL_law_322 : decode cL_law 322 = .ok (.aload_n 0, 1) := by decide +kernel
theorem dL_law_323 : decode cL_law 323 = .ok (.iload 4, 2) := by decide +kernel
theorem dL_law_325 : decode cL_law 325 = .ok (.iconst 2, 1) := by decide +kernel
theorem dL_law_326 : decode cL_law 326 = .ok (.iadd, 1) := by decide +kernel
theorem dL_law_327 : decode cL_law 327 = .ok (.iaload, 1) := by decide +kernel
theorem dL_law_328 : decode cL_law 328 = .ok (.invokevirtual 39, 3) := by decide +kernel
theorem dL_law_331 : decode cL_law 331 = .ok (.if_icmp .eq 929, 3) := by decide +kernel
theorem dL_law_334 : decode cL_law 334 = .ok (.iconst 0, 1) := by decide +kernel
theorem dL_law_335 : decode cL_law 335 = .ok (.ireturn, 1) := by decide +kernel
theorem dL_law_336 : decode cL_law 336 = .ok (.aload_n 1, 1) := by decide +kernel
theorem dL_law_337 : decode cL_law 337 = .ok (.aload_n 0, 1) := by decide +kernel
theorem dL_law_338 : decode cL_law 338 = .ok (.iload 4, 2) := by decide +kernel
theorem dL_law_340 : decode cL_law 340 = .ok (.iconst 1, 1) := by decide +kernel
theorem dL_law_341 : decode cL_law 341 = .ok (.iadd, 1) := by decide +kernel
theorem dL_law_342 : decode cL_law 342 = .ok (.iaload, 1) := by decide +kernel
theorem dL_law_343 : decode cL_law 343 = .ok (.aload_n 0, 1) := by decide +kernel
theorem dL_law_344 : decode cL_law 344 = .ok (.iload 4, 2) := by decide +kernel
theorem dL_law_346 : decode cL_law 346 = .ok (.iconst 2, 1) := by decide +kernel
theorem dL_law_347 : decode cL_law 347 = .ok (.iadd, 1) := by decide +kernel
theorem dL_law_348 : decode cL_law 348 = .ok (.iaload, 1) := by decide +kernel
theorem dL_law_349 : decode cL_law 349 = .ok (.aload_n 0, 1) := by decide +kernel
theorem dL_law_350 : decode cL_law 350 = .ok (.iload 4, 2) := by decide +kernel
theorem dL_law_352 : decode cL_law 352 = .ok (.iconst 3, 1) := by decide +kernel
theorem dL_law_353 : decode cL_law 353 = .ok (.iadd, 1) := by decide +kernel
theorem dL_law_354 : decode cL_law 354 = .ok (.iaload, 1) := by decide +kernel
theorem dL_law_355 : decode cL_law 355 = .ok (.invokevirtual 40, 3) := by decide +kernel
theorem dL_law_358 : decode cL_law 358 = .ok (.aload_n 2, 1) := by decide +kernel
theorem dL_law_359 : decode cL_law 359 = .ok (.aload_n 0, 1) := by decide +kernel
theorem dL_law_360 : decode cL_law 360 = .ok (.iload 4, 2) := by decide +kernel
theorem dL_law_362 : decode cL_law 362 = .ok (.iconst 1, 1) := by decide +kernel
theorem dL_law_363 : decode cL_law 363 = .ok (.iadd, 1) := by decide +kernel
theorem dL_law_364 : decode cL_law 364 = .ok (.iaload, 1) := by decide +kernel
theorem dL_law_365 : decode cL_law 365 = .ok (.aload_n 0, 1) := by decide +kernel
theorem dL_law_366 : decode cL_law 366 = .ok (.iload 4, 2) := by decide +kernel
theorem dL_law_368 : decode cL_law 368 = .ok (.iconst 2, 1) := by decide +kernel
theorem dL_law_369 : decode cL_law 369 = .ok (.iadd, 1) := by decide +kernel
theorem dL_law_370 : decode cL_law 370 = .ok (.iaload, 1) := by decide +kernel
theorem dL_law_371 : decode cL_law 371 = .ok (.aload_n 0, 1) := by decide +kernel
theorem dL_law_372 : decode cL_law 372 = .ok (.iload 4, 2) := by decide +kernel
theorem dL_law_374 : decode cL_law 374 = .ok (.iconst 3, 1) := by decide +kernel
theorem dL_law_375 : decode cL_law 375 = .ok (.iadd, 1) := by decide +kernel
theorem dL_law_376 : decode cL_law 376 = .ok (.iaload, 1) := by decide +kernel
theorem dL_law_377 : decode cL_law 377 = .ok (.invokevirtual 44, 3) := by decide +kernel
theorem dL_law_380 : decode cL_law 380 = .ok (.if_icmp .eq 880, 3) := by decide +kernel
theorem dL_law_383 : decode cL_law 383 = .ok (.iconst 0, 1) := by decide +kernel
theorem dL_law_384 : decode cL_law 384 = .ok (.ireturn, 1) := by decide +kernel
theorem dL_law_385 : decode cL_law 385 = .ok (.aload_n 1, 1) := by decide +kernel
theorem dL_law_386 : decode cL_law 386 = .ok (.aload_n 0, 1) := by decide +kernel
theorem dL_law_387 : decode cL_law 387 = .ok (.iload 4, 2) := by decide +kernel
theorem dL_law_389 : decode cL_law 389 = .ok (.iconst 1, 1) := by decide +kernel
theorem dL_law_390 : decode cL_law 390 = .ok (.iadd, 1) := by decide +kernel
theorem dL_law_391 : decode cL_law 391 = .ok (.iaload, 1) := by decide +kernel
theorem dL_law_392 : decode cL_law 392 = .ok (.aload_n 0, 1) := by decide +kernel
theorem dL_law_393 : decode cL_law 393 = .ok (.iload 4, 2) := by decide +kernel
theorem dL_law_395 : decode cL_law 395 = .ok (.iconst 2, 1) := by decide +kernel
theorem dL_law_396 : decode cL_law 396 = .ok (.iadd, 1) := by decide +kernel
theorem dL_law_397 : decode cL_law 397 = .ok (.iaload, 1) := by decide +kernel
theorem dL_law_398 : decode cL_law 398 = .ok (.ifCond .eq 7, 3) := by decide +kernel
theorem dL_law_401 : decode cL_law 401 = .ok (.iconst 1, 1) := by decide +kernel
theorem dL_law_402 : decode cL_law 402 = .ok (.goto 4, 3) := by decide +kernel
theorem dL_law_405 : decode cL_law 405 = .ok (.iconst 0, 1) := by decide +kernel
theorem dL_law_406 : decode cL_law 406 = .ok (.invokevirtual 45, 3) := by decide +kernel
theorem dL_law_409 : decode cL_law 409 = .ok (.aload_n 2, 1) := by decide +kernel
theorem dL_law_410 : decode cL_law 410 = .ok (.aload_n 0, 1) := by decide +kernel
theorem dL_law_411 : decode cL_law 411 = .ok (.iload 4, 2) := by decide +kernel
theorem dL_law_413 : decode cL_law 413 = .ok (.iconst 1, 1) := by decide +kernel
theorem dL_law_414 : decode cL_law 414 = .ok (.iadd, 1) := by decide +kernel
theorem dL_law_415 : decode cL_law 415 = .ok (.iaload, 1) := by decide +kernel
theorem dL_law_416 : decode cL_law 416 = .ok (.aload_n 0, 1) := by decide +kernel
theorem dL_law_417 : decode cL_law 417 = .ok (.iload 4, 2) := by decide +kernel
theorem dL_law_419 : decode cL_law 419 = .ok (.iconst 2, 1) := by decide +kernel
theorem dL_law_420 : decode cL_law 420 = .ok (.iadd, 1) := by decide +kernel
theorem dL_law_421 : decode cL_law 421 = .ok (.iaload, 1) := by decide +kernel
theorem dL_law_422 : decode cL_law 422 = .ok (.ifCond .eq 7, 3) := by decide +kernel
theorem dL_law_425 : decode cL_law 425 = .ok (.iconst 1, 1) := by decide +kernel
theorem dL_law_426 : decode cL_law 426 = .ok (.goto 4, 3) := by decide +kernel
theorem dL_law_429 : decode cL_law 429 = .ok (.iconst 0, 1) := by decide +kernel
theorem dL_law_430 : decode cL_law 430 = .ok (.invokevirtual 49, 3) := by decide +kernel
theorem dL_law_433 : decode cL_law 433 = .ok (.if_icmp .eq 827, 3) := by decide +kernel
theorem dL_law_436 : decode cL_law 436 = .ok (.iconst 0, 1) := by decide +kernel
theorem dL_law_437 : decode cL_law 437 = .ok (.ireturn, 1) := by decide +kernel
theorem dL_law_438 : decode cL_law 438 = .ok (.aload_n 1, 1) := by decide +kernel
theorem dL_law_439 : decode cL_law 439 = .ok (.aload_n 0, 1) := by decide +kernel
theorem dL_law_440 : decode cL_law 440 = .ok (.iload 4, 2) := by decide +kernel
theorem dL_law_442 : decode cL_law 442 = .ok (.iconst 1, 1) := by decide +kernel
theorem dL_law_443 : decode cL_law 443 = .ok (.iadd, 1) := by decide +kernel
theorem dL_law_444 : decode cL_law 444 = .ok (.iaload, 1) := by decide +kernel
theorem dL_law_445 : decode cL_law 445 = .ok (.aload_n 0, 1) := by decide +kernel
theorem dL_law_446 : decode cL_law 446 = .ok (.iload 4, 2) := by decide +kernel
theorem dL_law_448 : decode cL_law 448 = .ok (.iconst 2, 1) := by decide +kernel
theorem dL_law_449 : decode cL_law 449 = .ok (.iadd, 1) := by decide +kernel
theorem dL_law_450 : decode cL_law 450 = .ok (.iaload, 1) := by decide +kernel
theorem dL_law_451 : decode cL_law 451 = .ok (.aload_n 0, 1) := by decide +kernel
theorem dL_law_452 : decode cL_law 452 = .ok (.iload 4, 2) := by decide +kernel
theorem dL_law_454 : decode cL_law 454 = .ok (.iconst 3, 1) := by decide +kernel
theorem dL_law_455 : decode cL_law 455 = .ok (.iadd, 1) := by decide +kernel
theorem dL_law_456 : decode cL_law 456 = .ok (.iaload, 1) := by decide +kernel
theorem dL_law_457 : decode cL_law 457 = .ok (.invokevirtual 50, 3) := by decide +kernel
theorem dL_law_460 : decode cL_law 460 = .ok (.aload_n 2, 1) := by decide +kernel
theorem dL_law_461 : decode cL_law 461 = .ok (.aload_n 0, 1) := by decide +kernel
theorem dL_law_462 : decode cL_law 462 = .ok (.iload 4, 2) := by decide +kernel
theorem dL_law_464 : decode cL_law 464 = .ok (.iconst 1, 1) := by decide +kernel
theorem dL_law_465 : decode cL_law 465 = .ok (.iadd, 1) := by decide +kernel
theorem dL_law_466 : decode cL_law 466 = .ok (.iaload, 1) := by decide +kernel
theorem dL_law_467 : decode cL_law 467 = .ok (.aload_n 0, 1) := by decide +kernel
theorem dL_law_468 : decode cL_law 468 = .ok (.iload 4, 2) := by decide +kernel
theorem dL_law_470 : decode cL_law 470 = .ok (.iconst 2, 1) := by decide +kernel
theorem dL_law_471 : decode cL_law 471 = .ok (.iadd, 1) := by decide +kernel
theorem dL_law_472 : decode cL_law 472 = .ok (.iaload, 1) := by decide +kernel
theorem dL_law_473 : decode cL_law 473 = .ok (.aload_n 0, 1) := by decide +kernel
theorem dL_law_474 : decode cL_law 474 = .ok (.iload 4, 2) := by decide +kernel
theorem dL_law_476 : decode cL_law 476 = .ok (.iconst 3, 1) := by decide +kernel
theorem dL_law_477 : decode cL_law 477 = .ok (.iadd, 1) := by decide +kernel
theorem dL_law_478 : decode cL_law 478 = .ok (.iaload, 1) := by decide +kernel
theorem dL_law_479 : decode cL_law 479 = .ok (.invokevirtual 53, 3) := by decide +kernel
theorem dL_law_482 : decode cL_law 482 = .ok (.if_icmp .eq 778, 3) := by decide +kernel
theorem dL_law_485 : decode cL_law 485 = .ok (.iconst 0, 1) := by decide +kernel
theorem dL_law_486 : decode cL_law 486 = .ok (.ireturn, 1) := by decide +kernel
theorem dL_law_487 : decode cL_law 487 = .ok (.aload_n 1, 1) := by decide +kernel
theorem dL_law_488 : decode cL_law 488 = .ok (.invokevirtual 54, 3) := by decide +kernel
theorem dL_law_491 : decode cL_law 491 = .ok (.aload_n 2, 1) := by decide +kernel
theorem dL_law_492 : decode cL_law 492 = .ok (.invokevirtual 58, 3) := by decide +kernel
theorem dL_law_495 : decode cL_law 495 = .ok (.if_icmp .eq 765, 3) := by decide +kernel
theorem dL_law_498 : decode cL_law 498 = .ok (.iconst 0, 1) := by decide +kernel
theorem dL_law_499 : decode cL_law 499 = .ok (.ireturn, 1) := by decide +kernel
theorem dL_law_500 : decode cL_law 500 = .ok (.aload_n 1, 1) := by decide +kernel
theorem dL_law_501 : decode cL_law 501 = .ok (.aload_n 0, 1) := by decide +kernel
theorem dL_law_502 : decode cL_law 502 = .ok (.iload 4, 2) := by decide +kernel
theorem dL_law_504 : decode cL_law 504 = .ok (.iconst 1, 1) := by decide +kernel
theorem dL_law_505 : decode cL_law 505 = .ok (.iadd, 1) := by decide +kernel
theorem dL_law_506 : decode cL_law 506 = .ok (.iaload, 1) := by decide +kernel
theorem dL_law_507 : decode cL_law 507 = .ok (.aload_n 0, 1) := by decide +kernel
theorem dL_law_508 : decode cL_law 508 = .ok (.iload 4, 2) := by decide +kernel
theorem dL_law_510 : decode cL_law 510 = .ok (.iconst 2, 1) := by decide +kernel
theorem dL_law_511 : decode cL_law 511 = .ok (.iadd, 1) := by decide +kernel
theorem dL_law_512 : decode cL_law 512 = .ok (.iaload, 1) := by decide +kernel
theorem dL_law_513 : decode cL_law 513 = .ok (.aload_n 0, 1) := by decide +kernel
theorem dL_law_514 : decode cL_law 514 = .ok (.iload 4, 2) := by decide +kernel
theorem dL_law_516 : decode cL_law 516 = .ok (.iconst 3, 1) := by decide +kernel
theorem dL_law_517 : decode cL_law 517 = .ok (.iadd, 1) := by decide +kernel
theorem dL_law_518 : decode cL_law 518 = .ok (.iaload, 1) := by decide +kernel
theorem dL_law_519 : decode cL_law 519 = .ok (.invokevirtual 59, 3) := by decide +kernel
theorem dL_law_522 : decode cL_law 522 = .ok (.aload_n 2, 1) := by decide +kernel
theorem dL_law_523 : decode cL_law 523 = .ok (.aload_n 0, 1) := by decide +kernel
theorem dL_law_524 : decode cL_law 524 = .ok (.iload 4, 2) := by decide +kernel
theorem dL_law_526 : decode cL_law 526 = .ok (.iconst 1, 1) := by decide +kernel
theorem dL_law_527 : decode cL_law 527 = .ok (.iadd, 1) := by decide +kernel
theorem dL_law_528 : decode cL_law 528 = .ok (.iaload, 1) := by decide +kernel
theorem dL_law_529 : decode cL_law 529 = .ok (.aload_n 0, 1) := by decide +kernel
theorem dL_law_530 : decode cL_law 530 = .ok (.iload 4, 2) := by decide +kernel
theorem dL_law_532 : decode cL_law 532 = .ok (.iconst 2, 1) := by decide +kernel
theorem dL_law_533 : decode cL_law 533 = .ok (.iadd, 1) := by decide +kernel
theorem dL_law_534 : decode cL_law 534 = .ok (.iaload, 1) := by decide +kernel
theorem dL_law_535 : decode cL_law 535 = .ok (.aload_n 0, 1) := by decide +kernel
theorem dL_law_536 : decode cL_law 536 = .ok (.iload 4, 2) := by decide +kernel
theorem dL_law_538 : decode cL_law 538 = .ok (.iconst 3, 1) := by decide +kernel
theorem dL_law_539 : decode cL_law 539 = .ok (.iadd, 1) := by decide +kernel
theorem dL_law_540 : decode cL_law 540 = .ok (.iaload, 1) := by decide +kernel
theorem dL_law_541 : decode cL_law 541 = .ok (.invokevirtual 62, 3) := by decide +kernel
theorem dL_law_544 : decode cL_law 544 = .ok (.if_icmp .eq 716, 3) := by decide +kernel
theorem dL_law_547 : decode cL_law 547 = .ok (.iconst 0, 1) := by decide +kernel
theorem dL_law_548 : decode cL_law 548 = .ok (.ireturn, 1) := by decide +kernel
theorem dL_law_549 : decode cL_law 549 = .ok (.aload_n 1, 1) := by decide +kernel
theorem dL_law_550 : decode cL_law 550 = .ok (.aload_n 0, 1) := by decide +kernel
theorem dL_law_551 : decode cL_law 551 = .ok (.iload 4, 2) := by decide +kernel
theorem dL_law_553 : decode cL_law 553 = .ok (.iconst 1, 1) := by decide +kernel
theorem dL_law_554 : decode cL_law 554 = .ok (.iadd, 1) := by decide +kernel
theorem dL_law_555 : decode cL_law 555 = .ok (.iaload, 1) := by decide +kernel
theorem dL_law_556 : decode cL_law 556 = .ok (.invokevirtual 63, 3) := by decide +kernel
theorem dL_law_559 : decode cL_law 559 = .ok (.aload_n 2, 1) := by decide +kernel
theorem dL_law_560 : decode cL_law 560 = .ok (.aload_n 0, 1) := by decide +kernel
theorem dL_law_561 : decode cL_law 561 = .ok (.iload 4, 2) := by decide +kernel
theorem dL_law_563 : decode cL_law 563 = .ok (.iconst 1, 1) := by decide +kernel
theorem dL_law_564 : decode cL_law 564 = .ok (.iadd, 1) := by decide +kernel
theorem dL_law_565 : decode cL_law 565 = .ok (.iaload, 1) := by decide +kernel
theorem dL_law_566 : decode cL_law 566 = .ok (.invokevirtual 66, 3) := by decide +kernel
theorem dL_law_569 : decode cL_law 569 = .ok (.if_icmp .eq 691, 3) := by decide +kernel
theorem dL_law_572 : decode cL_law 572 = .ok (.iconst 0, 1) := by decide +kernel
theorem dL_law_573 : decode cL_law 573 = .ok (.ireturn, 1) := by decide +kernel
theorem dL_law_574 : decode cL_law 574 = .ok (.aload_n 1, 1) := by decide +kernel
theorem dL_law_575 : decode cL_law 575 = .ok (.aload_n 0, 1) := by decide +kernel
theorem dL_law_576 : decode cL_law 576 = .ok (.iload 4, 2) := by decide +kernel
theorem dL_law_578 : decode cL_law 578 = .ok (.iconst 1, 1) := by decide +kernel
theorem dL_law_579 : decode cL_law 579 = .ok (.iadd, 1) := by decide +kernel
theorem dL_law_580 : decode cL_law 580 = .ok (.iaload, 1) := by decide +kernel
theorem dL_law_581 : decode cL_law 581 = .ok (.invokevirtual 67, 3) := by decide +kernel
theorem dL_law_584 : decode cL_law 584 = .ok (.aload_n 2, 1) := by decide +kernel
theorem dL_law_585 : decode cL_law 585 = .ok (.aload_n 0, 1) := by decide +kernel
theorem dL_law_586 : decode cL_law 586 = .ok (.iload 4, 2) := by decide +kernel
theorem dL_law_588 : decode cL_law 588 = .ok (.iconst 1, 1) := by decide +kernel
theorem dL_law_589 : decode cL_law 589 = .ok (.iadd, 1) := by decide +kernel
theorem dL_law_590 : decode cL_law 590 = .ok (.iaload, 1) := by decide +kernel
theorem dL_law_591 : decode cL_law 591 = .ok (.invokevirtual 70, 3) := by decide +kernel
theorem dL_law_594 : decode cL_law 594 = .ok (.if_icmp .eq 666, 3) := by decide +kernel
theorem dL_law_597 : decode cL_law 597 = .ok (.iconst 0, 1) := by decide +kernel
theorem dL_law_598 : decode cL_law 598 = .ok (.ireturn, 1) := by decide +kernel
theorem dL_law_599 : decode cL_law 599 = .ok (.aload_n 1, 1) := by decide +kernel
theorem dL_law_600 : decode cL_law 600 = .ok (.aload_n 0, 1) := by decide +kernel
theorem dL_law_601 : decode cL_law 601 = .ok (.iload 4, 2) := by decide +kernel
theorem dL_law_603 : decode cL_law 603 = .ok (.iconst 1, 1) := by decide +kernel
theorem dL_law_604 : decode cL_law 604 = .ok (.iadd, 1) := by decide +kernel
theorem dL_law_605 : decode cL_law 605 = .ok (.iaload, 1) := by decide +kernel
theorem dL_law_606 : decode cL_law 606 = .ok (.aload_n 0, 1) := by decide +kernel
theorem dL_law_607 : decode cL_law 607 = .ok (.iload 4, 2) := by decide +kernel
theorem dL_law_609 : decode cL_law 609 = .ok (.iconst 2, 1) := by decide +kernel
theorem dL_law_610 : decode cL_law 610 = .ok (.iadd, 1) := by decide +kernel
theorem dL_law_611 : decode cL_law 611 = .ok (.iaload, 1) := by decide +kernel
theorem dL_law_612 : decode cL_law 612 = .ok (.invokevirtual 71, 3) := by decide +kernel
theorem dL_law_615 : decode cL_law 615 = .ok (.aload_n 2, 1) := by decide +kernel
theorem dL_law_616 : decode cL_law 616 = .ok (.aload_n 0, 1) := by decide +kernel
theorem dL_law_617 : decode cL_law 617 = .ok (.iload 4, 2) := by decide +kernel
theorem dL_law_619 : decode cL_law 619 = .ok (.iconst 1, 1) := by decide +kernel
theorem dL_law_620 : decode cL_law 620 = .ok (.iadd, 1) := by decide +kernel
theorem dL_law_621 : decode cL_law 621 = .ok (.iaload, 1) := by decide +kernel
theorem dL_law_622 : decode cL_law 622 = .ok (.aload_n 0, 1) := by decide +kernel
theorem dL_law_623 : decode cL_law 623 = .ok (.iload 4, 2) := by decide +kernel
theorem dL_law_625 : decode cL_law 625 = .ok (.iconst 2, 1) := by decide +kernel
theorem dL_law_626 : decode cL_law 626 = .ok (.iadd, 1) := by decide +kernel
theorem dL_law_627 : decode cL_law 627 = .ok (.iaload, 1) := by decide +kernel
theorem dL_law_628 : decode cL_law 628 = .ok (.invokevirtual 74, 3) := by decide +kernel
theorem dL_law_631 : decode cL_law 631 = .ok (.if_icmp .eq 629, 3) := by decide +kernel
theorem dL_law_634 : decode cL_law 634 = .ok (.iconst 0, 1) := by decide +kernel
theorem dL_law_635 : decode cL_law 635 = .ok (.ireturn, 1) := by decide +kernel
theorem dL_law_636 : decode cL_law 636 = .ok (.aload_n 1, 1) := by decide +kernel
theorem dL_law_637 : decode cL_law 637 = .ok (.aload_n 0, 1) := by decide +kernel
theorem dL_law_638 : decode cL_law 638 = .ok (.iload 4, 2) := by decide +kernel
theorem dL_law_640 : decode cL_law 640 = .ok (.iconst 1, 1) := by decide +kernel
theorem dL_law_641 : decode cL_law 641 = .ok (.iadd, 1) := by decide +kernel
theorem dL_law_642 : decode cL_law 642 = .ok (.iaload, 1) := by decide +kernel
theorem dL_law_643 : decode cL_law 643 = .ok (.invokevirtual 75, 3) := by decide +kernel
theorem dL_law_646 : decode cL_law 646 = .ok (.aload_n 2, 1) := by decide +kernel
theorem dL_law_647 : decode cL_law 647 = .ok (.aload_n 0, 1) := by decide +kernel
theorem dL_law_648 : decode cL_law 648 = .ok (.iload 4, 2) := by decide +kernel
theorem dL_law_650 : decode cL_law 650 = .ok (.iconst 1, 1) := by decide +kernel
theorem dL_law_651 : decode cL_law 651 = .ok (.iadd, 1) := by decide +kernel
theorem dL_law_652 : decode cL_law 652 = .ok (.iaload, 1) := by decide +kernel
theorem dL_law_653 : decode cL_law 653 = .ok (.invokevirtual 78, 3) := by decide +kernel
theorem dL_law_656 : decode cL_law 656 = .ok (.if_icmp .eq 604, 3) := by decide +kernel
theorem dL_law_659 : decode cL_law 659 = .ok (.iconst 0, 1) := by decide +kernel
theorem dL_law_660 : decode cL_law 660 = .ok (.ireturn, 1) := by decide +kernel
