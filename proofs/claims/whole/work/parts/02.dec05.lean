theorem dX8_square_12 : decode cX8_square 12 = .ok (.if_icmp .ne 5, 3) := by decide +kernel
theorem dX8_square_15 : decode cX8_square 15 = .ok (.iconst (-1), 1) := by decide +kernel
theorem dX8_square_16 : decode cX8_square 16 = .ok (.ireturn, 1) := by decide +kernel
theorem dX8_square_17 : decode cX8_square 17 = .ok (.iload_n 3, 1) := by decide +kernel
theorem dX8_square_18 : decode cX8_square 18 = .ok (.bipush 10, 2) := by decide +kernel
theorem dX8_square_20 : decode cX8_square 20 = .ok (.bipush 25, 2) := by decide +kernel
theorem dX8_square_22 : decode cX8_square 22 = .ok (.invokestatic 96, 3) := by decide +kernel
theorem dX8_square_25 : decode cX8_square 25 = .ok (.ifCond .eq 30, 3) := by decide +kernel
theorem dX8_square_28 : decode cX8_square 28 = .ok (.iload_n 3, 1) := by decide +kernel
theorem dX8_square_29 : decode cX8_square 29 = .ok (.bipush 10, 2) := by decide +kernel
theorem dX8_square_31 : decode cX8_square 31 = .ok (.isub, 1) := by decide +kernel
theorem dX8_square_32 : decode cX8_square 32 = .ok (.aload_n 0, 1) := by decide +kernel
theorem dX8_square_33 : decode cX8_square 33 = .ok (.invokevirtual 119, 3) := by decide +kernel
theorem dX8_square_36 : decode cX8_square 36 = .ok (.if_icmp .ge 16, 3) := by decide +kernel
theorem dX8_square_39 : decode cX8_square 39 = .ok (.aload_n 0, 1) := by decide +kernel
theorem dX8_square_40 : decode cX8_square 40 = .ok (.iload 4, 2) := by decide +kernel
theorem dX8_square_42 : decode cX8_square 42 = .ok (.iload_n 3, 1) := by decide +kernel
theorem dX8_square_43 : decode cX8_square 43 = .ok (.bipush 10, 2) := by decide +kernel
theorem dX8_square_45 : decode cX8_square 45 = .ok (.isub, 1) := by decide +kernel
theorem dX8_square_46 : decode cX8_square 46 = .ok (.invokevirtual 123, 3) := by decide +kernel
theorem dX8_square_49 : decode cX8_square 49 = .ok (.goto 5, 3) := by decide +kernel
theorem dX8_square_52 : decode cX8_square 52 = .ok (.bipush (-9), 2) := by decide +kernel
theorem dX8_square_54 : decode cX8_square 54 = .ok (.ireturn, 1) := by decide +kernel
theorem dX8_square_55 : decode cX8_square 55 = .ok (.aload_n 0, 1) := by decide +kernel
theorem dX8_square_56 : decode cX8_square 56 = .ok (.invokevirtual 146, 3) := by decide +kernel
theorem dX8_square_59 : decode cX8_square 59 = .ok (.iconst 0, 1) := by decide +kernel
theorem dX8_square_60 : decode cX8_square 60 = .ok (.istore 5, 2) := by decide +kernel
theorem dX8_square_62 : decode cX8_square 62 = .ok (.iload_n 3, 1) := by decide +kernel
theorem dX8_square_63 : decode cX8_square 63 = .ok (.tableswitch 147 0 5 #[37, 45, 53, 68, 84, 92], 37) := by decide +kernel
theorem dX8_square_100 : decode cX8_square 100 = .ok (.aload_n 0, 1) := by decide +kernel
theorem dX8_square_101 : decode cX8_square 101 = .ok (.getfield 35, 3) := by decide +kernel
theorem dX8_square_104 : decode cX8_square 104 = .ok (.iload 4, 2) := by decide +kernel
theorem dX8_square_106 : decode cX8_square 106 = .ok (.iaload, 1) := by decide +kernel
theorem dX8_square_107 : decode cX8_square 107 = .ok (.ireturn, 1) := by decide +kernel
theorem dX8_square_108 : decode cX8_square 108 = .ok (.aload_n 0, 1) := by decide +kernel
theorem dX8_square_109 : decode cX8_square 109 = .ok (.getfield 38, 3) := by decide +kernel
theorem dX8_square_112 : decode cX8_square 112 = .ok (.iload 4, 2) := by decide +kernel
theorem dX8_square_114 : decode cX8_square 114 = .ok (.iaload, 1) := by decide +kernel
theorem dX8_square_115 : decode cX8_square 115 = .ok (.ireturn, 1) := by decide +kernel
theorem dX8_square_116 : decode cX8_square 116 = .ok (.aload_n 0, 1) := by decide +kernel
theorem dX8_square_117 : decode cX8_square 117 = .ok (.iload 4, 2) := by decide +kernel
theorem dX8_square_119 : decode cX8_square 119 = .ok (.invokevirtual 132, 3) := by decide +kernel
theorem dX8_square_122 : decode cX8_square 122 = .ok (.ifCond .eq 7, 3) := by decide +kernel
theorem dX8_square_125 : decode cX8_square 125 = .ok (.iconst 1, 1) := by decide +kernel
theorem dX8_square_126 : decode cX8_square 126 = .ok (.goto 4, 3) := by decide +kernel
theorem dX8_square_129 : decode cX8_square 129 = .ok (.iconst 0, 1) := by decide +kernel
theorem dX8_square_130 : decode cX8_square 130 = .ok (.ireturn, 1) := by decide +kernel
theorem dX8_square_131 : decode cX8_square 131 = .ok (.aload_n 0, 1) := by decide +kernel
theorem dX8_square_132 : decode cX8_square 132 = .ok (.getfield 44, 3) := by decide +kernel
theorem dX8_square_135 : decode cX8_square 135 = .ok (.iload 4, 2) := by decide +kernel
theorem dX8_square_137 : decode cX8_square 137 = .ok (.baload, 1) := by decide +kernel
theorem dX8_square_138 : decode cX8_square 138 = .ok (.ifCond .eq 7, 3) := by decide +kernel
theorem dX8_square_141 : decode cX8_square 141 = .ok (.iconst 1, 1) := by decide +kernel
theorem dX8_square_142 : decode cX8_square 142 = .ok (.goto 4, 3) := by decide +kernel
theorem dX8_square_145 : decode cX8_square 145 = .ok (.iconst 0, 1) := by decide +kernel
theorem dX8_square_146 : decode cX8_square 146 = .ok (.ireturn, 1) := by decide +kernel
theorem dX8_square_147 : decode cX8_square 147 = .ok (.aload_n 0, 1) := by decide +kernel
theorem dX8_square_148 : decode cX8_square 148 = .ok (.iload 4, 2) := by decide +kernel
theorem dX8_square_150 : decode cX8_square 150 = .ok (.iconst 1, 1) := by decide +kernel
theorem dX8_square_151 : decode cX8_square 151 = .ok (.invokevirtual 136, 3) := by decide +kernel
theorem dX8_square_154 : decode cX8_square 154 = .ok (.ireturn, 1) := by decide +kernel
theorem dX8_square_155 : decode cX8_square 155 = .ok (.iconst 0, 1) := by decide +kernel
theorem dX8_square_156 : decode cX8_square 156 = .ok (.istore 6, 2) := by decide +kernel
theorem dX8_square_158 : decode cX8_square 158 = .ok (.iload 6, 2) := by decide +kernel
theorem dX8_square_160 : decode cX8_square 160 = .ok (.aload_n 0, 1) := by decide +kernel
theorem dX8_square_161 : decode cX8_square 161 = .ok (.getfield 149, 3) := by decide +kernel
theorem dX8_square_164 : decode cX8_square 164 = .ok (.if_icmp .ge 43, 3) := by decide +kernel
theorem dX8_square_167 : decode cX8_square 167 = .ok (.iload 5, 2) := by decide +kernel
theorem dX8_square_169 : decode cX8_square 169 = .ok (.aload_n 0, 1) := by decide +kernel
theorem dX8_square_170 : decode cX8_square 170 = .ok (.getfield 48, 3) := by decide +kernel
theorem dX8_square_173 : decode cX8_square 173 = .ok (.iload 6, 2) := by decide +kernel
theorem dX8_square_175 : decode cX8_square 175 = .ok (.iaload, 1) := by decide +kernel
theorem dX8_square_176 : decode cX8_square 176 = .ok (.iload 4, 2) := by decide +kernel
theorem dX8_square_178 : decode cX8_square 178 = .ok (.if_icmp .eq 15, 3) := by decide +kernel
theorem dX8_square_181 : decode cX8_square 181 = .ok (.aload_n 0, 1) := by decide +kernel
theorem dX8_square_182 : decode cX8_square 182 = .ok (.getfield 51, 3) := by decide +kernel
theorem dX8_square_185 : decode cX8_square 185 = .ok (.iload 6, 2) := by decide +kernel
theorem dX8_square_187 : decode cX8_square 187 = .ok (.iaload, 1) := by decide +kernel
theorem dX8_square_188 : decode cX8_square 188 = .ok (.iload 4, 2) := by decide +kernel
theorem dX8_square_190 : decode cX8_square 190 = .ok (.if_icmp .ne 7, 3) := by decide +kernel
theorem dX8_square_193 : decode cX8_square 193 = .ok (.iconst 1, 1) := by decide +kernel
theorem dX8_square_194 : decode cX8_square 194 = .ok (.goto 4, 3) := by decide +kernel
theorem dX8_square_197 : decode cX8_square 197 = .ok (.iconst 0, 1) := by decide +kernel
theorem dX8_square_198 : decode cX8_square 198 = .ok (.iadd, 1) := by decide +kernel
theorem dX8_square_199 : decode cX8_square 199 = .ok (.istore 5, 2) := by decide +kernel
theorem dX8_square_201 : decode cX8_square 201 = .ok (.iinc 6 1, 3) := by decide +kernel
theorem dX8_square_204 : decode cX8_square 204 = .ok (.goto (-46), 3) := by decide +kernel
theorem dX8_square_207 : decode cX8_square 207 = .ok (.iload 5, 2) := by decide +kernel
theorem dX8_square_209 : decode cX8_square 209 = .ok (.ireturn, 1) := by decide +kernel
theorem dX8_square_210 : decode cX8_square 210 = .ok (.bipush (-2), 2) := by decide +kernel
theorem dX8_square_212 : decode cX8_square 212 = .ok (.ireturn, 1) := by decide +kernel
theorem dX8_inOrder_0 : decode cX8_inOrder 0 = .ok (.aload_n 0, 1) := by decide +kernel
theorem dX8_inOrder_1 : decode cX8_inOrder 1 = .ok (.invokevirtual 140, 3) := by decide +kernel
theorem dX8_inOrder_4 : decode cX8_inOrder 4 = .ok (.iconst 0, 1) := by decide +kernel
theorem dX8_inOrder_5 : decode cX8_inOrder 5 = .ok (.istore_n 2, 1) := by decide +kernel
theorem dX8_inOrder_6 : decode cX8_inOrder 6 = .ok (.iload_n 2, 1) := by decide +kernel
theorem dX8_inOrder_7 : decode cX8_inOrder 7 = .ok (.aload_n 0, 1) := by decide +kernel
theorem dX8_inOrder_8 : decode cX8_inOrder 8 = .ok (.getfield 126, 3) := by decide +kernel
theorem dX8_inOrder_11 : decode cX8_inOrder 11 = .ok (.if_icmp .ge 74, 3) := by decide +kernel
theorem dX8_inOrder_14 : decode cX8_inOrder 14 = .ok (.iconst 0, 1) := by decide +kernel
theorem dX8_inOrder_15 : decode cX8_inOrder 15 = .ok (.istore_n 3, 1) := by decide +kernel
theorem dX8_inOrder_16 : decode cX8_inOrder 16 = .ok (.iconst 0, 1) := by decide +kernel
theorem dX8_inOrder_17 : decode cX8_inOrder 17 = .ok (.istore 4, 2) := by decide +kernel
theorem dX8_inOrder_19 : decode cX8_inOrder 19 = .ok (.iload 4, 2) := by decide +kernel
theorem dX8_inOrder_21 : decode cX8_inOrder 21 = .ok (.aload_n 0, 1) := by decide +kernel
theorem dX8_inOrder_22 : decode cX8_inOrder 22 = .ok (.getfield 126, 3) := by decide +kernel
theorem dX8_inOrder_25 : decode cX8_inOrder 25 = .ok (.if_icmp .ge 42, 3) := by decide +kernel
theorem dX8_inOrder_28 : decode cX8_inOrder 28 = .ok (.aload_n 0, 1) := by decide +kernel
theorem dX8_inOrder_29 : decode cX8_inOrder 29 = .ok (.iload 4, 2) := by decide +kernel
theorem dX8_inOrder_31 : decode cX8_inOrder 31 = .ok (.iload_n 2, 1) := by decide +kernel
theorem dX8_inOrder_32 : decode cX8_inOrder 32 = .ok (.invokevirtual 129, 3) := by decide +kernel
theorem dX8_inOrder_35 : decode cX8_inOrder 35 = .ok (.istore 5, 2) := by decide +kernel
theorem dX8_inOrder_37 : decode cX8_inOrder 37 = .ok (.iload_n 3, 1) := by decide +kernel
theorem dX8_inOrder_38 : decode cX8_inOrder 38 = .ok (.iload 5, 2) := by decide +kernel
theorem dX8_inOrder_40 : decode cX8_inOrder 40 = .ok (.ifCond .lt 14, 3) := by decide +kernel
theorem dX8_inOrder_43 : decode cX8_inOrder 43 = .ok (.iload 5, 2) := by decide +kernel
theorem dX8_inOrder_45 : decode cX8_inOrder 45 = .ok (.ifCond .ne 13, 3) := by decide +kernel
theorem dX8_inOrder_48 : decode cX8_inOrder 48 = .ok (.iload 4, 2) := by decide +kernel
theorem dX8_inOrder_50 : decode cX8_inOrder 50 = .ok (.iload_n 2, 1) := by decide +kernel
theorem dX8_inOrder_51 : decode cX8_inOrder 51 = .ok (.if_icmp .ge 7, 3) := by decide +kernel
theorem dX8_inOrder_54 : decode cX8_inOrder 54 = .ok (.iconst 1, 1) := by decide +kernel
theorem dX8_inOrder_55 : decode cX8_inOrder 55 = .ok (.goto 4, 3) := by decide +kernel
theorem dX8_inOrder_58 : decode cX8_inOrder 58 = .ok (.iconst 0, 1) := by decide +kernel
theorem dX8_inOrder_59 : decode cX8_inOrder 59 = .ok (.iadd, 1) := by decide +kernel
theorem dX8_inOrder_60 : decode cX8_inOrder 60 = .ok (.istore_n 3, 1) := by decide +kernel
theorem dX8_inOrder_61 : decode cX8_inOrder 61 = .ok (.iinc 4 1, 3) := by decide +kernel
theorem dX8_inOrder_64 : decode cX8_inOrder 64 = .ok (.goto (-45), 3) := by decide +kernel
theorem dX8_inOrder_67 : decode cX8_inOrder 67 = .ok (.iload_n 3, 1) := by decide +kernel
theorem dX8_inOrder_68 : decode cX8_inOrder 68 = .ok (.iload_n 1, 1) := by decide +kernel
theorem dX8_inOrder_69 : decode cX8_inOrder 69 = .ok (.if_icmp .ne 10, 3) := by decide +kernel
theorem dX8_inOrder_72 : decode cX8_inOrder 72 = .ok (.aload_n 0, 1) := by decide +kernel
theorem dX8_inOrder_73 : decode cX8_inOrder 73 = .ok (.getfield 32, 3) := by decide +kernel
theorem dX8_inOrder_76 : decode cX8_inOrder 76 = .ok (.iload_n 2, 1) := by decide +kernel
theorem dX8_inOrder_77 : decode cX8_inOrder 77 = .ok (.iaload, 1) := by decide +kernel
theorem dX8_inOrder_78 : decode cX8_inOrder 78 = .ok (.ireturn, 1) := by decide +kernel
theorem dX8_inOrder_79 : decode cX8_inOrder 79 = .ok (.iinc 2 1, 3) := by decide +kernel
theorem dX8_inOrder_82 : decode cX8_inOrder 82 = .ok (.goto (-76), 3) := by decide +kernel
theorem dX8_inOrder_85 : decode cX8_inOrder 85 = .ok (.iconst (-1), 1) := by decide +kernel
theorem dX8_inOrder_86 : decode cX8_inOrder 86 = .ok (.ireturn, 1) := by decide +kernel
theorem dX8_across_0 : decode cX8_across 0 = .ok (.aload_n 0, 1) := by decide +kernel
theorem dX8_across_1 : decode cX8_across 1 = .ok (.getfield 32, 3) := by decide +kernel
theorem dX8_across_4 : decode cX8_across 4 = .ok (.iload_n 2, 1) := by decide +kernel
theorem dX8_across_5 : decode cX8_across 5 = .ok (.iaload, 1) := by decide +kernel
theorem dX8_across_6 : decode cX8_across 6 = .ok (.bipush 16, 2) := by decide +kernel
theorem dX8_across_8 : decode cX8_across 8 = .ok (.irem, 1) := by decide +kernel
theorem dX8_across_9 : decode cX8_across 9 = .ok (.aload_n 0, 1) := by decide +kernel
theorem dX8_across_10 : decode cX8_across 10 = .ok (.getfield 32, 3) := by decide +kernel
theorem dX8_across_13 : decode cX8_across 13 = .ok (.iload_n 1, 1) := by decide +kernel
theorem dX8_across_14 : decode cX8_across 14 = .ok (.iaload, 1) := by decide +kernel
theorem dX8_across_15 : decode cX8_across 15 = .ok (.bipush 16, 2) := by decide +kernel
theorem dX8_across_17 : decode cX8_across 17 = .ok (.irem, 1) := by decide +kernel
theorem dX8_across_18 : decode cX8_across 18 = .ok (.isub, 1) := by decide +kernel
theorem dX8_across_19 : decode cX8_across 19 = .ok (.ireturn, 1) := by decide +kernel
theorem dX8_down_0 : decode cX8_down 0 = .ok (.aload_n 0, 1) := by decide +kernel
theorem dX8_down_1 : decode cX8_down 1 = .ok (.getfield 32, 3) := by decide +kernel
theorem dX8_down_4 : decode cX8_down 4 = .ok (.iload_n 2, 1) := by decide +kernel
theorem dX8_down_5 : decode cX8_down 5 = .ok (.iaload, 1) := by decide +kernel
theorem dX8_down_6 : decode cX8_down 6 = .ok (.bipush 16, 2) := by decide +kernel
theorem dX8_down_8 : decode cX8_down 8 = .ok (.idiv, 1) := by decide +kernel
theorem dX8_down_9 : decode cX8_down 9 = .ok (.aload_n 0, 1) := by decide +kernel
theorem dX8_down_10 : decode cX8_down 10 = .ok (.getfield 32, 3) := by decide +kernel
theorem dX8_down_13 : decode cX8_down 13 = .ok (.iload_n 1, 1) := by decide +kernel
theorem dX8_down_14 : decode cX8_down 14 = .ok (.iaload, 1) := by decide +kernel
theorem dX8_down_15 : decode cX8_down 15 = .ok (.bipush 16, 2) := by decide +kernel
theorem dX8_down_17 : decode cX8_down 17 = .ok (.idiv, 1) := by decide +kernel
theorem dX8_down_18 : decode cX8_down 18 = .ok (.isub, 1) := by decide +kernel
theorem dX8_down_19 : decode cX8_down 19 = .ok (.ireturn, 1) := by decide +kernel
theorem dX8_isPair_0 : decode cX8_isPair 0 = .ok (.aload_n 0, 1) := by decide +kernel
theorem dX8_isPair_1 : decode cX8_isPair 1 = .ok (.getfield 41, 3) := by decide +kernel
theorem dX8_isPair_4 : decode cX8_isPair 4 = .ok (.iload_n 1, 1) := by decide +kernel
theorem dX8_isPair_5 : decode cX8_isPair 5 = .ok (.iaload, 1) := by decide +kernel
theorem dX8_isPair_6 : decode cX8_isPair 6 = .ok (.aload_n 0, 1) := by decide +kernel
theorem dX8_isPair_7 : decode cX8_isPair 7 = .ok (.getfield 41, 3) := by decide +kernel
theorem dX8_isPair_10 : decode cX8_isPair 10 = .ok (.iload_n 2, 1) := by decide +kernel
theorem dX8_isPair_11 : decode cX8_isPair 11 = .ok (.iaload, 1) := by decide +kernel
theorem dX8_isPair_12 : decode cX8_isPair 12 = .ok (.if_icmp .ne 37, 3) := by decide +kernel
theorem dX8_isPair_15 : decode cX8_isPair 15 = .ok (.aload_n 0, 1) := by decide +kernel
theorem dX8_isPair_16 : decode cX8_isPair 16 = .ok (.iload_n 1, 1) := by decide +kernel
theorem dX8_isPair_17 : decode cX8_isPair 17 = .ok (.invokevirtual 132, 3) := by decide +kernel
theorem dX8_isPair_20 : decode cX8_isPair 20 = .ok (.ifCond .ne 29, 3) := by decide +kernel
theorem dX8_isPair_23 : decode cX8_isPair 23 = .ok (.aload_n 0, 1) := by decide +kernel
theorem dX8_isPair_24 : decode cX8_isPair 24 = .ok (.iload_n 2, 1) := by decide +kernel
theorem dX8_isPair_25 : decode cX8_isPair 25 = .ok (.invokevirtual 132, 3) := by decide +kernel
theorem dX8_isPair_28 : decode cX8_isPair 28 = .ok (.ifCond .ne 21, 3) := by decide +kernel
theorem dX8_isPair_31 : decode cX8_isPair 31 = .ok (.aload_n 0, 1) := by decide +kernel
theorem dX8_isPair_32 : decode cX8_isPair 32 = .ok (.getfield 44, 3) := by decide +kernel
theorem dX8_isPair_35 : decode cX8_isPair 35 = .ok (.iload_n 1, 1) := by decide +kernel
theorem dX8_isPair_36 : decode cX8_isPair 36 = .ok (.baload, 1) := by decide +kernel
theorem dX8_isPair_37 : decode cX8_isPair 37 = .ok (.ifCond .ne 12, 3) := by decide +kernel
theorem dX8_isPair_40 : decode cX8_isPair 40 = .ok (.aload_n 0, 1) := by decide +kernel
theorem dX8_isPair_41 : decode cX8_isPair 41 = .ok (.getfield 44, 3) := by decide +kernel
theorem dX8_isPair_44 : decode cX8_isPair 44 = .ok (.iload_n 2, 1) := by decide +kernel
theorem dX8_isPair_45 : decode cX8_isPair 45 = .ok (.baload, 1) := by decide +kernel
theorem dX8_isPair_46 : decode cX8_isPair 46 = .ok (.ifCond .eq 5, 3) := by decide +kernel
theorem dX8_isPair_49 : decode cX8_isPair 49 = .ok (.iconst 0, 1) := by decide +kernel
theorem dX8_isPair_50 : decode cX8_isPair 50 = .ok (.ireturn, 1) := by decide +kernel
theorem dX8_isPair_51 : decode cX8_isPair 51 = .ok (.aload_n 0, 1) := by decide +kernel
theorem dX8_isPair_52 : decode cX8_isPair 52 = .ok (.iload_n 1, 1) := by decide +kernel
theorem dX8_isPair_53 : decode cX8_isPair 53 = .ok (.iload_n 2, 1) := by decide +kernel
theorem dX8_isPair_54 : decode cX8_isPair 54 = .ok (.invokevirtual 152, 3) := by decide +kernel
theorem dX8_isPair_57 : decode cX8_isPair 57 = .ok (.invokestatic 155, 3) := by decide +kernel
theorem dX8_isPair_60 : decode cX8_isPair 60 = .ok (.aload_n 0, 1) := by decide +kernel
theorem dX8_isPair_61 : decode cX8_isPair 61 = .ok (.getfield 20, 3) := by decide +kernel
theorem dX8_isPair_64 : decode cX8_isPair 64 = .ok (.iconst 4, 1) := by decide +kernel
theorem dX8_isPair_65 : decode cX8_isPair 65 = .ok (.iaload, 1) := by decide +kernel
theorem dX8_isPair_66 : decode cX8_isPair 66 = .ok (.if_icmp .ge 18, 3) := by decide +kernel
theorem dX8_isPair_69 : decode cX8_isPair 69 = .ok (.aload_n 0, 1) := by decide +kernel
theorem dX8_isPair_70 : decode cX8_isPair 70 = .ok (.iload_n 1, 1) := by decide +kernel
theorem dX8_isPair_71 : decode cX8_isPair 71 = .ok (.iload_n 2, 1) := by decide +kernel
theorem dX8_isPair_72 : decode cX8_isPair 72 = .ok (.invokevirtual 158, 3) := by decide +kernel
theorem dX8_isPair_75 : decode cX8_isPair 75 = .ok (.aload_n 0, 1) := by decide +kernel
theorem dX8_isPair_76 : decode cX8_isPair 76 = .ok (.getfield 20, 3) := by decide +kernel
theorem dX8_isPair_79 : decode cX8_isPair 79 = .ok (.iconst 4, 1) := by decide +kernel
theorem dX8_isPair_80 : decode cX8_isPair 80 = .ok (.iaload, 1) := by decide +kernel
theorem dX8_isPair_81 : decode cX8_isPair 81 = .ok (.if_icmp .lt 7, 3) := by decide +kernel
theorem dX8_isPair_84 : decode cX8_isPair 84 = .ok (.iconst 1, 1) := by decide +kernel
theorem dX8_isPair_85 : decode cX8_isPair 85 = .ok (.goto 4, 3) := by decide +kernel
theorem dX8_isPair_88 : decode cX8_isPair 88 = .ok (.iconst 0, 1) := by decide +kernel
theorem dX8_isPair_89 : decode cX8_isPair 89 = .ok (.ireturn, 1) := by decide +kernel
theorem dX8_voteAt_0 : decode cX8_voteAt 0 = .ok (.bipush 16, 2) := by decide +kernel
theorem dX8_voteAt_2 : decode cX8_voteAt 2 = .ok (.iload_n 0, 1) := by decide +kernel
theorem dX8_voteAt_3 : decode cX8_voteAt 3 = .ok (.bipush 15, 2) := by decide +kernel
theorem dX8_voteAt_5 : decode cX8_voteAt 5 = .ok (.iadd, 1) := by decide +kernel
theorem dX8_voteAt_6 : decode cX8_voteAt 6 = .ok (.imul, 1) := by decide +kernel
theorem dX8_voteAt_7 : decode cX8_voteAt 7 = .ok (.iload_n 1, 1) := by decide +kernel
theorem dX8_voteAt_8 : decode cX8_voteAt 8 = .ok (.iadd, 1) := by decide +kernel
theorem dX8_voteAt_9 : decode cX8_voteAt 9 = .ok (.ireturn, 1) := by decide +kernel
theorem dX8_findPairs_0 : decode cX8_findPairs 0 = .ok (.aload_n 0, 1) := by decide +kernel
theorem dX8_findPairs_1 : decode cX8_findPairs 1 = .ok (.getfield 93, 3) := by decide +kernel
theorem dX8_findPairs_4 : decode cX8_findPairs 4 = .ok (.iconst 1, 1) := by decide +kernel
theorem dX8_findPairs_5 : decode cX8_findPairs 5 = .ok (.if_icmp .le 4, 3) := by decide +kernel
theorem dX8_findPairs_8 : decode cX8_findPairs 8 = .ok (.return_, 1) := by decide +kernel
theorem dX8_findPairs_9 : decode cX8_findPairs 9 = .ok (.aload_n 0, 1) := by decide +kernel
theorem dX8_findPairs_10 : decode cX8_findPairs 10 = .ok (.invokevirtual 140, 3) := by decide +kernel
theorem dX8_findPairs_13 : decode cX8_findPairs 13 = .ok (.aload_n 0, 1) := by decide +kernel
theorem dX8_findPairs_14 : decode cX8_findPairs 14 = .ok (.iconst 2, 1) := by decide +kernel
theorem dX8_findPairs_15 : decode cX8_findPairs 15 = .ok (.putfield 93, 3) := by decide +kernel
theorem dX8_findPairs_18 : decode cX8_findPairs 18 = .ok (.aload_n 0, 1) := by decide +kernel
theorem dX8_findPairs_19 : decode cX8_findPairs 19 = .ok (.invokevirtual 161, 3) := by decide +kernel
theorem dX8_findPairs_22 : decode cX8_findPairs 22 = .ok (.aload_n 0, 1) := by decide +kernel
theorem dX8_findPairs_23 : decode cX8_findPairs 23 = .ok (.iconst 0, 1) := by decide +kernel
theorem dX8_findPairs_24 : decode cX8_findPairs 24 = .ok (.putfield 149, 3) := by decide +kernel
theorem dX8_findPairs_27 : decode cX8_findPairs 27 = .ok (.iconst 0, 1) := by decide +kernel
theorem dX8_findPairs_28 : decode cX8_findPairs 28 = .ok (.istore_n 1, 1) := by decide +kernel
theorem dX8_findPairs_29 : decode cX8_findPairs 29 = .ok (.iload_n 1, 1) := by decide +kernel
theorem dX8_findPairs_30 : decode cX8_findPairs 30 = .ok (.aload_n 0, 1) := by decide +kernel
theorem dX8_findPairs_31 : decode cX8_findPairs 31 = .ok (.getfield 54, 3) := by decide +kernel
theorem dX8_findPairs_34 : decode cX8_findPairs 34 = .ok (.arraylength, 1) := by decide +kernel
theorem dX8_findPairs_35 : decode cX8_findPairs 35 = .ok (.if_icmp .ge 16, 3) := by decide +kernel
theorem dX8_findPairs_38 : decode cX8_findPairs 38 = .ok (.aload_n 0, 1) := by decide +kernel
theorem dX8_findPairs_39 : decode cX8_findPairs 39 = .ok (.getfield 54, 3) := by decide +kernel
theorem dX8_findPairs_42 : decode cX8_findPairs 42 = .ok (.iload_n 1, 1) := by decide +kernel
theorem dX8_findPairs_43 : decode cX8_findPairs 43 = .ok (.iconst 0, 1) := by decide +kernel
theorem dX8_findPairs_44 : decode cX8_findPairs 44 = .ok (.iastore, 1) := by decide +kernel
theorem dX8_findPairs_45 : decode cX8_findPairs 45 = .ok (.iinc 1 1, 3) := by decide +kernel
theorem dX8_findPairs_48 : decode cX8_findPairs 48 = .ok (.goto (-19), 3) := by decide +kernel
theorem dX8_findPairs_51 : decode cX8_findPairs 51 = .ok (.iconst 0, 1) := by decide +kernel
theorem dX8_findPairs_52 : decode cX8_findPairs 52 = .ok (.istore_n 1, 1) := by decide +kernel
theorem dX8_findPairs_53 : decode cX8_findPairs 53 = .ok (.iload_n 1, 1) := by decide +kernel
theorem dX8_findPairs_54 : decode cX8_findPairs 54 = .ok (.aload_n 0, 1) := by decide +kernel
theorem dX8_findPairs_55 : decode cX8_findPairs 55 = .ok (.getfield 126, 3) := by decide +kernel
theorem dX8_findPairs_58 : decode cX8_findPairs 58 = .ok (.if_icmp .ge 90, 3) := by decide +kernel
theorem dX8_findPairs_61 : decode cX8_findPairs 61 = .ok (.iload_n 1, 1) := by decide +kernel
theorem dX8_findPairs_62 : decode cX8_findPairs 62 = .ok (.iconst 1, 1) := by decide +kernel
theorem dX8_findPairs_63 : decode cX8_findPairs 63 = .ok (.iadd, 1) := by decide +kernel
theorem dX8_findPairs_64 : decode cX8_findPairs 64 = .ok (.istore_n 2, 1) := by decide +kernel
theorem dX8_findPairs_65 : decode cX8_findPairs 65 = .ok (.iload_n 2, 1) := by decide +kernel
theorem dX8_findPairs_66 : decode cX8_findPairs 66 = .ok (.aload_n 0, 1) := by decide +kernel
theorem dX8_findPairs_67 : decode cX8_findPairs 67 = .ok (.getfield 126, 3) := by decide +kernel
theorem dX8_findPairs_70 : decode cX8_findPairs 70 = .ok (.if_icmp .ge 72, 3) := by decide +kernel
theorem dX8_findPairs_73 : decode cX8_findPairs 73 = .ok (.aload_n 0, 1) := by decide +kernel
theorem dX8_findPairs_74 : decode cX8_findPairs 74 = .ok (.iload_n 1, 1) := by decide +kernel
theorem dX8_findPairs_75 : decode cX8_findPairs 75 = .ok (.iload_n 2, 1) := by decide +kernel
theorem dX8_findPairs_76 : decode cX8_findPairs 76 = .ok (.invokevirtual 164, 3) := by decide +kernel
theorem dX8_findPairs_79 : decode cX8_findPairs 79 = .ok (.ifCond .eq 57, 3) := by decide +kernel
theorem dX8_findPairs_82 : decode cX8_findPairs 82 = .ok (.aload_n 0, 1) := by decide +kernel
theorem dX8_findPairs_83 : decode cX8_findPairs 83 = .ok (.getfield 48, 3) := by decide +kernel
theorem dX8_findPairs_86 : decode cX8_findPairs 86 = .ok (.aload_n 0, 1) := by decide +kernel
theorem dX8_findPairs_87 : decode cX8_findPairs 87 = .ok (.getfield 149, 3) := by decide +kernel
theorem dX8_findPairs_90 : decode cX8_findPairs 90 = .ok (.iload_n 1, 1) := by decide +kernel
theorem dX8_findPairs_91 : decode cX8_findPairs 91 = .ok (.iastore, 1) := by decide +kernel
theorem dX8_findPairs_92 : decode cX8_findPairs 92 = .ok (.aload_n 0, 1) := by decide +kernel
theorem dX8_findPairs_93 : decode cX8_findPairs 93 = .ok (.getfield 51, 3) := by decide +kernel
theorem dX8_findPairs_96 : decode cX8_findPairs 96 = .ok (.aload_n 0, 1) := by decide +kernel
theorem dX8_findPairs_97 : decode cX8_findPairs 97 = .ok (.getfield 149, 3) := by decide +kernel
theorem dX8_findPairs_100 : decode cX8_findPairs 100 = .ok (.iload_n 2, 1) := by decide +kernel
theorem dX8_findPairs_101 : decode cX8_findPairs 101 = .ok (.iastore, 1) := by decide +kernel
theorem dX8_findPairs_102 : decode cX8_findPairs 102 = .ok (.aload_n 0, 1) := by decide +kernel
theorem dX8_findPairs_103 : decode cX8_findPairs 103 = .ok (.dup, 1) := by decide +kernel
theorem dX8_findPairs_104 : decode cX8_findPairs 104 = .ok (.getfield 149, 3) := by decide +kernel
theorem dX8_findPairs_107 : decode cX8_findPairs 107 = .ok (.iconst 1, 1) := by decide +kernel
theorem dX8_findPairs_108 : decode cX8_findPairs 108 = .ok (.iadd, 1) := by decide +kernel
theorem dX8_findPairs_109 : decode cX8_findPairs 109 = .ok (.putfield 149, 3) := by decide +kernel
theorem dX8_findPairs_112 : decode cX8_findPairs 112 = .ok (.aload_n 0, 1) := by decide +kernel
theorem dX8_findPairs_113 : decode cX8_findPairs 113 = .ok (.getfield 54, 3) := by decide +kernel
theorem dX8_findPairs_116 : decode cX8_findPairs 116 = .ok (.aload_n 0, 1) := by decide +kernel
theorem dX8_findPairs_117 : decode cX8_findPairs 117 = .ok (.iload_n 1, 1) := by decide +kernel
theorem dX8_findPairs_118 : decode cX8_findPairs 118 = .ok (.iload_n 2, 1) := by decide +kernel
theorem dX8_findPairs_119 : decode cX8_findPairs 119 = .ok (.invokevirtual 152, 3) := by decide +kernel
theorem dX8_findPairs_122 : decode cX8_findPairs 122 = .ok (.aload_n 0, 1) := by decide +kernel
theorem dX8_findPairs_123 : decode cX8_findPairs 123 = .ok (.iload_n 1, 1) := by decide +kernel
theorem dX8_findPairs_124 : decode cX8_findPairs 124 = .ok (.iload_n 2, 1) := by decide +kernel
theorem dX8_findPairs_125 : decode cX8_findPairs 125 = .ok (.invokevirtual 158, 3) := by decide +kernel
theorem dX8_findPairs_128 : decode cX8_findPairs 128 = .ok (.invokestatic 167, 3) := by decide +kernel
theorem dX8_findPairs_131 : decode cX8_findPairs 131 = .ok (.dup2, 1) := by decide +kernel
theorem dX8_findPairs_132 : decode cX8_findPairs 132 = .ok (.iaload, 1) := by decide +kernel
theorem dX8_findPairs_133 : decode cX8_findPairs 133 = .ok (.iconst 1, 1) := by decide +kernel
theorem dX8_findPairs_134 : decode cX8_findPairs 134 = .ok (.iadd, 1) := by decide +kernel
theorem dX8_findPairs_135 : decode cX8_findPairs 135 = .ok (.iastore, 1) := by decide +kernel
theorem dX8_findPairs_136 : decode cX8_findPairs 136 = .ok (.iinc 2 1, 3) := by decide +kernel
theorem dX8_findPairs_139 : decode cX8_findPairs 139 = .ok (.goto (-74), 3) := by decide +kernel
theorem dX8_findPairs_142 : decode cX8_findPairs 142 = .ok (.iinc 1 1, 3) := by decide +kernel
theorem dX8_findPairs_145 : decode cX8_findPairs 145 = .ok (.goto (-92), 3) := by decide +kernel
theorem dX8_findPairs_148 : decode cX8_findPairs 148 = .ok (.return_, 1) := by decide +kernel
theorem dX8_isShift_0 : decode cX8_isShift 0 = .ok (.iconst 0, 1) := by decide +kernel
theorem dX8_isShift_1 : decode cX8_isShift 1 = .ok (.istore_n 3, 1) := by decide +kernel
theorem dX8_isShift_2 : decode cX8_isShift 2 = .ok (.iload_n 3, 1) := by decide +kernel
theorem dX8_isShift_3 : decode cX8_isShift 3 = .ok (.aload_n 0, 1) := by decide +kernel
theorem dX8_isShift_4 : decode cX8_isShift 4 = .ok (.getfield 170, 3) := by decide +kernel
theorem dX8_isShift_7 : decode cX8_isShift 7 = .ok (.if_icmp .ge 31, 3) := by decide +kernel
theorem dX8_isShift_10 : decode cX8_isShift 10 = .ok (.aload_n 0, 1) := by decide +kernel
theorem dX8_isShift_11 : decode cX8_isShift 11 = .ok (.getfield 57, 3) := by decide +kernel
theorem dX8_isShift_14 : decode cX8_isShift 14 = .ok (.iload_n 3, 1) := by decide +kernel
theorem dX8_isShift_15 : decode cX8_isShift 15 = .ok (.iaload, 1) := by decide +kernel
theorem dX8_isShift_16 : decode cX8_isShift 16 = .ok (.iload_n 1, 1) := by decide +kernel
theorem dX8_isShift_17 : decode cX8_isShift 17 = .ok (.if_icmp .ne 15, 3) := by decide +kernel
theorem dX8_isShift_20 : decode cX8_isShift 20 = .ok (.aload_n 0, 1) := by decide +kernel
theorem dX8_isShift_21 : decode cX8_isShift 21 = .ok (.getfield 60, 3) := by decide +kernel
theorem dX8_isShift_24 : decode cX8_isShift 24 = .ok (.iload_n 3, 1) := by decide +kernel
theorem dX8_isShift_25 : decode cX8_isShift 25 = .ok (.iaload, 1) := by decide +kernel
theorem dX8_isShift_26 : decode cX8_isShift 26 = .ok (.iload_n 2, 1) := by decide +kernel
theorem dX8_isShift_27 : decode cX8_isShift 27 = .ok (.if_icmp .ne 5, 3) := by decide +kernel
theorem dX8_isShift_30 : decode cX8_isShift 30 = .ok (.iconst 1, 1) := by decide +kernel
theorem dX8_isShift_31 : decode cX8_isShift 31 = .ok (.ireturn, 1) := by decide +kernel
theorem dX8_isShift_32 : decode cX8_isShift 32 = .ok (.iinc 3 1, 3) := by decide +kernel
theorem dX8_isShift_35 : decode cX8_isShift 35 = .ok (.goto (-33), 3) := by decide +kernel
theorem dX8_isShift_38 : decode cX8_isShift 38 = .ok (.iconst 0, 1) := by decide +kernel
theorem dX8_isShift_39 : decode cX8_isShift 39 = .ok (.ireturn, 1) := by decide +kernel
theorem dX8_isShiftAhead_0 : decode cX8_isShiftAhead 0 = .ok (.aload_n 0, 1) := by decide +kernel
theorem dX8_isShiftAhead_1 : decode cX8_isShiftAhead 1 = .ok (.getfield 54, 3) := by decide +kernel
theorem dX8_isShiftAhead_4 : decode cX8_isShiftAhead 4 = .ok (.iload_n 1, 1) := by decide +kernel
theorem dX8_isShiftAhead_5 : decode cX8_isShiftAhead 5 = .ok (.iload_n 2, 1) := by decide +kernel
theorem dX8_isShiftAhead_6 : decode cX8_isShiftAhead 6 = .ok (.invokestatic 167, 3) := by decide +kernel
theorem dX8_isShiftAhead_9 : decode cX8_isShiftAhead 9 = .ok (.iaload, 1) := by decide +kernel
theorem dX8_isShiftAhead_10 : decode cX8_isShiftAhead 10 = .ok (.aload_n 0, 1) := by decide +kernel
theorem dX8_isShiftAhead_11 : decode cX8_isShiftAhead 11 = .ok (.getfield 54, 3) := by decide +kernel
theorem dX8_isShiftAhead_14 : decode cX8_isShiftAhead 14 = .ok (.iload_n 3, 1) := by decide +kernel
theorem dX8_isShiftAhead_15 : decode cX8_isShiftAhead 15 = .ok (.iload 4, 2) := by decide +kernel
theorem dX8_isShiftAhead_17 : decode cX8_isShiftAhead 17 = .ok (.invokestatic 167, 3) := by decide +kernel
theorem dX8_isShiftAhead_20 : decode cX8_isShiftAhead 20 = .ok (.iaload, 1) := by decide +kernel
theorem dX8_isShiftAhead_21 : decode cX8_isShiftAhead 21 = .ok (.isub, 1) := by decide +kernel
theorem dX8_isShiftAhead_22 : decode cX8_isShiftAhead 22 = .ok (.istore 5, 2) := by decide +kernel
theorem dX8_isShiftAhead_24 : decode cX8_isShiftAhead 24 = .ok (.iload 5, 2) := by decide +kernel
theorem dX8_isShiftAhead_26 : decode cX8_isShiftAhead 26 = .ok (.ifCond .eq 14, 3) := by decide +kernel
theorem dX8_isShiftAhead_29 : decode cX8_isShiftAhead 29 = .ok (.iload 5, 2) := by decide +kernel
theorem dX8_isShiftAhead_31 : decode cX8_isShiftAhead 31 = .ok (.ifCond .le 7, 3) := by decide +kernel
theorem dX8_isShiftAhead_34 : decode cX8_isShiftAhead 34 = .ok (.iconst 1, 1) := by decide +kernel
theorem dX8_isShiftAhead_35 : decode cX8_isShiftAhead 35 = .ok (.goto 4, 3) := by decide +kernel
theorem dX8_isShiftAhead_38 : decode cX8_isShiftAhead 38 = .ok (.iconst 0, 1) := by decide +kernel
theorem dX8_isShiftAhead_39 : decode cX8_isShiftAhead 39 = .ok (.ireturn, 1) := by decide +kernel
theorem dX8_isShiftAhead_40 : decode cX8_isShiftAhead 40 = .ok (.iload_n 1, 1) := by decide +kernel
theorem dX8_isShiftAhead_41 : decode cX8_isShiftAhead 41 = .ok (.invokestatic 155, 3) := by decide +kernel
theorem dX8_isShiftAhead_44 : decode cX8_isShiftAhead 44 = .ok (.iload_n 2, 1) := by decide +kernel
theorem dX8_isShiftAhead_45 : decode cX8_isShiftAhead 45 = .ok (.iadd, 1) := by decide +kernel
theorem dX8_isShiftAhead_46 : decode cX8_isShiftAhead 46 = .ok (.iload_n 3, 1) := by decide +kernel
theorem dX8_isShiftAhead_47 : decode cX8_isShiftAhead 47 = .ok (.invokestatic 155, 3) := by decide +kernel
theorem dX8_isShiftAhead_50 : decode cX8_isShiftAhead 50 = .ok (.isub, 1) := by decide +kernel
theorem dX8_isShiftAhead_51 : decode cX8_isShiftAhead 51 = .ok (.iload 4, 2) := by decide +kernel
theorem dX8_isShiftAhead_53 : decode cX8_isShiftAhead 53 = .ok (.isub, 1) := by decide +kernel
theorem dX8_isShiftAhead_54 : decode cX8_isShiftAhead 54 = .ok (.istore 6, 2) := by decide +kernel
theorem dX8_isShiftAhead_56 : decode cX8_isShiftAhead 56 = .ok (.iload 6, 2) := by decide +kernel
theorem dX8_isShiftAhead_58 : decode cX8_isShiftAhead 58 = .ok (.ifCond .eq 16, 3) := by decide +kernel
theorem dX8_isShiftAhead_61 : decode cX8_isShiftAhead 61 = .ok (.iload 6, 2) := by decide +kernel
theorem dX8_isShiftAhead_63 : decode cX8_isShiftAhead 63 = .ok (.ifCond .ge 7, 3) := by decide +kernel
theorem dX8_isShiftAhead_66 : decode cX8_isShiftAhead 66 = .ok (.iconst 1, 1) := by decide +kernel
theorem dX8_isShiftAhead_67 : decode cX8_isShiftAhead 67 = .ok (.goto 37, 3) := by decide +kernel
theorem dX8_isShiftAhead_70 : decode cX8_isShiftAhead 70 = .ok (.iconst 0, 1) := by decide +kernel
theorem dX8_isShiftAhead_71 : decode cX8_isShiftAhead 71 = .ok (.goto 33, 3) := by decide +kernel
theorem dX8_isShiftAhead_74 : decode cX8_isShiftAhead 74 = .ok (.iload_n 2, 1) := by decide +kernel
theorem dX8_isShiftAhead_75 : decode cX8_isShiftAhead 75 = .ok (.iload 4, 2) := by decide +kernel
theorem dX8_isShiftAhead_77 : decode cX8_isShiftAhead 77 = .ok (.if_icmp .eq 17, 3) := by decide +kernel
theorem dX8_isShiftAhead_80 : decode cX8_isShiftAhead 80 = .ok (.iload_n 2, 1) := by decide +kernel
theorem dX8_isShiftAhead_81 : decode cX8_isShiftAhead 81 = .ok (.iload 4, 2) := by decide +kernel
theorem dX8_isShiftAhead_83 : decode cX8_isShiftAhead 83 = .ok (.if_icmp .ge 7, 3) := by decide +kernel
theorem dX8_isShiftAhead_86 : decode cX8_isShiftAhead 86 = .ok (.iconst 1, 1) := by decide +kernel
theorem dX8_isShiftAhead_87 : decode cX8_isShiftAhead 87 = .ok (.goto 17, 3) := by decide +kernel
theorem dX8_isShiftAhead_90 : decode cX8_isShiftAhead 90 = .ok (.iconst 0, 1) := by decide +kernel
theorem dX8_isShiftAhead_91 : decode cX8_isShiftAhead 91 = .ok (.goto 13, 3) := by decide +kernel
theorem dX8_isShiftAhead_94 : decode cX8_isShiftAhead 94 = .ok (.iload_n 1, 1) := by decide +kernel
theorem dX8_isShiftAhead_95 : decode cX8_isShiftAhead 95 = .ok (.iload_n 3, 1) := by decide +kernel
theorem dX8_isShiftAhead_96 : decode cX8_isShiftAhead 96 = .ok (.if_icmp .ge 7, 3) := by decide +kernel
theorem dX8_isShiftAhead_99 : decode cX8_isShiftAhead 99 = .ok (.iconst 1, 1) := by decide +kernel
theorem dX8_isShiftAhead_100 : decode cX8_isShiftAhead 100 = .ok (.goto 4, 3) := by decide +kernel
theorem dX8_isShiftAhead_103 : decode cX8_isShiftAhead 103 = .ok (.iconst 0, 1) := by decide +kernel
theorem dX8_isShiftAhead_104 : decode cX8_isShiftAhead 104 = .ok (.ireturn, 1) := by decide +kernel
theorem dX8_findShifts_0 : decode cX8_findShifts 0 = .ok (.aload_n 0, 1) := by decide +kernel
theorem dX8_findShifts_1 : decode cX8_findShifts 1 = .ok (.getfield 93, 3) := by decide +kernel
theorem dX8_findShifts_4 : decode cX8_findShifts 4 = .ok (.iconst 2, 1) := by decide +kernel
theorem dX8_findShifts_5 : decode cX8_findShifts 5 = .ok (.if_icmp .le 4, 3) := by decide +kernel
theorem dX8_findShifts_8 : decode cX8_findShifts 8 = .ok (.return_, 1) := by decide +kernel
theorem dX8_findShifts_9 : decode cX8_findShifts 9 = .ok (.aload_n 0, 1) := by decide +kernel
theorem dX8_findShifts_10 : decode cX8_findShifts 10 = .ok (.invokevirtual 146, 3) := by decide +kernel
theorem dX8_findShifts_13 : decode cX8_findShifts 13 = .ok (.aload_n 0, 1) := by decide +kernel
theorem dX8_findShifts_14 : decode cX8_findShifts 14 = .ok (.iconst 3, 1) := by decide +kernel
theorem dX8_findShifts_15 : decode cX8_findShifts 15 = .ok (.putfield 93, 3) := by decide +kernel
theorem dX8_findShifts_18 : decode cX8_findShifts 18 = .ok (.aload_n 0, 1) := by decide +kernel
theorem dX8_findShifts_19 : decode cX8_findShifts 19 = .ok (.iconst 0, 1) := by decide +kernel
theorem dX8_findShifts_20 : decode cX8_findShifts 20 = .ok (.putfield 170, 3) := by decide +kernel
theorem dX8_findShifts_23 : decode cX8_findShifts 23 = .ok (.iconst 1, 1) := by decide +kernel
theorem dX8_findShifts_24 : decode cX8_findShifts 24 = .ok (.istore_n 1, 1) := by decide +kernel
theorem dX8_findShifts_25 : decode cX8_findShifts 25 = .ok (.iload_n 1, 1) := by decide +kernel
theorem dX8_findShifts_26 : decode cX8_findShifts 26 = .ok (.ifCond .eq 158, 3) := by decide +kernel
theorem dX8_findShifts_29 : decode cX8_findShifts 29 = .ok (.aload_n 0, 1) := by decide +kernel
theorem dX8_findShifts_30 : decode cX8_findShifts 30 = .ok (.getfield 170, 3) := by decide +kernel
theorem dX8_findShifts_33 : decode cX8_findShifts 33 = .ok (.bipush 8, 2) := by decide +kernel
theorem dX8_findShifts_35 : decode cX8_findShifts 35 = .ok (.if_icmp .ge 149, 3) := by decide +kernel
theorem dX8_findShifts_38 : decode cX8_findShifts 38 = .ok (.iconst 0, 1) := by decide +kernel
theorem dX8_findShifts_39 : decode cX8_findShifts 39 = .ok (.istore_n 1, 1) := by decide +kernel
theorem dX8_findShifts_40 : decode cX8_findShifts 40 = .ok (.bipush (-15), 2) := by decide +kernel
theorem dX8_findShifts_42 : decode cX8_findShifts 42 = .ok (.istore_n 2, 1) := by decide +kernel
theorem dX8_findShifts_43 : decode cX8_findShifts 43 = .ok (.iload_n 2, 1) := by decide +kernel
theorem dX8_findShifts_44 : decode cX8_findShifts 44 = .ok (.bipush 15, 2) := by decide +kernel
theorem dX8_findShifts_46 : decode cX8_findShifts 46 = .ok (.if_icmp .gt 117, 3) := by decide +kernel
theorem dX8_findShifts_49 : decode cX8_findShifts 49 = .ok (.iconst 0, 1) := by decide +kernel
theorem dX8_findShifts_50 : decode cX8_findShifts 50 = .ok (.istore_n 3, 1) := by decide +kernel
theorem dX8_findShifts_51 : decode cX8_findShifts 51 = .ok (.iload_n 3, 1) := by decide +kernel
theorem dX8_findShifts_52 : decode cX8_findShifts 52 = .ok (.bipush 15, 2) := by decide +kernel
theorem dX8_findShifts_54 : decode cX8_findShifts 54 = .ok (.if_icmp .gt 103, 3) := by decide +kernel
theorem dX8_findShifts_57 : decode cX8_findShifts 57 = .ok (.aload_n 0, 1) := by decide +kernel
theorem dX8_findShifts_58 : decode cX8_findShifts 58 = .ok (.getfield 54, 3) := by decide +kernel
theorem dX8_findShifts_61 : decode cX8_findShifts 61 = .ok (.iload_n 2, 1) := by decide +kernel
theorem dX8_findShifts_62 : decode cX8_findShifts 62 = .ok (.iload_n 3, 1) := by decide +kernel
theorem dX8_findShifts_63 : decode cX8_findShifts 63 = .ok (.invokestatic 167, 3) := by decide +kernel
theorem dX8_findShifts_66 : decode cX8_findShifts 66 = .ok (.iaload, 1) := by decide +kernel
theorem dX8_findShifts_67 : decode cX8_findShifts 67 = .ok (.aload_n 0, 1) := by decide +kernel
theorem dX8_findShifts_68 : decode cX8_findShifts 68 = .ok (.getfield 20, 3) := by decide +kernel
theorem dX8_findShifts_71 : decode cX8_findShifts 71 = .ok (.bipush 6, 2) := by decide +kernel
theorem dX8_findShifts_73 : decode cX8_findShifts 73 = .ok (.iaload, 1) := by decide +kernel
theorem dX8_findShifts_74 : decode cX8_findShifts 74 = .ok (.if_icmp .lt 16, 3) := by decide +kernel
theorem dX8_findShifts_77 : decode cX8_findShifts 77 = .ok (.aload_n 0, 1) := by decide +kernel
theorem dX8_findShifts_78 : decode cX8_findShifts 78 = .ok (.iload_n 2, 1) := by decide +kernel
theorem dX8_findShifts_79 : decode cX8_findShifts 79 = .ok (.iload_n 3, 1) := by decide +kernel
theorem dX8_findShifts_80 : decode cX8_findShifts 80 = .ok (.invokevirtual 173, 3) := by decide +kernel
theorem dX8_findShifts_83 : decode cX8_findShifts 83 = .ok (.ifCond .ne 7, 3) := by decide +kernel
theorem dX8_findShifts_86 : decode cX8_findShifts 86 = .ok (.iconst 1, 1) := by decide +kernel
theorem dX8_findShifts_87 : decode cX8_findShifts 87 = .ok (.goto 4, 3) := by decide +kernel
theorem dX8_findShifts_90 : decode cX8_findShifts 90 = .ok (.iconst 0, 1) := by decide +kernel
theorem dX8_findShifts_91 : decode cX8_findShifts 91 = .ok (.istore 4, 2) := by decide +kernel
theorem dX8_findShifts_93 : decode cX8_findShifts 93 = .ok (.iload 4, 2) := by decide +kernel
theorem dX8_findShifts_95 : decode cX8_findShifts 95 = .ok (.ifCond .eq 56, 3) := by decide +kernel
theorem dX8_findShifts_98 : decode cX8_findShifts 98 = .ok (.iload_n 1, 1) := by decide +kernel
theorem dX8_findShifts_99 : decode cX8_findShifts 99 = .ok (.ifCond .eq 30, 3) := by decide +kernel
theorem dX8_findShifts_102 : decode cX8_findShifts 102 = .ok (.aload_n 0, 1) := by decide +kernel
theorem dX8_findShifts_103 : decode cX8_findShifts 103 = .ok (.iload_n 2, 1) := by decide +kernel
theorem dX8_findShifts_104 : decode cX8_findShifts 104 = .ok (.iload_n 3, 1) := by decide +kernel
theorem dX8_findShifts_105 : decode cX8_findShifts 105 = .ok (.aload_n 0, 1) := by decide +kernel
theorem dX8_findShifts_106 : decode cX8_findShifts 106 = .ok (.getfield 57, 3) := by decide +kernel
theorem dX8_findShifts_109 : decode cX8_findShifts 109 = .ok (.aload_n 0, 1) := by decide +kernel
theorem dX8_findShifts_110 : decode cX8_findShifts 110 = .ok (.getfield 170, 3) := by decide +kernel
theorem dX8_findShifts_113 : decode cX8_findShifts 113 = .ok (.iaload, 1) := by decide +kernel
theorem dX8_findShifts_114 : decode cX8_findShifts 114 = .ok (.aload_n 0, 1) := by decide +kernel
theorem dX8_findShifts_115 : decode cX8_findShifts 115 = .ok (.getfield 60, 3) := by decide +kernel
theorem dX8_findShifts_118 : decode cX8_findShifts 118 = .ok (.aload_n 0, 1) := by decide +kernel
theorem dX8_findShifts_119 : decode cX8_findShifts 119 = .ok (.getfield 170, 3) := by decide +kernel
theorem dX8_findShifts_122 : decode cX8_findShifts 122 = .ok (.iaload, 1) := by decide +kernel
theorem dX8_findShifts_123 : decode cX8_findShifts 123 = .ok (.invokevirtual 176, 3) := by decide +kernel
theorem dX8_findShifts_126 : decode cX8_findShifts 126 = .ok (.ifCond .eq 25, 3) := by decide +kernel
theorem dX8_findShifts_129 : decode cX8_findShifts 129 = .ok (.aload_n 0, 1) := by decide +kernel
theorem dX8_findShifts_130 : decode cX8_findShifts 130 = .ok (.getfield 57, 3) := by decide +kernel
theorem dX8_findShifts_133 : decode cX8_findShifts 133 = .ok (.aload_n 0, 1) := by decide +kernel
theorem dX8_findShifts_134 : decode cX8_findShifts 134 = .ok (.getfield 170, 3) := by decide +kernel
theorem dX8_findShifts_137 : decode cX8_findShifts 137 = .ok (.iload_n 2, 1) := by decide +kernel
theorem dX8_findShifts_138 : decode cX8_findShifts 138 = .ok (.iastore, 1) := by decide +kernel
theorem dX8_findShifts_139 : decode cX8_findShifts 139 = .ok (.aload_n 0, 1) := by decide +kernel
theorem dX8_findShifts_140 : decode cX8_findShifts 140 = .ok (.getfield 60, 3) := by decide +kernel
theorem dX8_findShifts_143 : decode cX8_findShifts 143 = .ok (.aload_n 0, 1) := by decide +kernel
theorem dX8_findShifts_144 : decode cX8_findShifts 144 = .ok (.getfield 170, 3) := by decide +kernel
theorem dX8_findShifts_147 : decode cX8_findShifts 147 = .ok (.iload_n 3, 1) := by decide +kernel
theorem dX8_findShifts_148 : decode cX8_findShifts 148 = .ok (.iastore, 1) := by decide +kernel
theorem dX8_findShifts_149 : decode cX8_findShifts 149 = .ok (.iconst 1, 1) := by decide +kernel
theorem dX8_findShifts_150 : decode cX8_findShifts 150 = .ok (.istore_n 1, 1) := by decide +kernel
theorem dX8_findShifts_151 : decode cX8_findShifts 151 = .ok (.iinc 3 1, 3) := by decide +kernel
theorem dX8_findShifts_154 : decode cX8_findShifts 154 = .ok (.goto (-103), 3) := by decide +kernel
theorem dX8_findShifts_157 : decode cX8_findShifts 157 = .ok (.iinc 2 1, 3) := by decide +kernel
theorem dX8_findShifts_160 : decode cX8_findShifts 160 = .ok (.goto (-117), 3) := by decide +kernel
theorem dX8_findShifts_163 : decode cX8_findShifts 163 = .ok (.aload_n 0, 1) := by decide +kernel
theorem dX8_findShifts_164 : decode cX8_findShifts 164 = .ok (.dup, 1) := by decide +kernel
theorem dX8_findShifts_165 : decode cX8_findShifts 165 = .ok (.getfield 170, 3) := by decide +kernel
theorem dX8_findShifts_168 : decode cX8_findShifts 168 = .ok (.iload_n 1, 1) := by decide +kernel
theorem dX8_findShifts_169 : decode cX8_findShifts 169 = .ok (.ifCond .eq 7, 3) := by decide +kernel
theorem dX8_findShifts_172 : decode cX8_findShifts 172 = .ok (.iconst 1, 1) := by decide +kernel
theorem dX8_findShifts_173 : decode cX8_findShifts 173 = .ok (.goto 4, 3) := by decide +kernel
theorem dX8_findShifts_176 : decode cX8_findShifts 176 = .ok (.iconst 0, 1) := by decide +kernel
theorem dX8_findShifts_177 : decode cX8_findShifts 177 = .ok (.iadd, 1) := by decide +kernel
theorem dX8_findShifts_178 : decode cX8_findShifts 178 = .ok (.putfield 170, 3) := by decide +kernel
theorem dX8_findShifts_181 : decode cX8_findShifts 181 = .ok (.goto (-156), 3) := by decide +kernel
theorem dX8_findShifts_184 : decode cX8_findShifts 184 = .ok (.return_, 1) := by decide +kernel
theorem dX8_pair_0 : decode cX8_pair 0 = .ok (.aload_n 0, 1) := by decide +kernel
theorem dX8_pair_1 : decode cX8_pair 1 = .ok (.invokevirtual 146, 3) := by decide +kernel
theorem dX8_pair_4 : decode cX8_pair 4 = .ok (.iload_n 1, 1) := by decide +kernel
theorem dX8_pair_5 : decode cX8_pair 5 = .ok (.iconst 0, 1) := by decide +kernel
theorem dX8_pair_6 : decode cX8_pair 6 = .ok (.aload_n 0, 1) := by decide +kernel
theorem dX8_pair_7 : decode cX8_pair 7 = .ok (.getfield 149, 3) := by decide +kernel
theorem dX8_pair_10 : decode cX8_pair 10 = .ok (.iconst 1, 1) := by decide +kernel
theorem dX8_pair_11 : decode cX8_pair 11 = .ok (.isub, 1) := by decide +kernel
theorem dX8_pair_12 : decode cX8_pair 12 = .ok (.invokestatic 96, 3) := by decide +kernel
theorem dX8_pair_15 : decode cX8_pair 15 = .ok (.ifCond .ne 5, 3) := by decide +kernel
theorem dX8_pair_18 : decode cX8_pair 18 = .ok (.iconst (-1), 1) := by decide +kernel
theorem dX8_pair_19 : decode cX8_pair 19 = .ok (.ireturn, 1) := by decide +kernel
theorem dX8_pair_20 : decode cX8_pair 20 = .ok (.iload_n 2, 1) := by decide +kernel
theorem dX8_pair_21 : decode cX8_pair 21 = .ok (.ifCond .ne 17, 3) := by decide +kernel
theorem dX8_pair_24 : decode cX8_pair 24 = .ok (.aload_n 0, 1) := by decide +kernel
theorem dX8_pair_25 : decode cX8_pair 25 = .ok (.getfield 32, 3) := by decide +kernel
theorem dX8_pair_28 : decode cX8_pair 28 = .ok (.aload_n 0, 1) := by decide +kernel
theorem dX8_pair_29 : decode cX8_pair 29 = .ok (.getfield 48, 3) := by decide +kernel
theorem dX8_pair_32 : decode cX8_pair 32 = .ok (.iload_n 1, 1) := by decide +kernel
theorem dX8_pair_33 : decode cX8_pair 33 = .ok (.iaload, 1) := by decide +kernel
theorem dX8_pair_34 : decode cX8_pair 34 = .ok (.iaload, 1) := by decide +kernel
theorem dX8_pair_35 : decode cX8_pair 35 = .ok (.goto 24, 3) := by decide +kernel
theorem dX8_pair_38 : decode cX8_pair 38 = .ok (.iload_n 2, 1) := by decide +kernel
theorem dX8_pair_39 : decode cX8_pair 39 = .ok (.iconst 1, 1) := by decide +kernel
theorem dX8_pair_40 : decode cX8_pair 40 = .ok (.if_icmp .ne 17, 3) := by decide +kernel
theorem dX8_pair_43 : decode cX8_pair 43 = .ok (.aload_n 0, 1) := by decide +kernel
theorem dX8_pair_44 : decode cX8_pair 44 = .ok (.getfield 32, 3) := by decide +kernel
theorem dX8_pair_47 : decode cX8_pair 47 = .ok (.aload_n 0, 1) := by decide +kernel
theorem dX8_pair_48 : decode cX8_pair 48 = .ok (.getfield 51, 3) := by decide +kernel
theorem dX8_pair_51 : decode cX8_pair 51 = .ok (.iload_n 1, 1) := by decide +kernel
theorem dX8_pair_52 : decode cX8_pair 52 = .ok (.iaload, 1) := by decide +kernel
theorem dX8_pair_53 : decode cX8_pair 53 = .ok (.iaload, 1) := by decide +kernel
theorem dX8_pair_54 : decode cX8_pair 54 = .ok (.goto 5, 3) := by decide +kernel
theorem dX8_pair_57 : decode cX8_pair 57 = .ok (.bipush (-2), 2) := by decide +kernel
theorem dX8_pair_59 : decode cX8_pair 59 = .ok (.ireturn, 1) := by decide +kernel
theorem dX8_votes_0 : decode cX8_votes 0 = .ok (.iload_n 1, 1) := by decide +kernel
theorem dX8_votes_1 : decode cX8_votes 1 = .ok (.bipush (-15), 2) := by decide +kernel
theorem dX8_votes_3 : decode cX8_votes 3 = .ok (.bipush 15, 2) := by decide +kernel
theorem dX8_votes_5 : decode cX8_votes 5 = .ok (.invokestatic 96, 3) := by decide +kernel
theorem dX8_votes_8 : decode cX8_votes 8 = .ok (.ifCond .eq 13, 3) := by decide +kernel
theorem dX8_votes_11 : decode cX8_votes 11 = .ok (.iload_n 2, 1) := by decide +kernel
theorem dX8_votes_12 : decode cX8_votes 12 = .ok (.iconst 0, 1) := by decide +kernel
theorem dX8_votes_13 : decode cX8_votes 13 = .ok (.bipush 15, 2) := by decide +kernel
theorem dX8_votes_15 : decode cX8_votes 15 = .ok (.invokestatic 96, 3) := by decide +kernel
theorem dX8_votes_18 : decode cX8_votes 18 = .ok (.ifCond .ne 6, 3) := by decide +kernel
theorem dX8_votes_21 : decode cX8_votes 21 = .ok (.bipush (-2), 2) := by decide +kernel
theorem dX8_votes_23 : decode cX8_votes 23 = .ok (.ireturn, 1) := by decide +kernel
theorem dX8_votes_24 : decode cX8_votes 24 = .ok (.aload_n 0, 1) := by decide +kernel
theorem dX8_votes_25 : decode cX8_votes 25 = .ok (.invokevirtual 146, 3) := by decide +kernel
theorem dX8_votes_28 : decode cX8_votes 28 = .ok (.aload_n 0, 1) := by decide +kernel
theorem dX8_votes_29 : decode cX8_votes 29 = .ok (.getfield 54, 3) := by decide +kernel
theorem dX8_votes_32 : decode cX8_votes 32 = .ok (.iload_n 1, 1) := by decide +kernel
theorem dX8_votes_33 : decode cX8_votes 33 = .ok (.iload_n 2, 1) := by decide +kernel
theorem dX8_votes_34 : decode cX8_votes 34 = .ok (.invokestatic 167, 3) := by decide +kernel
theorem dX8_votes_37 : decode cX8_votes 37 = .ok (.iaload, 1) := by decide +kernel
theorem dX8_votes_38 : decode cX8_votes 38 = .ok (.ireturn, 1) := by decide +kernel
theorem dX8_beside_0 : decode cX8_beside 0 = .ok (.iload_n 2, 1) := by decide +kernel
theorem dX8_beside_1 : decode cX8_beside 1 = .ok (.bipush 16, 2) := by decide +kernel
theorem dX8_beside_3 : decode cX8_beside 3 = .ok (.irem, 1) := by decide +kernel
theorem dX8_beside_4 : decode cX8_beside 4 = .ok (.iload_n 3, 1) := by decide +kernel
theorem dX8_beside_5 : decode cX8_beside 5 = .ok (.iadd, 1) := by decide +kernel
theorem dX8_beside_6 : decode cX8_beside 6 = .ok (.istore 5, 2) := by decide +kernel
theorem dX8_beside_8 : decode cX8_beside 8 = .ok (.iload_n 2, 1) := by decide +kernel
theorem dX8_beside_9 : decode cX8_beside 9 = .ok (.bipush 16, 2) := by decide +kernel
theorem dX8_beside_11 : decode cX8_beside 11 = .ok (.idiv, 1) := by decide +kernel
theorem dX8_beside_12 : decode cX8_beside 12 = .ok (.iload 4, 2) := by decide +kernel
theorem dX8_beside_14 : decode cX8_beside 14 = .ok (.iadd, 1) := by decide +kernel
theorem dX8_beside_15 : decode cX8_beside 15 = .ok (.istore 6, 2) := by decide +kernel
theorem dX8_beside_17 : decode cX8_beside 17 = .ok (.aload_n 0, 1) := by decide +kernel
theorem dX8_beside_18 : decode cX8_beside 18 = .ok (.iload 5, 2) := by decide +kernel
theorem dX8_beside_20 : decode cX8_beside 20 = .ok (.iload 6, 2) := by decide +kernel
theorem dX8_beside_22 : decode cX8_beside 22 = .ok (.invokevirtual 104, 3) := by decide +kernel
theorem dX8_beside_25 : decode cX8_beside 25 = .ok (.ifCond .eq 25, 3) := by decide +kernel
theorem dX8_beside_28 : decode cX8_beside 28 = .ok (.aload_n 0, 1) := by decide +kernel
theorem dX8_beside_29 : decode cX8_beside 29 = .ok (.getfield 63, 3) := by decide +kernel
theorem dX8_beside_32 : decode cX8_beside 32 = .ok (.sipush 256, 3) := by decide +kernel
theorem dX8_beside_35 : decode cX8_beside 35 = .ok (.iload_n 1, 1) := by decide +kernel
theorem dX8_beside_36 : decode cX8_beside 36 = .ok (.imul, 1) := by decide +kernel
theorem dX8_beside_37 : decode cX8_beside 37 = .ok (.bipush 16, 2) := by decide +kernel
theorem dX8_beside_39 : decode cX8_beside 39 = .ok (.iload 6, 2) := by decide +kernel
theorem dX8_beside_41 : decode cX8_beside 41 = .ok (.imul, 1) := by decide +kernel
theorem dX8_beside_42 : decode cX8_beside 42 = .ok (.iadd, 1) := by decide +kernel
theorem dX8_beside_43 : decode cX8_beside 43 = .ok (.iload 5, 2) := by decide +kernel
theorem dX8_beside_45 : decode cX8_beside 45 = .ok (.iadd, 1) := by decide +kernel
theorem dX8_beside_46 : decode cX8_beside 46 = .ok (.iaload, 1) := by decide +kernel
theorem dX8_beside_47 : decode cX8_beside 47 = .ok (.goto 5, 3) := by decide +kernel
theorem dX8_beside_50 : decode cX8_beside 50 = .ok (.bipush (-9), 2) := by decide +kernel
theorem dX8_beside_52 : decode cX8_beside 52 = .ok (.ireturn, 1) := by decide +kernel
theorem dX8_isBeside_0 : decode cX8_isBeside 0 = .ok (.aload_n 0, 1) := by decide +kernel
theorem dX8_isBeside_1 : decode cX8_isBeside 1 = .ok (.iload_n 1, 1) := by decide +kernel
theorem dX8_isBeside_2 : decode cX8_isBeside 2 = .ok (.iload_n 2, 1) := by decide +kernel
theorem dX8_isBeside_3 : decode cX8_isBeside 3 = .ok (.iconst (-1), 1) := by decide +kernel
theorem dX8_isBeside_4 : decode cX8_isBeside 4 = .ok (.iconst 0, 1) := by decide +kernel
theorem dX8_isBeside_5 : decode cX8_isBeside 5 = .ok (.invokevirtual 179, 3) := by decide +kernel
theorem dX8_isBeside_8 : decode cX8_isBeside 8 = .ok (.iload_n 3, 1) := by decide +kernel
theorem dX8_isBeside_9 : decode cX8_isBeside 9 = .ok (.if_icmp .eq 39, 3) := by decide +kernel
theorem dX8_isBeside_12 : decode cX8_isBeside 12 = .ok (.aload_n 0, 1) := by decide +kernel
theorem dX8_isBeside_13 : decode cX8_isBeside 13 = .ok (.iload_n 1, 1) := by decide +kernel
theorem dX8_isBeside_14 : decode cX8_isBeside 14 = .ok (.iload_n 2, 1) := by decide +kernel
theorem dX8_isBeside_15 : decode cX8_isBeside 15 = .ok (.iconst 1, 1) := by decide +kernel
theorem dX8_isBeside_16 : decode cX8_isBeside 16 = .ok (.iconst 0, 1) := by decide +kernel
theorem dX8_isBeside_17 : decode cX8_isBeside 17 = .ok (.invokevirtual 179, 3) := by decide +kernel
theorem dX8_isBeside_20 : decode cX8_isBeside 20 = .ok (.iload_n 3, 1) := by decide +kernel
theorem dX8_isBeside_21 : decode cX8_isBeside 21 = .ok (.if_icmp .eq 27, 3) := by decide +kernel
theorem dX8_isBeside_24 : decode cX8_isBeside 24 = .ok (.aload_n 0, 1) := by decide +kernel
theorem dX8_isBeside_25 : decode cX8_isBeside 25 = .ok (.iload_n 1, 1) := by decide +kernel
theorem dX8_isBeside_26 : decode cX8_isBeside 26 = .ok (.iload_n 2, 1) := by decide +kernel
theorem dX8_isBeside_27 : decode cX8_isBeside 27 = .ok (.iconst 0, 1) := by decide +kernel
theorem dX8_isBeside_28 : decode cX8_isBeside 28 = .ok (.iconst (-1), 1) := by decide +kernel
theorem dX8_isBeside_29 : decode cX8_isBeside 29 = .ok (.invokevirtual 179, 3) := by decide +kernel
theorem dX8_isBeside_32 : decode cX8_isBeside 32 = .ok (.iload_n 3, 1) := by decide +kernel
theorem dX8_isBeside_33 : decode cX8_isBeside 33 = .ok (.if_icmp .eq 15, 3) := by decide +kernel
theorem dX8_isBeside_36 : decode cX8_isBeside 36 = .ok (.aload_n 0, 1) := by decide +kernel
theorem dX8_isBeside_37 : decode cX8_isBeside 37 = .ok (.iload_n 1, 1) := by decide +kernel
theorem dX8_isBeside_38 : decode cX8_isBeside 38 = .ok (.iload_n 2, 1) := by decide +kernel
theorem dX8_isBeside_39 : decode cX8_isBeside 39 = .ok (.iconst 0, 1) := by decide +kernel
theorem dX8_isBeside_40 : decode cX8_isBeside 40 = .ok (.iconst 1, 1) := by decide +kernel
theorem dX8_isBeside_41 : decode cX8_isBeside 41 = .ok (.invokevirtual 179, 3) := by decide +kernel
theorem dX8_isBeside_44 : decode cX8_isBeside 44 = .ok (.iload_n 3, 1) := by decide +kernel
theorem dX8_isBeside_45 : decode cX8_isBeside 45 = .ok (.if_icmp .ne 7, 3) := by decide +kernel
theorem dX8_isBeside_48 : decode cX8_isBeside 48 = .ok (.iconst 1, 1) := by decide +kernel
theorem dX8_isBeside_49 : decode cX8_isBeside 49 = .ok (.goto 4, 3) := by decide +kernel
theorem dX8_isBeside_52 : decode cX8_isBeside 52 = .ok (.iconst 0, 1) := by decide +kernel
theorem dX8_isBeside_53 : decode cX8_isBeside 53 = .ok (.ireturn, 1) := by decide +kernel
theorem dX8_spreads_0 : decode cX8_spreads 0 = .ok (.iconst 1, 1) := by decide +kernel
theorem dX8_spreads_1 : decode cX8_spreads 1 = .ok (.istore_n 3, 1) := by decide +kernel
theorem dX8_spreads_2 : decode cX8_spreads 2 = .ok (.iload_n 3, 1) := by decide +kernel
theorem dX8_spreads_3 : decode cX8_spreads 3 = .ok (.ifCond .eq 79, 3) := by decide +kernel
theorem dX8_spreads_6 : decode cX8_spreads 6 = .ok (.iconst 0, 1) := by decide +kernel
theorem dX8_spreads_7 : decode cX8_spreads 7 = .ok (.istore_n 3, 1) := by decide +kernel
theorem dX8_spreads_8 : decode cX8_spreads 8 = .ok (.iconst 0, 1) := by decide +kernel
theorem dX8_spreads_9 : decode cX8_spreads 9 = .ok (.istore 4, 2) := by decide +kernel
theorem dX8_spreads_11 : decode cX8_spreads 11 = .ok (.iload 4, 2) := by decide +kernel
theorem dX8_spreads_13 : decode cX8_spreads 13 = .ok (.sipush 256, 3) := by decide +kernel
theorem dX8_spreads_16 : decode cX8_spreads 16 = .ok (.if_icmp .ge 63, 3) := by decide +kernel
theorem dX8_spreads_19 : decode cX8_spreads 19 = .ok (.aload_n 0, 1) := by decide +kernel
theorem dX8_spreads_20 : decode cX8_spreads 20 = .ok (.getfield 63, 3) := by decide +kernel
theorem dX8_spreads_23 : decode cX8_spreads 23 = .ok (.sipush 256, 3) := by decide +kernel
theorem dX8_spreads_26 : decode cX8_spreads 26 = .ok (.iload_n 1, 1) := by decide +kernel
theorem dX8_spreads_27 : decode cX8_spreads 27 = .ok (.imul, 1) := by decide +kernel
theorem dX8_spreads_28 : decode cX8_spreads 28 = .ok (.iload 4, 2) := by decide +kernel
theorem dX8_spreads_30 : decode cX8_spreads 30 = .ok (.iadd, 1) := by decide +kernel
theorem dX8_spreads_31 : decode cX8_spreads 31 = .ok (.iaload, 1) := by decide +kernel
theorem dX8_spreads_32 : decode cX8_spreads 32 = .ok (.iconst (-1), 1) := by decide +kernel
theorem dX8_spreads_33 : decode cX8_spreads 33 = .ok (.if_icmp .ne 40, 3) := by decide +kernel
theorem dX8_spreads_36 : decode cX8_spreads 36 = .ok (.aload_n 0, 1) := by decide +kernel
theorem dX8_spreads_37 : decode cX8_spreads 37 = .ok (.iload_n 1, 1) := by decide +kernel
theorem dX8_spreads_38 : decode cX8_spreads 38 = .ok (.iload 4, 2) := by decide +kernel
theorem dX8_spreads_40 : decode cX8_spreads 40 = .ok (.iload_n 2, 1) := by decide +kernel
theorem dX8_spreads_41 : decode cX8_spreads 41 = .ok (.invokevirtual 183, 3) := by decide +kernel
theorem dX8_spreads_44 : decode cX8_spreads 44 = .ok (.ifCond .eq 29, 3) := by decide +kernel
theorem dX8_spreads_47 : decode cX8_spreads 47 = .ok (.aload_n 0, 1) := by decide +kernel
theorem dX8_spreads_48 : decode cX8_spreads 48 = .ok (.getfield 63, 3) := by decide +kernel
theorem dX8_spreads_51 : decode cX8_spreads 51 = .ok (.sipush 256, 3) := by decide +kernel
theorem dX8_spreads_54 : decode cX8_spreads 54 = .ok (.iload_n 1, 1) := by decide +kernel
theorem dX8_spreads_55 : decode cX8_spreads 55 = .ok (.imul, 1) := by decide +kernel
theorem dX8_spreads_56 : decode cX8_spreads 56 = .ok (.iload 4, 2) := by decide +kernel
theorem dX8_spreads_58 : decode cX8_spreads 58 = .ok (.iadd, 1) := by decide +kernel
theorem dX8_spreads_59 : decode cX8_spreads 59 = .ok (.iload_n 2, 1) := by decide +kernel
theorem dX8_spreads_60 : decode cX8_spreads 60 = .ok (.iastore, 1) := by decide +kernel
theorem dX8_spreads_61 : decode cX8_spreads 61 = .ok (.aload_n 0, 1) := by decide +kernel
theorem dX8_spreads_62 : decode cX8_spreads 62 = .ok (.getfield 69, 3) := by decide +kernel
theorem dX8_spreads_65 : decode cX8_spreads 65 = .ok (.iload_n 2, 1) := by decide +kernel
theorem dX8_spreads_66 : decode cX8_spreads 66 = .ok (.dup2, 1) := by decide +kernel
theorem dX8_spreads_67 : decode cX8_spreads 67 = .ok (.iaload, 1) := by decide +kernel
theorem dX8_spreads_68 : decode cX8_spreads 68 = .ok (.iconst 1, 1) := by decide +kernel
theorem dX8_spreads_69 : decode cX8_spreads 69 = .ok (.iadd, 1) := by decide +kernel
theorem dX8_spreads_70 : decode cX8_spreads 70 = .ok (.iastore, 1) := by decide +kernel
theorem dX8_spreads_71 : decode cX8_spreads 71 = .ok (.iconst 1, 1) := by decide +kernel
theorem dX8_spreads_72 : decode cX8_spreads 72 = .ok (.istore_n 3, 1) := by decide +kernel
theorem dX8_spreads_73 : decode cX8_spreads 73 = .ok (.iinc 4 1, 3) := by decide +kernel
theorem dX8_spreads_76 : decode cX8_spreads 76 = .ok (.goto (-65), 3) := by decide +kernel
theorem dX8_spreads_79 : decode cX8_spreads 79 = .ok (.goto (-77), 3) := by decide +kernel
theorem dX8_spreads_82 : decode cX8_spreads 82 = .ok (.return_, 1) := by decide +kernel
theorem dX8_findRegions_0 : decode cX8_findRegions 0 = .ok (.aload_n 0, 1) := by decide +kernel
theorem dX8_findRegions_1 : decode cX8_findRegions 1 = .ok (.getfield 93, 3) := by decide +kernel
theorem dX8_findRegions_4 : decode cX8_findRegions 4 = .ok (.iconst 3, 1) := by decide +kernel
theorem dX8_findRegions_5 : decode cX8_findRegions 5 = .ok (.if_icmp .le 4, 3) := by decide +kernel
theorem dX8_findRegions_8 : decode cX8_findRegions 8 = .ok (.return_, 1) := by decide +kernel
theorem dX8_findRegions_9 : decode cX8_findRegions 9 = .ok (.aload_n 0, 1) := by decide +kernel
theorem dX8_findRegions_10 : decode cX8_findRegions 10 = .ok (.invokevirtual 186, 3) := by decide +kernel
theorem dX8_findRegions_13 : decode cX8_findRegions 13 = .ok (.aload_n 0, 1) := by decide +kernel
theorem dX8_findRegions_14 : decode cX8_findRegions 14 = .ok (.iconst 4, 1) := by decide +kernel
theorem dX8_findRegions_15 : decode cX8_findRegions 15 = .ok (.putfield 93, 3) := by decide +kernel
theorem dX8_findRegions_18 : decode cX8_findRegions 18 = .ok (.aload_n 0, 1) := by decide +kernel
theorem dX8_findRegions_19 : decode cX8_findRegions 19 = .ok (.iconst 0, 1) := by decide +kernel
theorem dX8_findRegions_20 : decode cX8_findRegions 20 = .ok (.putfield 189, 3) := by decide +kernel
theorem dX8_findRegions_23 : decode cX8_findRegions 23 = .ok (.iconst 0, 1) := by decide +kernel
theorem dX8_findRegions_24 : decode cX8_findRegions 24 = .ok (.istore_n 1, 1) := by decide +kernel
theorem dX8_findRegions_25 : decode cX8_findRegions 25 = .ok (.iload_n 1, 1) := by decide +kernel
theorem dX8_findRegions_26 : decode cX8_findRegions 26 = .ok (.aload_n 0, 1) := by decide +kernel
theorem dX8_findRegions_27 : decode cX8_findRegions 27 = .ok (.getfield 63, 3) := by decide +kernel
theorem dX8_findRegions_30 : decode cX8_findRegions 30 = .ok (.arraylength, 1) := by decide +kernel
theorem dX8_findRegions_31 : decode cX8_findRegions 31 = .ok (.if_icmp .ge 17, 3) := by decide +kernel
theorem dX8_findRegions_34 : decode cX8_findRegions 34 = .ok (.aload_n 0, 1) := by decide +kernel
theorem dX8_findRegions_35 : decode cX8_findRegions 35 = .ok (.getfield 63, 3) := by decide +kernel
theorem dX8_findRegions_38 : decode cX8_findRegions 38 = .ok (.iload_n 1, 1) := by decide +kernel
theorem dX8_findRegions_39 : decode cX8_findRegions 39 = .ok (.bipush (-9), 2) := by decide +kernel
theorem dX8_findRegions_41 : decode cX8_findRegions 41 = .ok (.iastore, 1) := by decide +kernel
theorem dX8_findRegions_42 : decode cX8_findRegions 42 = .ok (.iinc 1 1, 3) := by decide +kernel
theorem dX8_findRegions_45 : decode cX8_findRegions 45 = .ok (.goto (-20), 3) := by decide +kernel
theorem dX8_findRegions_48 : decode cX8_findRegions 48 = .ok (.iconst 0, 1) := by decide +kernel
theorem dX8_findRegions_49 : decode cX8_findRegions 49 = .ok (.istore_n 1, 1) := by decide +kernel
theorem dX8_findRegions_50 : decode cX8_findRegions 50 = .ok (.iload_n 1, 1) := by decide +kernel
theorem dX8_findRegions_51 : decode cX8_findRegions 51 = .ok (.aload_n 0, 1) := by decide +kernel
theorem dX8_findRegions_52 : decode cX8_findRegions 52 = .ok (.getfield 149, 3) := by decide +kernel
theorem dX8_findRegions_55 : decode cX8_findRegions 55 = .ok (.if_icmp .ge 133, 3) := by decide +kernel
theorem dX8_findRegions_58 : decode cX8_findRegions 58 = .ok (.iconst 0, 1) := by decide +kernel
theorem dX8_findRegions_59 : decode cX8_findRegions 59 = .ok (.istore_n 2, 1) := by decide +kernel
theorem dX8_findRegions_60 : decode cX8_findRegions 60 = .ok (.iload_n 2, 1) := by decide +kernel
theorem dX8_findRegions_61 : decode cX8_findRegions 61 = .ok (.aload_n 0, 1) := by decide +kernel
theorem dX8_findRegions_62 : decode cX8_findRegions 62 = .ok (.getfield 170, 3) := by decide +kernel
theorem dX8_findRegions_65 : decode cX8_findRegions 65 = .ok (.if_icmp .ge 117, 3) := by decide +kernel
theorem dX8_findRegions_68 : decode cX8_findRegions 68 = .ok (.aload_n 0, 1) := by decide +kernel
theorem dX8_findRegions_69 : decode cX8_findRegions 69 = .ok (.aload_n 0, 1) := by decide +kernel
theorem dX8_findRegions_70 : decode cX8_findRegions 70 = .ok (.getfield 48, 3) := by decide +kernel
theorem dX8_findRegions_73 : decode cX8_findRegions 73 = .ok (.iload_n 1, 1) := by decide +kernel
theorem dX8_findRegions_74 : decode cX8_findRegions 74 = .ok (.iaload, 1) := by decide +kernel
theorem dX8_findRegions_75 : decode cX8_findRegions 75 = .ok (.aload_n 0, 1) := by decide +kernel
theorem dX8_findRegions_76 : decode cX8_findRegions 76 = .ok (.getfield 51, 3) := by decide +kernel
theorem dX8_findRegions_79 : decode cX8_findRegions 79 = .ok (.iload_n 1, 1) := by decide +kernel
theorem dX8_findRegions_80 : decode cX8_findRegions 80 = .ok (.iaload, 1) := by decide +kernel
theorem dX8_findRegions_81 : decode cX8_findRegions 81 = .ok (.invokevirtual 152, 3) := by decide +kernel
theorem dX8_findRegions_84 : decode cX8_findRegions 84 = .ok (.aload_n 0, 1) := by decide +kernel
theorem dX8_findRegions_85 : decode cX8_findRegions 85 = .ok (.getfield 57, 3) := by decide +kernel
theorem dX8_findRegions_88 : decode cX8_findRegions 88 = .ok (.iload_n 2, 1) := by decide +kernel
theorem dX8_findRegions_89 : decode cX8_findRegions 89 = .ok (.iaload, 1) := by decide +kernel
theorem dX8_findRegions_90 : decode cX8_findRegions 90 = .ok (.if_icmp .ne 32, 3) := by decide +kernel
theorem dX8_findRegions_93 : decode cX8_findRegions 93 = .ok (.aload_n 0, 1) := by decide +kernel
theorem dX8_findRegions_94 : decode cX8_findRegions 94 = .ok (.aload_n 0, 1) := by decide +kernel
theorem dX8_findRegions_95 : decode cX8_findRegions 95 = .ok (.getfield 48, 3) := by decide +kernel
theorem dX8_findRegions_98 : decode cX8_findRegions 98 = .ok (.iload_n 1, 1) := by decide +kernel
theorem dX8_findRegions_99 : decode cX8_findRegions 99 = .ok (.iaload, 1) := by decide +kernel
theorem dX8_findRegions_100 : decode cX8_findRegions 100 = .ok (.aload_n 0, 1) := by decide +kernel
theorem dX8_findRegions_101 : decode cX8_findRegions 101 = .ok (.getfield 51, 3) := by decide +kernel
theorem dX8_findRegions_104 : decode cX8_findRegions 104 = .ok (.iload_n 1, 1) := by decide +kernel
theorem dX8_findRegions_105 : decode cX8_findRegions 105 = .ok (.iaload, 1) := by decide +kernel
theorem dX8_findRegions_106 : decode cX8_findRegions 106 = .ok (.invokevirtual 158, 3) := by decide +kernel
theorem dX8_findRegions_109 : decode cX8_findRegions 109 = .ok (.aload_n 0, 1) := by decide +kernel
theorem dX8_findRegions_110 : decode cX8_findRegions 110 = .ok (.getfield 60, 3) := by decide +kernel
theorem dX8_findRegions_113 : decode cX8_findRegions 113 = .ok (.iload_n 2, 1) := by decide +kernel
theorem dX8_findRegions_114 : decode cX8_findRegions 114 = .ok (.iaload, 1) := by decide +kernel
theorem dX8_findRegions_115 : decode cX8_findRegions 115 = .ok (.if_icmp .ne 7, 3) := by decide +kernel
theorem dX8_findRegions_118 : decode cX8_findRegions 118 = .ok (.iconst 1, 1) := by decide +kernel
theorem dX8_findRegions_119 : decode cX8_findRegions 119 = .ok (.goto 4, 3) := by decide +kernel
theorem dX8_findRegions_122 : decode cX8_findRegions 122 = .ok (.iconst 0, 1) := by decide +kernel
theorem dX8_findRegions_123 : decode cX8_findRegions 123 = .ok (.istore_n 3, 1) := by decide +kernel
theorem dX8_findRegions_124 : decode cX8_findRegions 124 = .ok (.aload_n 0, 1) := by decide +kernel
theorem dX8_findRegions_125 : decode cX8_findRegions 125 = .ok (.getfield 63, 3) := by decide +kernel
theorem dX8_findRegions_128 : decode cX8_findRegions 128 = .ok (.sipush 256, 3) := by decide +kernel
theorem dX8_findRegions_131 : decode cX8_findRegions 131 = .ok (.iload_n 2, 1) := by decide +kernel
theorem dX8_findRegions_132 : decode cX8_findRegions 132 = .ok (.imul, 1) := by decide +kernel
theorem dX8_findRegions_133 : decode cX8_findRegions 133 = .ok (.aload_n 0, 1) := by decide +kernel
theorem dX8_findRegions_134 : decode cX8_findRegions 134 = .ok (.getfield 32, 3) := by decide +kernel
theorem dX8_findRegions_137 : decode cX8_findRegions 137 = .ok (.aload_n 0, 1) := by decide +kernel
theorem dX8_findRegions_138 : decode cX8_findRegions 138 = .ok (.getfield 48, 3) := by decide +kernel
theorem dX8_findRegions_141 : decode cX8_findRegions 141 = .ok (.iload_n 1, 1) := by decide +kernel
theorem dX8_findRegions_142 : decode cX8_findRegions 142 = .ok (.iaload, 1) := by decide +kernel
theorem dX8_findRegions_143 : decode cX8_findRegions 143 = .ok (.iaload, 1) := by decide +kernel
theorem dX8_findRegions_144 : decode cX8_findRegions 144 = .ok (.iadd, 1) := by decide +kernel
theorem dX8_findRegions_145 : decode cX8_findRegions 145 = .ok (.iload_n 3, 1) := by decide +kernel
theorem dX8_findRegions_146 : decode cX8_findRegions 146 = .ok (.ifCond .eq 7, 3) := by decide +kernel
theorem dX8_findRegions_149 : decode cX8_findRegions 149 = .ok (.iconst (-1), 1) := by decide +kernel
theorem dX8_findRegions_150 : decode cX8_findRegions 150 = .ok (.goto 25, 3) := by decide +kernel
theorem dX8_findRegions_153 : decode cX8_findRegions 153 = .ok (.aload_n 0, 1) := by decide +kernel
theorem dX8_findRegions_154 : decode cX8_findRegions 154 = .ok (.getfield 63, 3) := by decide +kernel
theorem dX8_findRegions_157 : decode cX8_findRegions 157 = .ok (.sipush 256, 3) := by decide +kernel
theorem dX8_findRegions_160 : decode cX8_findRegions 160 = .ok (.iload_n 2, 1) := by decide +kernel
theorem dX8_findRegions_161 : decode cX8_findRegions 161 = .ok (.imul, 1) := by decide +kernel
theorem dX8_findRegions_162 : decode cX8_findRegions 162 = .ok (.aload_n 0, 1) := by decide +kernel
theorem dX8_findRegions_163 : decode cX8_findRegions 163 = .ok (.getfield 32, 3) := by decide +kernel
theorem dX8_findRegions_166 : decode cX8_findRegions 166 = .ok (.aload_n 0, 1) := by decide +kernel
theorem dX8_findRegions_167 : decode cX8_findRegions 167 = .ok (.getfield 48, 3) := by decide +kernel
theorem dX8_findRegions_170 : decode cX8_findRegions 170 = .ok (.iload_n 1, 1) := by decide +kernel
theorem dX8_findRegions_171 : decode cX8_findRegions 171 = .ok (.iaload, 1) := by decide +kernel
theorem dX8_findRegions_172 : decode cX8_findRegions 172 = .ok (.iaload, 1) := by decide +kernel
theorem dX8_findRegions_173 : decode cX8_findRegions 173 = .ok (.iadd, 1) := by decide +kernel
theorem dX8_findRegions_174 : decode cX8_findRegions 174 = .ok (.iaload, 1) := by decide +kernel
theorem dX8_findRegions_175 : decode cX8_findRegions 175 = .ok (.iastore, 1) := by decide +kernel
theorem dX8_findRegions_176 : decode cX8_findRegions 176 = .ok (.iinc 2 1, 3) := by decide +kernel
theorem dX8_findRegions_179 : decode cX8_findRegions 179 = .ok (.goto (-119), 3) := by decide +kernel
theorem dX8_findRegions_182 : decode cX8_findRegions 182 = .ok (.iinc 1 1, 3) := by decide +kernel
theorem dX8_findRegions_185 : decode cX8_findRegions 185 = .ok (.goto (-135), 3) := by decide +kernel
theorem dX8_findRegions_188 : decode cX8_findRegions 188 = .ok (.iconst 0, 1) := by decide +kernel
theorem dX8_findRegions_189 : decode cX8_findRegions 189 = .ok (.istore_n 1, 1) := by decide +kernel
theorem dX8_findRegions_190 : decode cX8_findRegions 190 = .ok (.iload_n 1, 1) := by decide +kernel
theorem dX8_findRegions_191 : decode cX8_findRegions 191 = .ok (.aload_n 0, 1) := by decide +kernel
theorem dX8_findRegions_192 : decode cX8_findRegions 192 = .ok (.getfield 170, 3) := by decide +kernel
theorem dX8_findRegions_195 : decode cX8_findRegions 195 = .ok (.if_icmp .ge 105, 3) := by decide +kernel
theorem dX8_findRegions_198 : decode cX8_findRegions 198 = .ok (.iconst 0, 1) := by decide +kernel
theorem dX8_findRegions_199 : decode cX8_findRegions 199 = .ok (.istore_n 2, 1) := by decide +kernel
theorem dX8_findRegions_200 : decode cX8_findRegions 200 = .ok (.iload_n 2, 1) := by decide +kernel
theorem dX8_findRegions_201 : decode cX8_findRegions 201 = .ok (.sipush 256, 3) := by decide +kernel
theorem dX8_findRegions_204 : decode cX8_findRegions 204 = .ok (.if_icmp .ge 90, 3) := by decide +kernel
theorem dX8_findRegions_207 : decode cX8_findRegions 207 = .ok (.aload_n 0, 1) := by decide +kernel
theorem dX8_findRegions_208 : decode cX8_findRegions 208 = .ok (.getfield 63, 3) := by decide +kernel
theorem dX8_findRegions_211 : decode cX8_findRegions 211 = .ok (.sipush 256, 3) := by decide +kernel
theorem dX8_findRegions_214 : decode cX8_findRegions 214 = .ok (.iload_n 1, 1) := by decide +kernel
theorem dX8_findRegions_215 : decode cX8_findRegions 215 = .ok (.imul, 1) := by decide +kernel
theorem dX8_findRegions_216 : decode cX8_findRegions 216 = .ok (.iload_n 2, 1) := by decide +kernel
theorem dX8_findRegions_217 : decode cX8_findRegions 217 = .ok (.iadd, 1) := by decide +kernel
theorem dX8_findRegions_218 : decode cX8_findRegions 218 = .ok (.iaload, 1) := by decide +kernel
theorem dX8_findRegions_219 : decode cX8_findRegions 219 = .ok (.iconst (-1), 1) := by decide +kernel
