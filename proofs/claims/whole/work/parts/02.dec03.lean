theorem dX7_raise_123 : decode cX7_raise 123 = .ok (.goto (-54), 3) := by decide +kernel
theorem dX7_raise_126 : decode cX7_raise 126 = .ok (.iinc 7 1, 3) := by decide +kernel
theorem dX7_raise_129 : decode cX7_raise 129 = .ok (.goto (-72), 3) := by decide +kernel
theorem dX7_raise_132 : decode cX7_raise 132 = .ok (.iload 6, 2) := by decide +kernel
theorem dX7_raise_134 : decode cX7_raise 134 = .ok (.ireturn, 1) := by decide +kernel
theorem dX7_paste_0 : decode cX7_paste 0 = .ok (.aload_n 0, 1) := by decide +kernel
theorem dX7_paste_1 : decode cX7_paste 1 = .ok (.getfield 12, 3) := by decide +kernel
theorem dX7_paste_4 : decode cX7_paste 4 = .ok (.iload_n 1, 1) := by decide +kernel
theorem dX7_paste_5 : decode cX7_paste 5 = .ok (.iload_n 2, 1) := by decide +kernel
theorem dX7_paste_6 : decode cX7_paste 6 = .ok (.invokevirtual 39, 3) := by decide +kernel
theorem dX7_paste_9 : decode cX7_paste 9 = .ok (.ifCond .eq 17, 3) := by decide +kernel
theorem dX7_paste_12 : decode cX7_paste 12 = .ok (.aload_n 0, 1) := by decide +kernel
theorem dX7_paste_13 : decode cX7_paste 13 = .ok (.getfield 12, 3) := by decide +kernel
theorem dX7_paste_16 : decode cX7_paste 16 = .ok (.iload 5, 2) := by decide +kernel
theorem dX7_paste_18 : decode cX7_paste 18 = .ok (.iload 6, 2) := by decide +kernel
theorem dX7_paste_20 : decode cX7_paste 20 = .ok (.invokevirtual 39, 3) := by decide +kernel
theorem dX7_paste_23 : decode cX7_paste 23 = .ok (.ifCond .ne 5, 3) := by decide +kernel
theorem dX7_paste_26 : decode cX7_paste 26 = .ok (.iconst (-1), 1) := by decide +kernel
theorem dX7_paste_27 : decode cX7_paste 27 = .ok (.ireturn, 1) := by decide +kernel
theorem dX7_paste_28 : decode cX7_paste 28 = .ok (.aload_n 0, 1) := by decide +kernel
theorem dX7_paste_29 : decode cX7_paste 29 = .ok (.getfield 12, 3) := by decide +kernel
theorem dX7_paste_32 : decode cX7_paste 32 = .ok (.iload_n 1, 1) := by decide +kernel
theorem dX7_paste_33 : decode cX7_paste 33 = .ok (.iload_n 2, 1) := by decide +kernel
theorem dX7_paste_34 : decode cX7_paste 34 = .ok (.iload_n 3, 1) := by decide +kernel
theorem dX7_paste_35 : decode cX7_paste 35 = .ok (.iload 4, 2) := by decide +kernel
theorem dX7_paste_37 : decode cX7_paste 37 = .ok (.invokevirtual 50, 3) := by decide +kernel
theorem dX7_paste_40 : decode cX7_paste 40 = .ok (.ifCond .eq 20, 3) := by decide +kernel
theorem dX7_paste_43 : decode cX7_paste 43 = .ok (.aload_n 0, 1) := by decide +kernel
theorem dX7_paste_44 : decode cX7_paste 44 = .ok (.getfield 12, 3) := by decide +kernel
theorem dX7_paste_47 : decode cX7_paste 47 = .ok (.iload 5, 2) := by decide +kernel
theorem dX7_paste_49 : decode cX7_paste 49 = .ok (.iload 6, 2) := by decide +kernel
theorem dX7_paste_51 : decode cX7_paste 51 = .ok (.iload_n 3, 1) := by decide +kernel
theorem dX7_paste_52 : decode cX7_paste 52 = .ok (.iload 4, 2) := by decide +kernel
theorem dX7_paste_54 : decode cX7_paste 54 = .ok (.invokevirtual 50, 3) := by decide +kernel
theorem dX7_paste_57 : decode cX7_paste 57 = .ok (.ifCond .ne 6, 3) := by decide +kernel
theorem dX7_paste_60 : decode cX7_paste 60 = .ok (.bipush (-2), 2) := by decide +kernel
theorem dX7_paste_62 : decode cX7_paste 62 = .ok (.ireturn, 1) := by decide +kernel
theorem dX7_paste_63 : decode cX7_paste 63 = .ok (.aload_n 0, 1) := by decide +kernel
theorem dX7_paste_64 : decode cX7_paste 64 = .ok (.getfield 21, 3) := by decide +kernel
theorem dX7_paste_67 : decode cX7_paste 67 = .ok (.invokevirtual 32, 3) := by decide +kernel
theorem dX7_paste_70 : decode cX7_paste 70 = .ok (.aload_n 0, 1) := by decide +kernel
theorem dX7_paste_71 : decode cX7_paste 71 = .ok (.getfield 12, 3) := by decide +kernel
theorem dX7_paste_74 : decode cX7_paste 74 = .ok (.invokevirtual 62, 3) := by decide +kernel
theorem dX7_paste_77 : decode cX7_paste 77 = .ok (.iconst 0, 1) := by decide +kernel
theorem dX7_paste_78 : decode cX7_paste 78 = .ok (.istore 7, 2) := by decide +kernel
theorem dX7_paste_80 : decode cX7_paste 80 = .ok (.iconst 0, 1) := by decide +kernel
theorem dX7_paste_81 : decode cX7_paste 81 = .ok (.istore 8, 2) := by decide +kernel
theorem dX7_paste_83 : decode cX7_paste 83 = .ok (.iload 8, 2) := by decide +kernel
theorem dX7_paste_85 : decode cX7_paste 85 = .ok (.iload 4, 2) := by decide +kernel
theorem dX7_paste_87 : decode cX7_paste 87 = .ok (.if_icmp .ge 61, 3) := by decide +kernel
theorem dX7_paste_90 : decode cX7_paste 90 = .ok (.iconst 0, 1) := by decide +kernel
theorem dX7_paste_91 : decode cX7_paste 91 = .ok (.istore 9, 2) := by decide +kernel
theorem dX7_paste_93 : decode cX7_paste 93 = .ok (.iload 9, 2) := by decide +kernel
theorem dX7_paste_95 : decode cX7_paste 95 = .ok (.iload_n 3, 1) := by decide +kernel
theorem dX7_paste_96 : decode cX7_paste 96 = .ok (.if_icmp .ge 46, 3) := by decide +kernel
theorem dX7_paste_99 : decode cX7_paste 99 = .ok (.iload 7, 2) := by decide +kernel
theorem dX7_paste_101 : decode cX7_paste 101 = .ok (.aload_n 0, 1) := by decide +kernel
theorem dX7_paste_102 : decode cX7_paste 102 = .ok (.getfield 12, 3) := by decide +kernel
theorem dX7_paste_105 : decode cX7_paste 105 = .ok (.iload 5, 2) := by decide +kernel
theorem dX7_paste_107 : decode cX7_paste 107 = .ok (.iload 9, 2) := by decide +kernel
theorem dX7_paste_109 : decode cX7_paste 109 = .ok (.iadd, 1) := by decide +kernel
theorem dX7_paste_110 : decode cX7_paste 110 = .ok (.iload 6, 2) := by decide +kernel
theorem dX7_paste_112 : decode cX7_paste 112 = .ok (.iload 8, 2) := by decide +kernel
theorem dX7_paste_114 : decode cX7_paste 114 = .ok (.iadd, 1) := by decide +kernel
theorem dX7_paste_115 : decode cX7_paste 115 = .ok (.aload_n 0, 1) := by decide +kernel
theorem dX7_paste_116 : decode cX7_paste 116 = .ok (.getfield 12, 3) := by decide +kernel
theorem dX7_paste_119 : decode cX7_paste 119 = .ok (.iload_n 1, 1) := by decide +kernel
theorem dX7_paste_120 : decode cX7_paste 120 = .ok (.iload 9, 2) := by decide +kernel
theorem dX7_paste_122 : decode cX7_paste 122 = .ok (.iadd, 1) := by decide +kernel
theorem dX7_paste_123 : decode cX7_paste 123 = .ok (.iload_n 2, 1) := by decide +kernel
theorem dX7_paste_124 : decode cX7_paste 124 = .ok (.iload 8, 2) := by decide +kernel
theorem dX7_paste_126 : decode cX7_paste 126 = .ok (.iadd, 1) := by decide +kernel
theorem dX7_paste_127 : decode cX7_paste 127 = .ok (.invokevirtual 65, 3) := by decide +kernel
theorem dX7_paste_130 : decode cX7_paste 130 = .ok (.invokevirtual 46, 3) := by decide +kernel
theorem dX7_paste_133 : decode cX7_paste 133 = .ok (.iadd, 1) := by decide +kernel
theorem dX7_paste_134 : decode cX7_paste 134 = .ok (.istore 7, 2) := by decide +kernel
theorem dX7_paste_136 : decode cX7_paste 136 = .ok (.iinc 9 1, 3) := by decide +kernel
theorem dX7_paste_139 : decode cX7_paste 139 = .ok (.goto (-46), 3) := by decide +kernel
theorem dX7_paste_142 : decode cX7_paste 142 = .ok (.iinc 8 1, 3) := by decide +kernel
theorem dX7_paste_145 : decode cX7_paste 145 = .ok (.goto (-62), 3) := by decide +kernel
theorem dX7_paste_148 : decode cX7_paste 148 = .ok (.iload 7, 2) := by decide +kernel
theorem dX7_paste_150 : decode cX7_paste 150 = .ok (.ireturn, 1) := by decide +kernel
theorem dX7_tune_0 : decode cX7_tune 0 = .ok (.iload_n 1, 1) := by decide +kernel
theorem dX7_tune_1 : decode cX7_tune 1 = .ok (.iload_n 2, 1) := by decide +kernel
theorem dX7_tune_2 : decode cX7_tune 2 = .ok (.invokestatic 68, 3) := by decide +kernel
theorem dX7_tune_5 : decode cX7_tune 5 = .ok (.ifCond .ne 6, 3) := by decide +kernel
theorem dX7_tune_8 : decode cX7_tune 8 = .ok (.bipush (-2), 2) := by decide +kernel
theorem dX7_tune_10 : decode cX7_tune 10 = .ok (.ireturn, 1) := by decide +kernel
theorem dX7_tune_11 : decode cX7_tune 11 = .ok (.aload_n 0, 1) := by decide +kernel
theorem dX7_tune_12 : decode cX7_tune 12 = .ok (.getfield 21, 3) := by decide +kernel
theorem dX7_tune_15 : decode cX7_tune 15 = .ok (.getfield 71, 3) := by decide +kernel
theorem dX7_tune_18 : decode cX7_tune 18 = .ok (.iload_n 1, 1) := by decide +kernel
theorem dX7_tune_19 : decode cX7_tune 19 = .ok (.iaload, 1) := by decide +kernel
theorem dX7_tune_20 : decode cX7_tune 20 = .ok (.istore_n 3, 1) := by decide +kernel
theorem dX7_tune_21 : decode cX7_tune 21 = .ok (.aload_n 0, 1) := by decide +kernel
theorem dX7_tune_22 : decode cX7_tune 22 = .ok (.getfield 21, 3) := by decide +kernel
theorem dX7_tune_25 : decode cX7_tune 25 = .ok (.getfield 71, 3) := by decide +kernel
theorem dX7_tune_28 : decode cX7_tune 28 = .ok (.iload_n 1, 1) := by decide +kernel
theorem dX7_tune_29 : decode cX7_tune 29 = .ok (.iload_n 2, 1) := by decide +kernel
theorem dX7_tune_30 : decode cX7_tune 30 = .ok (.iastore, 1) := by decide +kernel
theorem dX7_tune_31 : decode cX7_tune 31 = .ok (.aload_n 0, 1) := by decide +kernel
theorem dX7_tune_32 : decode cX7_tune 32 = .ok (.getfield 21, 3) := by decide +kernel
theorem dX7_tune_35 : decode cX7_tune 35 = .ok (.invokevirtual 32, 3) := by decide +kernel
theorem dX7_tune_38 : decode cX7_tune 38 = .ok (.iload_n 3, 1) := by decide +kernel
theorem dX7_tune_39 : decode cX7_tune 39 = .ok (.ireturn, 1) := by decide +kernel
theorem dX7_mark_0 : decode cX7_mark 0 = .ok (.aload_n 0, 1) := by decide +kernel
theorem dX7_mark_1 : decode cX7_mark 1 = .ok (.getfield 21, 3) := by decide +kernel
theorem dX7_mark_4 : decode cX7_mark 4 = .ok (.iconst 1, 1) := by decide +kernel
theorem dX7_mark_5 : decode cX7_mark 5 = .ok (.invokevirtual 75, 3) := by decide +kernel
theorem dX7_mark_8 : decode cX7_mark 8 = .ok (.aload_n 0, 1) := by decide +kernel
theorem dX7_mark_9 : decode cX7_mark 9 = .ok (.getfield 21, 3) := by decide +kernel
theorem dX7_mark_12 : decode cX7_mark 12 = .ok (.getfield 79, 3) := by decide +kernel
theorem dX7_mark_15 : decode cX7_mark 15 = .ok (.iload_n 1, 1) := by decide +kernel
theorem dX7_mark_16 : decode cX7_mark 16 = .ok (.iload_n 2, 1) := by decide +kernel
theorem dX7_mark_17 : decode cX7_mark 17 = .ok (.invokevirtual 83, 3) := by decide +kernel
theorem dX7_mark_20 : decode cX7_mark 20 = .ok (.ifCond .eq 22, 3) := by decide +kernel
theorem dX7_mark_23 : decode cX7_mark 23 = .ok (.aload_n 0, 1) := by decide +kernel
theorem dX7_mark_24 : decode cX7_mark 24 = .ok (.getfield 21, 3) := by decide +kernel
theorem dX7_mark_27 : decode cX7_mark 27 = .ok (.getfield 79, 3) := by decide +kernel
theorem dX7_mark_30 : decode cX7_mark 30 = .ok (.bipush 16, 2) := by decide +kernel
theorem dX7_mark_32 : decode cX7_mark 32 = .ok (.iload_n 2, 1) := by decide +kernel
theorem dX7_mark_33 : decode cX7_mark 33 = .ok (.imul, 1) := by decide +kernel
theorem dX7_mark_34 : decode cX7_mark 34 = .ok (.iload_n 1, 1) := by decide +kernel
theorem dX7_mark_35 : decode cX7_mark 35 = .ok (.iadd, 1) := by decide +kernel
theorem dX7_mark_36 : decode cX7_mark 36 = .ok (.invokevirtual 86, 3) := by decide +kernel
theorem dX7_mark_39 : decode cX7_mark 39 = .ok (.goto 4, 3) := by decide +kernel
theorem dX7_mark_42 : decode cX7_mark 42 = .ok (.iconst 0, 1) := by decide +kernel
theorem dX7_mark_43 : decode cX7_mark 43 = .ok (.ireturn, 1) := by decide +kernel
theorem dX7_square_0 : decode cX7_square 0 = .ok (.aload_n 0, 1) := by decide +kernel
theorem dX7_square_1 : decode cX7_square 1 = .ok (.getfield 21, 3) := by decide +kernel
theorem dX7_square_4 : decode cX7_square 4 = .ok (.iconst 1, 1) := by decide +kernel
theorem dX7_square_5 : decode cX7_square 5 = .ok (.invokevirtual 75, 3) := by decide +kernel
theorem dX7_square_8 : decode cX7_square 8 = .ok (.aload_n 0, 1) := by decide +kernel
theorem dX7_square_9 : decode cX7_square 9 = .ok (.getfield 21, 3) := by decide +kernel
theorem dX7_square_12 : decode cX7_square 12 = .ok (.getfield 79, 3) := by decide +kernel
theorem dX7_square_15 : decode cX7_square 15 = .ok (.iload_n 1, 1) := by decide +kernel
theorem dX7_square_16 : decode cX7_square 16 = .ok (.iload_n 2, 1) := by decide +kernel
theorem dX7_square_17 : decode cX7_square 17 = .ok (.invokevirtual 83, 3) := by decide +kernel
theorem dX7_square_20 : decode cX7_square 20 = .ok (.ifCond .ne 5, 3) := by decide +kernel
theorem dX7_square_23 : decode cX7_square 23 = .ok (.iconst (-1), 1) := by decide +kernel
theorem dX7_square_24 : decode cX7_square 24 = .ok (.ireturn, 1) := by decide +kernel
theorem dX7_square_25 : decode cX7_square 25 = .ok (.bipush 16, 2) := by decide +kernel
theorem dX7_square_27 : decode cX7_square 27 = .ok (.iload_n 2, 1) := by decide +kernel
theorem dX7_square_28 : decode cX7_square 28 = .ok (.imul, 1) := by decide +kernel
theorem dX7_square_29 : decode cX7_square 29 = .ok (.iload_n 1, 1) := by decide +kernel
theorem dX7_square_30 : decode cX7_square 30 = .ok (.iadd, 1) := by decide +kernel
theorem dX7_square_31 : decode cX7_square 31 = .ok (.istore 4, 2) := by decide +kernel
theorem dX7_square_33 : decode cX7_square 33 = .ok (.iload_n 3, 1) := by decide +kernel
theorem dX7_square_34 : decode cX7_square 34 = .ok (.bipush 10, 2) := by decide +kernel
theorem dX7_square_36 : decode cX7_square 36 = .ok (.bipush 25, 2) := by decide +kernel
theorem dX7_square_38 : decode cX7_square 38 = .ok (.invokestatic 28, 3) := by decide +kernel
theorem dX7_square_41 : decode cX7_square 41 = .ok (.ifCond .eq 20, 3) := by decide +kernel
theorem dX7_square_44 : decode cX7_square 44 = .ok (.aload_n 0, 1) := by decide +kernel
theorem dX7_square_45 : decode cX7_square 45 = .ok (.getfield 21, 3) := by decide +kernel
theorem dX7_square_48 : decode cX7_square 48 = .ok (.getfield 79, 3) := by decide +kernel
theorem dX7_square_51 : decode cX7_square 51 = .ok (.iload 4, 2) := by decide +kernel
theorem dX7_square_53 : decode cX7_square 53 = .ok (.iload_n 3, 1) := by decide +kernel
theorem dX7_square_54 : decode cX7_square 54 = .ok (.bipush 10, 2) := by decide +kernel
theorem dX7_square_56 : decode cX7_square 56 = .ok (.isub, 1) := by decide +kernel
theorem dX7_square_57 : decode cX7_square 57 = .ok (.invokevirtual 90, 3) := by decide +kernel
theorem dX7_square_60 : decode cX7_square 60 = .ok (.ireturn, 1) := by decide +kernel
theorem dX7_square_61 : decode cX7_square 61 = .ok (.iload_n 3, 1) := by decide +kernel
theorem dX7_square_62 : decode cX7_square 62 = .ok (.tableswitch 162 0 5 #[38, 52, 66, 89, 112, 140], 38) := by decide +kernel
theorem dX7_square_100 : decode cX7_square 100 = .ok (.aload_n 0, 1) := by decide +kernel
theorem dX7_square_101 : decode cX7_square 101 = .ok (.getfield 21, 3) := by decide +kernel
theorem dX7_square_104 : decode cX7_square 104 = .ok (.getfield 79, 3) := by decide +kernel
theorem dX7_square_107 : decode cX7_square 107 = .ok (.getfield 93, 3) := by decide +kernel
theorem dX7_square_110 : decode cX7_square 110 = .ok (.iload 4, 2) := by decide +kernel
theorem dX7_square_112 : decode cX7_square 112 = .ok (.iaload, 1) := by decide +kernel
theorem dX7_square_113 : decode cX7_square 113 = .ok (.ireturn, 1) := by decide +kernel
theorem dX7_square_114 : decode cX7_square 114 = .ok (.aload_n 0, 1) := by decide +kernel
theorem dX7_square_115 : decode cX7_square 115 = .ok (.getfield 21, 3) := by decide +kernel
theorem dX7_square_118 : decode cX7_square 118 = .ok (.getfield 79, 3) := by decide +kernel
theorem dX7_square_121 : decode cX7_square 121 = .ok (.getfield 96, 3) := by decide +kernel
theorem dX7_square_124 : decode cX7_square 124 = .ok (.iload 4, 2) := by decide +kernel
theorem dX7_square_126 : decode cX7_square 126 = .ok (.iaload, 1) := by decide +kernel
theorem dX7_square_127 : decode cX7_square 127 = .ok (.ireturn, 1) := by decide +kernel
theorem dX7_square_128 : decode cX7_square 128 = .ok (.aload_n 0, 1) := by decide +kernel
theorem dX7_square_129 : decode cX7_square 129 = .ok (.getfield 21, 3) := by decide +kernel
theorem dX7_square_132 : decode cX7_square 132 = .ok (.getfield 79, 3) := by decide +kernel
theorem dX7_square_135 : decode cX7_square 135 = .ok (.getfield 99, 3) := by decide +kernel
theorem dX7_square_138 : decode cX7_square 138 = .ok (.iload 4, 2) := by decide +kernel
theorem dX7_square_140 : decode cX7_square 140 = .ok (.iaload, 1) := by decide +kernel
theorem dX7_square_141 : decode cX7_square 141 = .ok (.iconst 1, 1) := by decide +kernel
theorem dX7_square_142 : decode cX7_square 142 = .ok (.if_icmp .ne 7, 3) := by decide +kernel
theorem dX7_square_145 : decode cX7_square 145 = .ok (.iconst 1, 1) := by decide +kernel
theorem dX7_square_146 : decode cX7_square 146 = .ok (.goto 4, 3) := by decide +kernel
theorem dX7_square_149 : decode cX7_square 149 = .ok (.iconst 0, 1) := by decide +kernel
theorem dX7_square_150 : decode cX7_square 150 = .ok (.ireturn, 1) := by decide +kernel
theorem dX7_square_151 : decode cX7_square 151 = .ok (.aload_n 0, 1) := by decide +kernel
theorem dX7_square_152 : decode cX7_square 152 = .ok (.getfield 21, 3) := by decide +kernel
theorem dX7_square_155 : decode cX7_square 155 = .ok (.getfield 79, 3) := by decide +kernel
theorem dX7_square_158 : decode cX7_square 158 = .ok (.getfield 99, 3) := by decide +kernel
theorem dX7_square_161 : decode cX7_square 161 = .ok (.iload 4, 2) := by decide +kernel
theorem dX7_square_163 : decode cX7_square 163 = .ok (.iaload, 1) := by decide +kernel
theorem dX7_square_164 : decode cX7_square 164 = .ok (.iconst 2, 1) := by decide +kernel
theorem dX7_square_165 : decode cX7_square 165 = .ok (.if_icmp .ne 7, 3) := by decide +kernel
theorem dX7_square_168 : decode cX7_square 168 = .ok (.iconst 1, 1) := by decide +kernel
theorem dX7_square_169 : decode cX7_square 169 = .ok (.goto 4, 3) := by decide +kernel
theorem dX7_square_172 : decode cX7_square 172 = .ok (.iconst 0, 1) := by decide +kernel
theorem dX7_square_173 : decode cX7_square 173 = .ok (.ireturn, 1) := by decide +kernel
theorem dX7_square_174 : decode cX7_square 174 = .ok (.aload_n 0, 1) := by decide +kernel
theorem dX7_square_175 : decode cX7_square 175 = .ok (.getfield 21, 3) := by decide +kernel
theorem dX7_square_178 : decode cX7_square 178 = .ok (.getfield 79, 3) := by decide +kernel
theorem dX7_square_181 : decode cX7_square 181 = .ok (.getfield 102, 3) := by decide +kernel
theorem dX7_square_184 : decode cX7_square 184 = .ok (.iload 4, 2) := by decide +kernel
theorem dX7_square_186 : decode cX7_square 186 = .ok (.iaload, 1) := by decide +kernel
theorem dX7_square_187 : decode cX7_square 187 = .ok (.aload_n 0, 1) := by decide +kernel
theorem dX7_square_188 : decode cX7_square 188 = .ok (.getfield 21, 3) := by decide +kernel
theorem dX7_square_191 : decode cX7_square 191 = .ok (.getfield 79, 3) := by decide +kernel
theorem dX7_square_194 : decode cX7_square 194 = .ok (.getfield 105, 3) := by decide +kernel
theorem dX7_square_197 : decode cX7_square 197 = .ok (.iload 4, 2) := by decide +kernel
theorem dX7_square_199 : decode cX7_square 199 = .ok (.iaload, 1) := by decide +kernel
theorem dX7_square_200 : decode cX7_square 200 = .ok (.isub, 1) := by decide +kernel
theorem dX7_square_201 : decode cX7_square 201 = .ok (.ireturn, 1) := by decide +kernel
theorem dX7_square_202 : decode cX7_square 202 = .ok (.aload_n 0, 1) := by decide +kernel
theorem dX7_square_203 : decode cX7_square 203 = .ok (.getfield 21, 3) := by decide +kernel
theorem dX7_square_206 : decode cX7_square 206 = .ok (.iconst 2, 1) := by decide +kernel
theorem dX7_square_207 : decode cX7_square 207 = .ok (.invokevirtual 75, 3) := by decide +kernel
theorem dX7_square_210 : decode cX7_square 210 = .ok (.aload_n 0, 1) := by decide +kernel
theorem dX7_square_211 : decode cX7_square 211 = .ok (.getfield 21, 3) := by decide +kernel
theorem dX7_square_214 : decode cX7_square 214 = .ok (.getfield 108, 3) := by decide +kernel
theorem dX7_square_217 : decode cX7_square 217 = .ok (.getfield 112, 3) := by decide +kernel
theorem dX7_square_220 : decode cX7_square 220 = .ok (.iload 4, 2) := by decide +kernel
theorem dX7_square_222 : decode cX7_square 222 = .ok (.iaload, 1) := by decide +kernel
theorem dX7_square_223 : decode cX7_square 223 = .ok (.ireturn, 1) := by decide +kernel
theorem dX7_square_224 : decode cX7_square 224 = .ok (.bipush (-2), 2) := by decide +kernel
theorem dX7_square_226 : decode cX7_square 226 = .ok (.ireturn, 1) := by decide +kernel
theorem dX7_inOrder_0 : decode cX7_inOrder 0 = .ok (.aload_n 0, 1) := by decide +kernel
theorem dX7_inOrder_1 : decode cX7_inOrder 1 = .ok (.getfield 21, 3) := by decide +kernel
theorem dX7_inOrder_4 : decode cX7_inOrder 4 = .ok (.iconst 1, 1) := by decide +kernel
theorem dX7_inOrder_5 : decode cX7_inOrder 5 = .ok (.invokevirtual 75, 3) := by decide +kernel
theorem dX7_inOrder_8 : decode cX7_inOrder 8 = .ok (.iload_n 1, 1) := by decide +kernel
theorem dX7_inOrder_9 : decode cX7_inOrder 9 = .ok (.iconst 0, 1) := by decide +kernel
theorem dX7_inOrder_10 : decode cX7_inOrder 10 = .ok (.aload_n 0, 1) := by decide +kernel
theorem dX7_inOrder_11 : decode cX7_inOrder 11 = .ok (.getfield 21, 3) := by decide +kernel
theorem dX7_inOrder_14 : decode cX7_inOrder 14 = .ok (.getfield 79, 3) := by decide +kernel
theorem dX7_inOrder_17 : decode cX7_inOrder 17 = .ok (.getfield 117, 3) := by decide +kernel
theorem dX7_inOrder_20 : decode cX7_inOrder 20 = .ok (.iconst 1, 1) := by decide +kernel
theorem dX7_inOrder_21 : decode cX7_inOrder 21 = .ok (.isub, 1) := by decide +kernel
theorem dX7_inOrder_22 : decode cX7_inOrder 22 = .ok (.invokestatic 28, 3) := by decide +kernel
theorem dX7_inOrder_25 : decode cX7_inOrder 25 = .ok (.ifCond .eq 18, 3) := by decide +kernel
theorem dX7_inOrder_28 : decode cX7_inOrder 28 = .ok (.aload_n 0, 1) := by decide +kernel
theorem dX7_inOrder_29 : decode cX7_inOrder 29 = .ok (.getfield 21, 3) := by decide +kernel
theorem dX7_inOrder_32 : decode cX7_inOrder 32 = .ok (.getfield 79, 3) := by decide +kernel
theorem dX7_inOrder_35 : decode cX7_inOrder 35 = .ok (.getfield 121, 3) := by decide +kernel
theorem dX7_inOrder_38 : decode cX7_inOrder 38 = .ok (.iload_n 1, 1) := by decide +kernel
theorem dX7_inOrder_39 : decode cX7_inOrder 39 = .ok (.iaload, 1) := by decide +kernel
theorem dX7_inOrder_40 : decode cX7_inOrder 40 = .ok (.goto 4, 3) := by decide +kernel
theorem dX7_inOrder_43 : decode cX7_inOrder 43 = .ok (.iconst (-1), 1) := by decide +kernel
theorem dX7_inOrder_44 : decode cX7_inOrder 44 = .ok (.ireturn, 1) := by decide +kernel
theorem dX7_pair_0 : decode cX7_pair 0 = .ok (.aload_n 0, 1) := by decide +kernel
theorem dX7_pair_1 : decode cX7_pair 1 = .ok (.getfield 21, 3) := by decide +kernel
theorem dX7_pair_4 : decode cX7_pair 4 = .ok (.iconst 2, 1) := by decide +kernel
theorem dX7_pair_5 : decode cX7_pair 5 = .ok (.invokevirtual 75, 3) := by decide +kernel
theorem dX7_pair_8 : decode cX7_pair 8 = .ok (.iload_n 1, 1) := by decide +kernel
theorem dX7_pair_9 : decode cX7_pair 9 = .ok (.iconst 0, 1) := by decide +kernel
theorem dX7_pair_10 : decode cX7_pair 10 = .ok (.aload_n 0, 1) := by decide +kernel
theorem dX7_pair_11 : decode cX7_pair 11 = .ok (.getfield 21, 3) := by decide +kernel
theorem dX7_pair_14 : decode cX7_pair 14 = .ok (.getfield 108, 3) := by decide +kernel
theorem dX7_pair_17 : decode cX7_pair 17 = .ok (.getfield 124, 3) := by decide +kernel
theorem dX7_pair_20 : decode cX7_pair 20 = .ok (.iconst 1, 1) := by decide +kernel
theorem dX7_pair_21 : decode cX7_pair 21 = .ok (.isub, 1) := by decide +kernel
theorem dX7_pair_22 : decode cX7_pair 22 = .ok (.invokestatic 28, 3) := by decide +kernel
theorem dX7_pair_25 : decode cX7_pair 25 = .ok (.ifCond .ne 5, 3) := by decide +kernel
theorem dX7_pair_28 : decode cX7_pair 28 = .ok (.iconst (-1), 1) := by decide +kernel
theorem dX7_pair_29 : decode cX7_pair 29 = .ok (.ireturn, 1) := by decide +kernel
theorem dX7_pair_30 : decode cX7_pair 30 = .ok (.iload_n 2, 1) := by decide +kernel
theorem dX7_pair_31 : decode cX7_pair 31 = .ok (.lookupswitch 51 #[(0, 25), (1, 38)], 25) := by decide +kernel
theorem dX7_pair_56 : decode cX7_pair 56 = .ok (.aload_n 0, 1) := by decide +kernel
theorem dX7_pair_57 : decode cX7_pair 57 = .ok (.getfield 21, 3) := by decide +kernel
theorem dX7_pair_60 : decode cX7_pair 60 = .ok (.getfield 108, 3) := by decide +kernel
theorem dX7_pair_63 : decode cX7_pair 63 = .ok (.getfield 127, 3) := by decide +kernel
theorem dX7_pair_66 : decode cX7_pair 66 = .ok (.iload_n 1, 1) := by decide +kernel
theorem dX7_pair_67 : decode cX7_pair 67 = .ok (.iaload, 1) := by decide +kernel
theorem dX7_pair_68 : decode cX7_pair 68 = .ok (.ireturn, 1) := by decide +kernel
theorem dX7_pair_69 : decode cX7_pair 69 = .ok (.aload_n 0, 1) := by decide +kernel
theorem dX7_pair_70 : decode cX7_pair 70 = .ok (.getfield 21, 3) := by decide +kernel
theorem dX7_pair_73 : decode cX7_pair 73 = .ok (.getfield 108, 3) := by decide +kernel
theorem dX7_pair_76 : decode cX7_pair 76 = .ok (.getfield 130, 3) := by decide +kernel
theorem dX7_pair_79 : decode cX7_pair 79 = .ok (.iload_n 1, 1) := by decide +kernel
theorem dX7_pair_80 : decode cX7_pair 80 = .ok (.iaload, 1) := by decide +kernel
theorem dX7_pair_81 : decode cX7_pair 81 = .ok (.ireturn, 1) := by decide +kernel
theorem dX7_pair_82 : decode cX7_pair 82 = .ok (.bipush (-2), 2) := by decide +kernel
theorem dX7_pair_84 : decode cX7_pair 84 = .ok (.ireturn, 1) := by decide +kernel
theorem dX7_votes_0 : decode cX7_votes 0 = .ok (.iload_n 1, 1) := by decide +kernel
theorem dX7_votes_1 : decode cX7_votes 1 = .ok (.bipush (-15), 2) := by decide +kernel
theorem dX7_votes_3 : decode cX7_votes 3 = .ok (.bipush 15, 2) := by decide +kernel
theorem dX7_votes_5 : decode cX7_votes 5 = .ok (.invokestatic 28, 3) := by decide +kernel
theorem dX7_votes_8 : decode cX7_votes 8 = .ok (.ifCond .eq 13, 3) := by decide +kernel
theorem dX7_votes_11 : decode cX7_votes 11 = .ok (.iload_n 2, 1) := by decide +kernel
theorem dX7_votes_12 : decode cX7_votes 12 = .ok (.iconst 0, 1) := by decide +kernel
theorem dX7_votes_13 : decode cX7_votes 13 = .ok (.bipush 15, 2) := by decide +kernel
theorem dX7_votes_15 : decode cX7_votes 15 = .ok (.invokestatic 28, 3) := by decide +kernel
theorem dX7_votes_18 : decode cX7_votes 18 = .ok (.ifCond .ne 6, 3) := by decide +kernel
theorem dX7_votes_21 : decode cX7_votes 21 = .ok (.bipush (-2), 2) := by decide +kernel
theorem dX7_votes_23 : decode cX7_votes 23 = .ok (.ireturn, 1) := by decide +kernel
theorem dX7_votes_24 : decode cX7_votes 24 = .ok (.aload_n 0, 1) := by decide +kernel
theorem dX7_votes_25 : decode cX7_votes 25 = .ok (.getfield 21, 3) := by decide +kernel
theorem dX7_votes_28 : decode cX7_votes 28 = .ok (.iconst 2, 1) := by decide +kernel
theorem dX7_votes_29 : decode cX7_votes 29 = .ok (.invokevirtual 75, 3) := by decide +kernel
theorem dX7_votes_32 : decode cX7_votes 32 = .ok (.aload_n 0, 1) := by decide +kernel
theorem dX7_votes_33 : decode cX7_votes 33 = .ok (.getfield 21, 3) := by decide +kernel
theorem dX7_votes_36 : decode cX7_votes 36 = .ok (.getfield 108, 3) := by decide +kernel
theorem dX7_votes_39 : decode cX7_votes 39 = .ok (.getfield 133, 3) := by decide +kernel
theorem dX7_votes_42 : decode cX7_votes 42 = .ok (.iload_n 1, 1) := by decide +kernel
theorem dX7_votes_43 : decode cX7_votes 43 = .ok (.iload_n 2, 1) := by decide +kernel
theorem dX7_votes_44 : decode cX7_votes 44 = .ok (.invokestatic 136, 3) := by decide +kernel
theorem dX7_votes_47 : decode cX7_votes 47 = .ok (.iaload, 1) := by decide +kernel
theorem dX7_votes_48 : decode cX7_votes 48 = .ok (.ireturn, 1) := by decide +kernel
theorem dX7_shift_0 : decode cX7_shift 0 = .ok (.aload_n 0, 1) := by decide +kernel
theorem dX7_shift_1 : decode cX7_shift 1 = .ok (.getfield 21, 3) := by decide +kernel
theorem dX7_shift_4 : decode cX7_shift 4 = .ok (.iconst 2, 1) := by decide +kernel
theorem dX7_shift_5 : decode cX7_shift 5 = .ok (.invokevirtual 75, 3) := by decide +kernel
theorem dX7_shift_8 : decode cX7_shift 8 = .ok (.iload_n 1, 1) := by decide +kernel
theorem dX7_shift_9 : decode cX7_shift 9 = .ok (.iconst 0, 1) := by decide +kernel
theorem dX7_shift_10 : decode cX7_shift 10 = .ok (.aload_n 0, 1) := by decide +kernel
theorem dX7_shift_11 : decode cX7_shift 11 = .ok (.getfield 21, 3) := by decide +kernel
theorem dX7_shift_14 : decode cX7_shift 14 = .ok (.getfield 108, 3) := by decide +kernel
theorem dX7_shift_17 : decode cX7_shift 17 = .ok (.getfield 139, 3) := by decide +kernel
theorem dX7_shift_20 : decode cX7_shift 20 = .ok (.iconst 1, 1) := by decide +kernel
theorem dX7_shift_21 : decode cX7_shift 21 = .ok (.isub, 1) := by decide +kernel
theorem dX7_shift_22 : decode cX7_shift 22 = .ok (.invokestatic 28, 3) := by decide +kernel
theorem dX7_shift_25 : decode cX7_shift 25 = .ok (.ifCond .ne 5, 3) := by decide +kernel
theorem dX7_shift_28 : decode cX7_shift 28 = .ok (.iconst (-1), 1) := by decide +kernel
theorem dX7_shift_29 : decode cX7_shift 29 = .ok (.ireturn, 1) := by decide +kernel
theorem dX7_shift_30 : decode cX7_shift 30 = .ok (.aload_n 0, 1) := by decide +kernel
theorem dX7_shift_31 : decode cX7_shift 31 = .ok (.getfield 21, 3) := by decide +kernel
theorem dX7_shift_34 : decode cX7_shift 34 = .ok (.getfield 108, 3) := by decide +kernel
theorem dX7_shift_37 : decode cX7_shift 37 = .ok (.getfield 140, 3) := by decide +kernel
theorem dX7_shift_40 : decode cX7_shift 40 = .ok (.iload_n 1, 1) := by decide +kernel
theorem dX7_shift_41 : decode cX7_shift 41 = .ok (.iaload, 1) := by decide +kernel
theorem dX7_shift_42 : decode cX7_shift 42 = .ok (.istore_n 3, 1) := by decide +kernel
theorem dX7_shift_43 : decode cX7_shift 43 = .ok (.iload_n 2, 1) := by decide +kernel
theorem dX7_shift_44 : decode cX7_shift 44 = .ok (.tableswitch 79 0 3 #[32, 40, 45, 58], 32) := by decide +kernel
theorem dX7_shift_76 : decode cX7_shift 76 = .ok (.iload_n 3, 1) := by decide +kernel
theorem dX7_shift_77 : decode cX7_shift 77 = .ok (.invokestatic 143, 3) := by decide +kernel
theorem dX7_shift_80 : decode cX7_shift 80 = .ok (.bipush 100, 2) := by decide +kernel
theorem dX7_shift_82 : decode cX7_shift 82 = .ok (.iadd, 1) := by decide +kernel
theorem dX7_shift_83 : decode cX7_shift 83 = .ok (.ireturn, 1) := by decide +kernel
theorem dX7_shift_84 : decode cX7_shift 84 = .ok (.iload_n 3, 1) := by decide +kernel
theorem dX7_shift_85 : decode cX7_shift 85 = .ok (.invokestatic 146, 3) := by decide +kernel
theorem dX7_shift_88 : decode cX7_shift 88 = .ok (.ireturn, 1) := by decide +kernel
theorem dX7_shift_89 : decode cX7_shift 89 = .ok (.aload_n 0, 1) := by decide +kernel
theorem dX7_shift_90 : decode cX7_shift 90 = .ok (.getfield 21, 3) := by decide +kernel
theorem dX7_shift_93 : decode cX7_shift 93 = .ok (.getfield 108, 3) := by decide +kernel
theorem dX7_shift_96 : decode cX7_shift 96 = .ok (.getfield 133, 3) := by decide +kernel
theorem dX7_shift_99 : decode cX7_shift 99 = .ok (.iload_n 3, 1) := by decide +kernel
theorem dX7_shift_100 : decode cX7_shift 100 = .ok (.iaload, 1) := by decide +kernel
theorem dX7_shift_101 : decode cX7_shift 101 = .ok (.ireturn, 1) := by decide +kernel
theorem dX7_shift_102 : decode cX7_shift 102 = .ok (.aload_n 0, 1) := by decide +kernel
theorem dX7_shift_103 : decode cX7_shift 103 = .ok (.getfield 21, 3) := by decide +kernel
theorem dX7_shift_106 : decode cX7_shift 106 = .ok (.iconst 3, 1) := by decide +kernel
theorem dX7_shift_107 : decode cX7_shift 107 = .ok (.invokevirtual 75, 3) := by decide +kernel
theorem dX7_shift_110 : decode cX7_shift 110 = .ok (.aload_n 0, 1) := by decide +kernel
theorem dX7_shift_111 : decode cX7_shift 111 = .ok (.getfield 21, 3) := by decide +kernel
theorem dX7_shift_114 : decode cX7_shift 114 = .ok (.getfield 149, 3) := by decide +kernel
theorem dX7_shift_117 : decode cX7_shift 117 = .ok (.getfield 153, 3) := by decide +kernel
theorem dX7_shift_120 : decode cX7_shift 120 = .ok (.iload_n 1, 1) := by decide +kernel
theorem dX7_shift_121 : decode cX7_shift 121 = .ok (.iaload, 1) := by decide +kernel
theorem dX7_shift_122 : decode cX7_shift 122 = .ok (.ireturn, 1) := by decide +kernel
theorem dX7_shift_123 : decode cX7_shift 123 = .ok (.bipush (-2), 2) := by decide +kernel
theorem dX7_shift_125 : decode cX7_shift 125 = .ok (.ireturn, 1) := by decide +kernel
theorem dX7_finding_0 : decode cX7_finding 0 = .ok (.aload_n 0, 1) := by decide +kernel
theorem dX7_finding_1 : decode cX7_finding 1 = .ok (.getfield 21, 3) := by decide +kernel
theorem dX7_finding_4 : decode cX7_finding 4 = .ok (.iconst 3, 1) := by decide +kernel
theorem dX7_finding_5 : decode cX7_finding 5 = .ok (.invokevirtual 75, 3) := by decide +kernel
theorem dX7_finding_8 : decode cX7_finding 8 = .ok (.iload_n 1, 1) := by decide +kernel
theorem dX7_finding_9 : decode cX7_finding 9 = .ok (.iconst 0, 1) := by decide +kernel
theorem dX7_finding_10 : decode cX7_finding 10 = .ok (.aload_n 0, 1) := by decide +kernel
theorem dX7_finding_11 : decode cX7_finding 11 = .ok (.getfield 21, 3) := by decide +kernel
theorem dX7_finding_14 : decode cX7_finding 14 = .ok (.getfield 149, 3) := by decide +kernel
theorem dX7_finding_17 : decode cX7_finding 17 = .ok (.getfield 158, 3) := by decide +kernel
theorem dX7_finding_20 : decode cX7_finding 20 = .ok (.iconst 1, 1) := by decide +kernel
theorem dX7_finding_21 : decode cX7_finding 21 = .ok (.isub, 1) := by decide +kernel
theorem dX7_finding_22 : decode cX7_finding 22 = .ok (.invokestatic 28, 3) := by decide +kernel
theorem dX7_finding_25 : decode cX7_finding 25 = .ok (.ifCond .ne 5, 3) := by decide +kernel
theorem dX7_finding_28 : decode cX7_finding 28 = .ok (.iconst (-1), 1) := by decide +kernel
theorem dX7_finding_29 : decode cX7_finding 29 = .ok (.ireturn, 1) := by decide +kernel
theorem dX7_finding_30 : decode cX7_finding 30 = .ok (.aload_n 0, 1) := by decide +kernel
theorem dX7_finding_31 : decode cX7_finding 31 = .ok (.getfield 21, 3) := by decide +kernel
theorem dX7_finding_34 : decode cX7_finding 34 = .ok (.getfield 149, 3) := by decide +kernel
theorem dX7_finding_37 : decode cX7_finding 37 = .ok (.getfield 159, 3) := by decide +kernel
theorem dX7_finding_40 : decode cX7_finding 40 = .ok (.iload_n 1, 1) := by decide +kernel
theorem dX7_finding_41 : decode cX7_finding 41 = .ok (.aaload, 1) := by decide +kernel
theorem dX7_finding_42 : decode cX7_finding 42 = .ok (.astore_n 3, 1) := by decide +kernel
theorem dX7_finding_43 : decode cX7_finding 43 = .ok (.iload_n 2, 1) := by decide +kernel
theorem dX7_finding_44 : decode cX7_finding 44 = .ok (.tableswitch 125 0 9 #[56, 61, 66, 71, 76, 84, 92, 100, 108, 116], 56) := by decide +kernel
theorem dX7_finding_100 : decode cX7_finding 100 = .ok (.aload_n 3, 1) := by decide +kernel
theorem dX7_finding_101 : decode cX7_finding 101 = .ok (.getfield 163, 3) := by decide +kernel
theorem dX7_finding_104 : decode cX7_finding 104 = .ok (.ireturn, 1) := by decide +kernel
theorem dX7_finding_105 : decode cX7_finding 105 = .ok (.aload_n 3, 1) := by decide +kernel
theorem dX7_finding_106 : decode cX7_finding 106 = .ok (.getfield 168, 3) := by decide +kernel
theorem dX7_finding_109 : decode cX7_finding 109 = .ok (.ireturn, 1) := by decide +kernel
theorem dX7_finding_110 : decode cX7_finding 110 = .ok (.aload_n 3, 1) := by decide +kernel
theorem dX7_finding_111 : decode cX7_finding 111 = .ok (.getfield 169, 3) := by decide +kernel
theorem dX7_finding_114 : decode cX7_finding 114 = .ok (.ireturn, 1) := by decide +kernel
theorem dX7_finding_115 : decode cX7_finding 115 = .ok (.aload_n 3, 1) := by decide +kernel
theorem dX7_finding_116 : decode cX7_finding 116 = .ok (.getfield 172, 3) := by decide +kernel
theorem dX7_finding_119 : decode cX7_finding 119 = .ok (.ireturn, 1) := by decide +kernel
theorem dX7_finding_120 : decode cX7_finding 120 = .ok (.aload_n 3, 1) := by decide +kernel
theorem dX7_finding_121 : decode cX7_finding 121 = .ok (.getfield 175, 3) := by decide +kernel
theorem dX7_finding_124 : decode cX7_finding 124 = .ok (.invokestatic 178, 3) := by decide +kernel
theorem dX7_finding_127 : decode cX7_finding 127 = .ok (.ireturn, 1) := by decide +kernel
theorem dX7_finding_128 : decode cX7_finding 128 = .ok (.aload_n 3, 1) := by decide +kernel
theorem dX7_finding_129 : decode cX7_finding 129 = .ok (.getfield 175, 3) := by decide +kernel
theorem dX7_finding_132 : decode cX7_finding 132 = .ok (.invokestatic 184, 3) := by decide +kernel
theorem dX7_finding_135 : decode cX7_finding 135 = .ok (.ireturn, 1) := by decide +kernel
theorem dX7_finding_136 : decode cX7_finding 136 = .ok (.aload_n 3, 1) := by decide +kernel
theorem dX7_finding_137 : decode cX7_finding 137 = .ok (.getfield 175, 3) := by decide +kernel
theorem dX7_finding_140 : decode cX7_finding 140 = .ok (.invokestatic 187, 3) := by decide +kernel
theorem dX7_finding_143 : decode cX7_finding 143 = .ok (.ireturn, 1) := by decide +kernel
theorem dX7_finding_144 : decode cX7_finding 144 = .ok (.aload_n 3, 1) := by decide +kernel
theorem dX7_finding_145 : decode cX7_finding 145 = .ok (.getfield 175, 3) := by decide +kernel
theorem dX7_finding_148 : decode cX7_finding 148 = .ok (.invokestatic 190, 3) := by decide +kernel
theorem dX7_finding_151 : decode cX7_finding 151 = .ok (.ireturn, 1) := by decide +kernel
theorem dX7_finding_152 : decode cX7_finding 152 = .ok (.aload_n 3, 1) := by decide +kernel
theorem dX7_finding_153 : decode cX7_finding 153 = .ok (.getfield 193, 3) := by decide +kernel
theorem dX7_finding_156 : decode cX7_finding 156 = .ok (.bipush 100, 2) := by decide +kernel
theorem dX7_finding_158 : decode cX7_finding 158 = .ok (.iadd, 1) := by decide +kernel
theorem dX7_finding_159 : decode cX7_finding 159 = .ok (.ireturn, 1) := by decide +kernel
theorem dX7_finding_160 : decode cX7_finding 160 = .ok (.aload_n 3, 1) := by decide +kernel
theorem dX7_finding_161 : decode cX7_finding 161 = .ok (.aload_n 0, 1) := by decide +kernel
theorem dX7_finding_162 : decode cX7_finding 162 = .ok (.getfield 12, 3) := by decide +kernel
theorem dX7_finding_165 : decode cX7_finding 165 = .ok (.invokevirtual 196, 3) := by decide +kernel
theorem dX7_finding_168 : decode cX7_finding 168 = .ok (.ireturn, 1) := by decide +kernel
theorem dX7_finding_169 : decode cX7_finding 169 = .ok (.bipush (-2), 2) := by decide +kernel
theorem dX7_finding_171 : decode cX7_finding 171 = .ok (.ireturn, 1) := by decide +kernel
theorem dX7_holds_0 : decode cX7_holds 0 = .ok (.aload_n 0, 1) := by decide +kernel
theorem dX7_holds_1 : decode cX7_holds 1 = .ok (.getfield 21, 3) := by decide +kernel
theorem dX7_holds_4 : decode cX7_holds 4 = .ok (.iconst 3, 1) := by decide +kernel
theorem dX7_holds_5 : decode cX7_holds 5 = .ok (.invokevirtual 75, 3) := by decide +kernel
theorem dX7_holds_8 : decode cX7_holds 8 = .ok (.iload_n 1, 1) := by decide +kernel
theorem dX7_holds_9 : decode cX7_holds 9 = .ok (.iconst 0, 1) := by decide +kernel
theorem dX7_holds_10 : decode cX7_holds 10 = .ok (.aload_n 0, 1) := by decide +kernel
theorem dX7_holds_11 : decode cX7_holds 11 = .ok (.getfield 21, 3) := by decide +kernel
theorem dX7_holds_14 : decode cX7_holds 14 = .ok (.getfield 149, 3) := by decide +kernel
theorem dX7_holds_17 : decode cX7_holds 17 = .ok (.getfield 158, 3) := by decide +kernel
theorem dX7_holds_20 : decode cX7_holds 20 = .ok (.iconst 1, 1) := by decide +kernel
theorem dX7_holds_21 : decode cX7_holds 21 = .ok (.isub, 1) := by decide +kernel
theorem dX7_holds_22 : decode cX7_holds 22 = .ok (.invokestatic 28, 3) := by decide +kernel
theorem dX7_holds_25 : decode cX7_holds 25 = .ok (.ifCond .eq 15, 3) := by decide +kernel
theorem dX7_holds_28 : decode cX7_holds 28 = .ok (.aload_n 0, 1) := by decide +kernel
theorem dX7_holds_29 : decode cX7_holds 29 = .ok (.getfield 12, 3) := by decide +kernel
theorem dX7_holds_32 : decode cX7_holds 32 = .ok (.iload_n 2, 1) := by decide +kernel
theorem dX7_holds_33 : decode cX7_holds 33 = .ok (.iload_n 3, 1) := by decide +kernel
theorem dX7_holds_34 : decode cX7_holds 34 = .ok (.invokevirtual 39, 3) := by decide +kernel
theorem dX7_holds_37 : decode cX7_holds 37 = .ok (.ifCond .ne 5, 3) := by decide +kernel
theorem dX7_holds_40 : decode cX7_holds 40 = .ok (.iconst (-1), 1) := by decide +kernel
theorem dX7_holds_41 : decode cX7_holds 41 = .ok (.ireturn, 1) := by decide +kernel
theorem dX7_holds_42 : decode cX7_holds 42 = .ok (.aload_n 0, 1) := by decide +kernel
theorem dX7_holds_43 : decode cX7_holds 43 = .ok (.getfield 21, 3) := by decide +kernel
theorem dX7_holds_46 : decode cX7_holds 46 = .ok (.getfield 149, 3) := by decide +kernel
theorem dX7_holds_49 : decode cX7_holds 49 = .ok (.getfield 159, 3) := by decide +kernel
theorem dX7_holds_52 : decode cX7_holds 52 = .ok (.iload_n 1, 1) := by decide +kernel
theorem dX7_holds_53 : decode cX7_holds 53 = .ok (.aaload, 1) := by decide +kernel
theorem dX7_holds_54 : decode cX7_holds 54 = .ok (.astore 4, 2) := by decide +kernel
theorem dX7_holds_56 : decode cX7_holds 56 = .ok (.aload 4, 2) := by decide +kernel
theorem dX7_holds_58 : decode cX7_holds 58 = .ok (.iload_n 3, 1) := by decide +kernel
theorem dX7_holds_59 : decode cX7_holds 59 = .ok (.invokevirtual 200, 3) := by decide +kernel
theorem dX7_holds_62 : decode cX7_holds 62 = .ok (.iload_n 2, 1) := by decide +kernel
theorem dX7_holds_63 : decode cX7_holds 63 = .ok (.ishr, 1) := by decide +kernel
theorem dX7_holds_64 : decode cX7_holds 64 = .ok (.iconst 1, 1) := by decide +kernel
theorem dX7_holds_65 : decode cX7_holds 65 = .ok (.iand, 1) := by decide +kernel
theorem dX7_holds_66 : decode cX7_holds 66 = .ok (.iconst 2, 1) := by decide +kernel
theorem dX7_holds_67 : decode cX7_holds 67 = .ok (.aload 4, 2) := by decide +kernel
theorem dX7_holds_69 : decode cX7_holds 69 = .ok (.iload_n 3, 1) := by decide +kernel
theorem dX7_holds_70 : decode cX7_holds 70 = .ok (.invokevirtual 203, 3) := by decide +kernel
theorem dX7_holds_73 : decode cX7_holds 73 = .ok (.iload_n 2, 1) := by decide +kernel
theorem dX7_holds_74 : decode cX7_holds 74 = .ok (.ishr, 1) := by decide +kernel
theorem dX7_holds_75 : decode cX7_holds 75 = .ok (.iconst 1, 1) := by decide +kernel
theorem dX7_holds_76 : decode cX7_holds 76 = .ok (.iand, 1) := by decide +kernel
theorem dX7_holds_77 : decode cX7_holds 77 = .ok (.imul, 1) := by decide +kernel
theorem dX7_holds_78 : decode cX7_holds 78 = .ok (.iadd, 1) := by decide +kernel
theorem dX7_holds_79 : decode cX7_holds 79 = .ok (.ireturn, 1) := by decide +kernel
theorem dX7_seen_0 : decode cX7_seen 0 = .ok (.aload_n 0, 1) := by decide +kernel
theorem dX7_seen_1 : decode cX7_seen 1 = .ok (.getfield 12, 3) := by decide +kernel
theorem dX7_seen_4 : decode cX7_seen 4 = .ok (.iconst 0, 1) := by decide +kernel
theorem dX7_seen_5 : decode cX7_seen 5 = .ok (.iload_n 1, 1) := by decide +kernel
theorem dX7_seen_6 : decode cX7_seen 6 = .ok (.invokevirtual 39, 3) := by decide +kernel
theorem dX7_seen_9 : decode cX7_seen 9 = .ok (.ifCond .ne 5, 3) := by decide +kernel
theorem dX7_seen_12 : decode cX7_seen 12 = .ok (.iconst (-1), 1) := by decide +kernel
theorem dX7_seen_13 : decode cX7_seen 13 = .ok (.ireturn, 1) := by decide +kernel
theorem dX7_seen_14 : decode cX7_seen 14 = .ok (.iload_n 2, 1) := by decide +kernel
theorem dX7_seen_15 : decode cX7_seen 15 = .ok (.iconst 0, 1) := by decide +kernel
theorem dX7_seen_16 : decode cX7_seen 16 = .ok (.iconst 2, 1) := by decide +kernel
theorem dX7_seen_17 : decode cX7_seen 17 = .ok (.invokestatic 28, 3) := by decide +kernel
theorem dX7_seen_20 : decode cX7_seen 20 = .ok (.ifCond .ne 6, 3) := by decide +kernel
theorem dX7_seen_23 : decode cX7_seen 23 = .ok (.bipush (-2), 2) := by decide +kernel
theorem dX7_seen_25 : decode cX7_seen 25 = .ok (.ireturn, 1) := by decide +kernel
theorem dX7_seen_26 : decode cX7_seen 26 = .ok (.aload_n 0, 1) := by decide +kernel
theorem dX7_seen_27 : decode cX7_seen 27 = .ok (.getfield 21, 3) := by decide +kernel
theorem dX7_seen_30 : decode cX7_seen 30 = .ok (.iconst 3, 1) := by decide +kernel
theorem dX7_seen_31 : decode cX7_seen 31 = .ok (.invokevirtual 75, 3) := by decide +kernel
theorem dX7_seen_34 : decode cX7_seen 34 = .ok (.aload_n 0, 1) := by decide +kernel
theorem dX7_seen_35 : decode cX7_seen 35 = .ok (.getfield 21, 3) := by decide +kernel
theorem dX7_seen_38 : decode cX7_seen 38 = .ok (.getfield 149, 3) := by decide +kernel
theorem dX7_seen_41 : decode cX7_seen 41 = .ok (.iload_n 1, 1) := by decide +kernel
theorem dX7_seen_42 : decode cX7_seen 42 = .ok (.iload_n 2, 1) := by decide +kernel
theorem dX7_seen_43 : decode cX7_seen 43 = .ok (.invokevirtual 206, 3) := by decide +kernel
theorem dX7_seen_46 : decode cX7_seen 46 = .ok (.ireturn, 1) := by decide +kernel
theorem dX7_would_0 : decode cX7_would 0 = .ok (.iload_n 1, 1) := by decide +kernel
theorem dX7_would_1 : decode cX7_would 1 = .ok (.iload_n 2, 1) := by decide +kernel
theorem dX7_would_2 : decode cX7_would 2 = .ok (.invokestatic 68, 3) := by decide +kernel
theorem dX7_would_5 : decode cX7_would 5 = .ok (.ifCond .eq 13, 3) := by decide +kernel
theorem dX7_would_8 : decode cX7_would 8 = .ok (.iload_n 3, 1) := by decide +kernel
theorem dX7_would_9 : decode cX7_would 9 = .ok (.iconst 0, 1) := by decide +kernel
theorem dX7_would_10 : decode cX7_would 10 = .ok (.bipush 7, 2) := by decide +kernel
theorem dX7_would_12 : decode cX7_would 12 = .ok (.invokestatic 28, 3) := by decide +kernel
theorem dX7_would_15 : decode cX7_would 15 = .ok (.ifCond .ne 6, 3) := by decide +kernel
theorem dX7_would_18 : decode cX7_would 18 = .ok (.bipush (-2), 2) := by decide +kernel
theorem dX7_would_20 : decode cX7_would 20 = .ok (.ireturn, 1) := by decide +kernel
theorem dX7_would_21 : decode cX7_would 21 = .ok (.aload_n 0, 1) := by decide +kernel
theorem dX7_would_22 : decode cX7_would 22 = .ok (.getfield 21, 3) := by decide +kernel
theorem dX7_would_25 : decode cX7_would 25 = .ok (.getfield 71, 3) := by decide +kernel
theorem dX7_would_28 : decode cX7_would 28 = .ok (.iconst 0, 1) := by decide +kernel
theorem dX7_would_29 : decode cX7_would 29 = .ok (.aload_n 0, 1) := by decide +kernel
theorem dX7_would_30 : decode cX7_would 30 = .ok (.getfield 25, 3) := by decide +kernel
theorem dX7_would_33 : decode cX7_would 33 = .ok (.getfield 71, 3) := by decide +kernel
theorem dX7_would_36 : decode cX7_would 36 = .ok (.iconst 0, 1) := by decide +kernel
theorem dX7_would_37 : decode cX7_would 37 = .ok (.bipush 8, 2) := by decide +kernel
theorem dX7_would_39 : decode cX7_would 39 = .ok (.invokestatic 209, 3) := by decide +kernel
theorem dX7_would_42 : decode cX7_would 42 = .ok (.aload_n 0, 1) := by decide +kernel
theorem dX7_would_43 : decode cX7_would 43 = .ok (.getfield 25, 3) := by decide +kernel
theorem dX7_would_46 : decode cX7_would 46 = .ok (.getfield 71, 3) := by decide +kernel
theorem dX7_would_49 : decode cX7_would 49 = .ok (.iload_n 1, 1) := by decide +kernel
theorem dX7_would_50 : decode cX7_would 50 = .ok (.iload_n 2, 1) := by decide +kernel
theorem dX7_would_51 : decode cX7_would 51 = .ok (.iastore, 1) := by decide +kernel
theorem dX7_would_52 : decode cX7_would 52 = .ok (.aload_n 0, 1) := by decide +kernel
theorem dX7_would_53 : decode cX7_would 53 = .ok (.getfield 25, 3) := by decide +kernel
theorem dX7_would_56 : decode cX7_would 56 = .ok (.invokevirtual 32, 3) := by decide +kernel
theorem dX7_would_59 : decode cX7_would 59 = .ok (.aload_n 0, 1) := by decide +kernel
theorem dX7_would_60 : decode cX7_would 60 = .ok (.getfield 25, 3) := by decide +kernel
theorem dX7_would_63 : decode cX7_would 63 = .ok (.iload_n 3, 1) := by decide +kernel
theorem dX7_would_64 : decode cX7_would 64 = .ok (.invokestatic 215, 3) := by decide +kernel
theorem dX7_would_67 : decode cX7_would 67 = .ok (.invokevirtual 75, 3) := by decide +kernel
theorem dX7_would_70 : decode cX7_would 70 = .ok (.aload_n 0, 1) := by decide +kernel
theorem dX7_would_71 : decode cX7_would 71 = .ok (.getfield 25, 3) := by decide +kernel
theorem dX7_would_74 : decode cX7_would 74 = .ok (.iload_n 3, 1) := by decide +kernel
theorem dX7_would_75 : decode cX7_would 75 = .ok (.invokevirtual 218, 3) := by decide +kernel
theorem dX7_would_78 : decode cX7_would 78 = .ok (.ireturn, 1) := by decide +kernel
theorem dX7_many_0 : decode cX7_many 0 = .ok (.iload_n 1, 1) := by decide +kernel
theorem dX7_many_1 : decode cX7_many 1 = .ok (.iconst 0, 1) := by decide +kernel
theorem dX7_many_2 : decode cX7_many 2 = .ok (.bipush 7, 2) := by decide +kernel
theorem dX7_many_4 : decode cX7_many 4 = .ok (.invokestatic 28, 3) := by decide +kernel
theorem dX7_many_7 : decode cX7_many 7 = .ok (.ifCond .ne 6, 3) := by decide +kernel
theorem dX7_many_10 : decode cX7_many 10 = .ok (.bipush (-2), 2) := by decide +kernel
theorem dX7_many_12 : decode cX7_many 12 = .ok (.ireturn, 1) := by decide +kernel
theorem dX7_many_13 : decode cX7_many 13 = .ok (.aload_n 0, 1) := by decide +kernel
theorem dX7_many_14 : decode cX7_many 14 = .ok (.getfield 21, 3) := by decide +kernel
theorem dX7_many_17 : decode cX7_many 17 = .ok (.iload_n 1, 1) := by decide +kernel
theorem dX7_many_18 : decode cX7_many 18 = .ok (.invokestatic 215, 3) := by decide +kernel
theorem dX7_many_21 : decode cX7_many 21 = .ok (.invokevirtual 75, 3) := by decide +kernel
theorem dX7_many_24 : decode cX7_many 24 = .ok (.aload_n 0, 1) := by decide +kernel
theorem dX7_many_25 : decode cX7_many 25 = .ok (.getfield 21, 3) := by decide +kernel
theorem dX7_many_28 : decode cX7_many 28 = .ok (.iload_n 1, 1) := by decide +kernel
theorem dX7_many_29 : decode cX7_many 29 = .ok (.invokevirtual 218, 3) := by decide +kernel
theorem dX7_many_32 : decode cX7_many 32 = .ok (.ireturn, 1) := by decide +kernel
theorem dX7_stageOfCount_0 : decode cX7_stageOfCount 0 = .ok (.iload_n 0, 1) := by decide +kernel
theorem dX7_stageOfCount_1 : decode cX7_stageOfCount 1 = .ok (.iconst 3, 1) := by decide +kernel
theorem dX7_stageOfCount_2 : decode cX7_stageOfCount 2 = .ok (.if_icmp .gt 5, 3) := by decide +kernel
theorem dX7_stageOfCount_5 : decode cX7_stageOfCount 5 = .ok (.iconst 1, 1) := by decide +kernel
theorem dX7_stageOfCount_6 : decode cX7_stageOfCount 6 = .ok (.ireturn, 1) := by decide +kernel
theorem dX7_stageOfCount_7 : decode cX7_stageOfCount 7 = .ok (.iload_n 0, 1) := by decide +kernel
theorem dX7_stageOfCount_8 : decode cX7_stageOfCount 8 = .ok (.iconst 5, 1) := by decide +kernel
theorem dX7_stageOfCount_9 : decode cX7_stageOfCount 9 = .ok (.if_icmp .gt 7, 3) := by decide +kernel
theorem dX7_stageOfCount_12 : decode cX7_stageOfCount 12 = .ok (.iconst 2, 1) := by decide +kernel
theorem dX7_stageOfCount_13 : decode cX7_stageOfCount 13 = .ok (.goto 4, 3) := by decide +kernel
theorem dX7_stageOfCount_16 : decode cX7_stageOfCount 16 = .ok (.iconst 3, 1) := by decide +kernel
theorem dX7_stageOfCount_17 : decode cX7_stageOfCount 17 = .ok (.ireturn, 1) := by decide +kernel
theorem dX7_isWithin_0 : decode cX7_isWithin 0 = .ok (.iload_n 0, 1) := by decide +kernel
theorem dX7_isWithin_1 : decode cX7_isWithin 1 = .ok (.iload_n 1, 1) := by decide +kernel
theorem dX7_isWithin_2 : decode cX7_isWithin 2 = .ok (.if_icmp .lt 12, 3) := by decide +kernel
theorem dX7_isWithin_5 : decode cX7_isWithin 5 = .ok (.iload_n 0, 1) := by decide +kernel
theorem dX7_isWithin_6 : decode cX7_isWithin 6 = .ok (.iload_n 2, 1) := by decide +kernel
theorem dX7_isWithin_7 : decode cX7_isWithin 7 = .ok (.if_icmp .gt 7, 3) := by decide +kernel
theorem dX7_isWithin_10 : decode cX7_isWithin 10 = .ok (.iconst 1, 1) := by decide +kernel
theorem dX7_isWithin_11 : decode cX7_isWithin 11 = .ok (.goto 4, 3) := by decide +kernel
theorem dX7_isWithin_14 : decode cX7_isWithin 14 = .ok (.iconst 0, 1) := by decide +kernel
theorem dX7_isWithin_15 : decode cX7_isWithin 15 = .ok (.ireturn, 1) := by decide +kernel
theorem dX7_isSetting_0 : decode cX7_isSetting 0 = .ok (.iload_n 0, 1) := by decide +kernel
theorem dX7_isSetting_1 : decode cX7_isSetting 1 = .ok (.iconst 0, 1) := by decide +kernel
theorem dX7_isSetting_2 : decode cX7_isSetting 2 = .ok (.bipush 7, 2) := by decide +kernel
theorem dX7_isSetting_4 : decode cX7_isSetting 4 = .ok (.invokestatic 28, 3) := by decide +kernel
theorem dX7_isSetting_7 : decode cX7_isSetting 7 = .ok (.ifCond .eq 24, 3) := by decide +kernel
theorem dX7_isSetting_10 : decode cX7_isSetting 10 = .ok (.iload_n 1, 1) := by decide +kernel
theorem dX7_isSetting_11 : decode cX7_isSetting 11 = .ok (.getstatic 221, 3) := by decide +kernel
theorem dX7_isSetting_14 : decode cX7_isSetting 14 = .ok (.iload_n 0, 1) := by decide +kernel
theorem dX7_isSetting_15 : decode cX7_isSetting 15 = .ok (.iaload, 1) := by decide +kernel
theorem dX7_isSetting_16 : decode cX7_isSetting 16 = .ok (.getstatic 224, 3) := by decide +kernel
theorem dX7_isSetting_19 : decode cX7_isSetting 19 = .ok (.iload_n 0, 1) := by decide +kernel
theorem dX7_isSetting_20 : decode cX7_isSetting 20 = .ok (.iaload, 1) := by decide +kernel
theorem dX7_isSetting_21 : decode cX7_isSetting 21 = .ok (.invokestatic 28, 3) := by decide +kernel
theorem dX7_isSetting_24 : decode cX7_isSetting 24 = .ok (.ifCond .eq 7, 3) := by decide +kernel
theorem dX7_isSetting_27 : decode cX7_isSetting 27 = .ok (.iconst 1, 1) := by decide +kernel
theorem dX7_isSetting_28 : decode cX7_isSetting 28 = .ok (.goto 4, 3) := by decide +kernel
theorem dX7_isSetting_31 : decode cX7_isSetting 31 = .ok (.iconst 0, 1) := by decide +kernel
theorem dX7_isSetting_32 : decode cX7_isSetting 32 = .ok (.ireturn, 1) := by decide +kernel
theorem dX7_wayOf_0 : decode cX7_wayOf 0 = .ok (.bipush 31, 2) := by decide +kernel
theorem dX7_wayOf_2 : decode cX7_wayOf 2 = .ok (.iload_n 1, 1) := by decide +kernel
theorem dX7_wayOf_3 : decode cX7_wayOf 3 = .ok (.imul, 1) := by decide +kernel
theorem dX7_wayOf_4 : decode cX7_wayOf 4 = .ok (.iload_n 0, 1) := by decide +kernel
theorem dX7_wayOf_5 : decode cX7_wayOf 5 = .ok (.iadd, 1) := by decide +kernel
theorem dX7_wayOf_6 : decode cX7_wayOf 6 = .ok (.bipush 15, 2) := by decide +kernel
theorem dX7_wayOf_8 : decode cX7_wayOf 8 = .ok (.iadd, 1) := by decide +kernel
theorem dX7_wayOf_9 : decode cX7_wayOf 9 = .ok (.ireturn, 1) := by decide +kernel
theorem dX7_acrossOf_0 : decode cX7_acrossOf 0 = .ok (.iload_n 0, 1) := by decide +kernel
theorem dX7_acrossOf_1 : decode cX7_acrossOf 1 = .ok (.bipush 31, 2) := by decide +kernel
theorem dX7_acrossOf_3 : decode cX7_acrossOf 3 = .ok (.irem, 1) := by decide +kernel
theorem dX7_acrossOf_4 : decode cX7_acrossOf 4 = .ok (.bipush 15, 2) := by decide +kernel
theorem dX7_acrossOf_6 : decode cX7_acrossOf 6 = .ok (.isub, 1) := by decide +kernel
theorem dX7_acrossOf_7 : decode cX7_acrossOf 7 = .ok (.ireturn, 1) := by decide +kernel
theorem dX7_downOf_0 : decode cX7_downOf 0 = .ok (.iload_n 0, 1) := by decide +kernel
theorem dX7_downOf_1 : decode cX7_downOf 1 = .ok (.bipush 31, 2) := by decide +kernel
theorem dX7_downOf_3 : decode cX7_downOf 3 = .ok (.idiv, 1) := by decide +kernel
theorem dX7_downOf_4 : decode cX7_downOf 4 = .ok (.ireturn, 1) := by decide +kernel
theorem dX8_init_0 : decode cX8_init 0 = .ok (.aload_n 0, 1) := by decide +kernel
theorem dX8_init_1 : decode cX8_init 1 = .ok (.invokespecial 1, 3) := by decide +kernel
theorem dX8_init_4 : decode cX8_init 4 = .ok (.aload_n 0, 1) := by decide +kernel
theorem dX8_init_5 : decode cX8_init 5 = .ok (.bipush 16, 2) := by decide +kernel
theorem dX8_init_7 : decode cX8_init 7 = .ok (.putfield 7, 3) := by decide +kernel
theorem dX8_init_10 : decode cX8_init 10 = .ok (.aload_n 0, 1) := by decide +kernel
theorem dX8_init_11 : decode cX8_init 11 = .ok (.bipush 16, 2) := by decide +kernel
theorem dX8_init_13 : decode cX8_init 13 = .ok (.putfield 13, 3) := by decide +kernel
theorem dX8_init_16 : decode cX8_init 16 = .ok (.aload_n 0, 1) := by decide +kernel
theorem dX8_init_17 : decode cX8_init 17 = .ok (.sipush 256, 3) := by decide +kernel
theorem dX8_init_20 : decode cX8_init 20 = .ok (.newarray .int, 2) := by decide +kernel
theorem dX8_init_22 : decode cX8_init 22 = .ok (.putfield 16, 3) := by decide +kernel
theorem dX8_init_25 : decode cX8_init 25 = .ok (.aload_n 0, 1) := by decide +kernel
theorem dX8_init_26 : decode cX8_init 26 = .ok (.bipush 8, 2) := by decide +kernel
theorem dX8_init_28 : decode cX8_init 28 = .ok (.newarray .int, 2) := by decide +kernel
theorem dX8_init_30 : decode cX8_init 30 = .ok (.dup, 1) := by decide +kernel
theorem dX8_init_31 : decode cX8_init 31 = .ok (.iconst 0, 1) := by decide +kernel
theorem dX8_init_32 : decode cX8_init 32 = .ok (.iconst 3, 1) := by decide +kernel
theorem dX8_init_33 : decode cX8_init 33 = .ok (.iastore, 1) := by decide +kernel
theorem dX8_init_34 : decode cX8_init 34 = .ok (.dup, 1) := by decide +kernel
theorem dX8_init_35 : decode cX8_init 35 = .ok (.iconst 1, 1) := by decide +kernel
theorem dX8_init_36 : decode cX8_init 36 = .ok (.iconst 1, 1) := by decide +kernel
theorem dX8_init_37 : decode cX8_init 37 = .ok (.iastore, 1) := by decide +kernel
theorem dX8_init_38 : decode cX8_init 38 = .ok (.dup, 1) := by decide +kernel
theorem dX8_init_39 : decode cX8_init 39 = .ok (.iconst 2, 1) := by decide +kernel
theorem dX8_init_40 : decode cX8_init 40 = .ok (.iconst 0, 1) := by decide +kernel
theorem dX8_init_41 : decode cX8_init 41 = .ok (.iastore, 1) := by decide +kernel
theorem dX8_init_42 : decode cX8_init 42 = .ok (.dup, 1) := by decide +kernel
theorem dX8_init_43 : decode cX8_init 43 = .ok (.iconst 3, 1) := by decide +kernel
theorem dX8_init_44 : decode cX8_init 44 = .ok (.iconst 0, 1) := by decide +kernel
theorem dX8_init_45 : decode cX8_init 45 = .ok (.iastore, 1) := by decide +kernel
theorem dX8_init_46 : decode cX8_init 46 = .ok (.dup, 1) := by decide +kernel
theorem dX8_init_47 : decode cX8_init 47 = .ok (.iconst 4, 1) := by decide +kernel
theorem dX8_init_48 : decode cX8_init 48 = .ok (.iconst 3, 1) := by decide +kernel
theorem dX8_init_49 : decode cX8_init 49 = .ok (.iastore, 1) := by decide +kernel
theorem dX8_init_50 : decode cX8_init 50 = .ok (.dup, 1) := by decide +kernel
theorem dX8_init_51 : decode cX8_init 51 = .ok (.iconst 5, 1) := by decide +kernel
theorem dX8_init_52 : decode cX8_init 52 = .ok (.bipush 8, 2) := by decide +kernel
theorem dX8_init_54 : decode cX8_init 54 = .ok (.iastore, 1) := by decide +kernel
theorem dX8_init_55 : decode cX8_init 55 = .ok (.dup, 1) := by decide +kernel
theorem dX8_init_56 : decode cX8_init 56 = .ok (.bipush 6, 2) := by decide +kernel
theorem dX8_init_58 : decode cX8_init 58 = .ok (.iconst 1, 1) := by decide +kernel
theorem dX8_init_59 : decode cX8_init 59 = .ok (.iastore, 1) := by decide +kernel
theorem dX8_init_60 : decode cX8_init 60 = .ok (.dup, 1) := by decide +kernel
theorem dX8_init_61 : decode cX8_init 61 = .ok (.bipush 7, 2) := by decide +kernel
theorem dX8_init_63 : decode cX8_init 63 = .ok (.iconst 0, 1) := by decide +kernel
theorem dX8_init_64 : decode cX8_init 64 = .ok (.iastore, 1) := by decide +kernel
theorem dX8_init_65 : decode cX8_init 65 = .ok (.putfield 20, 3) := by decide +kernel
theorem dX8_init_68 : decode cX8_init 68 = .ok (.aload_n 0, 1) := by decide +kernel
theorem dX8_init_69 : decode cX8_init 69 = .ok (.bipush 8, 2) := by decide +kernel
theorem dX8_init_71 : decode cX8_init 71 = .ok (.newarray .int, 2) := by decide +kernel
theorem dX8_init_73 : decode cX8_init 73 = .ok (.dup, 1) := by decide +kernel
theorem dX8_init_74 : decode cX8_init 74 = .ok (.iconst 0, 1) := by decide +kernel
theorem dX8_init_75 : decode cX8_init 75 = .ok (.iconst 2, 1) := by decide +kernel
theorem dX8_init_76 : decode cX8_init 76 = .ok (.iastore, 1) := by decide +kernel
theorem dX8_init_77 : decode cX8_init 77 = .ok (.dup, 1) := by decide +kernel
theorem dX8_init_78 : decode cX8_init 78 = .ok (.iconst 1, 1) := by decide +kernel
theorem dX8_init_79 : decode cX8_init 79 = .ok (.iconst 1, 1) := by decide +kernel
theorem dX8_init_80 : decode cX8_init 80 = .ok (.iastore, 1) := by decide +kernel
theorem dX8_init_81 : decode cX8_init 81 = .ok (.dup, 1) := by decide +kernel
theorem dX8_init_82 : decode cX8_init 82 = .ok (.iconst 2, 1) := by decide +kernel
theorem dX8_init_83 : decode cX8_init 83 = .ok (.iconst 0, 1) := by decide +kernel
theorem dX8_init_84 : decode cX8_init 84 = .ok (.iastore, 1) := by decide +kernel
theorem dX8_init_85 : decode cX8_init 85 = .ok (.dup, 1) := by decide +kernel
theorem dX8_init_86 : decode cX8_init 86 = .ok (.iconst 3, 1) := by decide +kernel
theorem dX8_init_87 : decode cX8_init 87 = .ok (.iconst 0, 1) := by decide +kernel
theorem dX8_init_88 : decode cX8_init 88 = .ok (.iastore, 1) := by decide +kernel
theorem dX8_init_89 : decode cX8_init 89 = .ok (.dup, 1) := by decide +kernel
theorem dX8_init_90 : decode cX8_init 90 = .ok (.iconst 4, 1) := by decide +kernel
theorem dX8_init_91 : decode cX8_init 91 = .ok (.iconst 1, 1) := by decide +kernel
theorem dX8_init_92 : decode cX8_init 92 = .ok (.iastore, 1) := by decide +kernel
theorem dX8_init_93 : decode cX8_init 93 = .ok (.dup, 1) := by decide +kernel
theorem dX8_init_94 : decode cX8_init 94 = .ok (.iconst 5, 1) := by decide +kernel
theorem dX8_init_95 : decode cX8_init 95 = .ok (.iconst 2, 1) := by decide +kernel
theorem dX8_init_96 : decode cX8_init 96 = .ok (.iastore, 1) := by decide +kernel
theorem dX8_init_97 : decode cX8_init 97 = .ok (.dup, 1) := by decide +kernel
theorem dX8_init_98 : decode cX8_init 98 = .ok (.bipush 6, 2) := by decide +kernel
theorem dX8_init_100 : decode cX8_init 100 = .ok (.iconst 1, 1) := by decide +kernel
theorem dX8_init_101 : decode cX8_init 101 = .ok (.iastore, 1) := by decide +kernel
theorem dX8_init_102 : decode cX8_init 102 = .ok (.dup, 1) := by decide +kernel
theorem dX8_init_103 : decode cX8_init 103 = .ok (.bipush 7, 2) := by decide +kernel
theorem dX8_init_105 : decode cX8_init 105 = .ok (.iconst 0, 1) := by decide +kernel
theorem dX8_init_106 : decode cX8_init 106 = .ok (.iastore, 1) := by decide +kernel
theorem dX8_init_107 : decode cX8_init 107 = .ok (.putfield 23, 3) := by decide +kernel
theorem dX8_init_110 : decode cX8_init 110 = .ok (.aload_n 0, 1) := by decide +kernel
theorem dX8_init_111 : decode cX8_init 111 = .ok (.bipush 8, 2) := by decide +kernel
theorem dX8_init_113 : decode cX8_init 113 = .ok (.newarray .int, 2) := by decide +kernel
theorem dX8_init_115 : decode cX8_init 115 = .ok (.dup, 1) := by decide +kernel
theorem dX8_init_116 : decode cX8_init 116 = .ok (.iconst 0, 1) := by decide +kernel
theorem dX8_init_117 : decode cX8_init 117 = .ok (.iconst 4, 1) := by decide +kernel
theorem dX8_init_118 : decode cX8_init 118 = .ok (.iastore, 1) := by decide +kernel
theorem dX8_init_119 : decode cX8_init 119 = .ok (.dup, 1) := by decide +kernel
theorem dX8_init_120 : decode cX8_init 120 = .ok (.iconst 1, 1) := by decide +kernel
theorem dX8_init_121 : decode cX8_init 121 = .ok (.bipush 20, 2) := by decide +kernel
theorem dX8_init_123 : decode cX8_init 123 = .ok (.iastore, 1) := by decide +kernel
theorem dX8_init_124 : decode cX8_init 124 = .ok (.dup, 1) := by decide +kernel
theorem dX8_init_125 : decode cX8_init 125 = .ok (.iconst 2, 1) := by decide +kernel
theorem dX8_init_126 : decode cX8_init 126 = .ok (.iconst 1, 1) := by decide +kernel
theorem dX8_init_127 : decode cX8_init 127 = .ok (.iastore, 1) := by decide +kernel
theorem dX8_init_128 : decode cX8_init 128 = .ok (.dup, 1) := by decide +kernel
theorem dX8_init_129 : decode cX8_init 129 = .ok (.iconst 3, 1) := by decide +kernel
theorem dX8_init_130 : decode cX8_init 130 = .ok (.bipush 99, 2) := by decide +kernel
theorem dX8_init_132 : decode cX8_init 132 = .ok (.iastore, 1) := by decide +kernel
theorem dX8_init_133 : decode cX8_init 133 = .ok (.dup, 1) := by decide +kernel
theorem dX8_init_134 : decode cX8_init 134 = .ok (.iconst 4, 1) := by decide +kernel
theorem dX8_init_135 : decode cX8_init 135 = .ok (.bipush 15, 2) := by decide +kernel
theorem dX8_init_137 : decode cX8_init 137 = .ok (.iastore, 1) := by decide +kernel
theorem dX8_init_138 : decode cX8_init 138 = .ok (.dup, 1) := by decide +kernel
theorem dX8_init_139 : decode cX8_init 139 = .ok (.iconst 5, 1) := by decide +kernel
theorem dX8_init_140 : decode cX8_init 140 = .ok (.bipush 20, 2) := by decide +kernel
theorem dX8_init_142 : decode cX8_init 142 = .ok (.iastore, 1) := by decide +kernel
theorem dX8_init_143 : decode cX8_init 143 = .ok (.dup, 1) := by decide +kernel
theorem dX8_init_144 : decode cX8_init 144 = .ok (.bipush 6, 2) := by decide +kernel
theorem dX8_init_146 : decode cX8_init 146 = .ok (.bipush 99, 2) := by decide +kernel
theorem dX8_init_148 : decode cX8_init 148 = .ok (.iastore, 1) := by decide +kernel
theorem dX8_init_149 : decode cX8_init 149 = .ok (.dup, 1) := by decide +kernel
theorem dX8_init_150 : decode cX8_init 150 = .ok (.bipush 7, 2) := by decide +kernel
theorem dX8_init_152 : decode cX8_init 152 = .ok (.bipush 30, 2) := by decide +kernel
theorem dX8_init_154 : decode cX8_init 154 = .ok (.iastore, 1) := by decide +kernel
theorem dX8_init_155 : decode cX8_init 155 = .ok (.putfield 26, 3) := by decide +kernel
theorem dX8_init_158 : decode cX8_init 158 = .ok (.aload_n 0, 1) := by decide +kernel
theorem dX8_init_159 : decode cX8_init 159 = .ok (.sipush 256, 3) := by decide +kernel
theorem dX8_init_162 : decode cX8_init 162 = .ok (.newarray .int, 2) := by decide +kernel
theorem dX8_init_164 : decode cX8_init 164 = .ok (.putfield 29, 3) := by decide +kernel
theorem dX8_init_167 : decode cX8_init 167 = .ok (.aload_n 0, 1) := by decide +kernel
theorem dX8_init_168 : decode cX8_init 168 = .ok (.sipush 225, 3) := by decide +kernel
theorem dX8_init_171 : decode cX8_init 171 = .ok (.newarray .int, 2) := by decide +kernel
theorem dX8_init_173 : decode cX8_init 173 = .ok (.putfield 32, 3) := by decide +kernel
theorem dX8_init_176 : decode cX8_init 176 = .ok (.aload_n 0, 1) := by decide +kernel
theorem dX8_init_177 : decode cX8_init 177 = .ok (.sipush 225, 3) := by decide +kernel
theorem dX8_init_180 : decode cX8_init 180 = .ok (.newarray .int, 2) := by decide +kernel
theorem dX8_init_182 : decode cX8_init 182 = .ok (.putfield 35, 3) := by decide +kernel
theorem dX8_init_185 : decode cX8_init 185 = .ok (.aload_n 0, 1) := by decide +kernel
theorem dX8_init_186 : decode cX8_init 186 = .ok (.sipush 225, 3) := by decide +kernel
theorem dX8_init_189 : decode cX8_init 189 = .ok (.newarray .int, 2) := by decide +kernel
theorem dX8_init_191 : decode cX8_init 191 = .ok (.putfield 38, 3) := by decide +kernel
theorem dX8_init_194 : decode cX8_init 194 = .ok (.aload_n 0, 1) := by decide +kernel
theorem dX8_init_195 : decode cX8_init 195 = .ok (.sipush 225, 3) := by decide +kernel
theorem dX8_init_198 : decode cX8_init 198 = .ok (.newarray .int, 2) := by decide +kernel
theorem dX8_init_200 : decode cX8_init 200 = .ok (.putfield 41, 3) := by decide +kernel
theorem dX8_init_203 : decode cX8_init 203 = .ok (.aload_n 0, 1) := by decide +kernel
theorem dX8_init_204 : decode cX8_init 204 = .ok (.sipush 225, 3) := by decide +kernel
theorem dX8_init_207 : decode cX8_init 207 = .ok (.newarray .boolean, 2) := by decide +kernel
theorem dX8_init_209 : decode cX8_init 209 = .ok (.putfield 44, 3) := by decide +kernel
theorem dX8_init_212 : decode cX8_init 212 = .ok (.aload_n 0, 1) := by decide +kernel
theorem dX8_init_213 : decode cX8_init 213 = .ok (.sipush 2200, 3) := by decide +kernel
theorem dX8_init_216 : decode cX8_init 216 = .ok (.newarray .int, 2) := by decide +kernel
theorem dX8_init_218 : decode cX8_init 218 = .ok (.putfield 48, 3) := by decide +kernel
theorem dX8_init_221 : decode cX8_init 221 = .ok (.aload_n 0, 1) := by decide +kernel
theorem dX8_init_222 : decode cX8_init 222 = .ok (.sipush 2200, 3) := by decide +kernel
theorem dX8_init_225 : decode cX8_init 225 = .ok (.newarray .int, 2) := by decide +kernel
theorem dX8_init_227 : decode cX8_init 227 = .ok (.putfield 51, 3) := by decide +kernel
theorem dX8_init_230 : decode cX8_init 230 = .ok (.aload_n 0, 1) := by decide +kernel
theorem dX8_init_231 : decode cX8_init 231 = .ok (.sipush 496, 3) := by decide +kernel
theorem dX8_init_234 : decode cX8_init 234 = .ok (.newarray .int, 2) := by decide +kernel
theorem dX8_init_236 : decode cX8_init 236 = .ok (.putfield 54, 3) := by decide +kernel
theorem dX8_init_239 : decode cX8_init 239 = .ok (.aload_n 0, 1) := by decide +kernel
theorem dX8_init_240 : decode cX8_init 240 = .ok (.bipush 8, 2) := by decide +kernel
theorem dX8_init_242 : decode cX8_init 242 = .ok (.newarray .int, 2) := by decide +kernel
theorem dX8_init_244 : decode cX8_init 244 = .ok (.putfield 57, 3) := by decide +kernel
theorem dX8_init_247 : decode cX8_init 247 = .ok (.aload_n 0, 1) := by decide +kernel
theorem dX8_init_248 : decode cX8_init 248 = .ok (.bipush 8, 2) := by decide +kernel
theorem dX8_init_250 : decode cX8_init 250 = .ok (.newarray .int, 2) := by decide +kernel
theorem dX8_init_252 : decode cX8_init 252 = .ok (.putfield 60, 3) := by decide +kernel
theorem dX8_init_255 : decode cX8_init 255 = .ok (.aload_n 0, 1) := by decide +kernel
theorem dX8_init_256 : decode cX8_init 256 = .ok (.sipush 2048, 3) := by decide +kernel
theorem dX8_init_259 : decode cX8_init 259 = .ok (.newarray .int, 2) := by decide +kernel
theorem dX8_init_261 : decode cX8_init 261 = .ok (.putfield 63, 3) := by decide +kernel
theorem dX8_init_264 : decode cX8_init 264 = .ok (.aload_n 0, 1) := by decide +kernel
theorem dX8_init_265 : decode cX8_init 265 = .ok (.sipush 1024, 3) := by decide +kernel
theorem dX8_init_268 : decode cX8_init 268 = .ok (.newarray .int, 2) := by decide +kernel
theorem dX8_init_270 : decode cX8_init 270 = .ok (.putfield 66, 3) := by decide +kernel
theorem dX8_init_273 : decode cX8_init 273 = .ok (.aload_n 0, 1) := by decide +kernel
theorem dX8_init_274 : decode cX8_init 274 = .ok (.sipush 1024, 3) := by decide +kernel
theorem dX8_init_277 : decode cX8_init 277 = .ok (.newarray .int, 2) := by decide +kernel
theorem dX8_init_279 : decode cX8_init 279 = .ok (.putfield 69, 3) := by decide +kernel
theorem dX8_init_282 : decode cX8_init 282 = .ok (.aload_n 0, 1) := by decide +kernel
theorem dX8_init_283 : decode cX8_init 283 = .ok (.sipush 1024, 3) := by decide +kernel
theorem dX8_init_286 : decode cX8_init 286 = .ok (.newarray .int, 2) := by decide +kernel
theorem dX8_init_288 : decode cX8_init 288 = .ok (.putfield 72, 3) := by decide +kernel
theorem dX8_init_291 : decode cX8_init 291 = .ok (.aload_n 0, 1) := by decide +kernel
theorem dX8_init_292 : decode cX8_init 292 = .ok (.bipush 24, 2) := by decide +kernel
theorem dX8_init_294 : decode cX8_init 294 = .ok (.newarray .int, 2) := by decide +kernel
theorem dX8_init_296 : decode cX8_init 296 = .ok (.putfield 75, 3) := by decide +kernel
