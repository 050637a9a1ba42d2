theorem dX5_measure_40 : decode cX5_measure 40 = .ok (.invokevirtual 88, 3) := by decide +kernel
theorem dX5_measure_43 : decode cX5_measure 43 = .ok (.istore 9, 2) := by decide +kernel
theorem dX5_measure_45 : decode cX5_measure 45 = .ok (.iload 5, 2) := by decide +kernel
theorem dX5_measure_47 : decode cX5_measure 47 = .ok (.iload 9, 2) := by decide +kernel
theorem dX5_measure_49 : decode cX5_measure 49 = .ok (.invokestatic 91, 3) := by decide +kernel
theorem dX5_measure_52 : decode cX5_measure 52 = .ok (.istore 5, 2) := by decide +kernel
theorem dX5_measure_54 : decode cX5_measure 54 = .ok (.iload 6, 2) := by decide +kernel
theorem dX5_measure_56 : decode cX5_measure 56 = .ok (.iload 9, 2) := by decide +kernel
theorem dX5_measure_58 : decode cX5_measure 58 = .ok (.invokestatic 58, 3) := by decide +kernel
theorem dX5_measure_61 : decode cX5_measure 61 = .ok (.istore 6, 2) := by decide +kernel
theorem dX5_measure_63 : decode cX5_measure 63 = .ok (.iinc 8 1, 3) := by decide +kernel
theorem dX5_measure_66 : decode cX5_measure 66 = .ok (.goto (-42), 3) := by decide +kernel
theorem dX5_measure_69 : decode cX5_measure 69 = .ok (.iinc 7 1, 3) := by decide +kernel
theorem dX5_measure_72 : decode cX5_measure 72 = .ok (.goto (-62), 3) := by decide +kernel
theorem dX5_measure_75 : decode cX5_measure 75 = .ok (.bipush 16, 2) := by decide +kernel
theorem dX5_measure_77 : decode cX5_measure 77 = .ok (.iload_n 3, 1) := by decide +kernel
theorem dX5_measure_78 : decode cX5_measure 78 = .ok (.imul, 1) := by decide +kernel
theorem dX5_measure_79 : decode cX5_measure 79 = .ok (.iload_n 2, 1) := by decide +kernel
theorem dX5_measure_80 : decode cX5_measure 80 = .ok (.iadd, 1) := by decide +kernel
theorem dX5_measure_81 : decode cX5_measure 81 = .ok (.istore 7, 2) := by decide +kernel
theorem dX5_measure_83 : decode cX5_measure 83 = .ok (.aload_n 0, 1) := by decide +kernel
theorem dX5_measure_84 : decode cX5_measure 84 = .ok (.getfield 18, 3) := by decide +kernel
theorem dX5_measure_87 : decode cX5_measure 87 = .ok (.iload 7, 2) := by decide +kernel
theorem dX5_measure_89 : decode cX5_measure 89 = .ok (.iload 5, 2) := by decide +kernel
theorem dX5_measure_91 : decode cX5_measure 91 = .ok (.iastore, 1) := by decide +kernel
theorem dX5_measure_92 : decode cX5_measure 92 = .ok (.aload_n 0, 1) := by decide +kernel
theorem dX5_measure_93 : decode cX5_measure 93 = .ok (.getfield 21, 3) := by decide +kernel
theorem dX5_measure_96 : decode cX5_measure 96 = .ok (.iload 7, 2) := by decide +kernel
theorem dX5_measure_98 : decode cX5_measure 98 = .ok (.iload 6, 2) := by decide +kernel
theorem dX5_measure_100 : decode cX5_measure 100 = .ok (.iastore, 1) := by decide +kernel
theorem dX5_measure_101 : decode cX5_measure 101 = .ok (.aload_n 0, 1) := by decide +kernel
theorem dX5_measure_102 : decode cX5_measure 102 = .ok (.getfield 24, 3) := by decide +kernel
theorem dX5_measure_105 : decode cX5_measure 105 = .ok (.iload 7, 2) := by decide +kernel
theorem dX5_measure_107 : decode cX5_measure 107 = .ok (.iload 6, 2) := by decide +kernel
theorem dX5_measure_109 : decode cX5_measure 109 = .ok (.iload 5, 2) := by decide +kernel
theorem dX5_measure_111 : decode cX5_measure 111 = .ok (.isub, 1) := by decide +kernel
theorem dX5_measure_112 : decode cX5_measure 112 = .ok (.iload 4, 2) := by decide +kernel
theorem dX5_measure_114 : decode cX5_measure 114 = .ok (.if_icmp .gt 7, 3) := by decide +kernel
theorem dX5_measure_117 : decode cX5_measure 117 = .ok (.iconst 1, 1) := by decide +kernel
theorem dX5_measure_118 : decode cX5_measure 118 = .ok (.goto 4, 3) := by decide +kernel
theorem dX5_measure_121 : decode cX5_measure 121 = .ok (.iconst 0, 1) := by decide +kernel
theorem dX5_measure_122 : decode cX5_measure 122 = .ok (.iastore, 1) := by decide +kernel
theorem dX5_measure_123 : decode cX5_measure 123 = .ok (.aload_n 0, 1) := by decide +kernel
theorem dX5_measure_124 : decode cX5_measure 124 = .ok (.dup, 1) := by decide +kernel
theorem dX5_measure_125 : decode cX5_measure 125 = .ok (.getfield 70, 3) := by decide +kernel
theorem dX5_measure_128 : decode cX5_measure 128 = .ok (.aload_n 0, 1) := by decide +kernel
theorem dX5_measure_129 : decode cX5_measure 129 = .ok (.getfield 24, 3) := by decide +kernel
theorem dX5_measure_132 : decode cX5_measure 132 = .ok (.iload 7, 2) := by decide +kernel
theorem dX5_measure_134 : decode cX5_measure 134 = .ok (.iaload, 1) := by decide +kernel
theorem dX5_measure_135 : decode cX5_measure 135 = .ok (.iconst 1, 1) := by decide +kernel
theorem dX5_measure_136 : decode cX5_measure 136 = .ok (.if_icmp .ne 7, 3) := by decide +kernel
theorem dX5_measure_139 : decode cX5_measure 139 = .ok (.iconst 1, 1) := by decide +kernel
theorem dX5_measure_140 : decode cX5_measure 140 = .ok (.goto 4, 3) := by decide +kernel
theorem dX5_measure_143 : decode cX5_measure 143 = .ok (.iconst 0, 1) := by decide +kernel
theorem dX5_measure_144 : decode cX5_measure 144 = .ok (.iadd, 1) := by decide +kernel
theorem dX5_measure_145 : decode cX5_measure 145 = .ok (.putfield 70, 3) := by decide +kernel
theorem dX5_measure_148 : decode cX5_measure 148 = .ok (.return_, 1) := by decide +kernel
theorem dX5_readNumbers_0 : decode cX5_readNumbers 0 = .ok (.bipush 16, 2) := by decide +kernel
theorem dX5_readNumbers_2 : decode cX5_readNumbers 2 = .ok (.iload_n 3, 1) := by decide +kernel
theorem dX5_readNumbers_3 : decode cX5_readNumbers 3 = .ok (.imul, 1) := by decide +kernel
theorem dX5_readNumbers_4 : decode cX5_readNumbers 4 = .ok (.iload_n 2, 1) := by decide +kernel
theorem dX5_readNumbers_5 : decode cX5_readNumbers 5 = .ok (.iadd, 1) := by decide +kernel
theorem dX5_readNumbers_6 : decode cX5_readNumbers 6 = .ok (.istore 5, 2) := by decide +kernel
theorem dX5_readNumbers_8 : decode cX5_readNumbers 8 = .ok (.aload 4, 2) := by decide +kernel
theorem dX5_readNumbers_10 : decode cX5_readNumbers 10 = .ok (.iconst 2, 1) := by decide +kernel
theorem dX5_readNumbers_11 : decode cX5_readNumbers 11 = .ok (.iaload, 1) := by decide +kernel
theorem dX5_readNumbers_12 : decode cX5_readNumbers 12 = .ok (.iconst 1, 1) := by decide +kernel
theorem dX5_readNumbers_13 : decode cX5_readNumbers 13 = .ok (.if_icmp .ne 13, 3) := by decide +kernel
theorem dX5_readNumbers_16 : decode cX5_readNumbers 16 = .ok (.aload_n 0, 1) := by decide +kernel
theorem dX5_readNumbers_17 : decode cX5_readNumbers 17 = .ok (.getfield 18, 3) := by decide +kernel
theorem dX5_readNumbers_20 : decode cX5_readNumbers 20 = .ok (.iload 5, 2) := by decide +kernel
theorem dX5_readNumbers_22 : decode cX5_readNumbers 22 = .ok (.iaload, 1) := by decide +kernel
theorem dX5_readNumbers_23 : decode cX5_readNumbers 23 = .ok (.goto 4, 3) := by decide +kernel
theorem dX5_readNumbers_26 : decode cX5_readNumbers 26 = .ok (.iconst 0, 1) := by decide +kernel
theorem dX5_readNumbers_27 : decode cX5_readNumbers 27 = .ok (.istore 6, 2) := by decide +kernel
theorem dX5_readNumbers_29 : decode cX5_readNumbers 29 = .ok (.iconst 1, 1) := by decide +kernel
theorem dX5_readNumbers_30 : decode cX5_readNumbers 30 = .ok (.aload 4, 2) := by decide +kernel
theorem dX5_readNumbers_32 : decode cX5_readNumbers 32 = .ok (.iconst 1, 1) := by decide +kernel
theorem dX5_readNumbers_33 : decode cX5_readNumbers 33 = .ok (.iaload, 1) := by decide +kernel
theorem dX5_readNumbers_34 : decode cX5_readNumbers 34 = .ok (.invokestatic 58, 3) := by decide +kernel
theorem dX5_readNumbers_37 : decode cX5_readNumbers 37 = .ok (.istore 7, 2) := by decide +kernel
theorem dX5_readNumbers_39 : decode cX5_readNumbers 39 = .ok (.lconst 0, 1) := by decide +kernel
theorem dX5_readNumbers_40 : decode cX5_readNumbers 40 = .ok (.lstore 8, 2) := by decide +kernel
theorem dX5_readNumbers_42 : decode cX5_readNumbers 42 = .ok (.lconst 0, 1) := by decide +kernel
theorem dX5_readNumbers_43 : decode cX5_readNumbers 43 = .ok (.lstore 10, 2) := by decide +kernel
theorem dX5_readNumbers_45 : decode cX5_readNumbers 45 = .ok (.iconst 0, 1) := by decide +kernel
theorem dX5_readNumbers_46 : decode cX5_readNumbers 46 = .ok (.istore 12, 2) := by decide +kernel
theorem dX5_readNumbers_48 : decode cX5_readNumbers 48 = .ok (.iload_n 3, 1) := by decide +kernel
theorem dX5_readNumbers_49 : decode cX5_readNumbers 49 = .ok (.istore 13, 2) := by decide +kernel
theorem dX5_readNumbers_51 : decode cX5_readNumbers 51 = .ok (.iload 13, 2) := by decide +kernel
theorem dX5_readNumbers_53 : decode cX5_readNumbers 53 = .ok (.iload_n 3, 1) := by decide +kernel
theorem dX5_readNumbers_54 : decode cX5_readNumbers 54 = .ok (.aload_n 0, 1) := by decide +kernel
theorem dX5_readNumbers_55 : decode cX5_readNumbers 55 = .ok (.getfield 50, 3) := by decide +kernel
theorem dX5_readNumbers_58 : decode cX5_readNumbers 58 = .ok (.iadd, 1) := by decide +kernel
theorem dX5_readNumbers_59 : decode cX5_readNumbers 59 = .ok (.if_icmp .ge 80, 3) := by decide +kernel
theorem dX5_readNumbers_62 : decode cX5_readNumbers 62 = .ok (.iload_n 2, 1) := by decide +kernel
theorem dX5_readNumbers_63 : decode cX5_readNumbers 63 = .ok (.istore 14, 2) := by decide +kernel
theorem dX5_readNumbers_65 : decode cX5_readNumbers 65 = .ok (.iload 14, 2) := by decide +kernel
theorem dX5_readNumbers_67 : decode cX5_readNumbers 67 = .ok (.iload_n 2, 1) := by decide +kernel
theorem dX5_readNumbers_68 : decode cX5_readNumbers 68 = .ok (.aload_n 0, 1) := by decide +kernel
theorem dX5_readNumbers_69 : decode cX5_readNumbers 69 = .ok (.getfield 50, 3) := by decide +kernel
theorem dX5_readNumbers_72 : decode cX5_readNumbers 72 = .ok (.iadd, 1) := by decide +kernel
theorem dX5_readNumbers_73 : decode cX5_readNumbers 73 = .ok (.if_icmp .ge 60, 3) := by decide +kernel
theorem dX5_readNumbers_76 : decode cX5_readNumbers 76 = .ok (.aload_n 1, 1) := by decide +kernel
theorem dX5_readNumbers_77 : decode cX5_readNumbers 77 = .ok (.iload 14, 2) := by decide +kernel
theorem dX5_readNumbers_79 : decode cX5_readNumbers 79 = .ok (.iload 13, 2) := by decide +kernel
theorem dX5_readNumbers_81 : decode cX5_readNumbers 81 = .ok (.invokevirtual 88, 3) := by decide +kernel
theorem dX5_readNumbers_84 : decode cX5_readNumbers 84 = .ok (.iload 6, 2) := by decide +kernel
theorem dX5_readNumbers_86 : decode cX5_readNumbers 86 = .ok (.isub, 1) := by decide +kernel
theorem dX5_readNumbers_87 : decode cX5_readNumbers 87 = .ok (.iload 7, 2) := by decide +kernel
theorem dX5_readNumbers_89 : decode cX5_readNumbers 89 = .ok (.idiv, 1) := by decide +kernel
theorem dX5_readNumbers_90 : decode cX5_readNumbers 90 = .ok (.istore 15, 2) := by decide +kernel
theorem dX5_readNumbers_92 : decode cX5_readNumbers 92 = .ok (.iload 12, 2) := by decide +kernel
theorem dX5_readNumbers_94 : decode cX5_readNumbers 94 = .ok (.bipush 9, 2) := by decide +kernel
theorem dX5_readNumbers_96 : decode cX5_readNumbers 96 = .ok (.if_icmp .ge 17, 3) := by decide +kernel
theorem dX5_readNumbers_99 : decode cX5_readNumbers 99 = .ok (.lload 8, 2) := by decide +kernel
theorem dX5_readNumbers_101 : decode cX5_readNumbers 101 = .ok (.bipush 7, 2) := by decide +kernel
theorem dX5_readNumbers_103 : decode cX5_readNumbers 103 = .ok (.lshl, 1) := by decide +kernel
theorem dX5_readNumbers_104 : decode cX5_readNumbers 104 = .ok (.iload 15, 2) := by decide +kernel
theorem dX5_readNumbers_106 : decode cX5_readNumbers 106 = .ok (.i2l, 1) := by decide +kernel
theorem dX5_readNumbers_107 : decode cX5_readNumbers 107 = .ok (.lor, 1) := by decide +kernel
theorem dX5_readNumbers_108 : decode cX5_readNumbers 108 = .ok (.lstore 8, 2) := by decide +kernel
theorem dX5_readNumbers_110 : decode cX5_readNumbers 110 = .ok (.goto 14, 3) := by decide +kernel
theorem dX5_readNumbers_113 : decode cX5_readNumbers 113 = .ok (.lload 10, 2) := by decide +kernel
theorem dX5_readNumbers_115 : decode cX5_readNumbers 115 = .ok (.bipush 7, 2) := by decide +kernel
theorem dX5_readNumbers_117 : decode cX5_readNumbers 117 = .ok (.lshl, 1) := by decide +kernel
theorem dX5_readNumbers_118 : decode cX5_readNumbers 118 = .ok (.iload 15, 2) := by decide +kernel
theorem dX5_readNumbers_120 : decode cX5_readNumbers 120 = .ok (.i2l, 1) := by decide +kernel
theorem dX5_readNumbers_121 : decode cX5_readNumbers 121 = .ok (.lor, 1) := by decide +kernel
theorem dX5_readNumbers_122 : decode cX5_readNumbers 122 = .ok (.lstore 10, 2) := by decide +kernel
theorem dX5_readNumbers_124 : decode cX5_readNumbers 124 = .ok (.iinc 12 1, 3) := by decide +kernel
theorem dX5_readNumbers_127 : decode cX5_readNumbers 127 = .ok (.iinc 14 1, 3) := by decide +kernel
theorem dX5_readNumbers_130 : decode cX5_readNumbers 130 = .ok (.goto (-65), 3) := by decide +kernel
theorem dX5_readNumbers_133 : decode cX5_readNumbers 133 = .ok (.iinc 13 1, 3) := by decide +kernel
theorem dX5_readNumbers_136 : decode cX5_readNumbers 136 = .ok (.goto (-85), 3) := by decide +kernel
theorem dX5_readNumbers_139 : decode cX5_readNumbers 139 = .ok (.aload_n 0, 1) := by decide +kernel
theorem dX5_readNumbers_140 : decode cX5_readNumbers 140 = .ok (.getfield 27, 3) := by decide +kernel
theorem dX5_readNumbers_143 : decode cX5_readNumbers 143 = .ok (.iload 5, 2) := by decide +kernel
theorem dX5_readNumbers_145 : decode cX5_readNumbers 145 = .ok (.lload 8, 2) := by decide +kernel
theorem dX5_readNumbers_147 : decode cX5_readNumbers 147 = .ok (.lastore, 1) := by decide +kernel
theorem dX5_readNumbers_148 : decode cX5_readNumbers 148 = .ok (.aload_n 0, 1) := by decide +kernel
theorem dX5_readNumbers_149 : decode cX5_readNumbers 149 = .ok (.getfield 31, 3) := by decide +kernel
theorem dX5_readNumbers_152 : decode cX5_readNumbers 152 = .ok (.iload 5, 2) := by decide +kernel
theorem dX5_readNumbers_154 : decode cX5_readNumbers 154 = .ok (.lload 10, 2) := by decide +kernel
theorem dX5_readNumbers_156 : decode cX5_readNumbers 156 = .ok (.lastore, 1) := by decide +kernel
theorem dX5_readNumbers_157 : decode cX5_readNumbers 157 = .ok (.return_, 1) := by decide +kernel
theorem dX5_numberOf_0 : decode cX5_numberOf 0 = .ok (.aload_n 0, 1) := by decide +kernel
theorem dX5_numberOf_1 : decode cX5_numberOf 1 = .ok (.getfield 50, 3) := by decide +kernel
theorem dX5_numberOf_4 : decode cX5_numberOf 4 = .ok (.aload_n 0, 1) := by decide +kernel
theorem dX5_numberOf_5 : decode cX5_numberOf 5 = .ok (.getfield 50, 3) := by decide +kernel
theorem dX5_numberOf_8 : decode cX5_numberOf 8 = .ok (.imul, 1) := by decide +kernel
theorem dX5_numberOf_9 : decode cX5_numberOf 9 = .ok (.istore_n 3, 1) := by decide +kernel
theorem dX5_numberOf_10 : decode cX5_numberOf 10 = .ok (.iload_n 2, 1) := by decide +kernel
theorem dX5_numberOf_11 : decode cX5_numberOf 11 = .ok (.ifCond .lt 8, 3) := by decide +kernel
theorem dX5_numberOf_14 : decode cX5_numberOf 14 = .ok (.iload_n 2, 1) := by decide +kernel
theorem dX5_numberOf_15 : decode cX5_numberOf 15 = .ok (.iload_n 3, 1) := by decide +kernel
theorem dX5_numberOf_16 : decode cX5_numberOf 16 = .ok (.if_icmp .lt 6, 3) := by decide +kernel
theorem dX5_numberOf_19 : decode cX5_numberOf 19 = .ok (.bipush (-9), 2) := by decide +kernel
theorem dX5_numberOf_21 : decode cX5_numberOf 21 = .ok (.ireturn, 1) := by decide +kernel
theorem dX5_numberOf_22 : decode cX5_numberOf 22 = .ok (.iload_n 2, 1) := by decide +kernel
theorem dX5_numberOf_23 : decode cX5_numberOf 23 = .ok (.bipush 9, 2) := by decide +kernel
theorem dX5_numberOf_25 : decode cX5_numberOf 25 = .ok (.if_icmp .ge 32, 3) := by decide +kernel
theorem dX5_numberOf_28 : decode cX5_numberOf 28 = .ok (.iload_n 3, 1) := by decide +kernel
theorem dX5_numberOf_29 : decode cX5_numberOf 29 = .ok (.bipush 9, 2) := by decide +kernel
theorem dX5_numberOf_31 : decode cX5_numberOf 31 = .ok (.invokestatic 91, 3) := by decide +kernel
theorem dX5_numberOf_34 : decode cX5_numberOf 34 = .ok (.iconst 1, 1) := by decide +kernel
theorem dX5_numberOf_35 : decode cX5_numberOf 35 = .ok (.isub, 1) := by decide +kernel
theorem dX5_numberOf_36 : decode cX5_numberOf 36 = .ok (.iload_n 2, 1) := by decide +kernel
theorem dX5_numberOf_37 : decode cX5_numberOf 37 = .ok (.isub, 1) := by decide +kernel
theorem dX5_numberOf_38 : decode cX5_numberOf 38 = .ok (.istore 4, 2) := by decide +kernel
theorem dX5_numberOf_40 : decode cX5_numberOf 40 = .ok (.aload_n 0, 1) := by decide +kernel
theorem dX5_numberOf_41 : decode cX5_numberOf 41 = .ok (.getfield 27, 3) := by decide +kernel
theorem dX5_numberOf_44 : decode cX5_numberOf 44 = .ok (.iload_n 1, 1) := by decide +kernel
theorem dX5_numberOf_45 : decode cX5_numberOf 45 = .ok (.laload, 1) := by decide +kernel
theorem dX5_numberOf_46 : decode cX5_numberOf 46 = .ok (.bipush 7, 2) := by decide +kernel
theorem dX5_numberOf_48 : decode cX5_numberOf 48 = .ok (.iload 4, 2) := by decide +kernel
theorem dX5_numberOf_50 : decode cX5_numberOf 50 = .ok (.imul, 1) := by decide +kernel
theorem dX5_numberOf_51 : decode cX5_numberOf 51 = .ok (.lshr, 1) := by decide +kernel
theorem dX5_numberOf_52 : decode cX5_numberOf 52 = .ok (.l2i, 1) := by decide +kernel
theorem dX5_numberOf_53 : decode cX5_numberOf 53 = .ok (.bipush 127, 2) := by decide +kernel
theorem dX5_numberOf_55 : decode cX5_numberOf 55 = .ok (.iand, 1) := by decide +kernel
theorem dX5_numberOf_56 : decode cX5_numberOf 56 = .ok (.ireturn, 1) := by decide +kernel
theorem dX5_numberOf_57 : decode cX5_numberOf 57 = .ok (.aload_n 0, 1) := by decide +kernel
theorem dX5_numberOf_58 : decode cX5_numberOf 58 = .ok (.getfield 31, 3) := by decide +kernel
theorem dX5_numberOf_61 : decode cX5_numberOf 61 = .ok (.iload_n 1, 1) := by decide +kernel
theorem dX5_numberOf_62 : decode cX5_numberOf 62 = .ok (.laload, 1) := by decide +kernel
theorem dX5_numberOf_63 : decode cX5_numberOf 63 = .ok (.bipush 7, 2) := by decide +kernel
theorem dX5_numberOf_65 : decode cX5_numberOf 65 = .ok (.iload_n 3, 1) := by decide +kernel
theorem dX5_numberOf_66 : decode cX5_numberOf 66 = .ok (.iconst 1, 1) := by decide +kernel
theorem dX5_numberOf_67 : decode cX5_numberOf 67 = .ok (.isub, 1) := by decide +kernel
theorem dX5_numberOf_68 : decode cX5_numberOf 68 = .ok (.iload_n 2, 1) := by decide +kernel
theorem dX5_numberOf_69 : decode cX5_numberOf 69 = .ok (.isub, 1) := by decide +kernel
theorem dX5_numberOf_70 : decode cX5_numberOf 70 = .ok (.imul, 1) := by decide +kernel
theorem dX5_numberOf_71 : decode cX5_numberOf 71 = .ok (.lshr, 1) := by decide +kernel
theorem dX5_numberOf_72 : decode cX5_numberOf 72 = .ok (.l2i, 1) := by decide +kernel
theorem dX5_numberOf_73 : decode cX5_numberOf 73 = .ok (.bipush 127, 2) := by decide +kernel
theorem dX5_numberOf_75 : decode cX5_numberOf 75 = .ok (.iand, 1) := by decide +kernel
theorem dX5_numberOf_76 : decode cX5_numberOf 76 = .ok (.ireturn, 1) := by decide +kernel
theorem dX5_markOf_0 : decode cX5_markOf 0 = .ok (.iconst 1, 1) := by decide +kernel
theorem dX5_markOf_1 : decode cX5_markOf 1 = .ok (.istore_n 2, 1) := by decide +kernel
theorem dX5_markOf_2 : decode cX5_markOf 2 = .ok (.iconst 0, 1) := by decide +kernel
theorem dX5_markOf_3 : decode cX5_markOf 3 = .ok (.istore_n 3, 1) := by decide +kernel
theorem dX5_markOf_4 : decode cX5_markOf 4 = .ok (.iload_n 3, 1) := by decide +kernel
theorem dX5_markOf_5 : decode cX5_markOf 5 = .ok (.aload_n 0, 1) := by decide +kernel
theorem dX5_markOf_6 : decode cX5_markOf 6 = .ok (.getfield 50, 3) := by decide +kernel
theorem dX5_markOf_9 : decode cX5_markOf 9 = .ok (.aload_n 0, 1) := by decide +kernel
theorem dX5_markOf_10 : decode cX5_markOf 10 = .ok (.getfield 50, 3) := by decide +kernel
theorem dX5_markOf_13 : decode cX5_markOf 13 = .ok (.imul, 1) := by decide +kernel
theorem dX5_markOf_14 : decode cX5_markOf 14 = .ok (.if_icmp .ge 21, 3) := by decide +kernel
theorem dX5_markOf_17 : decode cX5_markOf 17 = .ok (.bipush 31, 2) := by decide +kernel
theorem dX5_markOf_19 : decode cX5_markOf 19 = .ok (.iload_n 2, 1) := by decide +kernel
theorem dX5_markOf_20 : decode cX5_markOf 20 = .ok (.imul, 1) := by decide +kernel
theorem dX5_markOf_21 : decode cX5_markOf 21 = .ok (.aload_n 0, 1) := by decide +kernel
theorem dX5_markOf_22 : decode cX5_markOf 22 = .ok (.iload_n 1, 1) := by decide +kernel
theorem dX5_markOf_23 : decode cX5_markOf 23 = .ok (.iload_n 3, 1) := by decide +kernel
theorem dX5_markOf_24 : decode cX5_markOf 24 = .ok (.invokevirtual 94, 3) := by decide +kernel
theorem dX5_markOf_27 : decode cX5_markOf 27 = .ok (.iadd, 1) := by decide +kernel
theorem dX5_markOf_28 : decode cX5_markOf 28 = .ok (.istore_n 2, 1) := by decide +kernel
theorem dX5_markOf_29 : decode cX5_markOf 29 = .ok (.iinc 3 1, 3) := by decide +kernel
theorem dX5_markOf_32 : decode cX5_markOf 32 = .ok (.goto (-28), 3) := by decide +kernel
theorem dX5_markOf_35 : decode cX5_markOf 35 = .ok (.iload_n 2, 1) := by decide +kernel
theorem dX5_markOf_36 : decode cX5_markOf 36 = .ok (.ireturn, 1) := by decide +kernel
theorem dX5_sort_0 : decode cX5_sort 0 = .ok (.iconst 1, 1) := by decide +kernel
theorem dX5_sort_1 : decode cX5_sort 1 = .ok (.istore_n 1, 1) := by decide +kernel
theorem dX5_sort_2 : decode cX5_sort 2 = .ok (.iload_n 1, 1) := by decide +kernel
theorem dX5_sort_3 : decode cX5_sort 3 = .ok (.aload_n 0, 1) := by decide +kernel
theorem dX5_sort_4 : decode cX5_sort 4 = .ok (.getfield 67, 3) := by decide +kernel
theorem dX5_sort_7 : decode cX5_sort 7 = .ok (.if_icmp .ge 73, 3) := by decide +kernel
theorem dX5_sort_10 : decode cX5_sort 10 = .ok (.iconst 0, 1) := by decide +kernel
theorem dX5_sort_11 : decode cX5_sort 11 = .ok (.istore_n 2, 1) := by decide +kernel
theorem dX5_sort_12 : decode cX5_sort 12 = .ok (.iload_n 2, 1) := by decide +kernel
theorem dX5_sort_13 : decode cX5_sort 13 = .ok (.aload_n 0, 1) := by decide +kernel
theorem dX5_sort_14 : decode cX5_sort 14 = .ok (.getfield 67, 3) := by decide +kernel
theorem dX5_sort_17 : decode cX5_sort 17 = .ok (.if_icmp .ge 39, 3) := by decide +kernel
theorem dX5_sort_20 : decode cX5_sort 20 = .ok (.aload_n 0, 1) := by decide +kernel
theorem dX5_sort_21 : decode cX5_sort 21 = .ok (.iload_n 2, 1) := by decide +kernel
theorem dX5_sort_22 : decode cX5_sort 22 = .ok (.iload_n 2, 1) := by decide +kernel
theorem dX5_sort_23 : decode cX5_sort 23 = .ok (.iload_n 1, 1) := by decide +kernel
theorem dX5_sort_24 : decode cX5_sort 24 = .ok (.iadd, 1) := by decide +kernel
theorem dX5_sort_25 : decode cX5_sort 25 = .ok (.aload_n 0, 1) := by decide +kernel
theorem dX5_sort_26 : decode cX5_sort 26 = .ok (.getfield 67, 3) := by decide +kernel
theorem dX5_sort_29 : decode cX5_sort 29 = .ok (.invokestatic 91, 3) := by decide +kernel
theorem dX5_sort_32 : decode cX5_sort 32 = .ok (.iload_n 2, 1) := by decide +kernel
theorem dX5_sort_33 : decode cX5_sort 33 = .ok (.iconst 2, 1) := by decide +kernel
theorem dX5_sort_34 : decode cX5_sort 34 = .ok (.iload_n 1, 1) := by decide +kernel
theorem dX5_sort_35 : decode cX5_sort 35 = .ok (.imul, 1) := by decide +kernel
theorem dX5_sort_36 : decode cX5_sort 36 = .ok (.iadd, 1) := by decide +kernel
theorem dX5_sort_37 : decode cX5_sort 37 = .ok (.aload_n 0, 1) := by decide +kernel
theorem dX5_sort_38 : decode cX5_sort 38 = .ok (.getfield 67, 3) := by decide +kernel
theorem dX5_sort_41 : decode cX5_sort 41 = .ok (.invokestatic 91, 3) := by decide +kernel
theorem dX5_sort_44 : decode cX5_sort 44 = .ok (.invokevirtual 97, 3) := by decide +kernel
theorem dX5_sort_47 : decode cX5_sort 47 = .ok (.iload_n 2, 1) := by decide +kernel
theorem dX5_sort_48 : decode cX5_sort 48 = .ok (.iconst 2, 1) := by decide +kernel
theorem dX5_sort_49 : decode cX5_sort 49 = .ok (.iload_n 1, 1) := by decide +kernel
theorem dX5_sort_50 : decode cX5_sort 50 = .ok (.imul, 1) := by decide +kernel
theorem dX5_sort_51 : decode cX5_sort 51 = .ok (.iadd, 1) := by decide +kernel
theorem dX5_sort_52 : decode cX5_sort 52 = .ok (.istore_n 2, 1) := by decide +kernel
theorem dX5_sort_53 : decode cX5_sort 53 = .ok (.goto (-41), 3) := by decide +kernel
theorem dX5_sort_56 : decode cX5_sort 56 = .ok (.aload_n 0, 1) := by decide +kernel
theorem dX5_sort_57 : decode cX5_sort 57 = .ok (.getfield 15, 3) := by decide +kernel
theorem dX5_sort_60 : decode cX5_sort 60 = .ok (.iconst 0, 1) := by decide +kernel
theorem dX5_sort_61 : decode cX5_sort 61 = .ok (.aload_n 0, 1) := by decide +kernel
theorem dX5_sort_62 : decode cX5_sort 62 = .ok (.getfield 9, 3) := by decide +kernel
theorem dX5_sort_65 : decode cX5_sort 65 = .ok (.iconst 0, 1) := by decide +kernel
theorem dX5_sort_66 : decode cX5_sort 66 = .ok (.aload_n 0, 1) := by decide +kernel
theorem dX5_sort_67 : decode cX5_sort 67 = .ok (.getfield 67, 3) := by decide +kernel
theorem dX5_sort_70 : decode cX5_sort 70 = .ok (.invokestatic 101, 3) := by decide +kernel
theorem dX5_sort_73 : decode cX5_sort 73 = .ok (.iload_n 1, 1) := by decide +kernel
theorem dX5_sort_74 : decode cX5_sort 74 = .ok (.iconst 2, 1) := by decide +kernel
theorem dX5_sort_75 : decode cX5_sort 75 = .ok (.imul, 1) := by decide +kernel
theorem dX5_sort_76 : decode cX5_sort 76 = .ok (.istore_n 1, 1) := by decide +kernel
theorem dX5_sort_77 : decode cX5_sort 77 = .ok (.goto (-75), 3) := by decide +kernel
theorem dX5_sort_80 : decode cX5_sort 80 = .ok (.return_, 1) := by decide +kernel
theorem dX5_merge_0 : decode cX5_merge 0 = .ok (.iload_n 1, 1) := by decide +kernel
theorem dX5_merge_1 : decode cX5_merge 1 = .ok (.istore 4, 2) := by decide +kernel
theorem dX5_merge_3 : decode cX5_merge 3 = .ok (.iload_n 2, 1) := by decide +kernel
theorem dX5_merge_4 : decode cX5_merge 4 = .ok (.istore 5, 2) := by decide +kernel
theorem dX5_merge_6 : decode cX5_merge 6 = .ok (.iload_n 1, 1) := by decide +kernel
theorem dX5_merge_7 : decode cX5_merge 7 = .ok (.istore 6, 2) := by decide +kernel
theorem dX5_merge_9 : decode cX5_merge 9 = .ok (.iload 6, 2) := by decide +kernel
theorem dX5_merge_11 : decode cX5_merge 11 = .ok (.iload_n 3, 1) := by decide +kernel
theorem dX5_merge_12 : decode cX5_merge 12 = .ok (.if_icmp .ge 91, 3) := by decide +kernel
theorem dX5_merge_15 : decode cX5_merge 15 = .ok (.iload 4, 2) := by decide +kernel
theorem dX5_merge_17 : decode cX5_merge 17 = .ok (.iload_n 2, 1) := by decide +kernel
theorem dX5_merge_18 : decode cX5_merge 18 = .ok (.if_icmp .ge 30, 3) := by decide +kernel
theorem dX5_merge_21 : decode cX5_merge 21 = .ok (.iload 5, 2) := by decide +kernel
theorem dX5_merge_23 : decode cX5_merge 23 = .ok (.iload_n 3, 1) := by decide +kernel
theorem dX5_merge_24 : decode cX5_merge 24 = .ok (.if_icmp .ge 28, 3) := by decide +kernel
theorem dX5_merge_27 : decode cX5_merge 27 = .ok (.aload_n 0, 1) := by decide +kernel
theorem dX5_merge_28 : decode cX5_merge 28 = .ok (.aload_n 0, 1) := by decide +kernel
theorem dX5_merge_29 : decode cX5_merge 29 = .ok (.getfield 9, 3) := by decide +kernel
theorem dX5_merge_32 : decode cX5_merge 32 = .ok (.iload 5, 2) := by decide +kernel
theorem dX5_merge_34 : decode cX5_merge 34 = .ok (.iaload, 1) := by decide +kernel
theorem dX5_merge_35 : decode cX5_merge 35 = .ok (.aload_n 0, 1) := by decide +kernel
theorem dX5_merge_36 : decode cX5_merge 36 = .ok (.getfield 9, 3) := by decide +kernel
theorem dX5_merge_39 : decode cX5_merge 39 = .ok (.iload 4, 2) := by decide +kernel
theorem dX5_merge_41 : decode cX5_merge 41 = .ok (.iaload, 1) := by decide +kernel
theorem dX5_merge_42 : decode cX5_merge 42 = .ok (.invokevirtual 107, 3) := by decide +kernel
theorem dX5_merge_45 : decode cX5_merge 45 = .ok (.ifCond .eq 7, 3) := by decide +kernel
theorem dX5_merge_48 : decode cX5_merge 48 = .ok (.iconst 1, 1) := by decide +kernel
theorem dX5_merge_49 : decode cX5_merge 49 = .ok (.goto 4, 3) := by decide +kernel
theorem dX5_merge_52 : decode cX5_merge 52 = .ok (.iconst 0, 1) := by decide +kernel
theorem dX5_merge_53 : decode cX5_merge 53 = .ok (.istore 7, 2) := by decide +kernel
theorem dX5_merge_55 : decode cX5_merge 55 = .ok (.iload 7, 2) := by decide +kernel
theorem dX5_merge_57 : decode cX5_merge 57 = .ok (.ifCond .eq 23, 3) := by decide +kernel
theorem dX5_merge_60 : decode cX5_merge 60 = .ok (.aload_n 0, 1) := by decide +kernel
theorem dX5_merge_61 : decode cX5_merge 61 = .ok (.getfield 15, 3) := by decide +kernel
theorem dX5_merge_64 : decode cX5_merge 64 = .ok (.iload 6, 2) := by decide +kernel
theorem dX5_merge_66 : decode cX5_merge 66 = .ok (.aload_n 0, 1) := by decide +kernel
theorem dX5_merge_67 : decode cX5_merge 67 = .ok (.getfield 9, 3) := by decide +kernel
theorem dX5_merge_70 : decode cX5_merge 70 = .ok (.iload 5, 2) := by decide +kernel
theorem dX5_merge_72 : decode cX5_merge 72 = .ok (.iaload, 1) := by decide +kernel
theorem dX5_merge_73 : decode cX5_merge 73 = .ok (.iastore, 1) := by decide +kernel
theorem dX5_merge_74 : decode cX5_merge 74 = .ok (.iinc 5 1, 3) := by decide +kernel
theorem dX5_merge_77 : decode cX5_merge 77 = .ok (.goto 20, 3) := by decide +kernel
theorem dX5_merge_80 : decode cX5_merge 80 = .ok (.aload_n 0, 1) := by decide +kernel
theorem dX5_merge_81 : decode cX5_merge 81 = .ok (.getfield 15, 3) := by decide +kernel
theorem dX5_merge_84 : decode cX5_merge 84 = .ok (.iload 6, 2) := by decide +kernel
theorem dX5_merge_86 : decode cX5_merge 86 = .ok (.aload_n 0, 1) := by decide +kernel
theorem dX5_merge_87 : decode cX5_merge 87 = .ok (.getfield 9, 3) := by decide +kernel
theorem dX5_merge_90 : decode cX5_merge 90 = .ok (.iload 4, 2) := by decide +kernel
theorem dX5_merge_92 : decode cX5_merge 92 = .ok (.iaload, 1) := by decide +kernel
theorem dX5_merge_93 : decode cX5_merge 93 = .ok (.iastore, 1) := by decide +kernel
theorem dX5_merge_94 : decode cX5_merge 94 = .ok (.iinc 4 1, 3) := by decide +kernel
theorem dX5_merge_97 : decode cX5_merge 97 = .ok (.iinc 6 1, 3) := by decide +kernel
theorem dX5_merge_100 : decode cX5_merge 100 = .ok (.goto (-91), 3) := by decide +kernel
theorem dX5_merge_103 : decode cX5_merge 103 = .ok (.return_, 1) := by decide +kernel
theorem dX5_isBefore_0 : decode cX5_isBefore 0 = .ok (.aload_n 0, 1) := by decide +kernel
theorem dX5_isBefore_1 : decode cX5_isBefore 1 = .ok (.getfield 27, 3) := by decide +kernel
theorem dX5_isBefore_4 : decode cX5_isBefore 4 = .ok (.iload_n 1, 1) := by decide +kernel
theorem dX5_isBefore_5 : decode cX5_isBefore 5 = .ok (.laload, 1) := by decide +kernel
theorem dX5_isBefore_6 : decode cX5_isBefore 6 = .ok (.aload_n 0, 1) := by decide +kernel
theorem dX5_isBefore_7 : decode cX5_isBefore 7 = .ok (.getfield 27, 3) := by decide +kernel
theorem dX5_isBefore_10 : decode cX5_isBefore 10 = .ok (.iload_n 2, 1) := by decide +kernel
theorem dX5_isBefore_11 : decode cX5_isBefore 11 = .ok (.laload, 1) := by decide +kernel
theorem dX5_isBefore_12 : decode cX5_isBefore 12 = .ok (.lcmp, 1) := by decide +kernel
theorem dX5_isBefore_13 : decode cX5_isBefore 13 = .ok (.ifCond .eq 25, 3) := by decide +kernel
theorem dX5_isBefore_16 : decode cX5_isBefore 16 = .ok (.aload_n 0, 1) := by decide +kernel
theorem dX5_isBefore_17 : decode cX5_isBefore 17 = .ok (.getfield 27, 3) := by decide +kernel
theorem dX5_isBefore_20 : decode cX5_isBefore 20 = .ok (.iload_n 1, 1) := by decide +kernel
theorem dX5_isBefore_21 : decode cX5_isBefore 21 = .ok (.laload, 1) := by decide +kernel
theorem dX5_isBefore_22 : decode cX5_isBefore 22 = .ok (.aload_n 0, 1) := by decide +kernel
theorem dX5_isBefore_23 : decode cX5_isBefore 23 = .ok (.getfield 27, 3) := by decide +kernel
theorem dX5_isBefore_26 : decode cX5_isBefore 26 = .ok (.iload_n 2, 1) := by decide +kernel
theorem dX5_isBefore_27 : decode cX5_isBefore 27 = .ok (.laload, 1) := by decide +kernel
theorem dX5_isBefore_28 : decode cX5_isBefore 28 = .ok (.lcmp, 1) := by decide +kernel
theorem dX5_isBefore_29 : decode cX5_isBefore 29 = .ok (.ifCond .ge 7, 3) := by decide +kernel
theorem dX5_isBefore_32 : decode cX5_isBefore 32 = .ok (.iconst 1, 1) := by decide +kernel
theorem dX5_isBefore_33 : decode cX5_isBefore 33 = .ok (.goto 4, 3) := by decide +kernel
theorem dX5_isBefore_36 : decode cX5_isBefore 36 = .ok (.iconst 0, 1) := by decide +kernel
theorem dX5_isBefore_37 : decode cX5_isBefore 37 = .ok (.ireturn, 1) := by decide +kernel
theorem dX5_isBefore_38 : decode cX5_isBefore 38 = .ok (.aload_n 0, 1) := by decide +kernel
theorem dX5_isBefore_39 : decode cX5_isBefore 39 = .ok (.getfield 31, 3) := by decide +kernel
theorem dX5_isBefore_42 : decode cX5_isBefore 42 = .ok (.iload_n 1, 1) := by decide +kernel
theorem dX5_isBefore_43 : decode cX5_isBefore 43 = .ok (.laload, 1) := by decide +kernel
theorem dX5_isBefore_44 : decode cX5_isBefore 44 = .ok (.aload_n 0, 1) := by decide +kernel
theorem dX5_isBefore_45 : decode cX5_isBefore 45 = .ok (.getfield 31, 3) := by decide +kernel
theorem dX5_isBefore_48 : decode cX5_isBefore 48 = .ok (.iload_n 2, 1) := by decide +kernel
theorem dX5_isBefore_49 : decode cX5_isBefore 49 = .ok (.laload, 1) := by decide +kernel
theorem dX5_isBefore_50 : decode cX5_isBefore 50 = .ok (.lcmp, 1) := by decide +kernel
theorem dX5_isBefore_51 : decode cX5_isBefore 51 = .ok (.ifCond .ge 7, 3) := by decide +kernel
theorem dX5_isBefore_54 : decode cX5_isBefore 54 = .ok (.iconst 1, 1) := by decide +kernel
theorem dX5_isBefore_55 : decode cX5_isBefore 55 = .ok (.goto 4, 3) := by decide +kernel
theorem dX5_isBefore_58 : decode cX5_isBefore 58 = .ok (.iconst 0, 1) := by decide +kernel
theorem dX5_isBefore_59 : decode cX5_isBefore 59 = .ok (.ireturn, 1) := by decide +kernel
theorem dX5_areAlike_0 : decode cX5_areAlike 0 = .ok (.aload_n 0, 1) := by decide +kernel
theorem dX5_areAlike_1 : decode cX5_areAlike 1 = .ok (.getfield 27, 3) := by decide +kernel
theorem dX5_areAlike_4 : decode cX5_areAlike 4 = .ok (.iload_n 1, 1) := by decide +kernel
theorem dX5_areAlike_5 : decode cX5_areAlike 5 = .ok (.laload, 1) := by decide +kernel
theorem dX5_areAlike_6 : decode cX5_areAlike 6 = .ok (.aload_n 0, 1) := by decide +kernel
theorem dX5_areAlike_7 : decode cX5_areAlike 7 = .ok (.getfield 27, 3) := by decide +kernel
theorem dX5_areAlike_10 : decode cX5_areAlike 10 = .ok (.iload_n 2, 1) := by decide +kernel
theorem dX5_areAlike_11 : decode cX5_areAlike 11 = .ok (.laload, 1) := by decide +kernel
theorem dX5_areAlike_12 : decode cX5_areAlike 12 = .ok (.lcmp, 1) := by decide +kernel
theorem dX5_areAlike_13 : decode cX5_areAlike 13 = .ok (.ifCond .ne 23, 3) := by decide +kernel
theorem dX5_areAlike_16 : decode cX5_areAlike 16 = .ok (.aload_n 0, 1) := by decide +kernel
theorem dX5_areAlike_17 : decode cX5_areAlike 17 = .ok (.getfield 31, 3) := by decide +kernel
theorem dX5_areAlike_20 : decode cX5_areAlike 20 = .ok (.iload_n 1, 1) := by decide +kernel
theorem dX5_areAlike_21 : decode cX5_areAlike 21 = .ok (.laload, 1) := by decide +kernel
theorem dX5_areAlike_22 : decode cX5_areAlike 22 = .ok (.aload_n 0, 1) := by decide +kernel
theorem dX5_areAlike_23 : decode cX5_areAlike 23 = .ok (.getfield 31, 3) := by decide +kernel
theorem dX5_areAlike_26 : decode cX5_areAlike 26 = .ok (.iload_n 2, 1) := by decide +kernel
theorem dX5_areAlike_27 : decode cX5_areAlike 27 = .ok (.laload, 1) := by decide +kernel
theorem dX5_areAlike_28 : decode cX5_areAlike 28 = .ok (.lcmp, 1) := by decide +kernel
theorem dX5_areAlike_29 : decode cX5_areAlike 29 = .ok (.ifCond .ne 7, 3) := by decide +kernel
theorem dX5_areAlike_32 : decode cX5_areAlike 32 = .ok (.iconst 1, 1) := by decide +kernel
theorem dX5_areAlike_33 : decode cX5_areAlike 33 = .ok (.goto 4, 3) := by decide +kernel
theorem dX5_areAlike_36 : decode cX5_areAlike 36 = .ok (.iconst 0, 1) := by decide +kernel
theorem dX5_areAlike_37 : decode cX5_areAlike 37 = .ok (.ireturn, 1) := by decide +kernel
theorem dX5_splitKinds_0 : decode cX5_splitKinds 0 = .ok (.aload_n 0, 1) := by decide +kernel
theorem dX5_splitKinds_1 : decode cX5_splitKinds 1 = .ok (.iconst 0, 1) := by decide +kernel
theorem dX5_splitKinds_2 : decode cX5_splitKinds 2 = .ok (.putfield 111, 3) := by decide +kernel
theorem dX5_splitKinds_5 : decode cX5_splitKinds 5 = .ok (.aload_n 0, 1) := by decide +kernel
theorem dX5_splitKinds_6 : decode cX5_splitKinds 6 = .ok (.iconst 0, 1) := by decide +kernel
theorem dX5_splitKinds_7 : decode cX5_splitKinds 7 = .ok (.putfield 114, 3) := by decide +kernel
theorem dX5_splitKinds_10 : decode cX5_splitKinds 10 = .ok (.iconst 0, 1) := by decide +kernel
theorem dX5_splitKinds_11 : decode cX5_splitKinds 11 = .ok (.istore_n 2, 1) := by decide +kernel
theorem dX5_splitKinds_12 : decode cX5_splitKinds 12 = .ok (.iconst 1, 1) := by decide +kernel
theorem dX5_splitKinds_13 : decode cX5_splitKinds 13 = .ok (.istore_n 3, 1) := by decide +kernel
theorem dX5_splitKinds_14 : decode cX5_splitKinds 14 = .ok (.iload_n 3, 1) := by decide +kernel
theorem dX5_splitKinds_15 : decode cX5_splitKinds 15 = .ok (.aload_n 0, 1) := by decide +kernel
theorem dX5_splitKinds_16 : decode cX5_splitKinds 16 = .ok (.getfield 67, 3) := by decide +kernel
theorem dX5_splitKinds_19 : decode cX5_splitKinds 19 = .ok (.if_icmp .gt 55, 3) := by decide +kernel
theorem dX5_splitKinds_22 : decode cX5_splitKinds 22 = .ok (.iload_n 3, 1) := by decide +kernel
theorem dX5_splitKinds_23 : decode cX5_splitKinds 23 = .ok (.aload_n 0, 1) := by decide +kernel
theorem dX5_splitKinds_24 : decode cX5_splitKinds 24 = .ok (.getfield 67, 3) := by decide +kernel
theorem dX5_splitKinds_27 : decode cX5_splitKinds 27 = .ok (.if_icmp .eq 22, 3) := by decide +kernel
theorem dX5_splitKinds_30 : decode cX5_splitKinds 30 = .ok (.aload_n 0, 1) := by decide +kernel
theorem dX5_splitKinds_31 : decode cX5_splitKinds 31 = .ok (.aload_n 0, 1) := by decide +kernel
theorem dX5_splitKinds_32 : decode cX5_splitKinds 32 = .ok (.getfield 9, 3) := by decide +kernel
theorem dX5_splitKinds_35 : decode cX5_splitKinds 35 = .ok (.iload_n 2, 1) := by decide +kernel
theorem dX5_splitKinds_36 : decode cX5_splitKinds 36 = .ok (.iaload, 1) := by decide +kernel
theorem dX5_splitKinds_37 : decode cX5_splitKinds 37 = .ok (.aload_n 0, 1) := by decide +kernel
theorem dX5_splitKinds_38 : decode cX5_splitKinds 38 = .ok (.getfield 9, 3) := by decide +kernel
theorem dX5_splitKinds_41 : decode cX5_splitKinds 41 = .ok (.iload_n 3, 1) := by decide +kernel
theorem dX5_splitKinds_42 : decode cX5_splitKinds 42 = .ok (.iaload, 1) := by decide +kernel
theorem dX5_splitKinds_43 : decode cX5_splitKinds 43 = .ok (.invokevirtual 117, 3) := by decide +kernel
theorem dX5_splitKinds_46 : decode cX5_splitKinds 46 = .ok (.ifCond .ne 22, 3) := by decide +kernel
theorem dX5_splitKinds_49 : decode cX5_splitKinds 49 = .ok (.aload_n 0, 1) := by decide +kernel
theorem dX5_splitKinds_50 : decode cX5_splitKinds 50 = .ok (.iload_n 2, 1) := by decide +kernel
theorem dX5_splitKinds_51 : decode cX5_splitKinds 51 = .ok (.iload_n 3, 1) := by decide +kernel
theorem dX5_splitKinds_52 : decode cX5_splitKinds 52 = .ok (.iload_n 1, 1) := by decide +kernel
theorem dX5_splitKinds_53 : decode cX5_splitKinds 53 = .ok (.invokevirtual 120, 3) := by decide +kernel
theorem dX5_splitKinds_56 : decode cX5_splitKinds 56 = .ok (.aload_n 0, 1) := by decide +kernel
theorem dX5_splitKinds_57 : decode cX5_splitKinds 57 = .ok (.dup, 1) := by decide +kernel
theorem dX5_splitKinds_58 : decode cX5_splitKinds 58 = .ok (.getfield 111, 3) := by decide +kernel
theorem dX5_splitKinds_61 : decode cX5_splitKinds 61 = .ok (.iconst 1, 1) := by decide +kernel
theorem dX5_splitKinds_62 : decode cX5_splitKinds 62 = .ok (.iadd, 1) := by decide +kernel
theorem dX5_splitKinds_63 : decode cX5_splitKinds 63 = .ok (.putfield 111, 3) := by decide +kernel
theorem dX5_splitKinds_66 : decode cX5_splitKinds 66 = .ok (.iload_n 3, 1) := by decide +kernel
theorem dX5_splitKinds_67 : decode cX5_splitKinds 67 = .ok (.istore_n 2, 1) := by decide +kernel
theorem dX5_splitKinds_68 : decode cX5_splitKinds 68 = .ok (.iinc 3 1, 3) := by decide +kernel
theorem dX5_splitKinds_71 : decode cX5_splitKinds 71 = .ok (.goto (-57), 3) := by decide +kernel
theorem dX5_splitKinds_74 : decode cX5_splitKinds 74 = .ok (.return_, 1) := by decide +kernel
theorem dX5_noteKind_0 : decode cX5_noteKind 0 = .ok (.iconst 0, 1) := by decide +kernel
theorem dX5_noteKind_1 : decode cX5_noteKind 1 = .ok (.istore 4, 2) := by decide +kernel
theorem dX5_noteKind_3 : decode cX5_noteKind 3 = .ok (.iload_n 1, 1) := by decide +kernel
theorem dX5_noteKind_4 : decode cX5_noteKind 4 = .ok (.istore 5, 2) := by decide +kernel
theorem dX5_noteKind_6 : decode cX5_noteKind 6 = .ok (.iload 5, 2) := by decide +kernel
theorem dX5_noteKind_8 : decode cX5_noteKind 8 = .ok (.iload_n 2, 1) := by decide +kernel
theorem dX5_noteKind_9 : decode cX5_noteKind 9 = .ok (.if_icmp .ge 64, 3) := by decide +kernel
theorem dX5_noteKind_12 : decode cX5_noteKind 12 = .ok (.aload_n 0, 1) := by decide +kernel
theorem dX5_noteKind_13 : decode cX5_noteKind 13 = .ok (.getfield 9, 3) := by decide +kernel
theorem dX5_noteKind_16 : decode cX5_noteKind 16 = .ok (.iload 5, 2) := by decide +kernel
theorem dX5_noteKind_18 : decode cX5_noteKind 18 = .ok (.iaload, 1) := by decide +kernel
theorem dX5_noteKind_19 : decode cX5_noteKind 19 = .ok (.istore 6, 2) := by decide +kernel
theorem dX5_noteKind_21 : decode cX5_noteKind 21 = .ok (.aload_n 0, 1) := by decide +kernel
theorem dX5_noteKind_22 : decode cX5_noteKind 22 = .ok (.getfield 34, 3) := by decide +kernel
theorem dX5_noteKind_25 : decode cX5_noteKind 25 = .ok (.iload 6, 2) := by decide +kernel
theorem dX5_noteKind_27 : decode cX5_noteKind 27 = .ok (.iload 5, 2) := by decide +kernel
theorem dX5_noteKind_29 : decode cX5_noteKind 29 = .ok (.iastore, 1) := by decide +kernel
theorem dX5_noteKind_30 : decode cX5_noteKind 30 = .ok (.aload_n 0, 1) := by decide +kernel
theorem dX5_noteKind_31 : decode cX5_noteKind 31 = .ok (.getfield 37, 3) := by decide +kernel
theorem dX5_noteKind_34 : decode cX5_noteKind 34 = .ok (.iload 6, 2) := by decide +kernel
theorem dX5_noteKind_36 : decode cX5_noteKind 36 = .ok (.iload_n 1, 1) := by decide +kernel
theorem dX5_noteKind_37 : decode cX5_noteKind 37 = .ok (.iastore, 1) := by decide +kernel
theorem dX5_noteKind_38 : decode cX5_noteKind 38 = .ok (.aload_n 0, 1) := by decide +kernel
theorem dX5_noteKind_39 : decode cX5_noteKind 39 = .ok (.getfield 40, 3) := by decide +kernel
theorem dX5_noteKind_42 : decode cX5_noteKind 42 = .ok (.iload 6, 2) := by decide +kernel
theorem dX5_noteKind_44 : decode cX5_noteKind 44 = .ok (.iload_n 2, 1) := by decide +kernel
theorem dX5_noteKind_45 : decode cX5_noteKind 45 = .ok (.iastore, 1) := by decide +kernel
theorem dX5_noteKind_46 : decode cX5_noteKind 46 = .ok (.iload 4, 2) := by decide +kernel
theorem dX5_noteKind_48 : decode cX5_noteKind 48 = .ok (.aload_n 0, 1) := by decide +kernel
theorem dX5_noteKind_49 : decode cX5_noteKind 49 = .ok (.getfield 24, 3) := by decide +kernel
theorem dX5_noteKind_52 : decode cX5_noteKind 52 = .ok (.iload 6, 2) := by decide +kernel
theorem dX5_noteKind_54 : decode cX5_noteKind 54 = .ok (.iaload, 1) := by decide +kernel
theorem dX5_noteKind_55 : decode cX5_noteKind 55 = .ok (.iconst 1, 1) := by decide +kernel
theorem dX5_noteKind_56 : decode cX5_noteKind 56 = .ok (.if_icmp .ne 7, 3) := by decide +kernel
theorem dX5_noteKind_59 : decode cX5_noteKind 59 = .ok (.iconst 0, 1) := by decide +kernel
theorem dX5_noteKind_60 : decode cX5_noteKind 60 = .ok (.goto 4, 3) := by decide +kernel
theorem dX5_noteKind_63 : decode cX5_noteKind 63 = .ok (.iconst 1, 1) := by decide +kernel
theorem dX5_noteKind_64 : decode cX5_noteKind 64 = .ok (.iadd, 1) := by decide +kernel
theorem dX5_noteKind_65 : decode cX5_noteKind 65 = .ok (.istore 4, 2) := by decide +kernel
theorem dX5_noteKind_67 : decode cX5_noteKind 67 = .ok (.iinc 5 1, 3) := by decide +kernel
theorem dX5_noteKind_70 : decode cX5_noteKind 70 = .ok (.goto (-64), 3) := by decide +kernel
theorem dX5_noteKind_73 : decode cX5_noteKind 73 = .ok (.iload 4, 2) := by decide +kernel
theorem dX5_noteKind_75 : decode cX5_noteKind 75 = .ok (.iload_n 3, 1) := by decide +kernel
theorem dX5_noteKind_76 : decode cX5_noteKind 76 = .ok (.if_icmp .gt 4, 3) := by decide +kernel
theorem dX5_noteKind_79 : decode cX5_noteKind 79 = .ok (.return_, 1) := by decide +kernel
theorem dX5_noteKind_80 : decode cX5_noteKind 80 = .ok (.iload_n 1, 1) := by decide +kernel
theorem dX5_noteKind_81 : decode cX5_noteKind 81 = .ok (.istore 5, 2) := by decide +kernel
theorem dX5_noteKind_83 : decode cX5_noteKind 83 = .ok (.iload 5, 2) := by decide +kernel
theorem dX5_noteKind_85 : decode cX5_noteKind 85 = .ok (.iload_n 2, 1) := by decide +kernel
theorem dX5_noteKind_86 : decode cX5_noteKind 86 = .ok (.if_icmp .ge 38, 3) := by decide +kernel
theorem dX5_noteKind_89 : decode cX5_noteKind 89 = .ok (.aload_n 0, 1) := by decide +kernel
theorem dX5_noteKind_90 : decode cX5_noteKind 90 = .ok (.getfield 24, 3) := by decide +kernel
theorem dX5_noteKind_93 : decode cX5_noteKind 93 = .ok (.aload_n 0, 1) := by decide +kernel
theorem dX5_noteKind_94 : decode cX5_noteKind 94 = .ok (.getfield 9, 3) := by decide +kernel
theorem dX5_noteKind_97 : decode cX5_noteKind 97 = .ok (.iload 5, 2) := by decide +kernel
theorem dX5_noteKind_99 : decode cX5_noteKind 99 = .ok (.iaload, 1) := by decide +kernel
theorem dX5_noteKind_100 : decode cX5_noteKind 100 = .ok (.iaload, 1) := by decide +kernel
theorem dX5_noteKind_101 : decode cX5_noteKind 101 = .ok (.iconst 1, 1) := by decide +kernel
theorem dX5_noteKind_102 : decode cX5_noteKind 102 = .ok (.if_icmp .eq 16, 3) := by decide +kernel
theorem dX5_noteKind_105 : decode cX5_noteKind 105 = .ok (.aload_n 0, 1) := by decide +kernel
theorem dX5_noteKind_106 : decode cX5_noteKind 106 = .ok (.getfield 24, 3) := by decide +kernel
theorem dX5_noteKind_109 : decode cX5_noteKind 109 = .ok (.aload_n 0, 1) := by decide +kernel
theorem dX5_noteKind_110 : decode cX5_noteKind 110 = .ok (.getfield 9, 3) := by decide +kernel
theorem dX5_noteKind_113 : decode cX5_noteKind 113 = .ok (.iload 5, 2) := by decide +kernel
theorem dX5_noteKind_115 : decode cX5_noteKind 115 = .ok (.iaload, 1) := by decide +kernel
theorem dX5_noteKind_116 : decode cX5_noteKind 116 = .ok (.iconst 2, 1) := by decide +kernel
theorem dX5_noteKind_117 : decode cX5_noteKind 117 = .ok (.iastore, 1) := by decide +kernel
theorem dX5_noteKind_118 : decode cX5_noteKind 118 = .ok (.iinc 5 1, 3) := by decide +kernel
theorem dX5_noteKind_121 : decode cX5_noteKind 121 = .ok (.goto (-38), 3) := by decide +kernel
theorem dX5_noteKind_124 : decode cX5_noteKind 124 = .ok (.aload_n 0, 1) := by decide +kernel
theorem dX5_noteKind_125 : decode cX5_noteKind 125 = .ok (.dup, 1) := by decide +kernel
theorem dX5_noteKind_126 : decode cX5_noteKind 126 = .ok (.getfield 114, 3) := by decide +kernel
theorem dX5_noteKind_129 : decode cX5_noteKind 129 = .ok (.iload 4, 2) := by decide +kernel
theorem dX5_noteKind_131 : decode cX5_noteKind 131 = .ok (.iadd, 1) := by decide +kernel
theorem dX5_noteKind_132 : decode cX5_noteKind 132 = .ok (.putfield 114, 3) := by decide +kernel
theorem dX5_noteKind_135 : decode cX5_noteKind 135 = .ok (.return_, 1) := by decide +kernel
theorem dX6_init_0 : decode cX6_init 0 = .ok (.aload_n 0, 1) := by decide +kernel
theorem dX6_init_1 : decode cX6_init 1 = .ok (.invokespecial 3, 3) := by decide +kernel
theorem dX6_init_4 : decode cX6_init 4 = .ok (.aload_n 0, 1) := by decide +kernel
theorem dX6_init_5 : decode cX6_init 5 = .ok (.bipush 8, 2) := by decide +kernel
theorem dX6_init_7 : decode cX6_init 7 = .ok (.newarray .int, 2) := by decide +kernel
theorem dX6_init_9 : decode cX6_init 9 = .ok (.putfield 9, 3) := by decide +kernel
theorem dX6_init_12 : decode cX6_init 12 = .ok (.aload_n 0, 1) := by decide +kernel
theorem dX6_init_13 : decode cX6_init 13 = .ok (.new 15, 3) := by decide +kernel
theorem dX6_init_16 : decode cX6_init 16 = .ok (.dup, 1) := by decide +kernel
theorem dX6_init_17 : decode cX6_init 17 = .ok (.invokespecial 17, 3) := by decide +kernel
theorem dX6_init_20 : decode cX6_init 20 = .ok (.putfield 18, 3) := by decide +kernel
theorem dX6_init_23 : decode cX6_init 23 = .ok (.aload_n 0, 1) := by decide +kernel
theorem dX6_init_24 : decode cX6_init 24 = .ok (.new 22, 3) := by decide +kernel
theorem dX6_init_27 : decode cX6_init 27 = .ok (.dup, 1) := by decide +kernel
theorem dX6_init_28 : decode cX6_init 28 = .ok (.invokespecial 24, 3) := by decide +kernel
theorem dX6_init_31 : decode cX6_init 31 = .ok (.putfield 25, 3) := by decide +kernel
theorem dX6_init_34 : decode cX6_init 34 = .ok (.aload_n 0, 1) := by decide +kernel
theorem dX6_init_35 : decode cX6_init 35 = .ok (.new 29, 3) := by decide +kernel
theorem dX6_init_38 : decode cX6_init 38 = .ok (.dup, 1) := by decide +kernel
theorem dX6_init_39 : decode cX6_init 39 = .ok (.invokespecial 31, 3) := by decide +kernel
theorem dX6_init_42 : decode cX6_init 42 = .ok (.putfield 32, 3) := by decide +kernel
theorem dX6_init_45 : decode cX6_init 45 = .ok (.aload_n 0, 1) := by decide +kernel
theorem dX6_init_46 : decode cX6_init 46 = .ok (.aload_n 1, 1) := by decide +kernel
theorem dX6_init_47 : decode cX6_init 47 = .ok (.putfield 36, 3) := by decide +kernel
theorem dX6_init_50 : decode cX6_init 50 = .ok (.iconst 0, 1) := by decide +kernel
theorem dX6_init_51 : decode cX6_init 51 = .ok (.istore_n 2, 1) := by decide +kernel
theorem dX6_init_52 : decode cX6_init 52 = .ok (.iload_n 2, 1) := by decide +kernel
theorem dX6_init_53 : decode cX6_init 53 = .ok (.bipush 8, 2) := by decide +kernel
theorem dX6_init_55 : decode cX6_init 55 = .ok (.if_icmp .ge 20, 3) := by decide +kernel
theorem dX6_init_58 : decode cX6_init 58 = .ok (.aload_n 0, 1) := by decide +kernel
theorem dX6_init_59 : decode cX6_init 59 = .ok (.getfield 9, 3) := by decide +kernel
theorem dX6_init_62 : decode cX6_init 62 = .ok (.iload_n 2, 1) := by decide +kernel
theorem dX6_init_63 : decode cX6_init 63 = .ok (.getstatic 40, 3) := by decide +kernel
theorem dX6_init_66 : decode cX6_init 66 = .ok (.iload_n 2, 1) := by decide +kernel
theorem dX6_init_67 : decode cX6_init 67 = .ok (.iaload, 1) := by decide +kernel
theorem dX6_init_68 : decode cX6_init 68 = .ok (.iastore, 1) := by decide +kernel
theorem dX6_init_69 : decode cX6_init 69 = .ok (.iinc 2 1, 3) := by decide +kernel
theorem dX6_init_72 : decode cX6_init 72 = .ok (.goto (-20), 3) := by decide +kernel
theorem dX6_init_75 : decode cX6_init 75 = .ok (.return_, 1) := by decide +kernel
theorem dX6_forget_0 : decode cX6_forget 0 = .ok (.aload_n 0, 1) := by decide +kernel
theorem dX6_forget_1 : decode cX6_forget 1 = .ok (.iconst 0, 1) := by decide +kernel
theorem dX6_forget_2 : decode cX6_forget 2 = .ok (.putfield 43, 3) := by decide +kernel
theorem dX6_forget_5 : decode cX6_forget 5 = .ok (.return_, 1) := by decide +kernel
theorem dX6_reach_0 : decode cX6_reach 0 = .ok (.aload_n 0, 1) := by decide +kernel
theorem dX6_reach_1 : decode cX6_reach 1 = .ok (.getfield 43, 3) := by decide +kernel
theorem dX6_reach_4 : decode cX6_reach 4 = .ok (.iconst 1, 1) := by decide +kernel
theorem dX6_reach_5 : decode cX6_reach 5 = .ok (.if_icmp .ge 28, 3) := by decide +kernel
theorem dX6_reach_8 : decode cX6_reach 8 = .ok (.iload_n 1, 1) := by decide +kernel
theorem dX6_reach_9 : decode cX6_reach 9 = .ok (.iconst 1, 1) := by decide +kernel
theorem dX6_reach_10 : decode cX6_reach 10 = .ok (.if_icmp .lt 23, 3) := by decide +kernel
theorem dX6_reach_13 : decode cX6_reach 13 = .ok (.aload_n 0, 1) := by decide +kernel
theorem dX6_reach_14 : decode cX6_reach 14 = .ok (.getfield 18, 3) := by decide +kernel
theorem dX6_reach_17 : decode cX6_reach 17 = .ok (.aload_n 0, 1) := by decide +kernel
theorem dX6_reach_18 : decode cX6_reach 18 = .ok (.getfield 36, 3) := by decide +kernel
theorem dX6_reach_21 : decode cX6_reach 21 = .ok (.aload_n 0, 1) := by decide +kernel
theorem dX6_reach_22 : decode cX6_reach 22 = .ok (.getfield 9, 3) := by decide +kernel
theorem dX6_reach_25 : decode cX6_reach 25 = .ok (.invokevirtual 47, 3) := by decide +kernel
theorem dX6_reach_28 : decode cX6_reach 28 = .ok (.aload_n 0, 1) := by decide +kernel
theorem dX6_reach_29 : decode cX6_reach 29 = .ok (.iconst 1, 1) := by decide +kernel
theorem dX6_reach_30 : decode cX6_reach 30 = .ok (.putfield 43, 3) := by decide +kernel
theorem dX6_reach_33 : decode cX6_reach 33 = .ok (.aload_n 0, 1) := by decide +kernel
theorem dX6_reach_34 : decode cX6_reach 34 = .ok (.getfield 43, 3) := by decide +kernel
theorem dX6_reach_37 : decode cX6_reach 37 = .ok (.iconst 2, 1) := by decide +kernel
theorem dX6_reach_38 : decode cX6_reach 38 = .ok (.if_icmp .ge 28, 3) := by decide +kernel
theorem dX6_reach_41 : decode cX6_reach 41 = .ok (.iload_n 1, 1) := by decide +kernel
theorem dX6_reach_42 : decode cX6_reach 42 = .ok (.iconst 2, 1) := by decide +kernel
theorem dX6_reach_43 : decode cX6_reach 43 = .ok (.if_icmp .lt 23, 3) := by decide +kernel
theorem dX6_reach_46 : decode cX6_reach 46 = .ok (.aload_n 0, 1) := by decide +kernel
theorem dX6_reach_47 : decode cX6_reach 47 = .ok (.getfield 25, 3) := by decide +kernel
theorem dX6_reach_50 : decode cX6_reach 50 = .ok (.aload_n 0, 1) := by decide +kernel
theorem dX6_reach_51 : decode cX6_reach 51 = .ok (.getfield 18, 3) := by decide +kernel
theorem dX6_reach_54 : decode cX6_reach 54 = .ok (.aload_n 0, 1) := by decide +kernel
theorem dX6_reach_55 : decode cX6_reach 55 = .ok (.getfield 9, 3) := by decide +kernel
theorem dX6_reach_58 : decode cX6_reach 58 = .ok (.invokevirtual 51, 3) := by decide +kernel
theorem dX6_reach_61 : decode cX6_reach 61 = .ok (.aload_n 0, 1) := by decide +kernel
theorem dX6_reach_62 : decode cX6_reach 62 = .ok (.iconst 2, 1) := by decide +kernel
theorem dX6_reach_63 : decode cX6_reach 63 = .ok (.putfield 43, 3) := by decide +kernel
theorem dX6_reach_66 : decode cX6_reach 66 = .ok (.aload_n 0, 1) := by decide +kernel
theorem dX6_reach_67 : decode cX6_reach 67 = .ok (.getfield 43, 3) := by decide +kernel
theorem dX6_reach_70 : decode cX6_reach 70 = .ok (.iconst 3, 1) := by decide +kernel
theorem dX6_reach_71 : decode cX6_reach 71 = .ok (.if_icmp .ge 43, 3) := by decide +kernel
theorem dX6_reach_74 : decode cX6_reach 74 = .ok (.iload_n 1, 1) := by decide +kernel
theorem dX6_reach_75 : decode cX6_reach 75 = .ok (.iconst 3, 1) := by decide +kernel
theorem dX6_reach_76 : decode cX6_reach 76 = .ok (.if_icmp .lt 38, 3) := by decide +kernel
theorem dX6_reach_79 : decode cX6_reach 79 = .ok (.aload_n 0, 1) := by decide +kernel
theorem dX6_reach_80 : decode cX6_reach 80 = .ok (.getfield 32, 3) := by decide +kernel
theorem dX6_reach_83 : decode cX6_reach 83 = .ok (.aload_n 0, 1) := by decide +kernel
theorem dX6_reach_84 : decode cX6_reach 84 = .ok (.getfield 25, 3) := by decide +kernel
theorem dX6_reach_87 : decode cX6_reach 87 = .ok (.invokevirtual 55, 3) := by decide +kernel
theorem dX6_reach_90 : decode cX6_reach 90 = .ok (.aload_n 0, 1) := by decide +kernel
theorem dX6_reach_91 : decode cX6_reach 91 = .ok (.getfield 32, 3) := by decide +kernel
theorem dX6_reach_94 : decode cX6_reach 94 = .ok (.aload_n 0, 1) := by decide +kernel
theorem dX6_reach_95 : decode cX6_reach 95 = .ok (.getfield 36, 3) := by decide +kernel
theorem dX6_reach_98 : decode cX6_reach 98 = .ok (.aload_n 0, 1) := by decide +kernel
theorem dX6_reach_99 : decode cX6_reach 99 = .ok (.getfield 18, 3) := by decide +kernel
theorem dX6_reach_102 : decode cX6_reach 102 = .ok (.aload_n 0, 1) := by decide +kernel
theorem dX6_reach_103 : decode cX6_reach 103 = .ok (.getfield 9, 3) := by decide +kernel
theorem dX6_reach_106 : decode cX6_reach 106 = .ok (.invokevirtual 58, 3) := by decide +kernel
theorem dX6_reach_109 : decode cX6_reach 109 = .ok (.aload_n 0, 1) := by decide +kernel
theorem dX6_reach_110 : decode cX6_reach 110 = .ok (.iconst 3, 1) := by decide +kernel
theorem dX6_reach_111 : decode cX6_reach 111 = .ok (.putfield 43, 3) := by decide +kernel
theorem dX6_reach_114 : decode cX6_reach 114 = .ok (.return_, 1) := by decide +kernel
theorem dX6_howMany_0 : decode cX6_howMany 0 = .ok (.iload_n 1, 1) := by decide +kernel
theorem dX6_howMany_1 : decode cX6_howMany 1 = .ok (.tableswitch 99 0 6 #[43, 51, 59, 67, 75, 83, 91], 43) := by decide +kernel
theorem dX6_howMany_44 : decode cX6_howMany 44 = .ok (.aload_n 0, 1) := by decide +kernel
theorem dX6_howMany_45 : decode cX6_howMany 45 = .ok (.getfield 18, 3) := by decide +kernel
theorem dX6_howMany_48 : decode cX6_howMany 48 = .ok (.getfield 62, 3) := by decide +kernel
theorem dX6_howMany_51 : decode cX6_howMany 51 = .ok (.ireturn, 1) := by decide +kernel
theorem dX6_howMany_52 : decode cX6_howMany 52 = .ok (.aload_n 0, 1) := by decide +kernel
theorem dX6_howMany_53 : decode cX6_howMany 53 = .ok (.getfield 18, 3) := by decide +kernel
theorem dX6_howMany_56 : decode cX6_howMany 56 = .ok (.getfield 65, 3) := by decide +kernel
theorem dX6_howMany_59 : decode cX6_howMany 59 = .ok (.ireturn, 1) := by decide +kernel
theorem dX6_howMany_60 : decode cX6_howMany 60 = .ok (.aload_n 0, 1) := by decide +kernel
theorem dX6_howMany_61 : decode cX6_howMany 61 = .ok (.getfield 18, 3) := by decide +kernel
theorem dX6_howMany_64 : decode cX6_howMany 64 = .ok (.getfield 68, 3) := by decide +kernel
theorem dX6_howMany_67 : decode cX6_howMany 67 = .ok (.ireturn, 1) := by decide +kernel
theorem dX6_howMany_68 : decode cX6_howMany 68 = .ok (.aload_n 0, 1) := by decide +kernel
theorem dX6_howMany_69 : decode cX6_howMany 69 = .ok (.getfield 18, 3) := by decide +kernel
theorem dX6_howMany_72 : decode cX6_howMany 72 = .ok (.getfield 71, 3) := by decide +kernel
theorem dX6_howMany_75 : decode cX6_howMany 75 = .ok (.ireturn, 1) := by decide +kernel
theorem dX6_howMany_76 : decode cX6_howMany 76 = .ok (.aload_n 0, 1) := by decide +kernel
theorem dX6_howMany_77 : decode cX6_howMany 77 = .ok (.getfield 25, 3) := by decide +kernel
theorem dX6_howMany_80 : decode cX6_howMany 80 = .ok (.getfield 74, 3) := by decide +kernel
theorem dX6_howMany_83 : decode cX6_howMany 83 = .ok (.ireturn, 1) := by decide +kernel
theorem dX6_howMany_84 : decode cX6_howMany 84 = .ok (.aload_n 0, 1) := by decide +kernel
theorem dX6_howMany_85 : decode cX6_howMany 85 = .ok (.getfield 25, 3) := by decide +kernel
theorem dX6_howMany_88 : decode cX6_howMany 88 = .ok (.getfield 77, 3) := by decide +kernel
theorem dX6_howMany_91 : decode cX6_howMany 91 = .ok (.ireturn, 1) := by decide +kernel
theorem dX6_howMany_92 : decode cX6_howMany 92 = .ok (.aload_n 0, 1) := by decide +kernel
theorem dX6_howMany_93 : decode cX6_howMany 93 = .ok (.getfield 32, 3) := by decide +kernel
theorem dX6_howMany_96 : decode cX6_howMany 96 = .ok (.getfield 78, 3) := by decide +kernel
theorem dX6_howMany_99 : decode cX6_howMany 99 = .ok (.ireturn, 1) := by decide +kernel
theorem dX6_howMany_100 : decode cX6_howMany 100 = .ok (.aload_n 0, 1) := by decide +kernel
theorem dX6_howMany_101 : decode cX6_howMany 101 = .ok (.getfield 32, 3) := by decide +kernel
theorem dX6_howMany_104 : decode cX6_howMany 104 = .ok (.invokevirtual 79, 3) := by decide +kernel
theorem dX6_howMany_107 : decode cX6_howMany 107 = .ok (.ireturn, 1) := by decide +kernel
theorem dX7_init_0 : decode cX7_init 0 = .ok (.aload_n 0, 1) := by decide +kernel
theorem dX7_init_1 : decode cX7_init 1 = .ok (.invokespecial 3, 3) := by decide +kernel
theorem dX7_init_4 : decode cX7_init 4 = .ok (.aload_n 0, 1) := by decide +kernel
theorem dX7_init_5 : decode cX7_init 5 = .ok (.new 9, 3) := by decide +kernel
theorem dX7_init_8 : decode cX7_init 8 = .ok (.dup, 1) := by decide +kernel
theorem dX7_init_9 : decode cX7_init 9 = .ok (.invokespecial 11, 3) := by decide +kernel
theorem dX7_init_12 : decode cX7_init 12 = .ok (.putfield 12, 3) := by decide +kernel
theorem dX7_init_15 : decode cX7_init 15 = .ok (.aload_n 0, 1) := by decide +kernel
theorem dX7_init_16 : decode cX7_init 16 = .ok (.new 16, 3) := by decide +kernel
theorem dX7_init_19 : decode cX7_init 19 = .ok (.dup, 1) := by decide +kernel
theorem dX7_init_20 : decode cX7_init 20 = .ok (.aload_n 0, 1) := by decide +kernel
theorem dX7_init_21 : decode cX7_init 21 = .ok (.getfield 12, 3) := by decide +kernel
theorem dX7_init_24 : decode cX7_init 24 = .ok (.invokespecial 18, 3) := by decide +kernel
theorem dX7_init_27 : decode cX7_init 27 = .ok (.putfield 21, 3) := by decide +kernel
theorem dX7_init_30 : decode cX7_init 30 = .ok (.aload_n 0, 1) := by decide +kernel
theorem dX7_init_31 : decode cX7_init 31 = .ok (.new 16, 3) := by decide +kernel
theorem dX7_init_34 : decode cX7_init 34 = .ok (.dup, 1) := by decide +kernel
theorem dX7_init_35 : decode cX7_init 35 = .ok (.aload_n 0, 1) := by decide +kernel
theorem dX7_init_36 : decode cX7_init 36 = .ok (.getfield 12, 3) := by decide +kernel
theorem dX7_init_39 : decode cX7_init 39 = .ok (.invokespecial 18, 3) := by decide +kernel
theorem dX7_init_42 : decode cX7_init 42 = .ok (.putfield 25, 3) := by decide +kernel
theorem dX7_init_45 : decode cX7_init 45 = .ok (.return_, 1) := by decide +kernel
theorem dX7_picture_0 : decode cX7_picture 0 = .ok (.iload_n 1, 1) := by decide +kernel
theorem dX7_picture_1 : decode cX7_picture 1 = .ok (.iconst 1, 1) := by decide +kernel
theorem dX7_picture_2 : decode cX7_picture 2 = .ok (.bipush 16, 2) := by decide +kernel
theorem dX7_picture_4 : decode cX7_picture 4 = .ok (.invokestatic 28, 3) := by decide +kernel
theorem dX7_picture_7 : decode cX7_picture 7 = .ok (.ifCond .eq 13, 3) := by decide +kernel
theorem dX7_picture_10 : decode cX7_picture 10 = .ok (.iload_n 2, 1) := by decide +kernel
theorem dX7_picture_11 : decode cX7_picture 11 = .ok (.iconst 1, 1) := by decide +kernel
theorem dX7_picture_12 : decode cX7_picture 12 = .ok (.bipush 16, 2) := by decide +kernel
theorem dX7_picture_14 : decode cX7_picture 14 = .ok (.invokestatic 28, 3) := by decide +kernel
theorem dX7_picture_17 : decode cX7_picture 17 = .ok (.ifCond .ne 6, 3) := by decide +kernel
theorem dX7_picture_20 : decode cX7_picture 20 = .ok (.bipush (-2), 2) := by decide +kernel
theorem dX7_picture_22 : decode cX7_picture 22 = .ok (.ireturn, 1) := by decide +kernel
theorem dX7_picture_23 : decode cX7_picture 23 = .ok (.aload_n 0, 1) := by decide +kernel
theorem dX7_picture_24 : decode cX7_picture 24 = .ok (.getfield 21, 3) := by decide +kernel
theorem dX7_picture_27 : decode cX7_picture 27 = .ok (.invokevirtual 32, 3) := by decide +kernel
theorem dX7_picture_30 : decode cX7_picture 30 = .ok (.aload_n 0, 1) := by decide +kernel
theorem dX7_picture_31 : decode cX7_picture 31 = .ok (.getfield 12, 3) := by decide +kernel
theorem dX7_picture_34 : decode cX7_picture 34 = .ok (.iload_n 1, 1) := by decide +kernel
theorem dX7_picture_35 : decode cX7_picture 35 = .ok (.iload_n 2, 1) := by decide +kernel
theorem dX7_picture_36 : decode cX7_picture 36 = .ok (.invokevirtual 35, 3) := by decide +kernel
theorem dX7_picture_39 : decode cX7_picture 39 = .ok (.ireturn, 1) := by decide +kernel
theorem dX7_dot_0 : decode cX7_dot 0 = .ok (.aload_n 0, 1) := by decide +kernel
theorem dX7_dot_1 : decode cX7_dot 1 = .ok (.getfield 12, 3) := by decide +kernel
theorem dX7_dot_4 : decode cX7_dot 4 = .ok (.iload_n 1, 1) := by decide +kernel
theorem dX7_dot_5 : decode cX7_dot 5 = .ok (.iload_n 2, 1) := by decide +kernel
theorem dX7_dot_6 : decode cX7_dot 6 = .ok (.invokevirtual 39, 3) := by decide +kernel
theorem dX7_dot_9 : decode cX7_dot 9 = .ok (.ifCond .ne 5, 3) := by decide +kernel
theorem dX7_dot_12 : decode cX7_dot 12 = .ok (.iconst (-1), 1) := by decide +kernel
theorem dX7_dot_13 : decode cX7_dot 13 = .ok (.ireturn, 1) := by decide +kernel
theorem dX7_dot_14 : decode cX7_dot 14 = .ok (.iload_n 3, 1) := by decide +kernel
theorem dX7_dot_15 : decode cX7_dot 15 = .ok (.iconst 0, 1) := by decide +kernel
theorem dX7_dot_16 : decode cX7_dot 16 = .ok (.bipush 99, 2) := by decide +kernel
theorem dX7_dot_18 : decode cX7_dot 18 = .ok (.invokestatic 28, 3) := by decide +kernel
theorem dX7_dot_21 : decode cX7_dot 21 = .ok (.ifCond .ne 6, 3) := by decide +kernel
theorem dX7_dot_24 : decode cX7_dot 24 = .ok (.bipush (-2), 2) := by decide +kernel
theorem dX7_dot_26 : decode cX7_dot 26 = .ok (.ireturn, 1) := by decide +kernel
theorem dX7_dot_27 : decode cX7_dot 27 = .ok (.aload_n 0, 1) := by decide +kernel
theorem dX7_dot_28 : decode cX7_dot 28 = .ok (.getfield 12, 3) := by decide +kernel
theorem dX7_dot_31 : decode cX7_dot 31 = .ok (.iload_n 1, 1) := by decide +kernel
theorem dX7_dot_32 : decode cX7_dot 32 = .ok (.iload_n 2, 1) := by decide +kernel
theorem dX7_dot_33 : decode cX7_dot 33 = .ok (.invokevirtual 43, 3) := by decide +kernel
theorem dX7_dot_36 : decode cX7_dot 36 = .ok (.istore 4, 2) := by decide +kernel
theorem dX7_dot_38 : decode cX7_dot 38 = .ok (.aload_n 0, 1) := by decide +kernel
theorem dX7_dot_39 : decode cX7_dot 39 = .ok (.getfield 12, 3) := by decide +kernel
theorem dX7_dot_42 : decode cX7_dot 42 = .ok (.iload_n 1, 1) := by decide +kernel
theorem dX7_dot_43 : decode cX7_dot 43 = .ok (.iload_n 2, 1) := by decide +kernel
theorem dX7_dot_44 : decode cX7_dot 44 = .ok (.iload_n 3, 1) := by decide +kernel
theorem dX7_dot_45 : decode cX7_dot 45 = .ok (.invokevirtual 46, 3) := by decide +kernel
theorem dX7_dot_48 : decode cX7_dot 48 = .ok (.pop, 1) := by decide +kernel
theorem dX7_dot_49 : decode cX7_dot 49 = .ok (.aload_n 0, 1) := by decide +kernel
theorem dX7_dot_50 : decode cX7_dot 50 = .ok (.getfield 21, 3) := by decide +kernel
theorem dX7_dot_53 : decode cX7_dot 53 = .ok (.invokevirtual 32, 3) := by decide +kernel
theorem dX7_dot_56 : decode cX7_dot 56 = .ok (.iload 4, 2) := by decide +kernel
theorem dX7_dot_58 : decode cX7_dot 58 = .ok (.ireturn, 1) := by decide +kernel
theorem dX7_at_0 : decode cX7_at 0 = .ok (.aload_n 0, 1) := by decide +kernel
theorem dX7_at_1 : decode cX7_at 1 = .ok (.getfield 12, 3) := by decide +kernel
theorem dX7_at_4 : decode cX7_at 4 = .ok (.iload_n 1, 1) := by decide +kernel
theorem dX7_at_5 : decode cX7_at 5 = .ok (.iload_n 2, 1) := by decide +kernel
theorem dX7_at_6 : decode cX7_at 6 = .ok (.invokevirtual 39, 3) := by decide +kernel
theorem dX7_at_9 : decode cX7_at 9 = .ok (.ifCond .eq 15, 3) := by decide +kernel
theorem dX7_at_12 : decode cX7_at 12 = .ok (.aload_n 0, 1) := by decide +kernel
theorem dX7_at_13 : decode cX7_at 13 = .ok (.getfield 12, 3) := by decide +kernel
theorem dX7_at_16 : decode cX7_at 16 = .ok (.iload_n 1, 1) := by decide +kernel
theorem dX7_at_17 : decode cX7_at 17 = .ok (.iload_n 2, 1) := by decide +kernel
theorem dX7_at_18 : decode cX7_at 18 = .ok (.invokevirtual 43, 3) := by decide +kernel
theorem dX7_at_21 : decode cX7_at 21 = .ok (.goto 4, 3) := by decide +kernel
theorem dX7_at_24 : decode cX7_at 24 = .ok (.iconst (-1), 1) := by decide +kernel
theorem dX7_at_25 : decode cX7_at 25 = .ok (.ireturn, 1) := by decide +kernel
theorem dX7_raise_0 : decode cX7_raise 0 = .ok (.aload_n 0, 1) := by decide +kernel
theorem dX7_raise_1 : decode cX7_raise 1 = .ok (.getfield 12, 3) := by decide +kernel
theorem dX7_raise_4 : decode cX7_raise 4 = .ok (.iload_n 1, 1) := by decide +kernel
theorem dX7_raise_5 : decode cX7_raise 5 = .ok (.iload_n 2, 1) := by decide +kernel
theorem dX7_raise_6 : decode cX7_raise 6 = .ok (.invokevirtual 39, 3) := by decide +kernel
theorem dX7_raise_9 : decode cX7_raise 9 = .ok (.ifCond .ne 5, 3) := by decide +kernel
theorem dX7_raise_12 : decode cX7_raise 12 = .ok (.iconst (-1), 1) := by decide +kernel
theorem dX7_raise_13 : decode cX7_raise 13 = .ok (.ireturn, 1) := by decide +kernel
theorem dX7_raise_14 : decode cX7_raise 14 = .ok (.aload_n 0, 1) := by decide +kernel
theorem dX7_raise_15 : decode cX7_raise 15 = .ok (.getfield 12, 3) := by decide +kernel
theorem dX7_raise_18 : decode cX7_raise 18 = .ok (.iload_n 1, 1) := by decide +kernel
theorem dX7_raise_19 : decode cX7_raise 19 = .ok (.iload_n 2, 1) := by decide +kernel
theorem dX7_raise_20 : decode cX7_raise 20 = .ok (.iload_n 3, 1) := by decide +kernel
theorem dX7_raise_21 : decode cX7_raise 21 = .ok (.iload 4, 2) := by decide +kernel
theorem dX7_raise_23 : decode cX7_raise 23 = .ok (.invokevirtual 50, 3) := by decide +kernel
theorem dX7_raise_26 : decode cX7_raise 26 = .ok (.ifCond .eq 15, 3) := by decide +kernel
theorem dX7_raise_29 : decode cX7_raise 29 = .ok (.iload 5, 2) := by decide +kernel
theorem dX7_raise_31 : decode cX7_raise 31 = .ok (.bipush (-99), 2) := by decide +kernel
theorem dX7_raise_33 : decode cX7_raise 33 = .ok (.bipush 99, 2) := by decide +kernel
theorem dX7_raise_35 : decode cX7_raise 35 = .ok (.invokestatic 28, 3) := by decide +kernel
theorem dX7_raise_38 : decode cX7_raise 38 = .ok (.ifCond .ne 6, 3) := by decide +kernel
theorem dX7_raise_41 : decode cX7_raise 41 = .ok (.bipush (-2), 2) := by decide +kernel
theorem dX7_raise_43 : decode cX7_raise 43 = .ok (.ireturn, 1) := by decide +kernel
theorem dX7_raise_44 : decode cX7_raise 44 = .ok (.aload_n 0, 1) := by decide +kernel
theorem dX7_raise_45 : decode cX7_raise 45 = .ok (.getfield 21, 3) := by decide +kernel
theorem dX7_raise_48 : decode cX7_raise 48 = .ok (.invokevirtual 32, 3) := by decide +kernel
theorem dX7_raise_51 : decode cX7_raise 51 = .ok (.iconst 0, 1) := by decide +kernel
theorem dX7_raise_52 : decode cX7_raise 52 = .ok (.istore 6, 2) := by decide +kernel
theorem dX7_raise_54 : decode cX7_raise 54 = .ok (.iload_n 2, 1) := by decide +kernel
theorem dX7_raise_55 : decode cX7_raise 55 = .ok (.istore 7, 2) := by decide +kernel
theorem dX7_raise_57 : decode cX7_raise 57 = .ok (.iload 7, 2) := by decide +kernel
theorem dX7_raise_59 : decode cX7_raise 59 = .ok (.iload_n 2, 1) := by decide +kernel
theorem dX7_raise_60 : decode cX7_raise 60 = .ok (.iload 4, 2) := by decide +kernel
theorem dX7_raise_62 : decode cX7_raise 62 = .ok (.iadd, 1) := by decide +kernel
theorem dX7_raise_63 : decode cX7_raise 63 = .ok (.if_icmp .ge 69, 3) := by decide +kernel
theorem dX7_raise_66 : decode cX7_raise 66 = .ok (.iload_n 1, 1) := by decide +kernel
theorem dX7_raise_67 : decode cX7_raise 67 = .ok (.istore 8, 2) := by decide +kernel
theorem dX7_raise_69 : decode cX7_raise 69 = .ok (.iload 8, 2) := by decide +kernel
theorem dX7_raise_71 : decode cX7_raise 71 = .ok (.iload_n 1, 1) := by decide +kernel
theorem dX7_raise_72 : decode cX7_raise 72 = .ok (.iload_n 3, 1) := by decide +kernel
theorem dX7_raise_73 : decode cX7_raise 73 = .ok (.iadd, 1) := by decide +kernel
theorem dX7_raise_74 : decode cX7_raise 74 = .ok (.if_icmp .ge 52, 3) := by decide +kernel
theorem dX7_raise_77 : decode cX7_raise 77 = .ok (.aload_n 0, 1) := by decide +kernel
theorem dX7_raise_78 : decode cX7_raise 78 = .ok (.getfield 12, 3) := by decide +kernel
theorem dX7_raise_81 : decode cX7_raise 81 = .ok (.iload 8, 2) := by decide +kernel
theorem dX7_raise_83 : decode cX7_raise 83 = .ok (.iload 7, 2) := by decide +kernel
theorem dX7_raise_85 : decode cX7_raise 85 = .ok (.invokevirtual 43, 3) := by decide +kernel
theorem dX7_raise_88 : decode cX7_raise 88 = .ok (.iload 5, 2) := by decide +kernel
theorem dX7_raise_90 : decode cX7_raise 90 = .ok (.iadd, 1) := by decide +kernel
theorem dX7_raise_91 : decode cX7_raise 91 = .ok (.istore 9, 2) := by decide +kernel
theorem dX7_raise_93 : decode cX7_raise 93 = .ok (.iload 6, 2) := by decide +kernel
theorem dX7_raise_95 : decode cX7_raise 95 = .ok (.aload_n 0, 1) := by decide +kernel
theorem dX7_raise_96 : decode cX7_raise 96 = .ok (.getfield 12, 3) := by decide +kernel
theorem dX7_raise_99 : decode cX7_raise 99 = .ok (.iload 8, 2) := by decide +kernel
theorem dX7_raise_101 : decode cX7_raise 101 = .ok (.iload 7, 2) := by decide +kernel
theorem dX7_raise_103 : decode cX7_raise 103 = .ok (.iconst 0, 1) := by decide +kernel
theorem dX7_raise_104 : decode cX7_raise 104 = .ok (.bipush 99, 2) := by decide +kernel
theorem dX7_raise_106 : decode cX7_raise 106 = .ok (.iload 9, 2) := by decide +kernel
theorem dX7_raise_108 : decode cX7_raise 108 = .ok (.invokestatic 54, 3) := by decide +kernel
theorem dX7_raise_111 : decode cX7_raise 111 = .ok (.invokestatic 59, 3) := by decide +kernel
theorem dX7_raise_114 : decode cX7_raise 114 = .ok (.invokevirtual 46, 3) := by decide +kernel
theorem dX7_raise_117 : decode cX7_raise 117 = .ok (.iadd, 1) := by decide +kernel
theorem dX7_raise_118 : decode cX7_raise 118 = .ok (.istore 6, 2) := by decide +kernel
theorem dX7_raise_120 : decode cX7_raise 120 = .ok (.iinc 8 1, 3) := by decide +kernel
