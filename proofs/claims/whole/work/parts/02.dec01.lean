theorem dX3_size_10 : decode cX3_size 10 = .ok (.iload_n 1, 1) := by decide +kernel
theorem dX3_size_11 : decode cX3_size 11 = .ok (.aload_n 0, 1) := by decide +kernel
theorem dX3_size_12 : decode cX3_size 12 = .ok (.iload_n 2, 1) := by decide +kernel
theorem dX3_size_13 : decode cX3_size 13 = .ok (.iaload, 1) := by decide +kernel
theorem dX3_size_14 : decode cX3_size 14 = .ok (.invokestatic 9, 3) := by decide +kernel
theorem dX3_size_17 : decode cX3_size 17 = .ok (.iadd, 1) := by decide +kernel
theorem dX3_size_18 : decode cX3_size 18 = .ok (.istore_n 1, 1) := by decide +kernel
theorem dX3_size_19 : decode cX3_size 19 = .ok (.iinc 2 1, 3) := by decide +kernel
theorem dX3_size_22 : decode cX3_size 22 = .ok (.goto (-18), 3) := by decide +kernel
theorem dX3_size_25 : decode cX3_size 25 = .ok (.iload_n 1, 1) := by decide +kernel
theorem dX3_size_26 : decode cX3_size 26 = .ok (.ireturn, 1) := by decide +kernel
theorem dX3_spread_0 : decode cX3_spread 0 = .ok (.iconst 1, 1) := by decide +kernel
theorem dX3_spread_1 : decode cX3_spread 1 = .ok (.istore_n 2, 1) := by decide +kernel
theorem dX3_spread_2 : decode cX3_spread 2 = .ok (.iconst 0, 1) := by decide +kernel
theorem dX3_spread_3 : decode cX3_spread 3 = .ok (.istore_n 3, 1) := by decide +kernel
theorem dX3_spread_4 : decode cX3_spread 4 = .ok (.iload_n 3, 1) := by decide +kernel
theorem dX3_spread_5 : decode cX3_spread 5 = .ok (.sipush 256, 3) := by decide +kernel
theorem dX3_spread_8 : decode cX3_spread 8 = .ok (.if_icmp .ge 19, 3) := by decide +kernel
theorem dX3_spread_11 : decode cX3_spread 11 = .ok (.iload_n 2, 1) := by decide +kernel
theorem dX3_spread_12 : decode cX3_spread 12 = .ok (.ifCond .eq 15, 3) := by decide +kernel
theorem dX3_spread_15 : decode cX3_spread 15 = .ok (.aload_n 0, 1) := by decide +kernel
theorem dX3_spread_16 : decode cX3_spread 16 = .ok (.aload_n 1, 1) := by decide +kernel
theorem dX3_spread_17 : decode cX3_spread 17 = .ok (.invokestatic 15, 3) := by decide +kernel
theorem dX3_spread_20 : decode cX3_spread 20 = .ok (.istore_n 2, 1) := by decide +kernel
theorem dX3_spread_21 : decode cX3_spread 21 = .ok (.iinc 3 1, 3) := by decide +kernel
theorem dX3_spread_24 : decode cX3_spread 24 = .ok (.goto (-20), 3) := by decide +kernel
theorem dX3_spread_27 : decode cX3_spread 27 = .ok (.return_, 1) := by decide +kernel
theorem dX3_spreadOnce_0 : decode cX3_spreadOnce 0 = .ok (.iconst 0, 1) := by decide +kernel
theorem dX3_spreadOnce_1 : decode cX3_spreadOnce 1 = .ok (.istore_n 2, 1) := by decide +kernel
theorem dX3_spreadOnce_2 : decode cX3_spreadOnce 2 = .ok (.iconst 0, 1) := by decide +kernel
theorem dX3_spreadOnce_3 : decode cX3_spreadOnce 3 = .ok (.istore_n 3, 1) := by decide +kernel
theorem dX3_spreadOnce_4 : decode cX3_spreadOnce 4 = .ok (.iload_n 3, 1) := by decide +kernel
theorem dX3_spreadOnce_5 : decode cX3_spreadOnce 5 = .ok (.bipush 16, 2) := by decide +kernel
theorem dX3_spreadOnce_7 : decode cX3_spreadOnce 7 = .ok (.if_icmp .ge 97, 3) := by decide +kernel
theorem dX3_spreadOnce_10 : decode cX3_spreadOnce 10 = .ok (.aload_n 0, 1) := by decide +kernel
theorem dX3_spreadOnce_11 : decode cX3_spreadOnce 11 = .ok (.iload_n 3, 1) := by decide +kernel
theorem dX3_spreadOnce_12 : decode cX3_spreadOnce 12 = .ok (.iaload, 1) := by decide +kernel
theorem dX3_spreadOnce_13 : decode cX3_spreadOnce 13 = .ok (.iconst 1, 1) := by decide +kernel
theorem dX3_spreadOnce_14 : decode cX3_spreadOnce 14 = .ok (.ishl, 1) := by decide +kernel
theorem dX3_spreadOnce_15 : decode cX3_spreadOnce 15 = .ok (.aload_n 0, 1) := by decide +kernel
theorem dX3_spreadOnce_16 : decode cX3_spreadOnce 16 = .ok (.iload_n 3, 1) := by decide +kernel
theorem dX3_spreadOnce_17 : decode cX3_spreadOnce 17 = .ok (.iaload, 1) := by decide +kernel
theorem dX3_spreadOnce_18 : decode cX3_spreadOnce 18 = .ok (.iconst 1, 1) := by decide +kernel
theorem dX3_spreadOnce_19 : decode cX3_spreadOnce 19 = .ok (.ishr, 1) := by decide +kernel
theorem dX3_spreadOnce_20 : decode cX3_spreadOnce 20 = .ok (.ior, 1) := by decide +kernel
theorem dX3_spreadOnce_21 : decode cX3_spreadOnce 21 = .ok (.istore 4, 2) := by decide +kernel
theorem dX3_spreadOnce_23 : decode cX3_spreadOnce 23 = .ok (.iload_n 3, 1) := by decide +kernel
theorem dX3_spreadOnce_24 : decode cX3_spreadOnce 24 = .ok (.ifCond .le 11, 3) := by decide +kernel
theorem dX3_spreadOnce_27 : decode cX3_spreadOnce 27 = .ok (.aload_n 0, 1) := by decide +kernel
theorem dX3_spreadOnce_28 : decode cX3_spreadOnce 28 = .ok (.iload_n 3, 1) := by decide +kernel
theorem dX3_spreadOnce_29 : decode cX3_spreadOnce 29 = .ok (.iconst 1, 1) := by decide +kernel
theorem dX3_spreadOnce_30 : decode cX3_spreadOnce 30 = .ok (.isub, 1) := by decide +kernel
theorem dX3_spreadOnce_31 : decode cX3_spreadOnce 31 = .ok (.iaload, 1) := by decide +kernel
theorem dX3_spreadOnce_32 : decode cX3_spreadOnce 32 = .ok (.goto 4, 3) := by decide +kernel
theorem dX3_spreadOnce_35 : decode cX3_spreadOnce 35 = .ok (.iconst 0, 1) := by decide +kernel
theorem dX3_spreadOnce_36 : decode cX3_spreadOnce 36 = .ok (.istore 5, 2) := by decide +kernel
theorem dX3_spreadOnce_38 : decode cX3_spreadOnce 38 = .ok (.iload_n 3, 1) := by decide +kernel
theorem dX3_spreadOnce_39 : decode cX3_spreadOnce 39 = .ok (.bipush 15, 2) := by decide +kernel
theorem dX3_spreadOnce_41 : decode cX3_spreadOnce 41 = .ok (.if_icmp .ge 11, 3) := by decide +kernel
theorem dX3_spreadOnce_44 : decode cX3_spreadOnce 44 = .ok (.aload_n 0, 1) := by decide +kernel
theorem dX3_spreadOnce_45 : decode cX3_spreadOnce 45 = .ok (.iload_n 3, 1) := by decide +kernel
theorem dX3_spreadOnce_46 : decode cX3_spreadOnce 46 = .ok (.iconst 1, 1) := by decide +kernel
theorem dX3_spreadOnce_47 : decode cX3_spreadOnce 47 = .ok (.iadd, 1) := by decide +kernel
theorem dX3_spreadOnce_48 : decode cX3_spreadOnce 48 = .ok (.iaload, 1) := by decide +kernel
theorem dX3_spreadOnce_49 : decode cX3_spreadOnce 49 = .ok (.goto 4, 3) := by decide +kernel
theorem dX3_spreadOnce_52 : decode cX3_spreadOnce 52 = .ok (.iconst 0, 1) := by decide +kernel
theorem dX3_spreadOnce_53 : decode cX3_spreadOnce 53 = .ok (.istore 6, 2) := by decide +kernel
theorem dX3_spreadOnce_55 : decode cX3_spreadOnce 55 = .ok (.iload 4, 2) := by decide +kernel
theorem dX3_spreadOnce_57 : decode cX3_spreadOnce 57 = .ok (.iload 5, 2) := by decide +kernel
theorem dX3_spreadOnce_59 : decode cX3_spreadOnce 59 = .ok (.ior, 1) := by decide +kernel
theorem dX3_spreadOnce_60 : decode cX3_spreadOnce 60 = .ok (.iload 6, 2) := by decide +kernel
theorem dX3_spreadOnce_62 : decode cX3_spreadOnce 62 = .ok (.ior, 1) := by decide +kernel
theorem dX3_spreadOnce_63 : decode cX3_spreadOnce 63 = .ok (.aload_n 1, 1) := by decide +kernel
theorem dX3_spreadOnce_64 : decode cX3_spreadOnce 64 = .ok (.iload_n 3, 1) := by decide +kernel
theorem dX3_spreadOnce_65 : decode cX3_spreadOnce 65 = .ok (.iaload, 1) := by decide +kernel
theorem dX3_spreadOnce_66 : decode cX3_spreadOnce 66 = .ok (.iand, 1) := by decide +kernel
theorem dX3_spreadOnce_67 : decode cX3_spreadOnce 67 = .ok (.aload_n 0, 1) := by decide +kernel
theorem dX3_spreadOnce_68 : decode cX3_spreadOnce 68 = .ok (.iload_n 3, 1) := by decide +kernel
theorem dX3_spreadOnce_69 : decode cX3_spreadOnce 69 = .ok (.iaload, 1) := by decide +kernel
theorem dX3_spreadOnce_70 : decode cX3_spreadOnce 70 = .ok (.iconst (-1), 1) := by decide +kernel
theorem dX3_spreadOnce_71 : decode cX3_spreadOnce 71 = .ok (.ixor, 1) := by decide +kernel
theorem dX3_spreadOnce_72 : decode cX3_spreadOnce 72 = .ok (.iand, 1) := by decide +kernel
theorem dX3_spreadOnce_73 : decode cX3_spreadOnce 73 = .ok (.istore 7, 2) := by decide +kernel
theorem dX3_spreadOnce_75 : decode cX3_spreadOnce 75 = .ok (.aload_n 0, 1) := by decide +kernel
theorem dX3_spreadOnce_76 : decode cX3_spreadOnce 76 = .ok (.iload_n 3, 1) := by decide +kernel
theorem dX3_spreadOnce_77 : decode cX3_spreadOnce 77 = .ok (.dup2, 1) := by decide +kernel
theorem dX3_spreadOnce_78 : decode cX3_spreadOnce 78 = .ok (.iaload, 1) := by decide +kernel
theorem dX3_spreadOnce_79 : decode cX3_spreadOnce 79 = .ok (.iload 7, 2) := by decide +kernel
theorem dX3_spreadOnce_81 : decode cX3_spreadOnce 81 = .ok (.ior, 1) := by decide +kernel
theorem dX3_spreadOnce_82 : decode cX3_spreadOnce 82 = .ok (.iastore, 1) := by decide +kernel
theorem dX3_spreadOnce_83 : decode cX3_spreadOnce 83 = .ok (.iload_n 2, 1) := by decide +kernel
theorem dX3_spreadOnce_84 : decode cX3_spreadOnce 84 = .ok (.ifCond .ne 8, 3) := by decide +kernel
theorem dX3_spreadOnce_87 : decode cX3_spreadOnce 87 = .ok (.iload 7, 2) := by decide +kernel
theorem dX3_spreadOnce_89 : decode cX3_spreadOnce 89 = .ok (.ifCond .eq 7, 3) := by decide +kernel
theorem dX3_spreadOnce_92 : decode cX3_spreadOnce 92 = .ok (.iconst 1, 1) := by decide +kernel
theorem dX3_spreadOnce_93 : decode cX3_spreadOnce 93 = .ok (.goto 4, 3) := by decide +kernel
theorem dX3_spreadOnce_96 : decode cX3_spreadOnce 96 = .ok (.iconst 0, 1) := by decide +kernel
theorem dX3_spreadOnce_97 : decode cX3_spreadOnce 97 = .ok (.istore_n 2, 1) := by decide +kernel
theorem dX3_spreadOnce_98 : decode cX3_spreadOnce 98 = .ok (.iinc 3 1, 3) := by decide +kernel
theorem dX3_spreadOnce_101 : decode cX3_spreadOnce 101 = .ok (.goto (-97), 3) := by decide +kernel
theorem dX3_spreadOnce_104 : decode cX3_spreadOnce 104 = .ok (.iload_n 2, 1) := by decide +kernel
theorem dX3_spreadOnce_105 : decode cX3_spreadOnce 105 = .ok (.ireturn, 1) := by decide +kernel
theorem dX3_widen_0 : decode cX3_widen 0 = .ok (.iconst 0, 1) := by decide +kernel
theorem dX3_widen_1 : decode cX3_widen 1 = .ok (.istore_n 2, 1) := by decide +kernel
theorem dX3_widen_2 : decode cX3_widen 2 = .ok (.iload_n 2, 1) := by decide +kernel
theorem dX3_widen_3 : decode cX3_widen 3 = .ok (.bipush 16, 2) := by decide +kernel
theorem dX3_widen_5 : decode cX3_widen 5 = .ok (.if_icmp .ge 38, 3) := by decide +kernel
theorem dX3_widen_8 : decode cX3_widen 8 = .ok (.aload_n 0, 1) := by decide +kernel
theorem dX3_widen_9 : decode cX3_widen 9 = .ok (.iload_n 2, 1) := by decide +kernel
theorem dX3_widen_10 : decode cX3_widen 10 = .ok (.iaload, 1) := by decide +kernel
theorem dX3_widen_11 : decode cX3_widen 11 = .ok (.istore_n 3, 1) := by decide +kernel
theorem dX3_widen_12 : decode cX3_widen 12 = .ok (.iconst 1, 1) := by decide +kernel
theorem dX3_widen_13 : decode cX3_widen 13 = .ok (.istore 4, 2) := by decide +kernel
theorem dX3_widen_15 : decode cX3_widen 15 = .ok (.iload 4, 2) := by decide +kernel
theorem dX3_widen_17 : decode cX3_widen 17 = .ok (.iload_n 1, 1) := by decide +kernel
theorem dX3_widen_18 : decode cX3_widen 18 = .ok (.if_icmp .ge 19, 3) := by decide +kernel
theorem dX3_widen_21 : decode cX3_widen 21 = .ok (.aload_n 0, 1) := by decide +kernel
theorem dX3_widen_22 : decode cX3_widen 22 = .ok (.iload_n 2, 1) := by decide +kernel
theorem dX3_widen_23 : decode cX3_widen 23 = .ok (.dup2, 1) := by decide +kernel
theorem dX3_widen_24 : decode cX3_widen 24 = .ok (.iaload, 1) := by decide +kernel
theorem dX3_widen_25 : decode cX3_widen 25 = .ok (.iload_n 3, 1) := by decide +kernel
theorem dX3_widen_26 : decode cX3_widen 26 = .ok (.iload 4, 2) := by decide +kernel
theorem dX3_widen_28 : decode cX3_widen 28 = .ok (.ishl, 1) := by decide +kernel
theorem dX3_widen_29 : decode cX3_widen 29 = .ok (.ior, 1) := by decide +kernel
theorem dX3_widen_30 : decode cX3_widen 30 = .ok (.iastore, 1) := by decide +kernel
theorem dX3_widen_31 : decode cX3_widen 31 = .ok (.iinc 4 1, 3) := by decide +kernel
theorem dX3_widen_34 : decode cX3_widen 34 = .ok (.goto (-19), 3) := by decide +kernel
theorem dX3_widen_37 : decode cX3_widen 37 = .ok (.iinc 2 1, 3) := by decide +kernel
theorem dX3_widen_40 : decode cX3_widen 40 = .ok (.goto (-38), 3) := by decide +kernel
theorem dX3_widen_43 : decode cX3_widen 43 = .ok (.bipush 15, 2) := by decide +kernel
theorem dX3_widen_45 : decode cX3_widen 45 = .ok (.istore_n 2, 1) := by decide +kernel
theorem dX3_widen_46 : decode cX3_widen 46 = .ok (.iload_n 2, 1) := by decide +kernel
theorem dX3_widen_47 : decode cX3_widen 47 = .ok (.ifCond .lt 38, 3) := by decide +kernel
theorem dX3_widen_50 : decode cX3_widen 50 = .ok (.iconst 1, 1) := by decide +kernel
theorem dX3_widen_51 : decode cX3_widen 51 = .ok (.istore_n 3, 1) := by decide +kernel
theorem dX3_widen_52 : decode cX3_widen 52 = .ok (.iload_n 3, 1) := by decide +kernel
theorem dX3_widen_53 : decode cX3_widen 53 = .ok (.iload_n 1, 1) := by decide +kernel
theorem dX3_widen_54 : decode cX3_widen 54 = .ok (.if_icmp .ge 25, 3) := by decide +kernel
theorem dX3_widen_57 : decode cX3_widen 57 = .ok (.iload_n 3, 1) := by decide +kernel
theorem dX3_widen_58 : decode cX3_widen 58 = .ok (.iload_n 2, 1) := by decide +kernel
theorem dX3_widen_59 : decode cX3_widen 59 = .ok (.if_icmp .gt 20, 3) := by decide +kernel
theorem dX3_widen_62 : decode cX3_widen 62 = .ok (.aload_n 0, 1) := by decide +kernel
theorem dX3_widen_63 : decode cX3_widen 63 = .ok (.iload_n 2, 1) := by decide +kernel
theorem dX3_widen_64 : decode cX3_widen 64 = .ok (.dup2, 1) := by decide +kernel
theorem dX3_widen_65 : decode cX3_widen 65 = .ok (.iaload, 1) := by decide +kernel
theorem dX3_widen_66 : decode cX3_widen 66 = .ok (.aload_n 0, 1) := by decide +kernel
theorem dX3_widen_67 : decode cX3_widen 67 = .ok (.iload_n 2, 1) := by decide +kernel
theorem dX3_widen_68 : decode cX3_widen 68 = .ok (.iload_n 3, 1) := by decide +kernel
theorem dX3_widen_69 : decode cX3_widen 69 = .ok (.isub, 1) := by decide +kernel
theorem dX3_widen_70 : decode cX3_widen 70 = .ok (.iaload, 1) := by decide +kernel
theorem dX3_widen_71 : decode cX3_widen 71 = .ok (.ior, 1) := by decide +kernel
theorem dX3_widen_72 : decode cX3_widen 72 = .ok (.iastore, 1) := by decide +kernel
theorem dX3_widen_73 : decode cX3_widen 73 = .ok (.iinc 3 1, 3) := by decide +kernel
theorem dX3_widen_76 : decode cX3_widen 76 = .ok (.goto (-24), 3) := by decide +kernel
theorem dX3_widen_79 : decode cX3_widen 79 = .ok (.iinc 2 (-1), 3) := by decide +kernel
theorem dX3_widen_82 : decode cX3_widen 82 = .ok (.goto (-36), 3) := by decide +kernel
theorem dX3_widen_85 : decode cX3_widen 85 = .ok (.return_, 1) := by decide +kernel
theorem dX3_columns_0 : decode cX3_columns 0 = .ok (.iconst 0, 1) := by decide +kernel
theorem dX3_columns_1 : decode cX3_columns 1 = .ok (.istore_n 1, 1) := by decide +kernel
theorem dX3_columns_2 : decode cX3_columns 2 = .ok (.iconst 0, 1) := by decide +kernel
theorem dX3_columns_3 : decode cX3_columns 3 = .ok (.istore_n 2, 1) := by decide +kernel
theorem dX3_columns_4 : decode cX3_columns 4 = .ok (.iload_n 2, 1) := by decide +kernel
theorem dX3_columns_5 : decode cX3_columns 5 = .ok (.bipush 16, 2) := by decide +kernel
theorem dX3_columns_7 : decode cX3_columns 7 = .ok (.if_icmp .ge 15, 3) := by decide +kernel
theorem dX3_columns_10 : decode cX3_columns 10 = .ok (.iload_n 1, 1) := by decide +kernel
theorem dX3_columns_11 : decode cX3_columns 11 = .ok (.aload_n 0, 1) := by decide +kernel
theorem dX3_columns_12 : decode cX3_columns 12 = .ok (.iload_n 2, 1) := by decide +kernel
theorem dX3_columns_13 : decode cX3_columns 13 = .ok (.iaload, 1) := by decide +kernel
theorem dX3_columns_14 : decode cX3_columns 14 = .ok (.ior, 1) := by decide +kernel
theorem dX3_columns_15 : decode cX3_columns 15 = .ok (.istore_n 1, 1) := by decide +kernel
theorem dX3_columns_16 : decode cX3_columns 16 = .ok (.iinc 2 1, 3) := by decide +kernel
theorem dX3_columns_19 : decode cX3_columns 19 = .ok (.goto (-15), 3) := by decide +kernel
theorem dX3_columns_22 : decode cX3_columns 22 = .ok (.iload_n 1, 1) := by decide +kernel
theorem dX3_columns_23 : decode cX3_columns 23 = .ok (.ireturn, 1) := by decide +kernel
theorem dX3_leastColumn_0 : decode cX3_leastColumn 0 = .ok (.aload_n 0, 1) := by decide +kernel
theorem dX3_leastColumn_1 : decode cX3_leastColumn 1 = .ok (.invokestatic 21, 3) := by decide +kernel
theorem dX3_leastColumn_4 : decode cX3_leastColumn 4 = .ok (.istore_n 1, 1) := by decide +kernel
theorem dX3_leastColumn_5 : decode cX3_leastColumn 5 = .ok (.iconst 0, 1) := by decide +kernel
theorem dX3_leastColumn_6 : decode cX3_leastColumn 6 = .ok (.istore_n 2, 1) := by decide +kernel
theorem dX3_leastColumn_7 : decode cX3_leastColumn 7 = .ok (.iload_n 2, 1) := by decide +kernel
theorem dX3_leastColumn_8 : decode cX3_leastColumn 8 = .ok (.bipush 16, 2) := by decide +kernel
theorem dX3_leastColumn_10 : decode cX3_leastColumn 10 = .ok (.if_icmp .ge 19, 3) := by decide +kernel
theorem dX3_leastColumn_13 : decode cX3_leastColumn 13 = .ok (.iload_n 1, 1) := by decide +kernel
theorem dX3_leastColumn_14 : decode cX3_leastColumn 14 = .ok (.iload_n 2, 1) := by decide +kernel
theorem dX3_leastColumn_15 : decode cX3_leastColumn 15 = .ok (.ishr, 1) := by decide +kernel
theorem dX3_leastColumn_16 : decode cX3_leastColumn 16 = .ok (.iconst 1, 1) := by decide +kernel
theorem dX3_leastColumn_17 : decode cX3_leastColumn 17 = .ok (.iand, 1) := by decide +kernel
theorem dX3_leastColumn_18 : decode cX3_leastColumn 18 = .ok (.ifCond .eq 5, 3) := by decide +kernel
theorem dX3_leastColumn_21 : decode cX3_leastColumn 21 = .ok (.iload_n 2, 1) := by decide +kernel
theorem dX3_leastColumn_22 : decode cX3_leastColumn 22 = .ok (.ireturn, 1) := by decide +kernel
theorem dX3_leastColumn_23 : decode cX3_leastColumn 23 = .ok (.iinc 2 1, 3) := by decide +kernel
theorem dX3_leastColumn_26 : decode cX3_leastColumn 26 = .ok (.goto (-19), 3) := by decide +kernel
theorem dX3_leastColumn_29 : decode cX3_leastColumn 29 = .ok (.bipush (-9), 2) := by decide +kernel
theorem dX3_leastColumn_31 : decode cX3_leastColumn 31 = .ok (.ireturn, 1) := by decide +kernel
theorem dX3_greatestColumn_0 : decode cX3_greatestColumn 0 = .ok (.aload_n 0, 1) := by decide +kernel
theorem dX3_greatestColumn_1 : decode cX3_greatestColumn 1 = .ok (.invokestatic 21, 3) := by decide +kernel
theorem dX3_greatestColumn_4 : decode cX3_greatestColumn 4 = .ok (.istore_n 1, 1) := by decide +kernel
theorem dX3_greatestColumn_5 : decode cX3_greatestColumn 5 = .ok (.bipush 15, 2) := by decide +kernel
theorem dX3_greatestColumn_7 : decode cX3_greatestColumn 7 = .ok (.istore_n 2, 1) := by decide +kernel
theorem dX3_greatestColumn_8 : decode cX3_greatestColumn 8 = .ok (.iload_n 2, 1) := by decide +kernel
theorem dX3_greatestColumn_9 : decode cX3_greatestColumn 9 = .ok (.ifCond .lt 19, 3) := by decide +kernel
theorem dX3_greatestColumn_12 : decode cX3_greatestColumn 12 = .ok (.iload_n 1, 1) := by decide +kernel
theorem dX3_greatestColumn_13 : decode cX3_greatestColumn 13 = .ok (.iload_n 2, 1) := by decide +kernel
theorem dX3_greatestColumn_14 : decode cX3_greatestColumn 14 = .ok (.ishr, 1) := by decide +kernel
theorem dX3_greatestColumn_15 : decode cX3_greatestColumn 15 = .ok (.iconst 1, 1) := by decide +kernel
theorem dX3_greatestColumn_16 : decode cX3_greatestColumn 16 = .ok (.iand, 1) := by decide +kernel
theorem dX3_greatestColumn_17 : decode cX3_greatestColumn 17 = .ok (.ifCond .eq 5, 3) := by decide +kernel
theorem dX3_greatestColumn_20 : decode cX3_greatestColumn 20 = .ok (.iload_n 2, 1) := by decide +kernel
theorem dX3_greatestColumn_21 : decode cX3_greatestColumn 21 = .ok (.ireturn, 1) := by decide +kernel
theorem dX3_greatestColumn_22 : decode cX3_greatestColumn 22 = .ok (.iinc 2 (-1), 3) := by decide +kernel
theorem dX3_greatestColumn_25 : decode cX3_greatestColumn 25 = .ok (.goto (-17), 3) := by decide +kernel
theorem dX3_greatestColumn_28 : decode cX3_greatestColumn 28 = .ok (.bipush (-9), 2) := by decide +kernel
theorem dX3_greatestColumn_30 : decode cX3_greatestColumn 30 = .ok (.ireturn, 1) := by decide +kernel
theorem dX3_leastRow_0 : decode cX3_leastRow 0 = .ok (.iconst 0, 1) := by decide +kernel
theorem dX3_leastRow_1 : decode cX3_leastRow 1 = .ok (.istore_n 1, 1) := by decide +kernel
theorem dX3_leastRow_2 : decode cX3_leastRow 2 = .ok (.iload_n 1, 1) := by decide +kernel
theorem dX3_leastRow_3 : decode cX3_leastRow 3 = .ok (.bipush 16, 2) := by decide +kernel
theorem dX3_leastRow_5 : decode cX3_leastRow 5 = .ok (.if_icmp .ge 17, 3) := by decide +kernel
theorem dX3_leastRow_8 : decode cX3_leastRow 8 = .ok (.aload_n 0, 1) := by decide +kernel
theorem dX3_leastRow_9 : decode cX3_leastRow 9 = .ok (.iload_n 1, 1) := by decide +kernel
theorem dX3_leastRow_10 : decode cX3_leastRow 10 = .ok (.iaload, 1) := by decide +kernel
theorem dX3_leastRow_11 : decode cX3_leastRow 11 = .ok (.ifCond .eq 5, 3) := by decide +kernel
theorem dX3_leastRow_14 : decode cX3_leastRow 14 = .ok (.iload_n 1, 1) := by decide +kernel
theorem dX3_leastRow_15 : decode cX3_leastRow 15 = .ok (.ireturn, 1) := by decide +kernel
theorem dX3_leastRow_16 : decode cX3_leastRow 16 = .ok (.iinc 1 1, 3) := by decide +kernel
theorem dX3_leastRow_19 : decode cX3_leastRow 19 = .ok (.goto (-17), 3) := by decide +kernel
theorem dX3_leastRow_22 : decode cX3_leastRow 22 = .ok (.bipush (-9), 2) := by decide +kernel
theorem dX3_leastRow_24 : decode cX3_leastRow 24 = .ok (.ireturn, 1) := by decide +kernel
theorem dX3_greatestRow_0 : decode cX3_greatestRow 0 = .ok (.bipush 15, 2) := by decide +kernel
theorem dX3_greatestRow_2 : decode cX3_greatestRow 2 = .ok (.istore_n 1, 1) := by decide +kernel
theorem dX3_greatestRow_3 : decode cX3_greatestRow 3 = .ok (.iload_n 1, 1) := by decide +kernel
theorem dX3_greatestRow_4 : decode cX3_greatestRow 4 = .ok (.ifCond .lt 17, 3) := by decide +kernel
theorem dX3_greatestRow_7 : decode cX3_greatestRow 7 = .ok (.aload_n 0, 1) := by decide +kernel
theorem dX3_greatestRow_8 : decode cX3_greatestRow 8 = .ok (.iload_n 1, 1) := by decide +kernel
theorem dX3_greatestRow_9 : decode cX3_greatestRow 9 = .ok (.iaload, 1) := by decide +kernel
theorem dX3_greatestRow_10 : decode cX3_greatestRow 10 = .ok (.ifCond .eq 5, 3) := by decide +kernel
theorem dX3_greatestRow_13 : decode cX3_greatestRow 13 = .ok (.iload_n 1, 1) := by decide +kernel
theorem dX3_greatestRow_14 : decode cX3_greatestRow 14 = .ok (.ireturn, 1) := by decide +kernel
theorem dX3_greatestRow_15 : decode cX3_greatestRow 15 = .ok (.iinc 1 (-1), 3) := by decide +kernel
theorem dX3_greatestRow_18 : decode cX3_greatestRow 18 = .ok (.goto (-15), 3) := by decide +kernel
theorem dX3_greatestRow_21 : decode cX3_greatestRow 21 = .ok (.bipush (-9), 2) := by decide +kernel
theorem dX3_greatestRow_23 : decode cX3_greatestRow 23 = .ok (.ireturn, 1) := by decide +kernel
theorem dX4_init_0 : decode cX4_init 0 = .ok (.aload_n 0, 1) := by decide +kernel
theorem dX4_init_1 : decode cX4_init 1 = .ok (.invokespecial 3, 3) := by decide +kernel
theorem dX4_init_4 : decode cX4_init 4 = .ok (.aload_n 0, 1) := by decide +kernel
theorem dX4_init_5 : decode cX4_init 5 = .ok (.sipush 2137, 3) := by decide +kernel
theorem dX4_init_8 : decode cX4_init 8 = .ok (.newarray .int, 2) := by decide +kernel
theorem dX4_init_10 : decode cX4_init 10 = .ok (.putfield 9, 3) := by decide +kernel
theorem dX4_init_13 : decode cX4_init 13 = .ok (.aload_n 0, 1) := by decide +kernel
theorem dX4_init_14 : decode cX4_init 14 = .ok (.sipush 2137, 3) := by decide +kernel
theorem dX4_init_17 : decode cX4_init 17 = .ok (.newarray .int, 2) := by decide +kernel
theorem dX4_init_19 : decode cX4_init 19 = .ok (.putfield 15, 3) := by decide +kernel
theorem dX4_init_22 : decode cX4_init 22 = .ok (.aload_n 0, 1) := by decide +kernel
theorem dX4_init_23 : decode cX4_init 23 = .ok (.sipush 256, 3) := by decide +kernel
theorem dX4_init_26 : decode cX4_init 26 = .ok (.newarray .int, 2) := by decide +kernel
theorem dX4_init_28 : decode cX4_init 28 = .ok (.putfield 18, 3) := by decide +kernel
theorem dX4_init_31 : decode cX4_init 31 = .ok (.aload_n 0, 1) := by decide +kernel
theorem dX4_init_32 : decode cX4_init 32 = .ok (.sipush 496, 3) := by decide +kernel
theorem dX4_init_35 : decode cX4_init 35 = .ok (.newarray .int, 2) := by decide +kernel
theorem dX4_init_37 : decode cX4_init 37 = .ok (.putfield 21, 3) := by decide +kernel
theorem dX4_init_40 : decode cX4_init 40 = .ok (.aload_n 0, 1) := by decide +kernel
theorem dX4_init_41 : decode cX4_init 41 = .ok (.bipush 9, 2) := by decide +kernel
theorem dX4_init_43 : decode cX4_init 43 = .ok (.newarray .int, 2) := by decide +kernel
theorem dX4_init_45 : decode cX4_init 45 = .ok (.putfield 24, 3) := by decide +kernel
theorem dX4_init_48 : decode cX4_init 48 = .ok (.aload_n 0, 1) := by decide +kernel
theorem dX4_init_49 : decode cX4_init 49 = .ok (.sipush 496, 3) := by decide +kernel
theorem dX4_init_52 : decode cX4_init 52 = .ok (.newarray .int, 2) := by decide +kernel
theorem dX4_init_54 : decode cX4_init 54 = .ok (.putfield 27, 3) := by decide +kernel
theorem dX4_init_57 : decode cX4_init 57 = .ok (.return_, 1) := by decide +kernel
theorem dX4_gather_0 : decode cX4_gather 0 = .ok (.aload_n 0, 1) := by decide +kernel
theorem dX4_gather_1 : decode cX4_gather 1 = .ok (.iconst 0, 1) := by decide +kernel
theorem dX4_gather_2 : decode cX4_gather 2 = .ok (.putfield 30, 3) := by decide +kernel
theorem dX4_gather_5 : decode cX4_gather 5 = .ok (.iconst 0, 1) := by decide +kernel
theorem dX4_gather_6 : decode cX4_gather 6 = .ok (.istore_n 3, 1) := by decide +kernel
theorem dX4_gather_7 : decode cX4_gather 7 = .ok (.iload_n 3, 1) := by decide +kernel
theorem dX4_gather_8 : decode cX4_gather 8 = .ok (.sipush 256, 3) := by decide +kernel
theorem dX4_gather_11 : decode cX4_gather 11 = .ok (.if_icmp .ge 16, 3) := by decide +kernel
theorem dX4_gather_14 : decode cX4_gather 14 = .ok (.aload_n 0, 1) := by decide +kernel
theorem dX4_gather_15 : decode cX4_gather 15 = .ok (.getfield 18, 3) := by decide +kernel
theorem dX4_gather_18 : decode cX4_gather 18 = .ok (.iload_n 3, 1) := by decide +kernel
theorem dX4_gather_19 : decode cX4_gather 19 = .ok (.iconst 0, 1) := by decide +kernel
theorem dX4_gather_20 : decode cX4_gather 20 = .ok (.iastore, 1) := by decide +kernel
theorem dX4_gather_21 : decode cX4_gather 21 = .ok (.iinc 3 1, 3) := by decide +kernel
theorem dX4_gather_24 : decode cX4_gather 24 = .ok (.goto (-17), 3) := by decide +kernel
theorem dX4_gather_27 : decode cX4_gather 27 = .ok (.iconst 0, 1) := by decide +kernel
theorem dX4_gather_28 : decode cX4_gather 28 = .ok (.istore_n 3, 1) := by decide +kernel
theorem dX4_gather_29 : decode cX4_gather 29 = .ok (.iload_n 3, 1) := by decide +kernel
theorem dX4_gather_30 : decode cX4_gather 30 = .ok (.sipush 496, 3) := by decide +kernel
theorem dX4_gather_33 : decode cX4_gather 33 = .ok (.if_icmp .ge 24, 3) := by decide +kernel
theorem dX4_gather_36 : decode cX4_gather 36 = .ok (.aload_n 0, 1) := by decide +kernel
theorem dX4_gather_37 : decode cX4_gather 37 = .ok (.getfield 21, 3) := by decide +kernel
theorem dX4_gather_40 : decode cX4_gather 40 = .ok (.iload_n 3, 1) := by decide +kernel
theorem dX4_gather_41 : decode cX4_gather 41 = .ok (.iconst 0, 1) := by decide +kernel
theorem dX4_gather_42 : decode cX4_gather 42 = .ok (.iastore, 1) := by decide +kernel
theorem dX4_gather_43 : decode cX4_gather 43 = .ok (.aload_n 0, 1) := by decide +kernel
theorem dX4_gather_44 : decode cX4_gather 44 = .ok (.getfield 27, 3) := by decide +kernel
theorem dX4_gather_47 : decode cX4_gather 47 = .ok (.iload_n 3, 1) := by decide +kernel
theorem dX4_gather_48 : decode cX4_gather 48 = .ok (.bipush (-9), 2) := by decide +kernel
theorem dX4_gather_50 : decode cX4_gather 50 = .ok (.iastore, 1) := by decide +kernel
theorem dX4_gather_51 : decode cX4_gather 51 = .ok (.iinc 3 1, 3) := by decide +kernel
theorem dX4_gather_54 : decode cX4_gather 54 = .ok (.goto (-25), 3) := by decide +kernel
theorem dX4_gather_57 : decode cX4_gather 57 = .ok (.iconst 0, 1) := by decide +kernel
theorem dX4_gather_58 : decode cX4_gather 58 = .ok (.istore_n 3, 1) := by decide +kernel
theorem dX4_gather_59 : decode cX4_gather 59 = .ok (.iload_n 3, 1) := by decide +kernel
theorem dX4_gather_60 : decode cX4_gather 60 = .ok (.aload_n 1, 1) := by decide +kernel
theorem dX4_gather_61 : decode cX4_gather 61 = .ok (.getfield 34, 3) := by decide +kernel
theorem dX4_gather_64 : decode cX4_gather 64 = .ok (.if_icmp .ge 42, 3) := by decide +kernel
theorem dX4_gather_67 : decode cX4_gather 67 = .ok (.iconst 0, 1) := by decide +kernel
theorem dX4_gather_68 : decode cX4_gather 68 = .ok (.istore 4, 2) := by decide +kernel
theorem dX4_gather_70 : decode cX4_gather 70 = .ok (.iload 4, 2) := by decide +kernel
theorem dX4_gather_72 : decode cX4_gather 72 = .ok (.aload_n 1, 1) := by decide +kernel
theorem dX4_gather_73 : decode cX4_gather 73 = .ok (.getfield 39, 3) := by decide +kernel
theorem dX4_gather_76 : decode cX4_gather 76 = .ok (.if_icmp .ge 24, 3) := by decide +kernel
theorem dX4_gather_79 : decode cX4_gather 79 = .ok (.aload_n 0, 1) := by decide +kernel
theorem dX4_gather_80 : decode cX4_gather 80 = .ok (.aload_n 1, 1) := by decide +kernel
theorem dX4_gather_81 : decode cX4_gather 81 = .ok (.bipush 16, 2) := by decide +kernel
theorem dX4_gather_83 : decode cX4_gather 83 = .ok (.iload_n 3, 1) := by decide +kernel
theorem dX4_gather_84 : decode cX4_gather 84 = .ok (.imul, 1) := by decide +kernel
theorem dX4_gather_85 : decode cX4_gather 85 = .ok (.iload 4, 2) := by decide +kernel
theorem dX4_gather_87 : decode cX4_gather 87 = .ok (.iadd, 1) := by decide +kernel
theorem dX4_gather_88 : decode cX4_gather 88 = .ok (.aload_n 2, 1) := by decide +kernel
theorem dX4_gather_89 : decode cX4_gather 89 = .ok (.iconst 4, 1) := by decide +kernel
theorem dX4_gather_90 : decode cX4_gather 90 = .ok (.iaload, 1) := by decide +kernel
theorem dX4_gather_91 : decode cX4_gather 91 = .ok (.invokevirtual 42, 3) := by decide +kernel
theorem dX4_gather_94 : decode cX4_gather 94 = .ok (.iinc 4 1, 3) := by decide +kernel
theorem dX4_gather_97 : decode cX4_gather 97 = .ok (.goto (-27), 3) := by decide +kernel
theorem dX4_gather_100 : decode cX4_gather 100 = .ok (.iinc 3 1, 3) := by decide +kernel
theorem dX4_gather_103 : decode cX4_gather 103 = .ok (.goto (-44), 3) := by decide +kernel
theorem dX4_gather_106 : decode cX4_gather 106 = .ok (.aload_n 0, 1) := by decide +kernel
theorem dX4_gather_107 : decode cX4_gather 107 = .ok (.aload_n 2, 1) := by decide +kernel
theorem dX4_gather_108 : decode cX4_gather 108 = .ok (.bipush 6, 2) := by decide +kernel
theorem dX4_gather_110 : decode cX4_gather 110 = .ok (.iaload, 1) := by decide +kernel
theorem dX4_gather_111 : decode cX4_gather 111 = .ok (.invokevirtual 46, 3) := by decide +kernel
theorem dX4_gather_114 : decode cX4_gather 114 = .ok (.return_, 1) := by decide +kernel
theorem dX4_pairUp_0 : decode cX4_pairUp 0 = .ok (.aload_n 1, 1) := by decide +kernel
theorem dX4_pairUp_1 : decode cX4_pairUp 1 = .ok (.getfield 50, 3) := by decide +kernel
theorem dX4_pairUp_4 : decode cX4_pairUp 4 = .ok (.iload_n 2, 1) := by decide +kernel
theorem dX4_pairUp_5 : decode cX4_pairUp 5 = .ok (.iaload, 1) := by decide +kernel
theorem dX4_pairUp_6 : decode cX4_pairUp 6 = .ok (.ifCond .eq 4, 3) := by decide +kernel
theorem dX4_pairUp_9 : decode cX4_pairUp 9 = .ok (.return_, 1) := by decide +kernel
theorem dX4_pairUp_10 : decode cX4_pairUp 10 = .ok (.aload_n 1, 1) := by decide +kernel
theorem dX4_pairUp_11 : decode cX4_pairUp 11 = .ok (.getfield 53, 3) := by decide +kernel
theorem dX4_pairUp_14 : decode cX4_pairUp 14 = .ok (.iload_n 2, 1) := by decide +kernel
theorem dX4_pairUp_15 : decode cX4_pairUp 15 = .ok (.iaload, 1) := by decide +kernel
theorem dX4_pairUp_16 : decode cX4_pairUp 16 = .ok (.iconst 1, 1) := by decide +kernel
theorem dX4_pairUp_17 : decode cX4_pairUp 17 = .ok (.iadd, 1) := by decide +kernel
theorem dX4_pairUp_18 : decode cX4_pairUp 18 = .ok (.istore 4, 2) := by decide +kernel
theorem dX4_pairUp_20 : decode cX4_pairUp 20 = .ok (.iload 4, 2) := by decide +kernel
theorem dX4_pairUp_22 : decode cX4_pairUp 22 = .ok (.aload_n 1, 1) := by decide +kernel
theorem dX4_pairUp_23 : decode cX4_pairUp 23 = .ok (.getfield 56, 3) := by decide +kernel
theorem dX4_pairUp_26 : decode cX4_pairUp 26 = .ok (.iload_n 2, 1) := by decide +kernel
theorem dX4_pairUp_27 : decode cX4_pairUp 27 = .ok (.iaload, 1) := by decide +kernel
theorem dX4_pairUp_28 : decode cX4_pairUp 28 = .ok (.if_icmp .ge 36, 3) := by decide +kernel
theorem dX4_pairUp_31 : decode cX4_pairUp 31 = .ok (.aload_n 1, 1) := by decide +kernel
theorem dX4_pairUp_32 : decode cX4_pairUp 32 = .ok (.getfield 59, 3) := by decide +kernel
theorem dX4_pairUp_35 : decode cX4_pairUp 35 = .ok (.iload 4, 2) := by decide +kernel
theorem dX4_pairUp_37 : decode cX4_pairUp 37 = .ok (.iaload, 1) := by decide +kernel
theorem dX4_pairUp_38 : decode cX4_pairUp 38 = .ok (.istore 5, 2) := by decide +kernel
theorem dX4_pairUp_40 : decode cX4_pairUp 40 = .ok (.aload_n 1, 1) := by decide +kernel
theorem dX4_pairUp_41 : decode cX4_pairUp 41 = .ok (.getfield 50, 3) := by decide +kernel
theorem dX4_pairUp_44 : decode cX4_pairUp 44 = .ok (.iload 5, 2) := by decide +kernel
theorem dX4_pairUp_46 : decode cX4_pairUp 46 = .ok (.iaload, 1) := by decide +kernel
theorem dX4_pairUp_47 : decode cX4_pairUp 47 = .ok (.ifCond .ne 11, 3) := by decide +kernel
theorem dX4_pairUp_50 : decode cX4_pairUp 50 = .ok (.aload_n 0, 1) := by decide +kernel
theorem dX4_pairUp_51 : decode cX4_pairUp 51 = .ok (.iload_n 2, 1) := by decide +kernel
theorem dX4_pairUp_52 : decode cX4_pairUp 52 = .ok (.iload 5, 2) := by decide +kernel
theorem dX4_pairUp_54 : decode cX4_pairUp 54 = .ok (.iload_n 3, 1) := by decide +kernel
theorem dX4_pairUp_55 : decode cX4_pairUp 55 = .ok (.invokevirtual 62, 3) := by decide +kernel
theorem dX4_pairUp_58 : decode cX4_pairUp 58 = .ok (.iinc 4 1, 3) := by decide +kernel
theorem dX4_pairUp_61 : decode cX4_pairUp 61 = .ok (.goto (-41), 3) := by decide +kernel
theorem dX4_pairUp_64 : decode cX4_pairUp 64 = .ok (.return_, 1) := by decide +kernel
theorem dX4_addPair_0 : decode cX4_addPair 0 = .ok (.iload_n 2, 1) := by decide +kernel
theorem dX4_addPair_1 : decode cX4_addPair 1 = .ok (.bipush 16, 2) := by decide +kernel
theorem dX4_addPair_3 : decode cX4_addPair 3 = .ok (.irem, 1) := by decide +kernel
theorem dX4_addPair_4 : decode cX4_addPair 4 = .ok (.iload_n 1, 1) := by decide +kernel
theorem dX4_addPair_5 : decode cX4_addPair 5 = .ok (.bipush 16, 2) := by decide +kernel
theorem dX4_addPair_7 : decode cX4_addPair 7 = .ok (.irem, 1) := by decide +kernel
theorem dX4_addPair_8 : decode cX4_addPair 8 = .ok (.isub, 1) := by decide +kernel
theorem dX4_addPair_9 : decode cX4_addPair 9 = .ok (.istore 4, 2) := by decide +kernel
theorem dX4_addPair_11 : decode cX4_addPair 11 = .ok (.iload_n 2, 1) := by decide +kernel
theorem dX4_addPair_12 : decode cX4_addPair 12 = .ok (.bipush 16, 2) := by decide +kernel
theorem dX4_addPair_14 : decode cX4_addPair 14 = .ok (.idiv, 1) := by decide +kernel
theorem dX4_addPair_15 : decode cX4_addPair 15 = .ok (.iload_n 1, 1) := by decide +kernel
theorem dX4_addPair_16 : decode cX4_addPair 16 = .ok (.bipush 16, 2) := by decide +kernel
theorem dX4_addPair_18 : decode cX4_addPair 18 = .ok (.idiv, 1) := by decide +kernel
theorem dX4_addPair_19 : decode cX4_addPair 19 = .ok (.isub, 1) := by decide +kernel
theorem dX4_addPair_20 : decode cX4_addPair 20 = .ok (.istore 5, 2) := by decide +kernel
theorem dX4_addPair_22 : decode cX4_addPair 22 = .ok (.iload 4, 2) := by decide +kernel
theorem dX4_addPair_24 : decode cX4_addPair 24 = .ok (.invokestatic 66, 3) := by decide +kernel
theorem dX4_addPair_27 : decode cX4_addPair 27 = .ok (.iload_n 3, 1) := by decide +kernel
theorem dX4_addPair_28 : decode cX4_addPair 28 = .ok (.if_icmp .ge 13, 3) := by decide +kernel
theorem dX4_addPair_31 : decode cX4_addPair 31 = .ok (.iload 5, 2) := by decide +kernel
theorem dX4_addPair_33 : decode cX4_addPair 33 = .ok (.iload_n 3, 1) := by decide +kernel
theorem dX4_addPair_34 : decode cX4_addPair 34 = .ok (.if_icmp .ge 7, 3) := by decide +kernel
theorem dX4_addPair_37 : decode cX4_addPair 37 = .ok (.iconst 1, 1) := by decide +kernel
theorem dX4_addPair_38 : decode cX4_addPair 38 = .ok (.goto 4, 3) := by decide +kernel
theorem dX4_addPair_41 : decode cX4_addPair 41 = .ok (.iconst 0, 1) := by decide +kernel
theorem dX4_addPair_42 : decode cX4_addPair 42 = .ok (.istore 6, 2) := by decide +kernel
theorem dX4_addPair_44 : decode cX4_addPair 44 = .ok (.iload 6, 2) := by decide +kernel
theorem dX4_addPair_46 : decode cX4_addPair 46 = .ok (.ifCond .ne 13, 3) := by decide +kernel
theorem dX4_addPair_49 : decode cX4_addPair 49 = .ok (.aload_n 0, 1) := by decide +kernel
theorem dX4_addPair_50 : decode cX4_addPair 50 = .ok (.getfield 30, 3) := by decide +kernel
theorem dX4_addPair_53 : decode cX4_addPair 53 = .ok (.sipush 2137, 3) := by decide +kernel
theorem dX4_addPair_56 : decode cX4_addPair 56 = .ok (.if_icmp .lt 4, 3) := by decide +kernel
theorem dX4_addPair_59 : decode cX4_addPair 59 = .ok (.return_, 1) := by decide +kernel
theorem dX4_addPair_60 : decode cX4_addPair 60 = .ok (.aload_n 0, 1) := by decide +kernel
theorem dX4_addPair_61 : decode cX4_addPair 61 = .ok (.getfield 9, 3) := by decide +kernel
theorem dX4_addPair_64 : decode cX4_addPair 64 = .ok (.aload_n 0, 1) := by decide +kernel
theorem dX4_addPair_65 : decode cX4_addPair 65 = .ok (.getfield 30, 3) := by decide +kernel
theorem dX4_addPair_68 : decode cX4_addPair 68 = .ok (.iload_n 1, 1) := by decide +kernel
theorem dX4_addPair_69 : decode cX4_addPair 69 = .ok (.iastore, 1) := by decide +kernel
theorem dX4_addPair_70 : decode cX4_addPair 70 = .ok (.aload_n 0, 1) := by decide +kernel
theorem dX4_addPair_71 : decode cX4_addPair 71 = .ok (.getfield 15, 3) := by decide +kernel
theorem dX4_addPair_74 : decode cX4_addPair 74 = .ok (.aload_n 0, 1) := by decide +kernel
theorem dX4_addPair_75 : decode cX4_addPair 75 = .ok (.getfield 30, 3) := by decide +kernel
theorem dX4_addPair_78 : decode cX4_addPair 78 = .ok (.iload_n 2, 1) := by decide +kernel
theorem dX4_addPair_79 : decode cX4_addPair 79 = .ok (.iastore, 1) := by decide +kernel
theorem dX4_addPair_80 : decode cX4_addPair 80 = .ok (.aload_n 0, 1) := by decide +kernel
theorem dX4_addPair_81 : decode cX4_addPair 81 = .ok (.dup, 1) := by decide +kernel
theorem dX4_addPair_82 : decode cX4_addPair 82 = .ok (.getfield 30, 3) := by decide +kernel
theorem dX4_addPair_85 : decode cX4_addPair 85 = .ok (.iconst 1, 1) := by decide +kernel
theorem dX4_addPair_86 : decode cX4_addPair 86 = .ok (.iadd, 1) := by decide +kernel
theorem dX4_addPair_87 : decode cX4_addPair 87 = .ok (.putfield 30, 3) := by decide +kernel
theorem dX4_addPair_90 : decode cX4_addPair 90 = .ok (.aload_n 0, 1) := by decide +kernel
theorem dX4_addPair_91 : decode cX4_addPair 91 = .ok (.getfield 18, 3) := by decide +kernel
theorem dX4_addPair_94 : decode cX4_addPair 94 = .ok (.iload_n 1, 1) := by decide +kernel
theorem dX4_addPair_95 : decode cX4_addPair 95 = .ok (.dup2, 1) := by decide +kernel
theorem dX4_addPair_96 : decode cX4_addPair 96 = .ok (.iaload, 1) := by decide +kernel
theorem dX4_addPair_97 : decode cX4_addPair 97 = .ok (.iconst 1, 1) := by decide +kernel
theorem dX4_addPair_98 : decode cX4_addPair 98 = .ok (.iadd, 1) := by decide +kernel
theorem dX4_addPair_99 : decode cX4_addPair 99 = .ok (.iastore, 1) := by decide +kernel
theorem dX4_addPair_100 : decode cX4_addPair 100 = .ok (.aload_n 0, 1) := by decide +kernel
theorem dX4_addPair_101 : decode cX4_addPair 101 = .ok (.getfield 18, 3) := by decide +kernel
theorem dX4_addPair_104 : decode cX4_addPair 104 = .ok (.iload_n 2, 1) := by decide +kernel
theorem dX4_addPair_105 : decode cX4_addPair 105 = .ok (.dup2, 1) := by decide +kernel
theorem dX4_addPair_106 : decode cX4_addPair 106 = .ok (.iaload, 1) := by decide +kernel
theorem dX4_addPair_107 : decode cX4_addPair 107 = .ok (.iconst 1, 1) := by decide +kernel
theorem dX4_addPair_108 : decode cX4_addPair 108 = .ok (.iadd, 1) := by decide +kernel
theorem dX4_addPair_109 : decode cX4_addPair 109 = .ok (.iastore, 1) := by decide +kernel
theorem dX4_addPair_110 : decode cX4_addPair 110 = .ok (.aload_n 0, 1) := by decide +kernel
theorem dX4_addPair_111 : decode cX4_addPair 111 = .ok (.getfield 21, 3) := by decide +kernel
theorem dX4_addPair_114 : decode cX4_addPair 114 = .ok (.iload 4, 2) := by decide +kernel
theorem dX4_addPair_116 : decode cX4_addPair 116 = .ok (.iload 5, 2) := by decide +kernel
theorem dX4_addPair_118 : decode cX4_addPair 118 = .ok (.invokestatic 72, 3) := by decide +kernel
theorem dX4_addPair_121 : decode cX4_addPair 121 = .ok (.dup2, 1) := by decide +kernel
theorem dX4_addPair_122 : decode cX4_addPair 122 = .ok (.iaload, 1) := by decide +kernel
theorem dX4_addPair_123 : decode cX4_addPair 123 = .ok (.iconst 1, 1) := by decide +kernel
theorem dX4_addPair_124 : decode cX4_addPair 124 = .ok (.iadd, 1) := by decide +kernel
theorem dX4_addPair_125 : decode cX4_addPair 125 = .ok (.iastore, 1) := by decide +kernel
theorem dX4_addPair_126 : decode cX4_addPair 126 = .ok (.return_, 1) := by decide +kernel
theorem dX4_choose_0 : decode cX4_choose 0 = .ok (.aload_n 0, 1) := by decide +kernel
theorem dX4_choose_1 : decode cX4_choose 1 = .ok (.iconst 0, 1) := by decide +kernel
theorem dX4_choose_2 : decode cX4_choose 2 = .ok (.putfield 76, 3) := by decide +kernel
theorem dX4_choose_5 : decode cX4_choose 5 = .ok (.iconst 0, 1) := by decide +kernel
theorem dX4_choose_6 : decode cX4_choose 6 = .ok (.istore_n 2, 1) := by decide +kernel
theorem dX4_choose_7 : decode cX4_choose 7 = .ok (.iload_n 2, 1) := by decide +kernel
theorem dX4_choose_8 : decode cX4_choose 8 = .ok (.sipush 496, 3) := by decide +kernel
theorem dX4_choose_11 : decode cX4_choose 11 = .ok (.if_icmp .ge 52, 3) := by decide +kernel
theorem dX4_choose_14 : decode cX4_choose 14 = .ok (.aload_n 0, 1) := by decide +kernel
theorem dX4_choose_15 : decode cX4_choose 15 = .ok (.getfield 21, 3) := by decide +kernel
theorem dX4_choose_18 : decode cX4_choose 18 = .ok (.iload_n 2, 1) := by decide +kernel
theorem dX4_choose_19 : decode cX4_choose 19 = .ok (.iaload, 1) := by decide +kernel
theorem dX4_choose_20 : decode cX4_choose 20 = .ok (.iload_n 1, 1) := by decide +kernel
theorem dX4_choose_21 : decode cX4_choose 21 = .ok (.if_icmp .lt 36, 3) := by decide +kernel
theorem dX4_choose_24 : decode cX4_choose 24 = .ok (.aload_n 0, 1) := by decide +kernel
theorem dX4_choose_25 : decode cX4_choose 25 = .ok (.getfield 24, 3) := by decide +kernel
theorem dX4_choose_28 : decode cX4_choose 28 = .ok (.aload_n 0, 1) := by decide +kernel
theorem dX4_choose_29 : decode cX4_choose 29 = .ok (.getfield 76, 3) := by decide +kernel
theorem dX4_choose_32 : decode cX4_choose 32 = .ok (.iload_n 2, 1) := by decide +kernel
theorem dX4_choose_33 : decode cX4_choose 33 = .ok (.iastore, 1) := by decide +kernel
theorem dX4_choose_34 : decode cX4_choose 34 = .ok (.aload_n 0, 1) := by decide +kernel
theorem dX4_choose_35 : decode cX4_choose 35 = .ok (.aload_n 0, 1) := by decide +kernel
theorem dX4_choose_36 : decode cX4_choose 36 = .ok (.getfield 76, 3) := by decide +kernel
theorem dX4_choose_39 : decode cX4_choose 39 = .ok (.invokevirtual 79, 3) := by decide +kernel
theorem dX4_choose_42 : decode cX4_choose 42 = .ok (.aload_n 0, 1) := by decide +kernel
theorem dX4_choose_43 : decode cX4_choose 43 = .ok (.aload_n 0, 1) := by decide +kernel
theorem dX4_choose_44 : decode cX4_choose 44 = .ok (.getfield 76, 3) := by decide +kernel
theorem dX4_choose_47 : decode cX4_choose 47 = .ok (.iconst 1, 1) := by decide +kernel
theorem dX4_choose_48 : decode cX4_choose 48 = .ok (.iadd, 1) := by decide +kernel
theorem dX4_choose_49 : decode cX4_choose 49 = .ok (.bipush 8, 2) := by decide +kernel
theorem dX4_choose_51 : decode cX4_choose 51 = .ok (.invokestatic 82, 3) := by decide +kernel
theorem dX4_choose_54 : decode cX4_choose 54 = .ok (.putfield 76, 3) := by decide +kernel
theorem dX4_choose_57 : decode cX4_choose 57 = .ok (.iinc 2 1, 3) := by decide +kernel
theorem dX4_choose_60 : decode cX4_choose 60 = .ok (.goto (-53), 3) := by decide +kernel
theorem dX4_choose_63 : decode cX4_choose 63 = .ok (.iconst 0, 1) := by decide +kernel
theorem dX4_choose_64 : decode cX4_choose 64 = .ok (.istore_n 2, 1) := by decide +kernel
theorem dX4_choose_65 : decode cX4_choose 65 = .ok (.iload_n 2, 1) := by decide +kernel
theorem dX4_choose_66 : decode cX4_choose 66 = .ok (.aload_n 0, 1) := by decide +kernel
theorem dX4_choose_67 : decode cX4_choose 67 = .ok (.getfield 76, 3) := by decide +kernel
theorem dX4_choose_70 : decode cX4_choose 70 = .ok (.if_icmp .ge 21, 3) := by decide +kernel
theorem dX4_choose_73 : decode cX4_choose 73 = .ok (.aload_n 0, 1) := by decide +kernel
theorem dX4_choose_74 : decode cX4_choose 74 = .ok (.getfield 27, 3) := by decide +kernel
theorem dX4_choose_77 : decode cX4_choose 77 = .ok (.aload_n 0, 1) := by decide +kernel
theorem dX4_choose_78 : decode cX4_choose 78 = .ok (.getfield 24, 3) := by decide +kernel
theorem dX4_choose_81 : decode cX4_choose 81 = .ok (.iload_n 2, 1) := by decide +kernel
theorem dX4_choose_82 : decode cX4_choose 82 = .ok (.iaload, 1) := by decide +kernel
theorem dX4_choose_83 : decode cX4_choose 83 = .ok (.iload_n 2, 1) := by decide +kernel
theorem dX4_choose_84 : decode cX4_choose 84 = .ok (.iastore, 1) := by decide +kernel
theorem dX4_choose_85 : decode cX4_choose 85 = .ok (.iinc 2 1, 3) := by decide +kernel
theorem dX4_choose_88 : decode cX4_choose 88 = .ok (.goto (-23), 3) := by decide +kernel
theorem dX4_choose_91 : decode cX4_choose 91 = .ok (.return_, 1) := by decide +kernel
theorem dX4_settle_0 : decode cX4_settle 0 = .ok (.iload_n 1, 1) := by decide +kernel
theorem dX4_settle_1 : decode cX4_settle 1 = .ok (.istore_n 2, 1) := by decide +kernel
theorem dX4_settle_2 : decode cX4_settle 2 = .ok (.iload_n 2, 1) := by decide +kernel
theorem dX4_settle_3 : decode cX4_settle 3 = .ok (.ifCond .le 60, 3) := by decide +kernel
theorem dX4_settle_6 : decode cX4_settle 6 = .ok (.aload_n 0, 1) := by decide +kernel
theorem dX4_settle_7 : decode cX4_settle 7 = .ok (.aload_n 0, 1) := by decide +kernel
theorem dX4_settle_8 : decode cX4_settle 8 = .ok (.getfield 24, 3) := by decide +kernel
theorem dX4_settle_11 : decode cX4_settle 11 = .ok (.iload_n 2, 1) := by decide +kernel
theorem dX4_settle_12 : decode cX4_settle 12 = .ok (.iaload, 1) := by decide +kernel
theorem dX4_settle_13 : decode cX4_settle 13 = .ok (.aload_n 0, 1) := by decide +kernel
theorem dX4_settle_14 : decode cX4_settle 14 = .ok (.getfield 24, 3) := by decide +kernel
theorem dX4_settle_17 : decode cX4_settle 17 = .ok (.iload_n 2, 1) := by decide +kernel
theorem dX4_settle_18 : decode cX4_settle 18 = .ok (.iconst 1, 1) := by decide +kernel
theorem dX4_settle_19 : decode cX4_settle 19 = .ok (.isub, 1) := by decide +kernel
theorem dX4_settle_20 : decode cX4_settle 20 = .ok (.iaload, 1) := by decide +kernel
theorem dX4_settle_21 : decode cX4_settle 21 = .ok (.invokevirtual 85, 3) := by decide +kernel
theorem dX4_settle_24 : decode cX4_settle 24 = .ok (.ifCond .eq 39, 3) := by decide +kernel
theorem dX4_settle_27 : decode cX4_settle 27 = .ok (.aload_n 0, 1) := by decide +kernel
theorem dX4_settle_28 : decode cX4_settle 28 = .ok (.getfield 24, 3) := by decide +kernel
theorem dX4_settle_31 : decode cX4_settle 31 = .ok (.iload_n 2, 1) := by decide +kernel
theorem dX4_settle_32 : decode cX4_settle 32 = .ok (.iaload, 1) := by decide +kernel
theorem dX4_settle_33 : decode cX4_settle 33 = .ok (.istore_n 3, 1) := by decide +kernel
theorem dX4_settle_34 : decode cX4_settle 34 = .ok (.aload_n 0, 1) := by decide +kernel
theorem dX4_settle_35 : decode cX4_settle 35 = .ok (.getfield 24, 3) := by decide +kernel
theorem dX4_settle_38 : decode cX4_settle 38 = .ok (.iload_n 2, 1) := by decide +kernel
theorem dX4_settle_39 : decode cX4_settle 39 = .ok (.aload_n 0, 1) := by decide +kernel
theorem dX4_settle_40 : decode cX4_settle 40 = .ok (.getfield 24, 3) := by decide +kernel
theorem dX4_settle_43 : decode cX4_settle 43 = .ok (.iload_n 2, 1) := by decide +kernel
theorem dX4_settle_44 : decode cX4_settle 44 = .ok (.iconst 1, 1) := by decide +kernel
theorem dX4_settle_45 : decode cX4_settle 45 = .ok (.isub, 1) := by decide +kernel
theorem dX4_settle_46 : decode cX4_settle 46 = .ok (.iaload, 1) := by decide +kernel
theorem dX4_settle_47 : decode cX4_settle 47 = .ok (.iastore, 1) := by decide +kernel
theorem dX4_settle_48 : decode cX4_settle 48 = .ok (.aload_n 0, 1) := by decide +kernel
theorem dX4_settle_49 : decode cX4_settle 49 = .ok (.getfield 24, 3) := by decide +kernel
theorem dX4_settle_52 : decode cX4_settle 52 = .ok (.iload_n 2, 1) := by decide +kernel
theorem dX4_settle_53 : decode cX4_settle 53 = .ok (.iconst 1, 1) := by decide +kernel
theorem dX4_settle_54 : decode cX4_settle 54 = .ok (.isub, 1) := by decide +kernel
theorem dX4_settle_55 : decode cX4_settle 55 = .ok (.iload_n 3, 1) := by decide +kernel
theorem dX4_settle_56 : decode cX4_settle 56 = .ok (.iastore, 1) := by decide +kernel
theorem dX4_settle_57 : decode cX4_settle 57 = .ok (.iinc 2 (-1), 3) := by decide +kernel
theorem dX4_settle_60 : decode cX4_settle 60 = .ok (.goto (-58), 3) := by decide +kernel
theorem dX4_settle_63 : decode cX4_settle 63 = .ok (.return_, 1) := by decide +kernel
theorem dX4_isAhead_0 : decode cX4_isAhead 0 = .ok (.aload_n 0, 1) := by decide +kernel
theorem dX4_isAhead_1 : decode cX4_isAhead 1 = .ok (.getfield 21, 3) := by decide +kernel
theorem dX4_isAhead_4 : decode cX4_isAhead 4 = .ok (.iload_n 1, 1) := by decide +kernel
theorem dX4_isAhead_5 : decode cX4_isAhead 5 = .ok (.iaload, 1) := by decide +kernel
theorem dX4_isAhead_6 : decode cX4_isAhead 6 = .ok (.aload_n 0, 1) := by decide +kernel
theorem dX4_isAhead_7 : decode cX4_isAhead 7 = .ok (.getfield 21, 3) := by decide +kernel
theorem dX4_isAhead_10 : decode cX4_isAhead 10 = .ok (.iload_n 2, 1) := by decide +kernel
theorem dX4_isAhead_11 : decode cX4_isAhead 11 = .ok (.iaload, 1) := by decide +kernel
theorem dX4_isAhead_12 : decode cX4_isAhead 12 = .ok (.if_icmp .eq 24, 3) := by decide +kernel
theorem dX4_isAhead_15 : decode cX4_isAhead 15 = .ok (.aload_n 0, 1) := by decide +kernel
theorem dX4_isAhead_16 : decode cX4_isAhead 16 = .ok (.getfield 21, 3) := by decide +kernel
theorem dX4_isAhead_19 : decode cX4_isAhead 19 = .ok (.iload_n 1, 1) := by decide +kernel
theorem dX4_isAhead_20 : decode cX4_isAhead 20 = .ok (.iaload, 1) := by decide +kernel
theorem dX4_isAhead_21 : decode cX4_isAhead 21 = .ok (.aload_n 0, 1) := by decide +kernel
theorem dX4_isAhead_22 : decode cX4_isAhead 22 = .ok (.getfield 21, 3) := by decide +kernel
theorem dX4_isAhead_25 : decode cX4_isAhead 25 = .ok (.iload_n 2, 1) := by decide +kernel
theorem dX4_isAhead_26 : decode cX4_isAhead 26 = .ok (.iaload, 1) := by decide +kernel
theorem dX4_isAhead_27 : decode cX4_isAhead 27 = .ok (.if_icmp .le 7, 3) := by decide +kernel
theorem dX4_isAhead_30 : decode cX4_isAhead 30 = .ok (.iconst 1, 1) := by decide +kernel
theorem dX4_isAhead_31 : decode cX4_isAhead 31 = .ok (.goto 4, 3) := by decide +kernel
theorem dX4_isAhead_34 : decode cX4_isAhead 34 = .ok (.iconst 0, 1) := by decide +kernel
theorem dX4_isAhead_35 : decode cX4_isAhead 35 = .ok (.ireturn, 1) := by decide +kernel
theorem dX4_isAhead_36 : decode cX4_isAhead 36 = .ok (.iload_n 1, 1) := by decide +kernel
theorem dX4_isAhead_37 : decode cX4_isAhead 37 = .ok (.invokestatic 89, 3) := by decide +kernel
theorem dX4_isAhead_40 : decode cX4_isAhead 40 = .ok (.invokestatic 66, 3) := by decide +kernel
theorem dX4_isAhead_43 : decode cX4_isAhead 43 = .ok (.iload_n 1, 1) := by decide +kernel
theorem dX4_isAhead_44 : decode cX4_isAhead 44 = .ok (.invokestatic 92, 3) := by decide +kernel
theorem dX4_isAhead_47 : decode cX4_isAhead 47 = .ok (.iadd, 1) := by decide +kernel
theorem dX4_isAhead_48 : decode cX4_isAhead 48 = .ok (.istore_n 3, 1) := by decide +kernel
theorem dX4_isAhead_49 : decode cX4_isAhead 49 = .ok (.iload_n 2, 1) := by decide +kernel
theorem dX4_isAhead_50 : decode cX4_isAhead 50 = .ok (.invokestatic 89, 3) := by decide +kernel
theorem dX4_isAhead_53 : decode cX4_isAhead 53 = .ok (.invokestatic 66, 3) := by decide +kernel
theorem dX4_isAhead_56 : decode cX4_isAhead 56 = .ok (.iload_n 2, 1) := by decide +kernel
theorem dX4_isAhead_57 : decode cX4_isAhead 57 = .ok (.invokestatic 92, 3) := by decide +kernel
theorem dX4_isAhead_60 : decode cX4_isAhead 60 = .ok (.iadd, 1) := by decide +kernel
theorem dX4_isAhead_61 : decode cX4_isAhead 61 = .ok (.istore 4, 2) := by decide +kernel
theorem dX4_isAhead_63 : decode cX4_isAhead 63 = .ok (.iload_n 3, 1) := by decide +kernel
theorem dX4_isAhead_64 : decode cX4_isAhead 64 = .ok (.iload 4, 2) := by decide +kernel
theorem dX4_isAhead_66 : decode cX4_isAhead 66 = .ok (.if_icmp .eq 17, 3) := by decide +kernel
theorem dX4_isAhead_69 : decode cX4_isAhead 69 = .ok (.iload_n 3, 1) := by decide +kernel
theorem dX4_isAhead_70 : decode cX4_isAhead 70 = .ok (.iload 4, 2) := by decide +kernel
theorem dX4_isAhead_72 : decode cX4_isAhead 72 = .ok (.if_icmp .ge 7, 3) := by decide +kernel
theorem dX4_isAhead_75 : decode cX4_isAhead 75 = .ok (.iconst 1, 1) := by decide +kernel
theorem dX4_isAhead_76 : decode cX4_isAhead 76 = .ok (.goto 17, 3) := by decide +kernel
theorem dX4_isAhead_79 : decode cX4_isAhead 79 = .ok (.iconst 0, 1) := by decide +kernel
theorem dX4_isAhead_80 : decode cX4_isAhead 80 = .ok (.goto 13, 3) := by decide +kernel
theorem dX4_isAhead_83 : decode cX4_isAhead 83 = .ok (.iload_n 1, 1) := by decide +kernel
theorem dX4_isAhead_84 : decode cX4_isAhead 84 = .ok (.iload_n 2, 1) := by decide +kernel
theorem dX4_isAhead_85 : decode cX4_isAhead 85 = .ok (.if_icmp .ge 7, 3) := by decide +kernel
theorem dX4_isAhead_88 : decode cX4_isAhead 88 = .ok (.iconst 1, 1) := by decide +kernel
theorem dX4_isAhead_89 : decode cX4_isAhead 89 = .ok (.goto 4, 3) := by decide +kernel
theorem dX4_isAhead_92 : decode cX4_isAhead 92 = .ok (.iconst 0, 1) := by decide +kernel
theorem dX4_isAhead_93 : decode cX4_isAhead 93 = .ok (.ireturn, 1) := by decide +kernel
theorem dX4_shiftOfPair_0 : decode cX4_shiftOfPair 0 = .ok (.aload_n 0, 1) := by decide +kernel
theorem dX4_shiftOfPair_1 : decode cX4_shiftOfPair 1 = .ok (.getfield 15, 3) := by decide +kernel
theorem dX4_shiftOfPair_4 : decode cX4_shiftOfPair 4 = .ok (.iload_n 1, 1) := by decide +kernel
theorem dX4_shiftOfPair_5 : decode cX4_shiftOfPair 5 = .ok (.iaload, 1) := by decide +kernel
theorem dX4_shiftOfPair_6 : decode cX4_shiftOfPair 6 = .ok (.bipush 16, 2) := by decide +kernel
theorem dX4_shiftOfPair_8 : decode cX4_shiftOfPair 8 = .ok (.irem, 1) := by decide +kernel
theorem dX4_shiftOfPair_9 : decode cX4_shiftOfPair 9 = .ok (.aload_n 0, 1) := by decide +kernel
theorem dX4_shiftOfPair_10 : decode cX4_shiftOfPair 10 = .ok (.getfield 9, 3) := by decide +kernel
theorem dX4_shiftOfPair_13 : decode cX4_shiftOfPair 13 = .ok (.iload_n 1, 1) := by decide +kernel
theorem dX4_shiftOfPair_14 : decode cX4_shiftOfPair 14 = .ok (.iaload, 1) := by decide +kernel
theorem dX4_shiftOfPair_15 : decode cX4_shiftOfPair 15 = .ok (.bipush 16, 2) := by decide +kernel
theorem dX4_shiftOfPair_17 : decode cX4_shiftOfPair 17 = .ok (.irem, 1) := by decide +kernel
theorem dX4_shiftOfPair_18 : decode cX4_shiftOfPair 18 = .ok (.isub, 1) := by decide +kernel
theorem dX4_shiftOfPair_19 : decode cX4_shiftOfPair 19 = .ok (.istore_n 2, 1) := by decide +kernel
theorem dX4_shiftOfPair_20 : decode cX4_shiftOfPair 20 = .ok (.aload_n 0, 1) := by decide +kernel
theorem dX4_shiftOfPair_21 : decode cX4_shiftOfPair 21 = .ok (.getfield 15, 3) := by decide +kernel
theorem dX4_shiftOfPair_24 : decode cX4_shiftOfPair 24 = .ok (.iload_n 1, 1) := by decide +kernel
theorem dX4_shiftOfPair_25 : decode cX4_shiftOfPair 25 = .ok (.iaload, 1) := by decide +kernel
theorem dX4_shiftOfPair_26 : decode cX4_shiftOfPair 26 = .ok (.bipush 16, 2) := by decide +kernel
theorem dX4_shiftOfPair_28 : decode cX4_shiftOfPair 28 = .ok (.idiv, 1) := by decide +kernel
theorem dX4_shiftOfPair_29 : decode cX4_shiftOfPair 29 = .ok (.aload_n 0, 1) := by decide +kernel
theorem dX4_shiftOfPair_30 : decode cX4_shiftOfPair 30 = .ok (.getfield 9, 3) := by decide +kernel
theorem dX4_shiftOfPair_33 : decode cX4_shiftOfPair 33 = .ok (.iload_n 1, 1) := by decide +kernel
theorem dX4_shiftOfPair_34 : decode cX4_shiftOfPair 34 = .ok (.iaload, 1) := by decide +kernel
theorem dX4_shiftOfPair_35 : decode cX4_shiftOfPair 35 = .ok (.bipush 16, 2) := by decide +kernel
theorem dX4_shiftOfPair_37 : decode cX4_shiftOfPair 37 = .ok (.idiv, 1) := by decide +kernel
theorem dX4_shiftOfPair_38 : decode cX4_shiftOfPair 38 = .ok (.isub, 1) := by decide +kernel
theorem dX4_shiftOfPair_39 : decode cX4_shiftOfPair 39 = .ok (.istore_n 3, 1) := by decide +kernel
theorem dX4_shiftOfPair_40 : decode cX4_shiftOfPair 40 = .ok (.aload_n 0, 1) := by decide +kernel
theorem dX4_shiftOfPair_41 : decode cX4_shiftOfPair 41 = .ok (.getfield 27, 3) := by decide +kernel
theorem dX4_shiftOfPair_44 : decode cX4_shiftOfPair 44 = .ok (.iload_n 2, 1) := by decide +kernel
theorem dX4_shiftOfPair_45 : decode cX4_shiftOfPair 45 = .ok (.iload_n 3, 1) := by decide +kernel
theorem dX4_shiftOfPair_46 : decode cX4_shiftOfPair 46 = .ok (.invokestatic 72, 3) := by decide +kernel
theorem dX4_shiftOfPair_49 : decode cX4_shiftOfPair 49 = .ok (.iaload, 1) := by decide +kernel
theorem dX4_shiftOfPair_50 : decode cX4_shiftOfPair 50 = .ok (.ireturn, 1) := by decide +kernel
theorem dX5_init_0 : decode cX5_init 0 = .ok (.aload_n 0, 1) := by decide +kernel
theorem dX5_init_1 : decode cX5_init 1 = .ok (.invokespecial 3, 3) := by decide +kernel
theorem dX5_init_4 : decode cX5_init 4 = .ok (.aload_n 0, 1) := by decide +kernel
theorem dX5_init_5 : decode cX5_init 5 = .ok (.sipush 256, 3) := by decide +kernel
theorem dX5_init_8 : decode cX5_init 8 = .ok (.newarray .int, 2) := by decide +kernel
theorem dX5_init_10 : decode cX5_init 10 = .ok (.putfield 9, 3) := by decide +kernel
theorem dX5_init_13 : decode cX5_init 13 = .ok (.aload_n 0, 1) := by decide +kernel
theorem dX5_init_14 : decode cX5_init 14 = .ok (.sipush 256, 3) := by decide +kernel
theorem dX5_init_17 : decode cX5_init 17 = .ok (.newarray .int, 2) := by decide +kernel
theorem dX5_init_19 : decode cX5_init 19 = .ok (.putfield 15, 3) := by decide +kernel
theorem dX5_init_22 : decode cX5_init 22 = .ok (.aload_n 0, 1) := by decide +kernel
theorem dX5_init_23 : decode cX5_init 23 = .ok (.sipush 256, 3) := by decide +kernel
theorem dX5_init_26 : decode cX5_init 26 = .ok (.newarray .int, 2) := by decide +kernel
theorem dX5_init_28 : decode cX5_init 28 = .ok (.putfield 18, 3) := by decide +kernel
theorem dX5_init_31 : decode cX5_init 31 = .ok (.aload_n 0, 1) := by decide +kernel
theorem dX5_init_32 : decode cX5_init 32 = .ok (.sipush 256, 3) := by decide +kernel
theorem dX5_init_35 : decode cX5_init 35 = .ok (.newarray .int, 2) := by decide +kernel
theorem dX5_init_37 : decode cX5_init 37 = .ok (.putfield 21, 3) := by decide +kernel
theorem dX5_init_40 : decode cX5_init 40 = .ok (.aload_n 0, 1) := by decide +kernel
theorem dX5_init_41 : decode cX5_init 41 = .ok (.sipush 256, 3) := by decide +kernel
theorem dX5_init_44 : decode cX5_init 44 = .ok (.newarray .int, 2) := by decide +kernel
theorem dX5_init_46 : decode cX5_init 46 = .ok (.putfield 24, 3) := by decide +kernel
theorem dX5_init_49 : decode cX5_init 49 = .ok (.aload_n 0, 1) := by decide +kernel
theorem dX5_init_50 : decode cX5_init 50 = .ok (.sipush 256, 3) := by decide +kernel
theorem dX5_init_53 : decode cX5_init 53 = .ok (.newarray .long, 2) := by decide +kernel
theorem dX5_init_55 : decode cX5_init 55 = .ok (.putfield 27, 3) := by decide +kernel
theorem dX5_init_58 : decode cX5_init 58 = .ok (.aload_n 0, 1) := by decide +kernel
theorem dX5_init_59 : decode cX5_init 59 = .ok (.sipush 256, 3) := by decide +kernel
theorem dX5_init_62 : decode cX5_init 62 = .ok (.newarray .long, 2) := by decide +kernel
theorem dX5_init_64 : decode cX5_init 64 = .ok (.putfield 31, 3) := by decide +kernel
theorem dX5_init_67 : decode cX5_init 67 = .ok (.aload_n 0, 1) := by decide +kernel
theorem dX5_init_68 : decode cX5_init 68 = .ok (.sipush 256, 3) := by decide +kernel
theorem dX5_init_71 : decode cX5_init 71 = .ok (.newarray .int, 2) := by decide +kernel
theorem dX5_init_73 : decode cX5_init 73 = .ok (.putfield 34, 3) := by decide +kernel
theorem dX5_init_76 : decode cX5_init 76 = .ok (.aload_n 0, 1) := by decide +kernel
theorem dX5_init_77 : decode cX5_init 77 = .ok (.sipush 256, 3) := by decide +kernel
theorem dX5_init_80 : decode cX5_init 80 = .ok (.newarray .int, 2) := by decide +kernel
theorem dX5_init_82 : decode cX5_init 82 = .ok (.putfield 37, 3) := by decide +kernel
theorem dX5_init_85 : decode cX5_init 85 = .ok (.aload_n 0, 1) := by decide +kernel
theorem dX5_init_86 : decode cX5_init 86 = .ok (.sipush 256, 3) := by decide +kernel
theorem dX5_init_89 : decode cX5_init 89 = .ok (.newarray .int, 2) := by decide +kernel
theorem dX5_init_91 : decode cX5_init 91 = .ok (.putfield 40, 3) := by decide +kernel
theorem dX5_init_94 : decode cX5_init 94 = .ok (.return_, 1) := by decide +kernel
theorem dX5_has_0 : decode cX5_has 0 = .ok (.iload_n 1, 1) := by decide +kernel
theorem dX5_has_1 : decode cX5_has 1 = .ok (.ifCond .lt 27, 3) := by decide +kernel
theorem dX5_has_4 : decode cX5_has 4 = .ok (.iload_n 1, 1) := by decide +kernel
theorem dX5_has_5 : decode cX5_has 5 = .ok (.aload_n 0, 1) := by decide +kernel
theorem dX5_has_6 : decode cX5_has 6 = .ok (.getfield 43, 3) := by decide +kernel
theorem dX5_has_9 : decode cX5_has 9 = .ok (.if_icmp .ge 19, 3) := by decide +kernel
theorem dX5_has_12 : decode cX5_has 12 = .ok (.iload_n 2, 1) := by decide +kernel
theorem dX5_has_13 : decode cX5_has 13 = .ok (.ifCond .lt 15, 3) := by decide +kernel
theorem dX5_has_16 : decode cX5_has 16 = .ok (.iload_n 2, 1) := by decide +kernel
theorem dX5_has_17 : decode cX5_has 17 = .ok (.aload_n 0, 1) := by decide +kernel
theorem dX5_has_18 : decode cX5_has 18 = .ok (.getfield 47, 3) := by decide +kernel
theorem dX5_has_21 : decode cX5_has 21 = .ok (.if_icmp .ge 7, 3) := by decide +kernel
theorem dX5_has_24 : decode cX5_has 24 = .ok (.iconst 1, 1) := by decide +kernel
theorem dX5_has_25 : decode cX5_has 25 = .ok (.goto 4, 3) := by decide +kernel
theorem dX5_has_28 : decode cX5_has 28 = .ok (.iconst 0, 1) := by decide +kernel
theorem dX5_has_29 : decode cX5_has 29 = .ok (.ireturn, 1) := by decide +kernel
theorem dX5_read_0 : decode cX5_read 0 = .ok (.aload_n 0, 1) := by decide +kernel
theorem dX5_read_1 : decode cX5_read 1 = .ok (.aload_n 2, 1) := by decide +kernel
theorem dX5_read_2 : decode cX5_read 2 = .ok (.iconst 0, 1) := by decide +kernel
theorem dX5_read_3 : decode cX5_read 3 = .ok (.iaload, 1) := by decide +kernel
theorem dX5_read_4 : decode cX5_read 4 = .ok (.putfield 50, 3) := by decide +kernel
theorem dX5_read_7 : decode cX5_read 7 = .ok (.aload_n 0, 1) := by decide +kernel
theorem dX5_read_8 : decode cX5_read 8 = .ok (.iconst 0, 1) := by decide +kernel
theorem dX5_read_9 : decode cX5_read 9 = .ok (.aload_n 1, 1) := by decide +kernel
theorem dX5_read_10 : decode cX5_read 10 = .ok (.getfield 53, 3) := by decide +kernel
theorem dX5_read_13 : decode cX5_read 13 = .ok (.aload_n 0, 1) := by decide +kernel
theorem dX5_read_14 : decode cX5_read 14 = .ok (.getfield 50, 3) := by decide +kernel
theorem dX5_read_17 : decode cX5_read 17 = .ok (.isub, 1) := by decide +kernel
theorem dX5_read_18 : decode cX5_read 18 = .ok (.iconst 1, 1) := by decide +kernel
theorem dX5_read_19 : decode cX5_read 19 = .ok (.iadd, 1) := by decide +kernel
theorem dX5_read_20 : decode cX5_read 20 = .ok (.invokestatic 58, 3) := by decide +kernel
theorem dX5_read_23 : decode cX5_read 23 = .ok (.putfield 43, 3) := by decide +kernel
theorem dX5_read_26 : decode cX5_read 26 = .ok (.aload_n 0, 1) := by decide +kernel
theorem dX5_read_27 : decode cX5_read 27 = .ok (.iconst 0, 1) := by decide +kernel
theorem dX5_read_28 : decode cX5_read 28 = .ok (.aload_n 1, 1) := by decide +kernel
theorem dX5_read_29 : decode cX5_read 29 = .ok (.getfield 64, 3) := by decide +kernel
theorem dX5_read_32 : decode cX5_read 32 = .ok (.aload_n 0, 1) := by decide +kernel
theorem dX5_read_33 : decode cX5_read 33 = .ok (.getfield 50, 3) := by decide +kernel
theorem dX5_read_36 : decode cX5_read 36 = .ok (.isub, 1) := by decide +kernel
theorem dX5_read_37 : decode cX5_read 37 = .ok (.iconst 1, 1) := by decide +kernel
theorem dX5_read_38 : decode cX5_read 38 = .ok (.iadd, 1) := by decide +kernel
theorem dX5_read_39 : decode cX5_read 39 = .ok (.invokestatic 58, 3) := by decide +kernel
theorem dX5_read_42 : decode cX5_read 42 = .ok (.putfield 47, 3) := by decide +kernel
theorem dX5_read_45 : decode cX5_read 45 = .ok (.aload_n 0, 1) := by decide +kernel
theorem dX5_read_46 : decode cX5_read 46 = .ok (.iconst 0, 1) := by decide +kernel
theorem dX5_read_47 : decode cX5_read 47 = .ok (.putfield 67, 3) := by decide +kernel
theorem dX5_read_50 : decode cX5_read 50 = .ok (.aload_n 0, 1) := by decide +kernel
theorem dX5_read_51 : decode cX5_read 51 = .ok (.iconst 0, 1) := by decide +kernel
theorem dX5_read_52 : decode cX5_read 52 = .ok (.putfield 70, 3) := by decide +kernel
theorem dX5_read_55 : decode cX5_read 55 = .ok (.iconst 0, 1) := by decide +kernel
theorem dX5_read_56 : decode cX5_read 56 = .ok (.istore_n 3, 1) := by decide +kernel
theorem dX5_read_57 : decode cX5_read 57 = .ok (.iload_n 3, 1) := by decide +kernel
theorem dX5_read_58 : decode cX5_read 58 = .ok (.aload_n 0, 1) := by decide +kernel
theorem dX5_read_59 : decode cX5_read 59 = .ok (.getfield 47, 3) := by decide +kernel
theorem dX5_read_62 : decode cX5_read 62 = .ok (.if_icmp .ge 73, 3) := by decide +kernel
theorem dX5_read_65 : decode cX5_read 65 = .ok (.iconst 0, 1) := by decide +kernel
theorem dX5_read_66 : decode cX5_read 66 = .ok (.istore 4, 2) := by decide +kernel
theorem dX5_read_68 : decode cX5_read 68 = .ok (.iload 4, 2) := by decide +kernel
theorem dX5_read_70 : decode cX5_read 70 = .ok (.aload_n 0, 1) := by decide +kernel
theorem dX5_read_71 : decode cX5_read 71 = .ok (.getfield 43, 3) := by decide +kernel
theorem dX5_read_74 : decode cX5_read 74 = .ok (.if_icmp .ge 55, 3) := by decide +kernel
theorem dX5_read_77 : decode cX5_read 77 = .ok (.aload_n 0, 1) := by decide +kernel
theorem dX5_read_78 : decode cX5_read 78 = .ok (.aload_n 1, 1) := by decide +kernel
theorem dX5_read_79 : decode cX5_read 79 = .ok (.iload 4, 2) := by decide +kernel
theorem dX5_read_81 : decode cX5_read 81 = .ok (.iload_n 3, 1) := by decide +kernel
theorem dX5_read_82 : decode cX5_read 82 = .ok (.aload_n 2, 1) := by decide +kernel
theorem dX5_read_83 : decode cX5_read 83 = .ok (.iconst 3, 1) := by decide +kernel
theorem dX5_read_84 : decode cX5_read 84 = .ok (.iaload, 1) := by decide +kernel
theorem dX5_read_85 : decode cX5_read 85 = .ok (.invokevirtual 73, 3) := by decide +kernel
theorem dX5_read_88 : decode cX5_read 88 = .ok (.aload_n 0, 1) := by decide +kernel
theorem dX5_read_89 : decode cX5_read 89 = .ok (.aload_n 1, 1) := by decide +kernel
theorem dX5_read_90 : decode cX5_read 90 = .ok (.iload 4, 2) := by decide +kernel
theorem dX5_read_92 : decode cX5_read 92 = .ok (.iload_n 3, 1) := by decide +kernel
theorem dX5_read_93 : decode cX5_read 93 = .ok (.aload_n 2, 1) := by decide +kernel
theorem dX5_read_94 : decode cX5_read 94 = .ok (.invokevirtual 77, 3) := by decide +kernel
theorem dX5_read_97 : decode cX5_read 97 = .ok (.aload_n 0, 1) := by decide +kernel
theorem dX5_read_98 : decode cX5_read 98 = .ok (.getfield 9, 3) := by decide +kernel
theorem dX5_read_101 : decode cX5_read 101 = .ok (.aload_n 0, 1) := by decide +kernel
theorem dX5_read_102 : decode cX5_read 102 = .ok (.getfield 67, 3) := by decide +kernel
theorem dX5_read_105 : decode cX5_read 105 = .ok (.bipush 16, 2) := by decide +kernel
theorem dX5_read_107 : decode cX5_read 107 = .ok (.iload_n 3, 1) := by decide +kernel
theorem dX5_read_108 : decode cX5_read 108 = .ok (.imul, 1) := by decide +kernel
theorem dX5_read_109 : decode cX5_read 109 = .ok (.iload 4, 2) := by decide +kernel
theorem dX5_read_111 : decode cX5_read 111 = .ok (.iadd, 1) := by decide +kernel
theorem dX5_read_112 : decode cX5_read 112 = .ok (.iastore, 1) := by decide +kernel
theorem dX5_read_113 : decode cX5_read 113 = .ok (.aload_n 0, 1) := by decide +kernel
theorem dX5_read_114 : decode cX5_read 114 = .ok (.dup, 1) := by decide +kernel
theorem dX5_read_115 : decode cX5_read 115 = .ok (.getfield 67, 3) := by decide +kernel
theorem dX5_read_118 : decode cX5_read 118 = .ok (.iconst 1, 1) := by decide +kernel
theorem dX5_read_119 : decode cX5_read 119 = .ok (.iadd, 1) := by decide +kernel
theorem dX5_read_120 : decode cX5_read 120 = .ok (.putfield 67, 3) := by decide +kernel
theorem dX5_read_123 : decode cX5_read 123 = .ok (.iinc 4 1, 3) := by decide +kernel
theorem dX5_read_126 : decode cX5_read 126 = .ok (.goto (-58), 3) := by decide +kernel
theorem dX5_read_129 : decode cX5_read 129 = .ok (.iinc 3 1, 3) := by decide +kernel
theorem dX5_read_132 : decode cX5_read 132 = .ok (.goto (-75), 3) := by decide +kernel
theorem dX5_read_135 : decode cX5_read 135 = .ok (.aload_n 0, 1) := by decide +kernel
theorem dX5_read_136 : decode cX5_read 136 = .ok (.invokevirtual 81, 3) := by decide +kernel
theorem dX5_read_139 : decode cX5_read 139 = .ok (.aload_n 0, 1) := by decide +kernel
theorem dX5_read_140 : decode cX5_read 140 = .ok (.aload_n 2, 1) := by decide +kernel
theorem dX5_read_141 : decode cX5_read 141 = .ok (.iconst 5, 1) := by decide +kernel
theorem dX5_read_142 : decode cX5_read 142 = .ok (.iaload, 1) := by decide +kernel
theorem dX5_read_143 : decode cX5_read 143 = .ok (.invokevirtual 84, 3) := by decide +kernel
theorem dX5_read_146 : decode cX5_read 146 = .ok (.return_, 1) := by decide +kernel
theorem dX5_measure_0 : decode cX5_measure 0 = .ok (.bipush 99, 2) := by decide +kernel
theorem dX5_measure_2 : decode cX5_measure 2 = .ok (.istore 5, 2) := by decide +kernel
theorem dX5_measure_4 : decode cX5_measure 4 = .ok (.iconst 0, 1) := by decide +kernel
theorem dX5_measure_5 : decode cX5_measure 5 = .ok (.istore 6, 2) := by decide +kernel
theorem dX5_measure_7 : decode cX5_measure 7 = .ok (.iload_n 3, 1) := by decide +kernel
theorem dX5_measure_8 : decode cX5_measure 8 = .ok (.istore 7, 2) := by decide +kernel
theorem dX5_measure_10 : decode cX5_measure 10 = .ok (.iload 7, 2) := by decide +kernel
theorem dX5_measure_12 : decode cX5_measure 12 = .ok (.iload_n 3, 1) := by decide +kernel
theorem dX5_measure_13 : decode cX5_measure 13 = .ok (.aload_n 0, 1) := by decide +kernel
theorem dX5_measure_14 : decode cX5_measure 14 = .ok (.getfield 50, 3) := by decide +kernel
theorem dX5_measure_17 : decode cX5_measure 17 = .ok (.iadd, 1) := by decide +kernel
theorem dX5_measure_18 : decode cX5_measure 18 = .ok (.if_icmp .ge 57, 3) := by decide +kernel
theorem dX5_measure_21 : decode cX5_measure 21 = .ok (.iload_n 2, 1) := by decide +kernel
theorem dX5_measure_22 : decode cX5_measure 22 = .ok (.istore 8, 2) := by decide +kernel
theorem dX5_measure_24 : decode cX5_measure 24 = .ok (.iload 8, 2) := by decide +kernel
theorem dX5_measure_26 : decode cX5_measure 26 = .ok (.iload_n 2, 1) := by decide +kernel
theorem dX5_measure_27 : decode cX5_measure 27 = .ok (.aload_n 0, 1) := by decide +kernel
theorem dX5_measure_28 : decode cX5_measure 28 = .ok (.getfield 50, 3) := by decide +kernel
theorem dX5_measure_31 : decode cX5_measure 31 = .ok (.iadd, 1) := by decide +kernel
theorem dX5_measure_32 : decode cX5_measure 32 = .ok (.if_icmp .ge 37, 3) := by decide +kernel
theorem dX5_measure_35 : decode cX5_measure 35 = .ok (.aload_n 1, 1) := by decide +kernel
theorem dX5_measure_36 : decode cX5_measure 36 = .ok (.iload 8, 2) := by decide +kernel
theorem dX5_measure_38 : decode cX5_measure 38 = .ok (.iload 7, 2) := by decide +kernel
