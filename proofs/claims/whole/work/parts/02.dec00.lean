theorem dX0_init_0 : decode cX0_init 0 = .ok (.aload_n 0, 1) := by decide +kernel
theorem dX0_init_1 : decode cX0_init 1 = .ok (.invokespecial 3, 3) := by decide +kernel
theorem dX0_init_4 : decode cX0_init 4 = .ok (.aload_n 0, 1) := by decide +kernel
theorem dX0_init_5 : decode cX0_init 5 = .ok (.bipush 16, 2) := by decide +kernel
theorem dX0_init_7 : decode cX0_init 7 = .ok (.newarray .int, 2) := by decide +kernel
theorem dX0_init_9 : decode cX0_init 9 = .ok (.putfield 9, 3) := by decide +kernel
theorem dX0_init_12 : decode cX0_init 12 = .ok (.return_, 1) := by decide +kernel
theorem dX0_begin_0 : decode cX0_begin 0 = .ok (.aload_n 0, 1) := by decide +kernel
theorem dX0_begin_1 : decode cX0_begin 1 = .ok (.iload_n 1, 1) := by decide +kernel
theorem dX0_begin_2 : decode cX0_begin 2 = .ok (.putfield 15, 3) := by decide +kernel
theorem dX0_begin_5 : decode cX0_begin 5 = .ok (.aload_n 0, 1) := by decide +kernel
theorem dX0_begin_6 : decode cX0_begin 6 = .ok (.iload_n 2, 1) := by decide +kernel
theorem dX0_begin_7 : decode cX0_begin 7 = .ok (.invokestatic 19, 3) := by decide +kernel
theorem dX0_begin_10 : decode cX0_begin 10 = .ok (.putfield 23, 3) := by decide +kernel
theorem dX0_begin_13 : decode cX0_begin 13 = .ok (.aload_n 0, 1) := by decide +kernel
theorem dX0_begin_14 : decode cX0_begin 14 = .ok (.iload_n 2, 1) := by decide +kernel
theorem dX0_begin_15 : decode cX0_begin 15 = .ok (.invokestatic 26, 3) := by decide +kernel
theorem dX0_begin_18 : decode cX0_begin 18 = .ok (.putfield 29, 3) := by decide +kernel
theorem dX0_begin_21 : decode cX0_begin 21 = .ok (.aload_n 0, 1) := by decide +kernel
theorem dX0_begin_22 : decode cX0_begin 22 = .ok (.iload_n 3, 1) := by decide +kernel
theorem dX0_begin_23 : decode cX0_begin 23 = .ok (.putfield 32, 3) := by decide +kernel
theorem dX0_begin_26 : decode cX0_begin 26 = .ok (.aload_n 0, 1) := by decide +kernel
theorem dX0_begin_27 : decode cX0_begin 27 = .ok (.getfield 9, 3) := by decide +kernel
theorem dX0_begin_30 : decode cX0_begin 30 = .ok (.invokestatic 35, 3) := by decide +kernel
theorem dX0_begin_33 : decode cX0_begin 33 = .ok (.aload_n 0, 1) := by decide +kernel
theorem dX0_begin_34 : decode cX0_begin 34 = .ok (.getfield 9, 3) := by decide +kernel
theorem dX0_begin_37 : decode cX0_begin 37 = .ok (.iload_n 3, 1) := by decide +kernel
theorem dX0_begin_38 : decode cX0_begin 38 = .ok (.bipush 16, 2) := by decide +kernel
theorem dX0_begin_40 : decode cX0_begin 40 = .ok (.idiv, 1) := by decide +kernel
theorem dX0_begin_41 : decode cX0_begin 41 = .ok (.iconst 1, 1) := by decide +kernel
theorem dX0_begin_42 : decode cX0_begin 42 = .ok (.iload_n 3, 1) := by decide +kernel
theorem dX0_begin_43 : decode cX0_begin 43 = .ok (.bipush 16, 2) := by decide +kernel
theorem dX0_begin_45 : decode cX0_begin 45 = .ok (.irem, 1) := by decide +kernel
theorem dX0_begin_46 : decode cX0_begin 46 = .ok (.ishl, 1) := by decide +kernel
theorem dX0_begin_47 : decode cX0_begin 47 = .ok (.iastore, 1) := by decide +kernel
theorem dX0_begin_48 : decode cX0_begin 48 = .ok (.aload_n 0, 1) := by decide +kernel
theorem dX0_begin_49 : decode cX0_begin 49 = .ok (.getfield 9, 3) := by decide +kernel
theorem dX0_begin_52 : decode cX0_begin 52 = .ok (.aload 4, 2) := by decide +kernel
theorem dX0_begin_54 : decode cX0_begin 54 = .ok (.invokestatic 41, 3) := by decide +kernel
theorem dX0_begin_57 : decode cX0_begin 57 = .ok (.aload_n 0, 1) := by decide +kernel
theorem dX0_begin_58 : decode cX0_begin 58 = .ok (.aload_n 0, 1) := by decide +kernel
theorem dX0_begin_59 : decode cX0_begin 59 = .ok (.getfield 9, 3) := by decide +kernel
theorem dX0_begin_62 : decode cX0_begin 62 = .ok (.invokestatic 45, 3) := by decide +kernel
theorem dX0_begin_65 : decode cX0_begin 65 = .ok (.putfield 49, 3) := by decide +kernel
theorem dX0_begin_68 : decode cX0_begin 68 = .ok (.iconst 0, 1) := by decide +kernel
theorem dX0_begin_69 : decode cX0_begin 69 = .ok (.istore 5, 2) := by decide +kernel
theorem dX0_begin_71 : decode cX0_begin 71 = .ok (.iload 5, 2) := by decide +kernel
theorem dX0_begin_73 : decode cX0_begin 73 = .ok (.bipush 16, 2) := by decide +kernel
theorem dX0_begin_75 : decode cX0_begin 75 = .ok (.if_icmp .ge 26, 3) := by decide +kernel
theorem dX0_begin_78 : decode cX0_begin 78 = .ok (.aload 4, 2) := by decide +kernel
theorem dX0_begin_80 : decode cX0_begin 80 = .ok (.iload 5, 2) := by decide +kernel
theorem dX0_begin_82 : decode cX0_begin 82 = .ok (.dup2, 1) := by decide +kernel
theorem dX0_begin_83 : decode cX0_begin 83 = .ok (.iaload, 1) := by decide +kernel
theorem dX0_begin_84 : decode cX0_begin 84 = .ok (.aload_n 0, 1) := by decide +kernel
theorem dX0_begin_85 : decode cX0_begin 85 = .ok (.getfield 9, 3) := by decide +kernel
theorem dX0_begin_88 : decode cX0_begin 88 = .ok (.iload 5, 2) := by decide +kernel
theorem dX0_begin_90 : decode cX0_begin 90 = .ok (.iaload, 1) := by decide +kernel
theorem dX0_begin_91 : decode cX0_begin 91 = .ok (.iconst (-1), 1) := by decide +kernel
theorem dX0_begin_92 : decode cX0_begin 92 = .ok (.ixor, 1) := by decide +kernel
theorem dX0_begin_93 : decode cX0_begin 93 = .ok (.iand, 1) := by decide +kernel
theorem dX0_begin_94 : decode cX0_begin 94 = .ok (.iastore, 1) := by decide +kernel
theorem dX0_begin_95 : decode cX0_begin 95 = .ok (.iinc 5 1, 3) := by decide +kernel
theorem dX0_begin_98 : decode cX0_begin 98 = .ok (.goto (-27), 3) := by decide +kernel
theorem dX0_begin_101 : decode cX0_begin 101 = .ok (.return_, 1) := by decide +kernel
theorem dX0_lift_0 : decode cX0_lift 0 = .ok (.aload_n 0, 1) := by decide +kernel
theorem dX0_lift_1 : decode cX0_lift 1 = .ok (.getfield 32, 3) := by decide +kernel
theorem dX0_lift_4 : decode cX0_lift 4 = .ok (.bipush 16, 2) := by decide +kernel
theorem dX0_lift_6 : decode cX0_lift 6 = .ok (.aload_n 0, 1) := by decide +kernel
theorem dX0_lift_7 : decode cX0_lift 7 = .ok (.getfield 29, 3) := by decide +kernel
theorem dX0_lift_10 : decode cX0_lift 10 = .ok (.imul, 1) := by decide +kernel
theorem dX0_lift_11 : decode cX0_lift 11 = .ok (.iadd, 1) := by decide +kernel
theorem dX0_lift_12 : decode cX0_lift 12 = .ok (.aload_n 0, 1) := by decide +kernel
theorem dX0_lift_13 : decode cX0_lift 13 = .ok (.getfield 23, 3) := by decide +kernel
theorem dX0_lift_16 : decode cX0_lift 16 = .ok (.iadd, 1) := by decide +kernel
theorem dX0_lift_17 : decode cX0_lift 17 = .ok (.istore_n 3, 1) := by decide +kernel
theorem dX0_lift_18 : decode cX0_lift 18 = .ok (.iload_n 2, 1) := by decide +kernel
theorem dX0_lift_19 : decode cX0_lift 19 = .ok (.iconst 1, 1) := by decide +kernel
theorem dX0_lift_20 : decode cX0_lift 20 = .ok (.if_icmp .ne 18, 3) := by decide +kernel
theorem dX0_lift_23 : decode cX0_lift 23 = .ok (.iload_n 3, 1) := by decide +kernel
theorem dX0_lift_24 : decode cX0_lift 24 = .ok (.iconst 0, 1) := by decide +kernel
theorem dX0_lift_25 : decode cX0_lift 25 = .ok (.sipush 255, 3) := by decide +kernel
theorem dX0_lift_28 : decode cX0_lift 28 = .ok (.invokestatic 52, 3) := by decide +kernel
theorem dX0_lift_31 : decode cX0_lift 31 = .ok (.ifCond .eq 7, 3) := by decide +kernel
theorem dX0_lift_34 : decode cX0_lift 34 = .ok (.iconst 1, 1) := by decide +kernel
theorem dX0_lift_35 : decode cX0_lift 35 = .ok (.goto 4, 3) := by decide +kernel
theorem dX0_lift_38 : decode cX0_lift 38 = .ok (.iconst 0, 1) := by decide +kernel
theorem dX0_lift_39 : decode cX0_lift 39 = .ok (.istore 4, 2) := by decide +kernel
theorem dX0_lift_41 : decode cX0_lift 41 = .ok (.aload_n 0, 1) := by decide +kernel
theorem dX0_lift_42 : decode cX0_lift 42 = .ok (.iload 4, 2) := by decide +kernel
theorem dX0_lift_44 : decode cX0_lift 44 = .ok (.ifCond .eq 22, 3) := by decide +kernel
theorem dX0_lift_47 : decode cX0_lift 47 = .ok (.aload_n 1, 1) := by decide +kernel
theorem dX0_lift_48 : decode cX0_lift 48 = .ok (.getfield 56, 3) := by decide +kernel
theorem dX0_lift_51 : decode cX0_lift 51 = .ok (.iload_n 3, 1) := by decide +kernel
theorem dX0_lift_52 : decode cX0_lift 52 = .ok (.iaload, 1) := by decide +kernel
theorem dX0_lift_53 : decode cX0_lift 53 = .ok (.aload_n 1, 1) := by decide +kernel
theorem dX0_lift_54 : decode cX0_lift 54 = .ok (.getfield 56, 3) := by decide +kernel
theorem dX0_lift_57 : decode cX0_lift 57 = .ok (.aload_n 0, 1) := by decide +kernel
theorem dX0_lift_58 : decode cX0_lift 58 = .ok (.getfield 32, 3) := by decide +kernel
theorem dX0_lift_61 : decode cX0_lift 61 = .ok (.iaload, 1) := by decide +kernel
theorem dX0_lift_62 : decode cX0_lift 62 = .ok (.isub, 1) := by decide +kernel
theorem dX0_lift_63 : decode cX0_lift 63 = .ok (.goto 4, 3) := by decide +kernel
theorem dX0_lift_66 : decode cX0_lift 66 = .ok (.iconst 0, 1) := by decide +kernel
theorem dX0_lift_67 : decode cX0_lift 67 = .ok (.putfield 61, 3) := by decide +kernel
theorem dX0_lift_70 : decode cX0_lift 70 = .ok (.return_, 1) := by decide +kernel
theorem dX0_grow_0 : decode cX0_grow 0 = .ok (.aload_n 0, 1) := by decide +kernel
theorem dX0_grow_1 : decode cX0_grow 1 = .ok (.getfield 9, 3) := by decide +kernel
theorem dX0_grow_4 : decode cX0_grow 4 = .ok (.iload_n 2, 1) := by decide +kernel
theorem dX0_grow_5 : decode cX0_grow 5 = .ok (.invokestatic 64, 3) := by decide +kernel
theorem dX0_grow_8 : decode cX0_grow 8 = .ok (.aload_n 0, 1) := by decide +kernel
theorem dX0_grow_9 : decode cX0_grow 9 = .ok (.aload_n 0, 1) := by decide +kernel
theorem dX0_grow_10 : decode cX0_grow 10 = .ok (.getfield 9, 3) := by decide +kernel
theorem dX0_grow_13 : decode cX0_grow 13 = .ok (.invokestatic 45, 3) := by decide +kernel
theorem dX0_grow_16 : decode cX0_grow 16 = .ok (.putfield 68, 3) := by decide +kernel
theorem dX0_grow_19 : decode cX0_grow 19 = .ok (.iconst 0, 1) := by decide +kernel
theorem dX0_grow_20 : decode cX0_grow 20 = .ok (.istore 5, 2) := by decide +kernel
theorem dX0_grow_22 : decode cX0_grow 22 = .ok (.iload 5, 2) := by decide +kernel
theorem dX0_grow_24 : decode cX0_grow 24 = .ok (.bipush 16, 2) := by decide +kernel
theorem dX0_grow_26 : decode cX0_grow 26 = .ok (.if_icmp .ge 64, 3) := by decide +kernel
theorem dX0_grow_29 : decode cX0_grow 29 = .ok (.aload 4, 2) := by decide +kernel
theorem dX0_grow_31 : decode cX0_grow 31 = .ok (.iload 5, 2) := by decide +kernel
theorem dX0_grow_33 : decode cX0_grow 33 = .ok (.iconst 0, 1) := by decide +kernel
theorem dX0_grow_34 : decode cX0_grow 34 = .ok (.iastore, 1) := by decide +kernel
theorem dX0_grow_35 : decode cX0_grow 35 = .ok (.iconst 0, 1) := by decide +kernel
theorem dX0_grow_36 : decode cX0_grow 36 = .ok (.istore 6, 2) := by decide +kernel
theorem dX0_grow_38 : decode cX0_grow 38 = .ok (.iload 6, 2) := by decide +kernel
theorem dX0_grow_40 : decode cX0_grow 40 = .ok (.bipush 16, 2) := by decide +kernel
theorem dX0_grow_42 : decode cX0_grow 42 = .ok (.if_icmp .ge 42, 3) := by decide +kernel
theorem dX0_grow_45 : decode cX0_grow 45 = .ok (.aload 4, 2) := by decide +kernel
theorem dX0_grow_47 : decode cX0_grow 47 = .ok (.iload 5, 2) := by decide +kernel
theorem dX0_grow_49 : decode cX0_grow 49 = .ok (.dup2, 1) := by decide +kernel
theorem dX0_grow_50 : decode cX0_grow 50 = .ok (.iaload, 1) := by decide +kernel
theorem dX0_grow_51 : decode cX0_grow 51 = .ok (.aload_n 0, 1) := by decide +kernel
theorem dX0_grow_52 : decode cX0_grow 52 = .ok (.aload_n 1, 1) := by decide +kernel
theorem dX0_grow_53 : decode cX0_grow 53 = .ok (.iload 6, 2) := by decide +kernel
theorem dX0_grow_55 : decode cX0_grow 55 = .ok (.iload 5, 2) := by decide +kernel
theorem dX0_grow_57 : decode cX0_grow 57 = .ok (.invokevirtual 71, 3) := by decide +kernel
theorem dX0_grow_60 : decode cX0_grow 60 = .ok (.iconst 0, 1) := by decide +kernel
theorem dX0_grow_61 : decode cX0_grow 61 = .ok (.iload_n 3, 1) := by decide +kernel
theorem dX0_grow_62 : decode cX0_grow 62 = .ok (.invokestatic 52, 3) := by decide +kernel
theorem dX0_grow_65 : decode cX0_grow 65 = .ok (.ifCond .eq 10, 3) := by decide +kernel
theorem dX0_grow_68 : decode cX0_grow 68 = .ok (.iconst 1, 1) := by decide +kernel
theorem dX0_grow_69 : decode cX0_grow 69 = .ok (.iload 6, 2) := by decide +kernel
theorem dX0_grow_71 : decode cX0_grow 71 = .ok (.ishl, 1) := by decide +kernel
theorem dX0_grow_72 : decode cX0_grow 72 = .ok (.goto 4, 3) := by decide +kernel
theorem dX0_grow_75 : decode cX0_grow 75 = .ok (.iconst 0, 1) := by decide +kernel
theorem dX0_grow_76 : decode cX0_grow 76 = .ok (.ior, 1) := by decide +kernel
theorem dX0_grow_77 : decode cX0_grow 77 = .ok (.iastore, 1) := by decide +kernel
theorem dX0_grow_78 : decode cX0_grow 78 = .ok (.iinc 6 1, 3) := by decide +kernel
theorem dX0_grow_81 : decode cX0_grow 81 = .ok (.goto (-43), 3) := by decide +kernel
theorem dX0_grow_84 : decode cX0_grow 84 = .ok (.iinc 5 1, 3) := by decide +kernel
theorem dX0_grow_87 : decode cX0_grow 87 = .ok (.goto (-65), 3) := by decide +kernel
theorem dX0_grow_90 : decode cX0_grow 90 = .ok (.aload_n 0, 1) := by decide +kernel
theorem dX0_grow_91 : decode cX0_grow 91 = .ok (.getfield 9, 3) := by decide +kernel
theorem dX0_grow_94 : decode cX0_grow 94 = .ok (.aload 4, 2) := by decide +kernel
theorem dX0_grow_96 : decode cX0_grow 96 = .ok (.invokestatic 41, 3) := by decide +kernel
theorem dX0_grow_99 : decode cX0_grow 99 = .ok (.aload_n 0, 1) := by decide +kernel
theorem dX0_grow_100 : decode cX0_grow 100 = .ok (.aload_n 0, 1) := by decide +kernel
theorem dX0_grow_101 : decode cX0_grow 101 = .ok (.getfield 9, 3) := by decide +kernel
theorem dX0_grow_104 : decode cX0_grow 104 = .ok (.invokestatic 45, 3) := by decide +kernel
theorem dX0_grow_107 : decode cX0_grow 107 = .ok (.putfield 75, 3) := by decide +kernel
theorem dX0_grow_110 : decode cX0_grow 110 = .ok (.return_, 1) := by decide +kernel
theorem dX0_missOf_0 : decode cX0_missOf 0 = .ok (.aload_n 1, 1) := by decide +kernel
theorem dX0_missOf_1 : decode cX0_missOf 1 = .ok (.iload_n 2, 1) := by decide +kernel
theorem dX0_missOf_2 : decode cX0_missOf 2 = .ok (.iload_n 3, 1) := by decide +kernel
theorem dX0_missOf_3 : decode cX0_missOf 3 = .ok (.invokevirtual 78, 3) := by decide +kernel
theorem dX0_missOf_6 : decode cX0_missOf 6 = .ok (.ifCond .eq 22, 3) := by decide +kernel
theorem dX0_missOf_9 : decode cX0_missOf 9 = .ok (.aload_n 1, 1) := by decide +kernel
theorem dX0_missOf_10 : decode cX0_missOf 10 = .ok (.iload_n 2, 1) := by decide +kernel
theorem dX0_missOf_11 : decode cX0_missOf 11 = .ok (.aload_n 0, 1) := by decide +kernel
theorem dX0_missOf_12 : decode cX0_missOf 12 = .ok (.getfield 23, 3) := by decide +kernel
theorem dX0_missOf_15 : decode cX0_missOf 15 = .ok (.iadd, 1) := by decide +kernel
theorem dX0_missOf_16 : decode cX0_missOf 16 = .ok (.iload_n 3, 1) := by decide +kernel
theorem dX0_missOf_17 : decode cX0_missOf 17 = .ok (.aload_n 0, 1) := by decide +kernel
theorem dX0_missOf_18 : decode cX0_missOf 18 = .ok (.getfield 29, 3) := by decide +kernel
theorem dX0_missOf_21 : decode cX0_missOf 21 = .ok (.iadd, 1) := by decide +kernel
theorem dX0_missOf_22 : decode cX0_missOf 22 = .ok (.invokevirtual 78, 3) := by decide +kernel
theorem dX0_missOf_25 : decode cX0_missOf 25 = .ok (.ifCond .ne 6, 3) := by decide +kernel
theorem dX0_missOf_28 : decode cX0_missOf 28 = .ok (.bipush (-9), 2) := by decide +kernel
theorem dX0_missOf_30 : decode cX0_missOf 30 = .ok (.ireturn, 1) := by decide +kernel
theorem dX0_missOf_31 : decode cX0_missOf 31 = .ok (.aload_n 1, 1) := by decide +kernel
theorem dX0_missOf_32 : decode cX0_missOf 32 = .ok (.getfield 84, 3) := by decide +kernel
theorem dX0_missOf_35 : decode cX0_missOf 35 = .ok (.bipush 16, 2) := by decide +kernel
theorem dX0_missOf_37 : decode cX0_missOf 37 = .ok (.iload_n 3, 1) := by decide +kernel
theorem dX0_missOf_38 : decode cX0_missOf 38 = .ok (.imul, 1) := by decide +kernel
theorem dX0_missOf_39 : decode cX0_missOf 39 = .ok (.iload_n 2, 1) := by decide +kernel
theorem dX0_missOf_40 : decode cX0_missOf 40 = .ok (.iadd, 1) := by decide +kernel
theorem dX0_missOf_41 : decode cX0_missOf 41 = .ok (.iaload, 1) := by decide +kernel
theorem dX0_missOf_42 : decode cX0_missOf 42 = .ok (.istore 4, 2) := by decide +kernel
theorem dX0_missOf_44 : decode cX0_missOf 44 = .ok (.aload_n 1, 1) := by decide +kernel
theorem dX0_missOf_45 : decode cX0_missOf 45 = .ok (.getfield 84, 3) := by decide +kernel
theorem dX0_missOf_48 : decode cX0_missOf 48 = .ok (.bipush 16, 2) := by decide +kernel
theorem dX0_missOf_50 : decode cX0_missOf 50 = .ok (.iload_n 3, 1) := by decide +kernel
theorem dX0_missOf_51 : decode cX0_missOf 51 = .ok (.aload_n 0, 1) := by decide +kernel
theorem dX0_missOf_52 : decode cX0_missOf 52 = .ok (.getfield 29, 3) := by decide +kernel
theorem dX0_missOf_55 : decode cX0_missOf 55 = .ok (.iadd, 1) := by decide +kernel
theorem dX0_missOf_56 : decode cX0_missOf 56 = .ok (.imul, 1) := by decide +kernel
theorem dX0_missOf_57 : decode cX0_missOf 57 = .ok (.iload_n 2, 1) := by decide +kernel
theorem dX0_missOf_58 : decode cX0_missOf 58 = .ok (.iadd, 1) := by decide +kernel
theorem dX0_missOf_59 : decode cX0_missOf 59 = .ok (.aload_n 0, 1) := by decide +kernel
theorem dX0_missOf_60 : decode cX0_missOf 60 = .ok (.getfield 23, 3) := by decide +kernel
theorem dX0_missOf_63 : decode cX0_missOf 63 = .ok (.iadd, 1) := by decide +kernel
theorem dX0_missOf_64 : decode cX0_missOf 64 = .ok (.iaload, 1) := by decide +kernel
theorem dX0_missOf_65 : decode cX0_missOf 65 = .ok (.istore 5, 2) := by decide +kernel
theorem dX0_missOf_67 : decode cX0_missOf 67 = .ok (.iload 5, 2) := by decide +kernel
theorem dX0_missOf_69 : decode cX0_missOf 69 = .ok (.iload 4, 2) := by decide +kernel
theorem dX0_missOf_71 : decode cX0_missOf 71 = .ok (.isub, 1) := by decide +kernel
theorem dX0_missOf_72 : decode cX0_missOf 72 = .ok (.aload_n 0, 1) := by decide +kernel
theorem dX0_missOf_73 : decode cX0_missOf 73 = .ok (.getfield 61, 3) := by decide +kernel
theorem dX0_missOf_76 : decode cX0_missOf 76 = .ok (.isub, 1) := by decide +kernel
theorem dX0_missOf_77 : decode cX0_missOf 77 = .ok (.invokestatic 87, 3) := by decide +kernel
theorem dX0_missOf_80 : decode cX0_missOf 80 = .ok (.ireturn, 1) := by decide +kernel
theorem dX0_missesTogether_0 : decode cX0_missesTogether 0 = .ok (.iconst 0, 1) := by decide +kernel
theorem dX0_missesTogether_1 : decode cX0_missesTogether 1 = .ok (.istore_n 2, 1) := by decide +kernel
theorem dX0_missesTogether_2 : decode cX0_missesTogether 2 = .ok (.iconst 0, 1) := by decide +kernel
theorem dX0_missesTogether_3 : decode cX0_missesTogether 3 = .ok (.istore_n 3, 1) := by decide +kernel
theorem dX0_missesTogether_4 : decode cX0_missesTogether 4 = .ok (.iload_n 3, 1) := by decide +kernel
theorem dX0_missesTogether_5 : decode cX0_missesTogether 5 = .ok (.bipush 16, 2) := by decide +kernel
theorem dX0_missesTogether_7 : decode cX0_missesTogether 7 = .ok (.if_icmp .ge 58, 3) := by decide +kernel
theorem dX0_missesTogether_10 : decode cX0_missesTogether 10 = .ok (.iconst 0, 1) := by decide +kernel
theorem dX0_missesTogether_11 : decode cX0_missesTogether 11 = .ok (.istore 4, 2) := by decide +kernel
theorem dX0_missesTogether_13 : decode cX0_missesTogether 13 = .ok (.iload 4, 2) := by decide +kernel
theorem dX0_missesTogether_15 : decode cX0_missesTogether 15 = .ok (.bipush 16, 2) := by decide +kernel
theorem dX0_missesTogether_17 : decode cX0_missesTogether 17 = .ok (.if_icmp .ge 42, 3) := by decide +kernel
theorem dX0_missesTogether_20 : decode cX0_missesTogether 20 = .ok (.iload_n 2, 1) := by decide +kernel
theorem dX0_missesTogether_21 : decode cX0_missesTogether 21 = .ok (.aload_n 0, 1) := by decide +kernel
theorem dX0_missesTogether_22 : decode cX0_missesTogether 22 = .ok (.getfield 9, 3) := by decide +kernel
theorem dX0_missesTogether_25 : decode cX0_missesTogether 25 = .ok (.iload_n 3, 1) := by decide +kernel
theorem dX0_missesTogether_26 : decode cX0_missesTogether 26 = .ok (.iaload, 1) := by decide +kernel
theorem dX0_missesTogether_27 : decode cX0_missesTogether 27 = .ok (.iload 4, 2) := by decide +kernel
theorem dX0_missesTogether_29 : decode cX0_missesTogether 29 = .ok (.ishr, 1) := by decide +kernel
theorem dX0_missesTogether_30 : decode cX0_missesTogether 30 = .ok (.iconst 1, 1) := by decide +kernel
theorem dX0_missesTogether_31 : decode cX0_missesTogether 31 = .ok (.iand, 1) := by decide +kernel
theorem dX0_missesTogether_32 : decode cX0_missesTogether 32 = .ok (.ifCond .eq 18, 3) := by decide +kernel
theorem dX0_missesTogether_35 : decode cX0_missesTogether 35 = .ok (.iconst 0, 1) := by decide +kernel
theorem dX0_missesTogether_36 : decode cX0_missesTogether 36 = .ok (.aload_n 0, 1) := by decide +kernel
theorem dX0_missesTogether_37 : decode cX0_missesTogether 37 = .ok (.aload_n 1, 1) := by decide +kernel
theorem dX0_missesTogether_38 : decode cX0_missesTogether 38 = .ok (.iload 4, 2) := by decide +kernel
theorem dX0_missesTogether_40 : decode cX0_missesTogether 40 = .ok (.iload_n 3, 1) := by decide +kernel
theorem dX0_missesTogether_41 : decode cX0_missesTogether 41 = .ok (.invokevirtual 71, 3) := by decide +kernel
theorem dX0_missesTogether_44 : decode cX0_missesTogether 44 = .ok (.invokestatic 92, 3) := by decide +kernel
theorem dX0_missesTogether_47 : decode cX0_missesTogether 47 = .ok (.goto 4, 3) := by decide +kernel
theorem dX0_missesTogether_50 : decode cX0_missesTogether 50 = .ok (.iconst 0, 1) := by decide +kernel
theorem dX0_missesTogether_51 : decode cX0_missesTogether 51 = .ok (.iadd, 1) := by decide +kernel
theorem dX0_missesTogether_52 : decode cX0_missesTogether 52 = .ok (.istore_n 2, 1) := by decide +kernel
theorem dX0_missesTogether_53 : decode cX0_missesTogether 53 = .ok (.iinc 4 1, 3) := by decide +kernel
theorem dX0_missesTogether_56 : decode cX0_missesTogether 56 = .ok (.goto (-43), 3) := by decide +kernel
theorem dX0_missesTogether_59 : decode cX0_missesTogether 59 = .ok (.iinc 3 1, 3) := by decide +kernel
theorem dX0_missesTogether_62 : decode cX0_missesTogether 62 = .ok (.goto (-58), 3) := by decide +kernel
theorem dX0_missesTogether_65 : decode cX0_missesTogether 65 = .ok (.iload_n 2, 1) := by decide +kernel
theorem dX0_missesTogether_66 : decode cX0_missesTogether 66 = .ok (.ireturn, 1) := by decide +kernel
theorem dX0_rowOf_0 : decode cX0_rowOf 0 = .ok (.iload_n 1, 1) := by decide +kernel
theorem dX0_rowOf_1 : decode cX0_rowOf 1 = .ok (.iconst 0, 1) := by decide +kernel
theorem dX0_rowOf_2 : decode cX0_rowOf 2 = .ok (.bipush 15, 2) := by decide +kernel
theorem dX0_rowOf_4 : decode cX0_rowOf 4 = .ok (.invokestatic 52, 3) := by decide +kernel
theorem dX0_rowOf_7 : decode cX0_rowOf 7 = .ok (.ifCond .eq 12, 3) := by decide +kernel
theorem dX0_rowOf_10 : decode cX0_rowOf 10 = .ok (.aload_n 0, 1) := by decide +kernel
theorem dX0_rowOf_11 : decode cX0_rowOf 11 = .ok (.getfield 9, 3) := by decide +kernel
theorem dX0_rowOf_14 : decode cX0_rowOf 14 = .ok (.iload_n 1, 1) := by decide +kernel
theorem dX0_rowOf_15 : decode cX0_rowOf 15 = .ok (.iaload, 1) := by decide +kernel
theorem dX0_rowOf_16 : decode cX0_rowOf 16 = .ok (.goto 4, 3) := by decide +kernel
theorem dX0_rowOf_19 : decode cX0_rowOf 19 = .ok (.iconst 0, 1) := by decide +kernel
theorem dX0_rowOf_20 : decode cX0_rowOf 20 = .ok (.ireturn, 1) := by decide +kernel
theorem dX0_copyRowOf_0 : decode cX0_copyRowOf 0 = .ok (.aload_n 0, 1) := by decide +kernel
theorem dX0_copyRowOf_1 : decode cX0_copyRowOf 1 = .ok (.iload_n 1, 1) := by decide +kernel
theorem dX0_copyRowOf_2 : decode cX0_copyRowOf 2 = .ok (.aload_n 0, 1) := by decide +kernel
theorem dX0_copyRowOf_3 : decode cX0_copyRowOf 3 = .ok (.getfield 29, 3) := by decide +kernel
theorem dX0_copyRowOf_6 : decode cX0_copyRowOf 6 = .ok (.isub, 1) := by decide +kernel
theorem dX0_copyRowOf_7 : decode cX0_copyRowOf 7 = .ok (.invokevirtual 96, 3) := by decide +kernel
theorem dX0_copyRowOf_10 : decode cX0_copyRowOf 10 = .ok (.istore_n 2, 1) := by decide +kernel
theorem dX0_copyRowOf_11 : decode cX0_copyRowOf 11 = .ok (.aload_n 0, 1) := by decide +kernel
theorem dX0_copyRowOf_12 : decode cX0_copyRowOf 12 = .ok (.getfield 23, 3) := by decide +kernel
theorem dX0_copyRowOf_15 : decode cX0_copyRowOf 15 = .ok (.ifCond .ge 13, 3) := by decide +kernel
theorem dX0_copyRowOf_18 : decode cX0_copyRowOf 18 = .ok (.iload_n 2, 1) := by decide +kernel
theorem dX0_copyRowOf_19 : decode cX0_copyRowOf 19 = .ok (.aload_n 0, 1) := by decide +kernel
theorem dX0_copyRowOf_20 : decode cX0_copyRowOf 20 = .ok (.getfield 23, 3) := by decide +kernel
theorem dX0_copyRowOf_23 : decode cX0_copyRowOf 23 = .ok (.ineg, 1) := by decide +kernel
theorem dX0_copyRowOf_24 : decode cX0_copyRowOf 24 = .ok (.ishr, 1) := by decide +kernel
theorem dX0_copyRowOf_25 : decode cX0_copyRowOf 25 = .ok (.goto 9, 3) := by decide +kernel
theorem dX0_copyRowOf_28 : decode cX0_copyRowOf 28 = .ok (.iload_n 2, 1) := by decide +kernel
theorem dX0_copyRowOf_29 : decode cX0_copyRowOf 29 = .ok (.aload_n 0, 1) := by decide +kernel
theorem dX0_copyRowOf_30 : decode cX0_copyRowOf 30 = .ok (.getfield 23, 3) := by decide +kernel
theorem dX0_copyRowOf_33 : decode cX0_copyRowOf 33 = .ok (.ishl, 1) := by decide +kernel
theorem dX0_copyRowOf_34 : decode cX0_copyRowOf 34 = .ok (.ireturn, 1) := by decide +kernel
theorem dX0_isAhead_0 : decode cX0_isAhead 0 = .ok (.iload_n 2, 1) := by decide +kernel
theorem dX0_isAhead_1 : decode cX0_isAhead 1 = .ok (.ifCond .eq 10, 3) := by decide +kernel
theorem dX0_isAhead_4 : decode cX0_isAhead 4 = .ok (.aload_n 0, 1) := by decide +kernel
theorem dX0_isAhead_5 : decode cX0_isAhead 5 = .ok (.getfield 75, 3) := by decide +kernel
theorem dX0_isAhead_8 : decode cX0_isAhead 8 = .ok (.goto 7, 3) := by decide +kernel
theorem dX0_isAhead_11 : decode cX0_isAhead 11 = .ok (.aload_n 0, 1) := by decide +kernel
theorem dX0_isAhead_12 : decode cX0_isAhead 12 = .ok (.getfield 49, 3) := by decide +kernel
theorem dX0_isAhead_15 : decode cX0_isAhead 15 = .ok (.istore_n 3, 1) := by decide +kernel
theorem dX0_isAhead_16 : decode cX0_isAhead 16 = .ok (.iload_n 2, 1) := by decide +kernel
theorem dX0_isAhead_17 : decode cX0_isAhead 17 = .ok (.ifCond .eq 10, 3) := by decide +kernel
theorem dX0_isAhead_20 : decode cX0_isAhead 20 = .ok (.aload_n 1, 1) := by decide +kernel
theorem dX0_isAhead_21 : decode cX0_isAhead 21 = .ok (.getfield 75, 3) := by decide +kernel
theorem dX0_isAhead_24 : decode cX0_isAhead 24 = .ok (.goto 7, 3) := by decide +kernel
theorem dX0_isAhead_27 : decode cX0_isAhead 27 = .ok (.aload_n 1, 1) := by decide +kernel
theorem dX0_isAhead_28 : decode cX0_isAhead 28 = .ok (.getfield 49, 3) := by decide +kernel
theorem dX0_isAhead_31 : decode cX0_isAhead 31 = .ok (.istore 4, 2) := by decide +kernel
theorem dX0_isAhead_33 : decode cX0_isAhead 33 = .ok (.iload_n 3, 1) := by decide +kernel
theorem dX0_isAhead_34 : decode cX0_isAhead 34 = .ok (.iload 4, 2) := by decide +kernel
theorem dX0_isAhead_36 : decode cX0_isAhead 36 = .ok (.if_icmp .eq 15, 3) := by decide +kernel
theorem dX0_isAhead_39 : decode cX0_isAhead 39 = .ok (.iload_n 3, 1) := by decide +kernel
theorem dX0_isAhead_40 : decode cX0_isAhead 40 = .ok (.iload 4, 2) := by decide +kernel
theorem dX0_isAhead_42 : decode cX0_isAhead 42 = .ok (.if_icmp .le 7, 3) := by decide +kernel
theorem dX0_isAhead_45 : decode cX0_isAhead 45 = .ok (.iconst 1, 1) := by decide +kernel
theorem dX0_isAhead_46 : decode cX0_isAhead 46 = .ok (.goto 4, 3) := by decide +kernel
theorem dX0_isAhead_49 : decode cX0_isAhead 49 = .ok (.iconst 0, 1) := by decide +kernel
theorem dX0_isAhead_50 : decode cX0_isAhead 50 = .ok (.ireturn, 1) := by decide +kernel
theorem dX0_isAhead_51 : decode cX0_isAhead 51 = .ok (.aload_n 0, 1) := by decide +kernel
theorem dX0_isAhead_52 : decode cX0_isAhead 52 = .ok (.getfield 15, 3) := by decide +kernel
theorem dX0_isAhead_55 : decode cX0_isAhead 55 = .ok (.aload_n 1, 1) := by decide +kernel
theorem dX0_isAhead_56 : decode cX0_isAhead 56 = .ok (.getfield 15, 3) := by decide +kernel
theorem dX0_isAhead_59 : decode cX0_isAhead 59 = .ok (.if_icmp .eq 22, 3) := by decide +kernel
theorem dX0_isAhead_62 : decode cX0_isAhead 62 = .ok (.aload_n 0, 1) := by decide +kernel
theorem dX0_isAhead_63 : decode cX0_isAhead 63 = .ok (.getfield 15, 3) := by decide +kernel
theorem dX0_isAhead_66 : decode cX0_isAhead 66 = .ok (.aload_n 1, 1) := by decide +kernel
theorem dX0_isAhead_67 : decode cX0_isAhead 67 = .ok (.getfield 15, 3) := by decide +kernel
theorem dX0_isAhead_70 : decode cX0_isAhead 70 = .ok (.if_icmp .ge 7, 3) := by decide +kernel
theorem dX0_isAhead_73 : decode cX0_isAhead 73 = .ok (.iconst 1, 1) := by decide +kernel
theorem dX0_isAhead_74 : decode cX0_isAhead 74 = .ok (.goto 23, 3) := by decide +kernel
theorem dX0_isAhead_77 : decode cX0_isAhead 77 = .ok (.iconst 0, 1) := by decide +kernel
theorem dX0_isAhead_78 : decode cX0_isAhead 78 = .ok (.goto 19, 3) := by decide +kernel
theorem dX0_isAhead_81 : decode cX0_isAhead 81 = .ok (.aload_n 0, 1) := by decide +kernel
theorem dX0_isAhead_82 : decode cX0_isAhead 82 = .ok (.getfield 32, 3) := by decide +kernel
theorem dX0_isAhead_85 : decode cX0_isAhead 85 = .ok (.aload_n 1, 1) := by decide +kernel
theorem dX0_isAhead_86 : decode cX0_isAhead 86 = .ok (.getfield 32, 3) := by decide +kernel
theorem dX0_isAhead_89 : decode cX0_isAhead 89 = .ok (.if_icmp .ge 7, 3) := by decide +kernel
theorem dX0_isAhead_92 : decode cX0_isAhead 92 = .ok (.iconst 1, 1) := by decide +kernel
theorem dX0_isAhead_93 : decode cX0_isAhead 93 = .ok (.goto 4, 3) := by decide +kernel
theorem dX0_isAhead_96 : decode cX0_isAhead 96 = .ok (.iconst 0, 1) := by decide +kernel
theorem dX0_isAhead_97 : decode cX0_isAhead 97 = .ok (.ireturn, 1) := by decide +kernel
theorem dX1_init_0 : decode cX1_init 0 = .ok (.aload_n 0, 1) := by decide +kernel
theorem dX1_init_1 : decode cX1_init 1 = .ok (.invokespecial 3, 3) := by decide +kernel
theorem dX1_init_4 : decode cX1_init 4 = .ok (.aload_n 0, 1) := by decide +kernel
theorem dX1_init_5 : decode cX1_init 5 = .ok (.bipush 25, 2) := by decide +kernel
theorem dX1_init_7 : decode cX1_init 7 = .ok (.anewarray 9, 3) := by decide +kernel
theorem dX1_init_10 : decode cX1_init 10 = .ok (.putfield 11, 3) := by decide +kernel
theorem dX1_init_13 : decode cX1_init 13 = .ok (.aload_n 0, 1) := by decide +kernel
theorem dX1_init_14 : decode cX1_init 14 = .ok (.bipush 8, 2) := by decide +kernel
theorem dX1_init_16 : decode cX1_init 16 = .ok (.newarray .int, 2) := by decide +kernel
theorem dX1_init_18 : decode cX1_init 18 = .ok (.putfield 17, 3) := by decide +kernel
theorem dX1_init_21 : decode cX1_init 21 = .ok (.aload_n 0, 1) := by decide +kernel
theorem dX1_init_22 : decode cX1_init 22 = .ok (.bipush 8, 2) := by decide +kernel
theorem dX1_init_24 : decode cX1_init 24 = .ok (.bipush 16, 2) := by decide +kernel
theorem dX1_init_26 : decode cX1_init 26 = .ok (.multianewarray 21 2, 4) := by decide +kernel
theorem dX1_init_30 : decode cX1_init 30 = .ok (.putfield 23, 3) := by decide +kernel
theorem dX1_init_33 : decode cX1_init 33 = .ok (.aload_n 0, 1) := by decide +kernel
theorem dX1_init_34 : decode cX1_init 34 = .ok (.bipush 16, 2) := by decide +kernel
theorem dX1_init_36 : decode cX1_init 36 = .ok (.newarray .int, 2) := by decide +kernel
theorem dX1_init_38 : decode cX1_init 38 = .ok (.putfield 26, 3) := by decide +kernel
theorem dX1_init_41 : decode cX1_init 41 = .ok (.iconst 0, 1) := by decide +kernel
theorem dX1_init_42 : decode cX1_init 42 = .ok (.istore_n 1, 1) := by decide +kernel
theorem dX1_init_43 : decode cX1_init 43 = .ok (.iload_n 1, 1) := by decide +kernel
theorem dX1_init_44 : decode cX1_init 44 = .ok (.bipush 24, 2) := by decide +kernel
theorem dX1_init_46 : decode cX1_init 46 = .ok (.if_icmp .gt 22, 3) := by decide +kernel
theorem dX1_init_49 : decode cX1_init 49 = .ok (.aload_n 0, 1) := by decide +kernel
theorem dX1_init_50 : decode cX1_init 50 = .ok (.getfield 11, 3) := by decide +kernel
theorem dX1_init_53 : decode cX1_init 53 = .ok (.iload_n 1, 1) := by decide +kernel
theorem dX1_init_54 : decode cX1_init 54 = .ok (.new 9, 3) := by decide +kernel
theorem dX1_init_57 : decode cX1_init 57 = .ok (.dup, 1) := by decide +kernel
theorem dX1_init_58 : decode cX1_init 58 = .ok (.invokespecial 29, 3) := by decide +kernel
theorem dX1_init_61 : decode cX1_init 61 = .ok (.aastore, 1) := by decide +kernel
theorem dX1_init_62 : decode cX1_init 62 = .ok (.iinc 1 1, 3) := by decide +kernel
theorem dX1_init_65 : decode cX1_init 65 = .ok (.goto (-22), 3) := by decide +kernel
theorem dX1_init_68 : decode cX1_init 68 = .ok (.return_, 1) := by decide +kernel
theorem dX1_gather_0 : decode cX1_gather 0 = .ok (.aload_n 0, 1) := by decide +kernel
theorem dX1_gather_1 : decode cX1_gather 1 = .ok (.iconst 0, 1) := by decide +kernel
theorem dX1_gather_2 : decode cX1_gather 2 = .ok (.putfield 30, 3) := by decide +kernel
theorem dX1_gather_5 : decode cX1_gather 5 = .ok (.iconst 0, 1) := by decide +kernel
theorem dX1_gather_6 : decode cX1_gather 6 = .ok (.istore_n 2, 1) := by decide +kernel
theorem dX1_gather_7 : decode cX1_gather 7 = .ok (.iload_n 2, 1) := by decide +kernel
theorem dX1_gather_8 : decode cX1_gather 8 = .ok (.bipush 8, 2) := by decide +kernel
theorem dX1_gather_10 : decode cX1_gather 10 = .ok (.if_icmp .ge 25, 3) := by decide +kernel
theorem dX1_gather_13 : decode cX1_gather 13 = .ok (.aload_n 0, 1) := by decide +kernel
theorem dX1_gather_14 : decode cX1_gather 14 = .ok (.getfield 17, 3) := by decide +kernel
theorem dX1_gather_17 : decode cX1_gather 17 = .ok (.iload_n 2, 1) := by decide +kernel
theorem dX1_gather_18 : decode cX1_gather 18 = .ok (.iconst 0, 1) := by decide +kernel
theorem dX1_gather_19 : decode cX1_gather 19 = .ok (.iastore, 1) := by decide +kernel
theorem dX1_gather_20 : decode cX1_gather 20 = .ok (.aload_n 0, 1) := by decide +kernel
theorem dX1_gather_21 : decode cX1_gather 21 = .ok (.getfield 23, 3) := by decide +kernel
theorem dX1_gather_24 : decode cX1_gather 24 = .ok (.iload_n 2, 1) := by decide +kernel
theorem dX1_gather_25 : decode cX1_gather 25 = .ok (.aaload, 1) := by decide +kernel
theorem dX1_gather_26 : decode cX1_gather 26 = .ok (.invokestatic 34, 3) := by decide +kernel
theorem dX1_gather_29 : decode cX1_gather 29 = .ok (.iinc 2 1, 3) := by decide +kernel
theorem dX1_gather_32 : decode cX1_gather 32 = .ok (.goto (-25), 3) := by decide +kernel
theorem dX1_gather_35 : decode cX1_gather 35 = .ok (.iconst 0, 1) := by decide +kernel
theorem dX1_gather_36 : decode cX1_gather 36 = .ok (.istore_n 2, 1) := by decide +kernel
theorem dX1_gather_37 : decode cX1_gather 37 = .ok (.iload_n 2, 1) := by decide +kernel
theorem dX1_gather_38 : decode cX1_gather 38 = .ok (.aload_n 1, 1) := by decide +kernel
theorem dX1_gather_39 : decode cX1_gather 39 = .ok (.getfield 40, 3) := by decide +kernel
theorem dX1_gather_42 : decode cX1_gather 42 = .ok (.if_icmp .ge 55, 3) := by decide +kernel
theorem dX1_gather_45 : decode cX1_gather 45 = .ok (.aload_n 1, 1) := by decide +kernel
theorem dX1_gather_46 : decode cX1_gather 46 = .ok (.iload_n 2, 1) := by decide +kernel
theorem dX1_gather_47 : decode cX1_gather 47 = .ok (.invokevirtual 45, 3) := by decide +kernel
theorem dX1_gather_50 : decode cX1_gather 50 = .ok (.istore_n 3, 1) := by decide +kernel
theorem dX1_gather_51 : decode cX1_gather 51 = .ok (.iload_n 3, 1) := by decide +kernel
theorem dX1_gather_52 : decode cX1_gather 52 = .ok (.iconst 0, 1) := by decide +kernel
theorem dX1_gather_53 : decode cX1_gather 53 = .ok (.bipush 7, 2) := by decide +kernel
theorem dX1_gather_55 : decode cX1_gather 55 = .ok (.invokestatic 49, 3) := by decide +kernel
theorem dX1_gather_58 : decode cX1_gather 58 = .ok (.ifCond .eq 33, 3) := by decide +kernel
theorem dX1_gather_61 : decode cX1_gather 61 = .ok (.aload_n 0, 1) := by decide +kernel
theorem dX1_gather_62 : decode cX1_gather 62 = .ok (.getfield 23, 3) := by decide +kernel
theorem dX1_gather_65 : decode cX1_gather 65 = .ok (.iload_n 3, 1) := by decide +kernel
theorem dX1_gather_66 : decode cX1_gather 66 = .ok (.aaload, 1) := by decide +kernel
theorem dX1_gather_67 : decode cX1_gather 67 = .ok (.aload_n 1, 1) := by decide +kernel
theorem dX1_gather_68 : decode cX1_gather 68 = .ok (.getfield 53, 3) := by decide +kernel
theorem dX1_gather_71 : decode cX1_gather 71 = .ok (.iload_n 2, 1) := by decide +kernel
theorem dX1_gather_72 : decode cX1_gather 72 = .ok (.iaload, 1) := by decide +kernel
theorem dX1_gather_73 : decode cX1_gather 73 = .ok (.bipush 16, 2) := by decide +kernel
theorem dX1_gather_75 : decode cX1_gather 75 = .ok (.idiv, 1) := by decide +kernel
theorem dX1_gather_76 : decode cX1_gather 76 = .ok (.dup2, 1) := by decide +kernel
theorem dX1_gather_77 : decode cX1_gather 77 = .ok (.iaload, 1) := by decide +kernel
theorem dX1_gather_78 : decode cX1_gather 78 = .ok (.iconst 1, 1) := by decide +kernel
theorem dX1_gather_79 : decode cX1_gather 79 = .ok (.aload_n 1, 1) := by decide +kernel
theorem dX1_gather_80 : decode cX1_gather 80 = .ok (.getfield 53, 3) := by decide +kernel
theorem dX1_gather_83 : decode cX1_gather 83 = .ok (.iload_n 2, 1) := by decide +kernel
theorem dX1_gather_84 : decode cX1_gather 84 = .ok (.iaload, 1) := by decide +kernel
theorem dX1_gather_85 : decode cX1_gather 85 = .ok (.bipush 16, 2) := by decide +kernel
theorem dX1_gather_87 : decode cX1_gather 87 = .ok (.irem, 1) := by decide +kernel
theorem dX1_gather_88 : decode cX1_gather 88 = .ok (.ishl, 1) := by decide +kernel
theorem dX1_gather_89 : decode cX1_gather 89 = .ok (.ior, 1) := by decide +kernel
theorem dX1_gather_90 : decode cX1_gather 90 = .ok (.iastore, 1) := by decide +kernel
theorem dX1_gather_91 : decode cX1_gather 91 = .ok (.iinc 2 1, 3) := by decide +kernel
theorem dX1_gather_94 : decode cX1_gather 94 = .ok (.goto (-57), 3) := by decide +kernel
theorem dX1_gather_97 : decode cX1_gather 97 = .ok (.iconst 0, 1) := by decide +kernel
theorem dX1_gather_98 : decode cX1_gather 98 = .ok (.istore_n 2, 1) := by decide +kernel
theorem dX1_gather_99 : decode cX1_gather 99 = .ok (.iload_n 2, 1) := by decide +kernel
theorem dX1_gather_100 : decode cX1_gather 100 = .ok (.aload_n 1, 1) := by decide +kernel
theorem dX1_gather_101 : decode cX1_gather 101 = .ok (.getfield 56, 3) := by decide +kernel
theorem dX1_gather_104 : decode cX1_gather 104 = .ok (.if_icmp .ge 57, 3) := by decide +kernel
theorem dX1_gather_107 : decode cX1_gather 107 = .ok (.iconst 0, 1) := by decide +kernel
theorem dX1_gather_108 : decode cX1_gather 108 = .ok (.istore_n 3, 1) := by decide +kernel
theorem dX1_gather_109 : decode cX1_gather 109 = .ok (.iload_n 3, 1) := by decide +kernel
theorem dX1_gather_110 : decode cX1_gather 110 = .ok (.sipush 256, 3) := by decide +kernel
theorem dX1_gather_113 : decode cX1_gather 113 = .ok (.if_icmp .ge 42, 3) := by decide +kernel
theorem dX1_gather_116 : decode cX1_gather 116 = .ok (.aload_n 0, 1) := by decide +kernel
theorem dX1_gather_117 : decode cX1_gather 117 = .ok (.getfield 23, 3) := by decide +kernel
theorem dX1_gather_120 : decode cX1_gather 120 = .ok (.iload_n 2, 1) := by decide +kernel
theorem dX1_gather_121 : decode cX1_gather 121 = .ok (.aaload, 1) := by decide +kernel
theorem dX1_gather_122 : decode cX1_gather 122 = .ok (.iload_n 3, 1) := by decide +kernel
theorem dX1_gather_123 : decode cX1_gather 123 = .ok (.bipush 16, 2) := by decide +kernel
theorem dX1_gather_125 : decode cX1_gather 125 = .ok (.idiv, 1) := by decide +kernel
theorem dX1_gather_126 : decode cX1_gather 126 = .ok (.iaload, 1) := by decide +kernel
theorem dX1_gather_127 : decode cX1_gather 127 = .ok (.iload_n 3, 1) := by decide +kernel
theorem dX1_gather_128 : decode cX1_gather 128 = .ok (.bipush 16, 2) := by decide +kernel
theorem dX1_gather_130 : decode cX1_gather 130 = .ok (.irem, 1) := by decide +kernel
theorem dX1_gather_131 : decode cX1_gather 131 = .ok (.ishr, 1) := by decide +kernel
theorem dX1_gather_132 : decode cX1_gather 132 = .ok (.iconst 1, 1) := by decide +kernel
theorem dX1_gather_133 : decode cX1_gather 133 = .ok (.iand, 1) := by decide +kernel
theorem dX1_gather_134 : decode cX1_gather 134 = .ok (.ifCond .eq 15, 3) := by decide +kernel
theorem dX1_gather_137 : decode cX1_gather 137 = .ok (.aload_n 0, 1) := by decide +kernel
theorem dX1_gather_138 : decode cX1_gather 138 = .ok (.iload_n 2, 1) := by decide +kernel
theorem dX1_gather_139 : decode cX1_gather 139 = .ok (.aload_n 1, 1) := by decide +kernel
theorem dX1_gather_140 : decode cX1_gather 140 = .ok (.getfield 57, 3) := by decide +kernel
theorem dX1_gather_143 : decode cX1_gather 143 = .ok (.iload_n 2, 1) := by decide +kernel
theorem dX1_gather_144 : decode cX1_gather 144 = .ok (.iaload, 1) := by decide +kernel
theorem dX1_gather_145 : decode cX1_gather 145 = .ok (.iload_n 3, 1) := by decide +kernel
theorem dX1_gather_146 : decode cX1_gather 146 = .ok (.invokevirtual 60, 3) := by decide +kernel
theorem dX1_gather_149 : decode cX1_gather 149 = .ok (.iinc 3 1, 3) := by decide +kernel
theorem dX1_gather_152 : decode cX1_gather 152 = .ok (.goto (-43), 3) := by decide +kernel
theorem dX1_gather_155 : decode cX1_gather 155 = .ok (.iinc 2 1, 3) := by decide +kernel
theorem dX1_gather_158 : decode cX1_gather 158 = .ok (.goto (-59), 3) := by decide +kernel
theorem dX1_gather_161 : decode cX1_gather 161 = .ok (.return_, 1) := by decide +kernel
theorem dX1_addRegion_0 : decode cX1_addRegion 0 = .ok (.aload_n 0, 1) := by decide +kernel
theorem dX1_addRegion_1 : decode cX1_addRegion 1 = .ok (.getfield 11, 3) := by decide +kernel
theorem dX1_addRegion_4 : decode cX1_addRegion 4 = .ok (.aload_n 0, 1) := by decide +kernel
theorem dX1_addRegion_5 : decode cX1_addRegion 5 = .ok (.getfield 30, 3) := by decide +kernel
theorem dX1_addRegion_8 : decode cX1_addRegion 8 = .ok (.aaload, 1) := by decide +kernel
theorem dX1_addRegion_9 : decode cX1_addRegion 9 = .ok (.iload_n 1, 1) := by decide +kernel
theorem dX1_addRegion_10 : decode cX1_addRegion 10 = .ok (.iload_n 2, 1) := by decide +kernel
theorem dX1_addRegion_11 : decode cX1_addRegion 11 = .ok (.iload_n 3, 1) := by decide +kernel
theorem dX1_addRegion_12 : decode cX1_addRegion 12 = .ok (.aload_n 0, 1) := by decide +kernel
theorem dX1_addRegion_13 : decode cX1_addRegion 13 = .ok (.getfield 23, 3) := by decide +kernel
theorem dX1_addRegion_16 : decode cX1_addRegion 16 = .ok (.iload_n 1, 1) := by decide +kernel
theorem dX1_addRegion_17 : decode cX1_addRegion 17 = .ok (.aaload, 1) := by decide +kernel
theorem dX1_addRegion_18 : decode cX1_addRegion 18 = .ok (.invokevirtual 64, 3) := by decide +kernel
theorem dX1_addRegion_21 : decode cX1_addRegion 21 = .ok (.aload_n 0, 1) := by decide +kernel
theorem dX1_addRegion_22 : decode cX1_addRegion 22 = .ok (.aload_n 0, 1) := by decide +kernel
theorem dX1_addRegion_23 : decode cX1_addRegion 23 = .ok (.getfield 30, 3) := by decide +kernel
theorem dX1_addRegion_26 : decode cX1_addRegion 26 = .ok (.iconst 0, 1) := by decide +kernel
theorem dX1_addRegion_27 : decode cX1_addRegion 27 = .ok (.invokevirtual 68, 3) := by decide +kernel
theorem dX1_addRegion_30 : decode cX1_addRegion 30 = .ok (.aload_n 0, 1) := by decide +kernel
theorem dX1_addRegion_31 : decode cX1_addRegion 31 = .ok (.getfield 17, 3) := by decide +kernel
theorem dX1_addRegion_34 : decode cX1_addRegion 34 = .ok (.iload_n 1, 1) := by decide +kernel
theorem dX1_addRegion_35 : decode cX1_addRegion 35 = .ok (.dup2, 1) := by decide +kernel
theorem dX1_addRegion_36 : decode cX1_addRegion 36 = .ok (.iaload, 1) := by decide +kernel
theorem dX1_addRegion_37 : decode cX1_addRegion 37 = .ok (.iconst 1, 1) := by decide +kernel
theorem dX1_addRegion_38 : decode cX1_addRegion 38 = .ok (.iadd, 1) := by decide +kernel
theorem dX1_addRegion_39 : decode cX1_addRegion 39 = .ok (.iastore, 1) := by decide +kernel
theorem dX1_addRegion_40 : decode cX1_addRegion 40 = .ok (.aload_n 0, 1) := by decide +kernel
theorem dX1_addRegion_41 : decode cX1_addRegion 41 = .ok (.aload_n 0, 1) := by decide +kernel
theorem dX1_addRegion_42 : decode cX1_addRegion 42 = .ok (.getfield 30, 3) := by decide +kernel
theorem dX1_addRegion_45 : decode cX1_addRegion 45 = .ok (.iconst 1, 1) := by decide +kernel
theorem dX1_addRegion_46 : decode cX1_addRegion 46 = .ok (.iadd, 1) := by decide +kernel
theorem dX1_addRegion_47 : decode cX1_addRegion 47 = .ok (.bipush 24, 2) := by decide +kernel
theorem dX1_addRegion_49 : decode cX1_addRegion 49 = .ok (.invokestatic 72, 3) := by decide +kernel
theorem dX1_addRegion_52 : decode cX1_addRegion 52 = .ok (.putfield 30, 3) := by decide +kernel
theorem dX1_addRegion_55 : decode cX1_addRegion 55 = .ok (.return_, 1) := by decide +kernel
theorem dX1_grow_0 : decode cX1_grow 0 = .ok (.iconst 0, 1) := by decide +kernel
theorem dX1_grow_1 : decode cX1_grow 1 = .ok (.istore 4, 2) := by decide +kernel
theorem dX1_grow_3 : decode cX1_grow 3 = .ok (.iload 4, 2) := by decide +kernel
theorem dX1_grow_5 : decode cX1_grow 5 = .ok (.aload_n 0, 1) := by decide +kernel
theorem dX1_grow_6 : decode cX1_grow 6 = .ok (.getfield 30, 3) := by decide +kernel
theorem dX1_grow_9 : decode cX1_grow 9 = .ok (.if_icmp .ge 52, 3) := by decide +kernel
theorem dX1_grow_12 : decode cX1_grow 12 = .ok (.aload_n 0, 1) := by decide +kernel
theorem dX1_grow_13 : decode cX1_grow 13 = .ok (.getfield 11, 3) := by decide +kernel
theorem dX1_grow_16 : decode cX1_grow 16 = .ok (.iload 4, 2) := by decide +kernel
theorem dX1_grow_18 : decode cX1_grow 18 = .ok (.aaload, 1) := by decide +kernel
theorem dX1_grow_19 : decode cX1_grow 19 = .ok (.aload_n 2, 1) := by decide +kernel
theorem dX1_grow_20 : decode cX1_grow 20 = .ok (.aload_n 3, 1) := by decide +kernel
theorem dX1_grow_21 : decode cX1_grow 21 = .ok (.iconst 2, 1) := by decide +kernel
theorem dX1_grow_22 : decode cX1_grow 22 = .ok (.iaload, 1) := by decide +kernel
theorem dX1_grow_23 : decode cX1_grow 23 = .ok (.invokevirtual 78, 3) := by decide +kernel
theorem dX1_grow_26 : decode cX1_grow 26 = .ok (.aload_n 0, 1) := by decide +kernel
theorem dX1_grow_27 : decode cX1_grow 27 = .ok (.getfield 11, 3) := by decide +kernel
theorem dX1_grow_30 : decode cX1_grow 30 = .ok (.iload 4, 2) := by decide +kernel
theorem dX1_grow_32 : decode cX1_grow 32 = .ok (.aaload, 1) := by decide +kernel
theorem dX1_grow_33 : decode cX1_grow 33 = .ok (.aload_n 1, 1) := by decide +kernel
theorem dX1_grow_34 : decode cX1_grow 34 = .ok (.aload_n 3, 1) := by decide +kernel
theorem dX1_grow_35 : decode cX1_grow 35 = .ok (.iconst 0, 1) := by decide +kernel
theorem dX1_grow_36 : decode cX1_grow 36 = .ok (.iaload, 1) := by decide +kernel
theorem dX1_grow_37 : decode cX1_grow 37 = .ok (.aload_n 3, 1) := by decide +kernel
theorem dX1_grow_38 : decode cX1_grow 38 = .ok (.bipush 7, 2) := by decide +kernel
theorem dX1_grow_40 : decode cX1_grow 40 = .ok (.iaload, 1) := by decide +kernel
theorem dX1_grow_41 : decode cX1_grow 41 = .ok (.aload_n 0, 1) := by decide +kernel
theorem dX1_grow_42 : decode cX1_grow 42 = .ok (.getfield 26, 3) := by decide +kernel
theorem dX1_grow_45 : decode cX1_grow 45 = .ok (.invokevirtual 82, 3) := by decide +kernel
theorem dX1_grow_48 : decode cX1_grow 48 = .ok (.aload_n 0, 1) := by decide +kernel
theorem dX1_grow_49 : decode cX1_grow 49 = .ok (.iload 4, 2) := by decide +kernel
theorem dX1_grow_51 : decode cX1_grow 51 = .ok (.iconst 1, 1) := by decide +kernel
theorem dX1_grow_52 : decode cX1_grow 52 = .ok (.invokevirtual 68, 3) := by decide +kernel
theorem dX1_grow_55 : decode cX1_grow 55 = .ok (.iinc 4 1, 3) := by decide +kernel
theorem dX1_grow_58 : decode cX1_grow 58 = .ok (.goto (-55), 3) := by decide +kernel
theorem dX1_grow_61 : decode cX1_grow 61 = .ok (.return_, 1) := by decide +kernel
theorem dX1_settle_0 : decode cX1_settle 0 = .ok (.iload_n 1, 1) := by decide +kernel
theorem dX1_settle_1 : decode cX1_settle 1 = .ok (.istore_n 3, 1) := by decide +kernel
theorem dX1_settle_2 : decode cX1_settle 2 = .ok (.iload_n 3, 1) := by decide +kernel
theorem dX1_settle_3 : decode cX1_settle 3 = .ok (.ifCond .le 62, 3) := by decide +kernel
theorem dX1_settle_6 : decode cX1_settle 6 = .ok (.aload_n 0, 1) := by decide +kernel
theorem dX1_settle_7 : decode cX1_settle 7 = .ok (.getfield 11, 3) := by decide +kernel
theorem dX1_settle_10 : decode cX1_settle 10 = .ok (.iload_n 3, 1) := by decide +kernel
theorem dX1_settle_11 : decode cX1_settle 11 = .ok (.aaload, 1) := by decide +kernel
theorem dX1_settle_12 : decode cX1_settle 12 = .ok (.aload_n 0, 1) := by decide +kernel
theorem dX1_settle_13 : decode cX1_settle 13 = .ok (.getfield 11, 3) := by decide +kernel
theorem dX1_settle_16 : decode cX1_settle 16 = .ok (.iload_n 3, 1) := by decide +kernel
theorem dX1_settle_17 : decode cX1_settle 17 = .ok (.iconst 1, 1) := by decide +kernel
theorem dX1_settle_18 : decode cX1_settle 18 = .ok (.isub, 1) := by decide +kernel
theorem dX1_settle_19 : decode cX1_settle 19 = .ok (.aaload, 1) := by decide +kernel
theorem dX1_settle_20 : decode cX1_settle 20 = .ok (.iload_n 2, 1) := by decide +kernel
theorem dX1_settle_21 : decode cX1_settle 21 = .ok (.invokevirtual 86, 3) := by decide +kernel
theorem dX1_settle_24 : decode cX1_settle 24 = .ok (.ifCond .eq 41, 3) := by decide +kernel
theorem dX1_settle_27 : decode cX1_settle 27 = .ok (.aload_n 0, 1) := by decide +kernel
theorem dX1_settle_28 : decode cX1_settle 28 = .ok (.getfield 11, 3) := by decide +kernel
theorem dX1_settle_31 : decode cX1_settle 31 = .ok (.iload_n 3, 1) := by decide +kernel
theorem dX1_settle_32 : decode cX1_settle 32 = .ok (.aaload, 1) := by decide +kernel
theorem dX1_settle_33 : decode cX1_settle 33 = .ok (.astore 4, 2) := by decide +kernel
theorem dX1_settle_35 : decode cX1_settle 35 = .ok (.aload_n 0, 1) := by decide +kernel
theorem dX1_settle_36 : decode cX1_settle 36 = .ok (.getfield 11, 3) := by decide +kernel
theorem dX1_settle_39 : decode cX1_settle 39 = .ok (.iload_n 3, 1) := by decide +kernel
theorem dX1_settle_40 : decode cX1_settle 40 = .ok (.aload_n 0, 1) := by decide +kernel
theorem dX1_settle_41 : decode cX1_settle 41 = .ok (.getfield 11, 3) := by decide +kernel
theorem dX1_settle_44 : decode cX1_settle 44 = .ok (.iload_n 3, 1) := by decide +kernel
theorem dX1_settle_45 : decode cX1_settle 45 = .ok (.iconst 1, 1) := by decide +kernel
theorem dX1_settle_46 : decode cX1_settle 46 = .ok (.isub, 1) := by decide +kernel
theorem dX1_settle_47 : decode cX1_settle 47 = .ok (.aaload, 1) := by decide +kernel
theorem dX1_settle_48 : decode cX1_settle 48 = .ok (.aastore, 1) := by decide +kernel
theorem dX1_settle_49 : decode cX1_settle 49 = .ok (.aload_n 0, 1) := by decide +kernel
theorem dX1_settle_50 : decode cX1_settle 50 = .ok (.getfield 11, 3) := by decide +kernel
theorem dX1_settle_53 : decode cX1_settle 53 = .ok (.iload_n 3, 1) := by decide +kernel
theorem dX1_settle_54 : decode cX1_settle 54 = .ok (.iconst 1, 1) := by decide +kernel
theorem dX1_settle_55 : decode cX1_settle 55 = .ok (.isub, 1) := by decide +kernel
theorem dX1_settle_56 : decode cX1_settle 56 = .ok (.aload 4, 2) := by decide +kernel
theorem dX1_settle_58 : decode cX1_settle 58 = .ok (.aastore, 1) := by decide +kernel
theorem dX1_settle_59 : decode cX1_settle 59 = .ok (.iinc 3 (-1), 3) := by decide +kernel
theorem dX1_settle_62 : decode cX1_settle 62 = .ok (.goto (-60), 3) := by decide +kernel
theorem dX1_settle_65 : decode cX1_settle 65 = .ok (.return_, 1) := by decide +kernel
theorem dX1_columnsOf_0 : decode cX1_columnsOf 0 = .ok (.iconst 0, 1) := by decide +kernel
theorem dX1_columnsOf_1 : decode cX1_columnsOf 1 = .ok (.istore_n 3, 1) := by decide +kernel
theorem dX1_columnsOf_2 : decode cX1_columnsOf 2 = .ok (.iconst 0, 1) := by decide +kernel
theorem dX1_columnsOf_3 : decode cX1_columnsOf 3 = .ok (.istore 4, 2) := by decide +kernel
theorem dX1_columnsOf_5 : decode cX1_columnsOf 5 = .ok (.iload 4, 2) := by decide +kernel
theorem dX1_columnsOf_7 : decode cX1_columnsOf 7 = .ok (.aload_n 0, 1) := by decide +kernel
theorem dX1_columnsOf_8 : decode cX1_columnsOf 8 = .ok (.getfield 30, 3) := by decide +kernel
theorem dX1_columnsOf_11 : decode cX1_columnsOf 11 = .ok (.if_icmp .ge 54, 3) := by decide +kernel
theorem dX1_columnsOf_14 : decode cX1_columnsOf 14 = .ok (.iload_n 3, 1) := by decide +kernel
theorem dX1_columnsOf_15 : decode cX1_columnsOf 15 = .ok (.iload_n 2, 1) := by decide +kernel
theorem dX1_columnsOf_16 : decode cX1_columnsOf 16 = .ok (.iconst 1, 1) := by decide +kernel
theorem dX1_columnsOf_17 : decode cX1_columnsOf 17 = .ok (.if_icmp .ne 7, 3) := by decide +kernel
theorem dX1_columnsOf_20 : decode cX1_columnsOf 20 = .ok (.iconst 0, 1) := by decide +kernel
theorem dX1_columnsOf_21 : decode cX1_columnsOf 21 = .ok (.goto 14, 3) := by decide +kernel
theorem dX1_columnsOf_24 : decode cX1_columnsOf 24 = .ok (.aload_n 0, 1) := by decide +kernel
theorem dX1_columnsOf_25 : decode cX1_columnsOf 25 = .ok (.getfield 11, 3) := by decide +kernel
theorem dX1_columnsOf_28 : decode cX1_columnsOf 28 = .ok (.iload 4, 2) := by decide +kernel
theorem dX1_columnsOf_30 : decode cX1_columnsOf 30 = .ok (.aaload, 1) := by decide +kernel
theorem dX1_columnsOf_31 : decode cX1_columnsOf 31 = .ok (.iload_n 1, 1) := by decide +kernel
theorem dX1_columnsOf_32 : decode cX1_columnsOf 32 = .ok (.invokevirtual 90, 3) := by decide +kernel
theorem dX1_columnsOf_35 : decode cX1_columnsOf 35 = .ok (.ior, 1) := by decide +kernel
theorem dX1_columnsOf_36 : decode cX1_columnsOf 36 = .ok (.istore_n 3, 1) := by decide +kernel
theorem dX1_columnsOf_37 : decode cX1_columnsOf 37 = .ok (.iload_n 3, 1) := by decide +kernel
theorem dX1_columnsOf_38 : decode cX1_columnsOf 38 = .ok (.iload_n 2, 1) := by decide +kernel
theorem dX1_columnsOf_39 : decode cX1_columnsOf 39 = .ok (.ifCond .ne 7, 3) := by decide +kernel
theorem dX1_columnsOf_42 : decode cX1_columnsOf 42 = .ok (.iconst 0, 1) := by decide +kernel
theorem dX1_columnsOf_43 : decode cX1_columnsOf 43 = .ok (.goto 14, 3) := by decide +kernel
theorem dX1_columnsOf_46 : decode cX1_columnsOf 46 = .ok (.aload_n 0, 1) := by decide +kernel
theorem dX1_columnsOf_47 : decode cX1_columnsOf 47 = .ok (.getfield 11, 3) := by decide +kernel
theorem dX1_columnsOf_50 : decode cX1_columnsOf 50 = .ok (.iload 4, 2) := by decide +kernel
theorem dX1_columnsOf_52 : decode cX1_columnsOf 52 = .ok (.aaload, 1) := by decide +kernel
theorem dX1_columnsOf_53 : decode cX1_columnsOf 53 = .ok (.iload_n 1, 1) := by decide +kernel
theorem dX1_columnsOf_54 : decode cX1_columnsOf 54 = .ok (.invokevirtual 93, 3) := by decide +kernel
theorem dX1_columnsOf_57 : decode cX1_columnsOf 57 = .ok (.ior, 1) := by decide +kernel
theorem dX1_columnsOf_58 : decode cX1_columnsOf 58 = .ok (.istore_n 3, 1) := by decide +kernel
theorem dX1_columnsOf_59 : decode cX1_columnsOf 59 = .ok (.iinc 4 1, 3) := by decide +kernel
theorem dX1_columnsOf_62 : decode cX1_columnsOf 62 = .ok (.goto (-57), 3) := by decide +kernel
theorem dX1_columnsOf_65 : decode cX1_columnsOf 65 = .ok (.iload_n 3, 1) := by decide +kernel
theorem dX1_columnsOf_66 : decode cX1_columnsOf 66 = .ok (.ireturn, 1) := by decide +kernel
theorem dX1_placesSeen_0 : decode cX1_placesSeen 0 = .ok (.iconst 0, 1) := by decide +kernel
theorem dX1_placesSeen_1 : decode cX1_placesSeen 1 = .ok (.istore_n 1, 1) := by decide +kernel
theorem dX1_placesSeen_2 : decode cX1_placesSeen 2 = .ok (.iconst 0, 1) := by decide +kernel
theorem dX1_placesSeen_3 : decode cX1_placesSeen 3 = .ok (.istore_n 2, 1) := by decide +kernel
theorem dX1_placesSeen_4 : decode cX1_placesSeen 4 = .ok (.iload_n 2, 1) := by decide +kernel
theorem dX1_placesSeen_5 : decode cX1_placesSeen 5 = .ok (.bipush 16, 2) := by decide +kernel
theorem dX1_placesSeen_7 : decode cX1_placesSeen 7 = .ok (.if_icmp .ge 21, 3) := by decide +kernel
theorem dX1_placesSeen_10 : decode cX1_placesSeen 10 = .ok (.iload_n 1, 1) := by decide +kernel
theorem dX1_placesSeen_11 : decode cX1_placesSeen 11 = .ok (.aload_n 0, 1) := by decide +kernel
theorem dX1_placesSeen_12 : decode cX1_placesSeen 12 = .ok (.iload_n 2, 1) := by decide +kernel
theorem dX1_placesSeen_13 : decode cX1_placesSeen 13 = .ok (.iconst 2, 1) := by decide +kernel
theorem dX1_placesSeen_14 : decode cX1_placesSeen 14 = .ok (.invokevirtual 96, 3) := by decide +kernel
theorem dX1_placesSeen_17 : decode cX1_placesSeen 17 = .ok (.invokestatic 99, 3) := by decide +kernel
theorem dX1_placesSeen_20 : decode cX1_placesSeen 20 = .ok (.iadd, 1) := by decide +kernel
theorem dX1_placesSeen_21 : decode cX1_placesSeen 21 = .ok (.istore_n 1, 1) := by decide +kernel
theorem dX1_placesSeen_22 : decode cX1_placesSeen 22 = .ok (.iinc 2 1, 3) := by decide +kernel
theorem dX1_placesSeen_25 : decode cX1_placesSeen 25 = .ok (.goto (-21), 3) := by decide +kernel
theorem dX1_placesSeen_28 : decode cX1_placesSeen 28 = .ok (.iload_n 1, 1) := by decide +kernel
theorem dX1_placesSeen_29 : decode cX1_placesSeen 29 = .ok (.ireturn, 1) := by decide +kernel
theorem dX2_init_0 : decode cX2_init 0 = .ok (.aload_n 0, 1) := by decide +kernel
theorem dX2_init_1 : decode cX2_init 1 = .ok (.invokespecial 3, 3) := by decide +kernel
theorem dX2_init_4 : decode cX2_init 4 = .ok (.aload_n 0, 1) := by decide +kernel
theorem dX2_init_5 : decode cX2_init 5 = .ok (.sipush 256, 3) := by decide +kernel
theorem dX2_init_8 : decode cX2_init 8 = .ok (.newarray .int, 2) := by decide +kernel
theorem dX2_init_10 : decode cX2_init 10 = .ok (.putfield 9, 3) := by decide +kernel
theorem dX2_init_13 : decode cX2_init 13 = .ok (.aload_n 0, 1) := by decide +kernel
theorem dX2_init_14 : decode cX2_init 14 = .ok (.sipush 256, 3) := by decide +kernel
theorem dX2_init_17 : decode cX2_init 17 = .ok (.newarray .int, 2) := by decide +kernel
theorem dX2_init_19 : decode cX2_init 19 = .ok (.putfield 15, 3) := by decide +kernel
theorem dX2_init_22 : decode cX2_init 22 = .ok (.aload_n 0, 1) := by decide +kernel
theorem dX2_init_23 : decode cX2_init 23 = .ok (.bipush 16, 2) := by decide +kernel
theorem dX2_init_25 : decode cX2_init 25 = .ok (.putfield 18, 3) := by decide +kernel
theorem dX2_init_28 : decode cX2_init 28 = .ok (.aload_n 0, 1) := by decide +kernel
theorem dX2_init_29 : decode cX2_init 29 = .ok (.bipush 16, 2) := by decide +kernel
theorem dX2_init_31 : decode cX2_init 31 = .ok (.putfield 22, 3) := by decide +kernel
theorem dX2_init_34 : decode cX2_init 34 = .ok (.return_, 1) := by decide +kernel
theorem dX2_renew_0 : decode cX2_renew 0 = .ok (.aload_n 0, 1) := by decide +kernel
theorem dX2_renew_1 : decode cX2_renew 1 = .ok (.iload_n 1, 1) := by decide +kernel
theorem dX2_renew_2 : decode cX2_renew 2 = .ok (.putfield 18, 3) := by decide +kernel
theorem dX2_renew_5 : decode cX2_renew 5 = .ok (.aload_n 0, 1) := by decide +kernel
theorem dX2_renew_6 : decode cX2_renew 6 = .ok (.iload_n 2, 1) := by decide +kernel
theorem dX2_renew_7 : decode cX2_renew 7 = .ok (.putfield 22, 3) := by decide +kernel
theorem dX2_renew_10 : decode cX2_renew 10 = .ok (.iconst 0, 1) := by decide +kernel
theorem dX2_renew_11 : decode cX2_renew 11 = .ok (.istore_n 3, 1) := by decide +kernel
theorem dX2_renew_12 : decode cX2_renew 12 = .ok (.iload_n 3, 1) := by decide +kernel
theorem dX2_renew_13 : decode cX2_renew 13 = .ok (.sipush 256, 3) := by decide +kernel
theorem dX2_renew_16 : decode cX2_renew 16 = .ok (.if_icmp .ge 16, 3) := by decide +kernel
theorem dX2_renew_19 : decode cX2_renew 19 = .ok (.aload_n 0, 1) := by decide +kernel
theorem dX2_renew_20 : decode cX2_renew 20 = .ok (.getfield 9, 3) := by decide +kernel
theorem dX2_renew_23 : decode cX2_renew 23 = .ok (.iload_n 3, 1) := by decide +kernel
theorem dX2_renew_24 : decode cX2_renew 24 = .ok (.iconst 0, 1) := by decide +kernel
theorem dX2_renew_25 : decode cX2_renew 25 = .ok (.iastore, 1) := by decide +kernel
theorem dX2_renew_26 : decode cX2_renew 26 = .ok (.iinc 3 1, 3) := by decide +kernel
theorem dX2_renew_29 : decode cX2_renew 29 = .ok (.goto (-17), 3) := by decide +kernel
theorem dX2_renew_32 : decode cX2_renew 32 = .ok (.iload_n 1, 1) := by decide +kernel
theorem dX2_renew_33 : decode cX2_renew 33 = .ok (.iload_n 2, 1) := by decide +kernel
theorem dX2_renew_34 : decode cX2_renew 34 = .ok (.imul, 1) := by decide +kernel
theorem dX2_renew_35 : decode cX2_renew 35 = .ok (.ireturn, 1) := by decide +kernel
theorem dX2_has_0 : decode cX2_has 0 = .ok (.iload_n 1, 1) := by decide +kernel
theorem dX2_has_1 : decode cX2_has 1 = .ok (.ifCond .lt 27, 3) := by decide +kernel
theorem dX2_has_4 : decode cX2_has 4 = .ok (.iload_n 1, 1) := by decide +kernel
theorem dX2_has_5 : decode cX2_has 5 = .ok (.aload_n 0, 1) := by decide +kernel
theorem dX2_has_6 : decode cX2_has 6 = .ok (.getfield 18, 3) := by decide +kernel
theorem dX2_has_9 : decode cX2_has 9 = .ok (.if_icmp .ge 19, 3) := by decide +kernel
theorem dX2_has_12 : decode cX2_has 12 = .ok (.iload_n 2, 1) := by decide +kernel
theorem dX2_has_13 : decode cX2_has 13 = .ok (.ifCond .lt 15, 3) := by decide +kernel
theorem dX2_has_16 : decode cX2_has 16 = .ok (.iload_n 2, 1) := by decide +kernel
theorem dX2_has_17 : decode cX2_has 17 = .ok (.aload_n 0, 1) := by decide +kernel
theorem dX2_has_18 : decode cX2_has 18 = .ok (.getfield 22, 3) := by decide +kernel
theorem dX2_has_21 : decode cX2_has 21 = .ok (.if_icmp .ge 7, 3) := by decide +kernel
theorem dX2_has_24 : decode cX2_has 24 = .ok (.iconst 1, 1) := by decide +kernel
theorem dX2_has_25 : decode cX2_has 25 = .ok (.goto 4, 3) := by decide +kernel
theorem dX2_has_28 : decode cX2_has 28 = .ok (.iconst 0, 1) := by decide +kernel
theorem dX2_has_29 : decode cX2_has 29 = .ok (.ireturn, 1) := by decide +kernel
theorem dX2_hasFrom_0 : decode cX2_hasFrom 0 = .ok (.iload_n 3, 1) := by decide +kernel
theorem dX2_hasFrom_1 : decode cX2_hasFrom 1 = .ok (.iconst 1, 1) := by decide +kernel
theorem dX2_hasFrom_2 : decode cX2_hasFrom 2 = .ok (.if_icmp .lt 34, 3) := by decide +kernel
theorem dX2_hasFrom_5 : decode cX2_hasFrom 5 = .ok (.iload_n 3, 1) := by decide +kernel
theorem dX2_hasFrom_6 : decode cX2_hasFrom 6 = .ok (.aload_n 0, 1) := by decide +kernel
theorem dX2_hasFrom_7 : decode cX2_hasFrom 7 = .ok (.getfield 18, 3) := by decide +kernel
theorem dX2_hasFrom_10 : decode cX2_hasFrom 10 = .ok (.iload_n 1, 1) := by decide +kernel
theorem dX2_hasFrom_11 : decode cX2_hasFrom 11 = .ok (.isub, 1) := by decide +kernel
theorem dX2_hasFrom_12 : decode cX2_hasFrom 12 = .ok (.if_icmp .gt 24, 3) := by decide +kernel
theorem dX2_hasFrom_15 : decode cX2_hasFrom 15 = .ok (.iload 4, 2) := by decide +kernel
theorem dX2_hasFrom_17 : decode cX2_hasFrom 17 = .ok (.iconst 1, 1) := by decide +kernel
theorem dX2_hasFrom_18 : decode cX2_hasFrom 18 = .ok (.if_icmp .lt 18, 3) := by decide +kernel
theorem dX2_hasFrom_21 : decode cX2_hasFrom 21 = .ok (.iload 4, 2) := by decide +kernel
theorem dX2_hasFrom_23 : decode cX2_hasFrom 23 = .ok (.aload_n 0, 1) := by decide +kernel
theorem dX2_hasFrom_24 : decode cX2_hasFrom 24 = .ok (.getfield 22, 3) := by decide +kernel
theorem dX2_hasFrom_27 : decode cX2_hasFrom 27 = .ok (.iload_n 2, 1) := by decide +kernel
theorem dX2_hasFrom_28 : decode cX2_hasFrom 28 = .ok (.isub, 1) := by decide +kernel
theorem dX2_hasFrom_29 : decode cX2_hasFrom 29 = .ok (.if_icmp .gt 7, 3) := by decide +kernel
theorem dX2_hasFrom_32 : decode cX2_hasFrom 32 = .ok (.iconst 1, 1) := by decide +kernel
theorem dX2_hasFrom_33 : decode cX2_hasFrom 33 = .ok (.goto 4, 3) := by decide +kernel
theorem dX2_hasFrom_36 : decode cX2_hasFrom 36 = .ok (.iconst 0, 1) := by decide +kernel
theorem dX2_hasFrom_37 : decode cX2_hasFrom 37 = .ok (.ireturn, 1) := by decide +kernel
theorem dX2_greyOf_0 : decode cX2_greyOf 0 = .ok (.aload_n 0, 1) := by decide +kernel
theorem dX2_greyOf_1 : decode cX2_greyOf 1 = .ok (.iload_n 1, 1) := by decide +kernel
theorem dX2_greyOf_2 : decode cX2_greyOf 2 = .ok (.iload_n 2, 1) := by decide +kernel
theorem dX2_greyOf_3 : decode cX2_greyOf 3 = .ok (.invokevirtual 25, 3) := by decide +kernel
theorem dX2_greyOf_6 : decode cX2_greyOf 6 = .ok (.ifCond .eq 17, 3) := by decide +kernel
theorem dX2_greyOf_9 : decode cX2_greyOf 9 = .ok (.aload_n 0, 1) := by decide +kernel
theorem dX2_greyOf_10 : decode cX2_greyOf 10 = .ok (.getfield 9, 3) := by decide +kernel
theorem dX2_greyOf_13 : decode cX2_greyOf 13 = .ok (.bipush 16, 2) := by decide +kernel
theorem dX2_greyOf_15 : decode cX2_greyOf 15 = .ok (.iload_n 2, 1) := by decide +kernel
theorem dX2_greyOf_16 : decode cX2_greyOf 16 = .ok (.imul, 1) := by decide +kernel
theorem dX2_greyOf_17 : decode cX2_greyOf 17 = .ok (.iload_n 1, 1) := by decide +kernel
theorem dX2_greyOf_18 : decode cX2_greyOf 18 = .ok (.iadd, 1) := by decide +kernel
theorem dX2_greyOf_19 : decode cX2_greyOf 19 = .ok (.iaload, 1) := by decide +kernel
theorem dX2_greyOf_20 : decode cX2_greyOf 20 = .ok (.goto 4, 3) := by decide +kernel
theorem dX2_greyOf_23 : decode cX2_greyOf 23 = .ok (.iconst 0, 1) := by decide +kernel
theorem dX2_greyOf_24 : decode cX2_greyOf 24 = .ok (.ireturn, 1) := by decide +kernel
theorem dX2_change_0 : decode cX2_change 0 = .ok (.aload_n 0, 1) := by decide +kernel
theorem dX2_change_1 : decode cX2_change 1 = .ok (.iload_n 1, 1) := by decide +kernel
theorem dX2_change_2 : decode cX2_change 2 = .ok (.iload_n 2, 1) := by decide +kernel
theorem dX2_change_3 : decode cX2_change 3 = .ok (.invokevirtual 25, 3) := by decide +kernel
theorem dX2_change_6 : decode cX2_change 6 = .ok (.ifCond .eq 18, 3) := by decide +kernel
theorem dX2_change_9 : decode cX2_change 9 = .ok (.aload_n 0, 1) := by decide +kernel
theorem dX2_change_10 : decode cX2_change 10 = .ok (.getfield 9, 3) := by decide +kernel
theorem dX2_change_13 : decode cX2_change 13 = .ok (.bipush 16, 2) := by decide +kernel
theorem dX2_change_15 : decode cX2_change 15 = .ok (.iload_n 2, 1) := by decide +kernel
theorem dX2_change_16 : decode cX2_change 16 = .ok (.imul, 1) := by decide +kernel
theorem dX2_change_17 : decode cX2_change 17 = .ok (.iload_n 1, 1) := by decide +kernel
theorem dX2_change_18 : decode cX2_change 18 = .ok (.iadd, 1) := by decide +kernel
theorem dX2_change_19 : decode cX2_change 19 = .ok (.iaload, 1) := by decide +kernel
theorem dX2_change_20 : decode cX2_change 20 = .ok (.iload_n 3, 1) := by decide +kernel
theorem dX2_change_21 : decode cX2_change 21 = .ok (.if_icmp .ne 5, 3) := by decide +kernel
theorem dX2_change_24 : decode cX2_change 24 = .ok (.iconst 0, 1) := by decide +kernel
theorem dX2_change_25 : decode cX2_change 25 = .ok (.ireturn, 1) := by decide +kernel
theorem dX2_change_26 : decode cX2_change 26 = .ok (.aload_n 0, 1) := by decide +kernel
theorem dX2_change_27 : decode cX2_change 27 = .ok (.getfield 9, 3) := by decide +kernel
theorem dX2_change_30 : decode cX2_change 30 = .ok (.bipush 16, 2) := by decide +kernel
theorem dX2_change_32 : decode cX2_change 32 = .ok (.iload_n 2, 1) := by decide +kernel
theorem dX2_change_33 : decode cX2_change 33 = .ok (.imul, 1) := by decide +kernel
theorem dX2_change_34 : decode cX2_change 34 = .ok (.iload_n 1, 1) := by decide +kernel
theorem dX2_change_35 : decode cX2_change 35 = .ok (.iadd, 1) := by decide +kernel
theorem dX2_change_36 : decode cX2_change 36 = .ok (.iload_n 3, 1) := by decide +kernel
theorem dX2_change_37 : decode cX2_change 37 = .ok (.iastore, 1) := by decide +kernel
theorem dX2_change_38 : decode cX2_change 38 = .ok (.iconst 1, 1) := by decide +kernel
theorem dX2_change_39 : decode cX2_change 39 = .ok (.ireturn, 1) := by decide +kernel
theorem dX2_remember_0 : decode cX2_remember 0 = .ok (.aload_n 0, 1) := by decide +kernel
theorem dX2_remember_1 : decode cX2_remember 1 = .ok (.getfield 9, 3) := by decide +kernel
theorem dX2_remember_4 : decode cX2_remember 4 = .ok (.iconst 0, 1) := by decide +kernel
theorem dX2_remember_5 : decode cX2_remember 5 = .ok (.aload_n 0, 1) := by decide +kernel
theorem dX2_remember_6 : decode cX2_remember 6 = .ok (.getfield 15, 3) := by decide +kernel
theorem dX2_remember_9 : decode cX2_remember 9 = .ok (.iconst 0, 1) := by decide +kernel
theorem dX2_remember_10 : decode cX2_remember 10 = .ok (.sipush 256, 3) := by decide +kernel
theorem dX2_remember_13 : decode cX2_remember 13 = .ok (.invokestatic 29, 3) := by decide +kernel
theorem dX2_remember_16 : decode cX2_remember 16 = .ok (.return_, 1) := by decide +kernel
theorem dX2_rememberedOf_0 : decode cX2_rememberedOf 0 = .ok (.aload_n 0, 1) := by decide +kernel
theorem dX2_rememberedOf_1 : decode cX2_rememberedOf 1 = .ok (.iload_n 1, 1) := by decide +kernel
theorem dX2_rememberedOf_2 : decode cX2_rememberedOf 2 = .ok (.iload_n 2, 1) := by decide +kernel
theorem dX2_rememberedOf_3 : decode cX2_rememberedOf 3 = .ok (.invokevirtual 25, 3) := by decide +kernel
theorem dX2_rememberedOf_6 : decode cX2_rememberedOf 6 = .ok (.ifCond .eq 17, 3) := by decide +kernel
theorem dX2_rememberedOf_9 : decode cX2_rememberedOf 9 = .ok (.aload_n 0, 1) := by decide +kernel
theorem dX2_rememberedOf_10 : decode cX2_rememberedOf 10 = .ok (.getfield 15, 3) := by decide +kernel
theorem dX2_rememberedOf_13 : decode cX2_rememberedOf 13 = .ok (.bipush 16, 2) := by decide +kernel
theorem dX2_rememberedOf_15 : decode cX2_rememberedOf 15 = .ok (.iload_n 2, 1) := by decide +kernel
theorem dX2_rememberedOf_16 : decode cX2_rememberedOf 16 = .ok (.imul, 1) := by decide +kernel
theorem dX2_rememberedOf_17 : decode cX2_rememberedOf 17 = .ok (.iload_n 1, 1) := by decide +kernel
theorem dX2_rememberedOf_18 : decode cX2_rememberedOf 18 = .ok (.iadd, 1) := by decide +kernel
theorem dX2_rememberedOf_19 : decode cX2_rememberedOf 19 = .ok (.iaload, 1) := by decide +kernel
theorem dX2_rememberedOf_20 : decode cX2_rememberedOf 20 = .ok (.goto 4, 3) := by decide +kernel
theorem dX2_rememberedOf_23 : decode cX2_rememberedOf 23 = .ok (.iconst 0, 1) := by decide +kernel
theorem dX2_rememberedOf_24 : decode cX2_rememberedOf 24 = .ok (.ireturn, 1) := by decide +kernel
theorem dX3_clear_0 : decode cX3_clear 0 = .ok (.iconst 0, 1) := by decide +kernel
theorem dX3_clear_1 : decode cX3_clear 1 = .ok (.istore_n 1, 1) := by decide +kernel
theorem dX3_clear_2 : decode cX3_clear 2 = .ok (.iload_n 1, 1) := by decide +kernel
theorem dX3_clear_3 : decode cX3_clear 3 = .ok (.bipush 16, 2) := by decide +kernel
theorem dX3_clear_5 : decode cX3_clear 5 = .ok (.if_icmp .ge 13, 3) := by decide +kernel
theorem dX3_clear_8 : decode cX3_clear 8 = .ok (.aload_n 0, 1) := by decide +kernel
theorem dX3_clear_9 : decode cX3_clear 9 = .ok (.iload_n 1, 1) := by decide +kernel
theorem dX3_clear_10 : decode cX3_clear 10 = .ok (.iconst 0, 1) := by decide +kernel
theorem dX3_clear_11 : decode cX3_clear 11 = .ok (.iastore, 1) := by decide +kernel
theorem dX3_clear_12 : decode cX3_clear 12 = .ok (.iinc 1 1, 3) := by decide +kernel
theorem dX3_clear_15 : decode cX3_clear 15 = .ok (.goto (-13), 3) := by decide +kernel
theorem dX3_clear_18 : decode cX3_clear 18 = .ok (.return_, 1) := by decide +kernel
theorem dX3_size_0 : decode cX3_size 0 = .ok (.iconst 0, 1) := by decide +kernel
theorem dX3_size_1 : decode cX3_size 1 = .ok (.istore_n 1, 1) := by decide +kernel
theorem dX3_size_2 : decode cX3_size 2 = .ok (.iconst 0, 1) := by decide +kernel
theorem dX3_size_3 : decode cX3_size 3 = .ok (.istore_n 2, 1) := by decide +kernel
theorem dX3_size_4 : decode cX3_size 4 = .ok (.iload_n 2, 1) := by decide +kernel
theorem dX3_size_5 : decode cX3_size 5 = .ok (.bipush 16, 2) := by decide +kernel
theorem dX3_size_7 : decode cX3_size 7 = .ok (.if_icmp .ge 18, 3) := by decide +kernel
