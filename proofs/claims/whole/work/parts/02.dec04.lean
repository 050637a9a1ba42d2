theorem dX8_init_299 : decode cX8_init 299 = .ok (.aload_n 0, 1) := by decide +kernel
theorem dX8_init_300 : decode cX8_init 300 = .ok (.bipush 24, 2) := by decide +kernel
theorem dX8_init_302 : decode cX8_init 302 = .ok (.newarray .int, 2) := by decide +kernel
theorem dX8_init_304 : decode cX8_init 304 = .ok (.putfield 78, 3) := by decide +kernel
theorem dX8_init_307 : decode cX8_init 307 = .ok (.aload_n 0, 1) := by decide +kernel
theorem dX8_init_308 : decode cX8_init 308 = .ok (.bipush 24, 2) := by decide +kernel
theorem dX8_init_310 : decode cX8_init 310 = .ok (.newarray .int, 2) := by decide +kernel
theorem dX8_init_312 : decode cX8_init 312 = .ok (.putfield 81, 3) := by decide +kernel
theorem dX8_init_315 : decode cX8_init 315 = .ok (.aload_n 0, 1) := by decide +kernel
theorem dX8_init_316 : decode cX8_init 316 = .ok (.bipush 24, 2) := by decide +kernel
theorem dX8_init_318 : decode cX8_init 318 = .ok (.newarray .int, 2) := by decide +kernel
theorem dX8_init_320 : decode cX8_init 320 = .ok (.putfield 84, 3) := by decide +kernel
theorem dX8_init_323 : decode cX8_init 323 = .ok (.aload_n 0, 1) := by decide +kernel
theorem dX8_init_324 : decode cX8_init 324 = .ok (.sipush 6144, 3) := by decide +kernel
theorem dX8_init_327 : decode cX8_init 327 = .ok (.newarray .boolean, 2) := by decide +kernel
theorem dX8_init_329 : decode cX8_init 329 = .ok (.putfield 87, 3) := by decide +kernel
theorem dX8_init_332 : decode cX8_init 332 = .ok (.aload_n 0, 1) := by decide +kernel
theorem dX8_init_333 : decode cX8_init 333 = .ok (.bipush 24, 2) := by decide +kernel
theorem dX8_init_335 : decode cX8_init 335 = .ok (.newarray .int, 2) := by decide +kernel
theorem dX8_init_337 : decode cX8_init 337 = .ok (.putfield 90, 3) := by decide +kernel
theorem dX8_init_340 : decode cX8_init 340 = .ok (.return_, 1) := by decide +kernel
theorem dX8_within_0 : decode cX8_within 0 = .ok (.iload_n 0, 1) := by decide +kernel
theorem dX8_within_1 : decode cX8_within 1 = .ok (.iload_n 1, 1) := by decide +kernel
theorem dX8_within_2 : decode cX8_within 2 = .ok (.if_icmp .lt 12, 3) := by decide +kernel
theorem dX8_within_5 : decode cX8_within 5 = .ok (.iload_n 0, 1) := by decide +kernel
theorem dX8_within_6 : decode cX8_within 6 = .ok (.iload_n 2, 1) := by decide +kernel
theorem dX8_within_7 : decode cX8_within 7 = .ok (.if_icmp .gt 7, 3) := by decide +kernel
theorem dX8_within_10 : decode cX8_within 10 = .ok (.iconst 1, 1) := by decide +kernel
theorem dX8_within_11 : decode cX8_within 11 = .ok (.goto 4, 3) := by decide +kernel
theorem dX8_within_14 : decode cX8_within 14 = .ok (.iconst 0, 1) := by decide +kernel
theorem dX8_within_15 : decode cX8_within 15 = .ok (.ireturn, 1) := by decide +kernel
theorem dX8_changed_0 : decode cX8_changed 0 = .ok (.aload_n 0, 1) := by decide +kernel
theorem dX8_changed_1 : decode cX8_changed 1 = .ok (.iconst 0, 1) := by decide +kernel
theorem dX8_changed_2 : decode cX8_changed 2 = .ok (.putfield 93, 3) := by decide +kernel
theorem dX8_changed_5 : decode cX8_changed 5 = .ok (.iload_n 1, 1) := by decide +kernel
theorem dX8_changed_6 : decode cX8_changed 6 = .ok (.ireturn, 1) := by decide +kernel
theorem dX8_size_0 : decode cX8_size 0 = .ok (.iload_n 0, 1) := by decide +kernel
theorem dX8_size_1 : decode cX8_size 1 = .ok (.ifCond .ge 8, 3) := by decide +kernel
theorem dX8_size_4 : decode cX8_size 4 = .ok (.iload_n 0, 1) := by decide +kernel
theorem dX8_size_5 : decode cX8_size 5 = .ok (.ineg, 1) := by decide +kernel
theorem dX8_size_6 : decode cX8_size 6 = .ok (.goto 4, 3) := by decide +kernel
theorem dX8_size_9 : decode cX8_size 9 = .ok (.iload_n 0, 1) := by decide +kernel
theorem dX8_size_10 : decode cX8_size 10 = .ok (.ireturn, 1) := by decide +kernel
theorem dX8_isPlace_0 : decode cX8_isPlace 0 = .ok (.iload_n 1, 1) := by decide +kernel
theorem dX8_isPlace_1 : decode cX8_isPlace 1 = .ok (.iconst 0, 1) := by decide +kernel
theorem dX8_isPlace_2 : decode cX8_isPlace 2 = .ok (.aload_n 0, 1) := by decide +kernel
theorem dX8_isPlace_3 : decode cX8_isPlace 3 = .ok (.getfield 7, 3) := by decide +kernel
theorem dX8_isPlace_6 : decode cX8_isPlace 6 = .ok (.iconst 1, 1) := by decide +kernel
theorem dX8_isPlace_7 : decode cX8_isPlace 7 = .ok (.isub, 1) := by decide +kernel
theorem dX8_isPlace_8 : decode cX8_isPlace 8 = .ok (.invokestatic 96, 3) := by decide +kernel
theorem dX8_isPlace_11 : decode cX8_isPlace 11 = .ok (.ifCond .eq 21, 3) := by decide +kernel
theorem dX8_isPlace_14 : decode cX8_isPlace 14 = .ok (.iload_n 2, 1) := by decide +kernel
theorem dX8_isPlace_15 : decode cX8_isPlace 15 = .ok (.iconst 0, 1) := by decide +kernel
theorem dX8_isPlace_16 : decode cX8_isPlace 16 = .ok (.aload_n 0, 1) := by decide +kernel
theorem dX8_isPlace_17 : decode cX8_isPlace 17 = .ok (.getfield 13, 3) := by decide +kernel
theorem dX8_isPlace_20 : decode cX8_isPlace 20 = .ok (.iconst 1, 1) := by decide +kernel
theorem dX8_isPlace_21 : decode cX8_isPlace 21 = .ok (.isub, 1) := by decide +kernel
theorem dX8_isPlace_22 : decode cX8_isPlace 22 = .ok (.invokestatic 96, 3) := by decide +kernel
theorem dX8_isPlace_25 : decode cX8_isPlace 25 = .ok (.ifCond .eq 7, 3) := by decide +kernel
theorem dX8_isPlace_28 : decode cX8_isPlace 28 = .ok (.iconst 1, 1) := by decide +kernel
theorem dX8_isPlace_29 : decode cX8_isPlace 29 = .ok (.goto 4, 3) := by decide +kernel
theorem dX8_isPlace_32 : decode cX8_isPlace 32 = .ok (.iconst 0, 1) := by decide +kernel
theorem dX8_isPlace_33 : decode cX8_isPlace 33 = .ok (.ireturn, 1) := by decide +kernel
theorem dX8_picture_0 : decode cX8_picture 0 = .ok (.iload_n 1, 1) := by decide +kernel
theorem dX8_picture_1 : decode cX8_picture 1 = .ok (.iconst 1, 1) := by decide +kernel
theorem dX8_picture_2 : decode cX8_picture 2 = .ok (.bipush 16, 2) := by decide +kernel
theorem dX8_picture_4 : decode cX8_picture 4 = .ok (.invokestatic 96, 3) := by decide +kernel
theorem dX8_picture_7 : decode cX8_picture 7 = .ok (.ifCond .eq 13, 3) := by decide +kernel
theorem dX8_picture_10 : decode cX8_picture 10 = .ok (.iload_n 2, 1) := by decide +kernel
theorem dX8_picture_11 : decode cX8_picture 11 = .ok (.iconst 1, 1) := by decide +kernel
theorem dX8_picture_12 : decode cX8_picture 12 = .ok (.bipush 16, 2) := by decide +kernel
theorem dX8_picture_14 : decode cX8_picture 14 = .ok (.invokestatic 96, 3) := by decide +kernel
theorem dX8_picture_17 : decode cX8_picture 17 = .ok (.ifCond .ne 6, 3) := by decide +kernel
theorem dX8_picture_20 : decode cX8_picture 20 = .ok (.bipush (-2), 2) := by decide +kernel
theorem dX8_picture_22 : decode cX8_picture 22 = .ok (.ireturn, 1) := by decide +kernel
theorem dX8_picture_23 : decode cX8_picture 23 = .ok (.aload_n 0, 1) := by decide +kernel
theorem dX8_picture_24 : decode cX8_picture 24 = .ok (.iload_n 1, 1) := by decide +kernel
theorem dX8_picture_25 : decode cX8_picture 25 = .ok (.putfield 7, 3) := by decide +kernel
theorem dX8_picture_28 : decode cX8_picture 28 = .ok (.aload_n 0, 1) := by decide +kernel
theorem dX8_picture_29 : decode cX8_picture 29 = .ok (.iload_n 2, 1) := by decide +kernel
theorem dX8_picture_30 : decode cX8_picture 30 = .ok (.putfield 13, 3) := by decide +kernel
theorem dX8_picture_33 : decode cX8_picture 33 = .ok (.iconst 0, 1) := by decide +kernel
theorem dX8_picture_34 : decode cX8_picture 34 = .ok (.istore_n 3, 1) := by decide +kernel
theorem dX8_picture_35 : decode cX8_picture 35 = .ok (.iload_n 3, 1) := by decide +kernel
theorem dX8_picture_36 : decode cX8_picture 36 = .ok (.sipush 256, 3) := by decide +kernel
theorem dX8_picture_39 : decode cX8_picture 39 = .ok (.if_icmp .ge 16, 3) := by decide +kernel
theorem dX8_picture_42 : decode cX8_picture 42 = .ok (.aload_n 0, 1) := by decide +kernel
theorem dX8_picture_43 : decode cX8_picture 43 = .ok (.getfield 16, 3) := by decide +kernel
theorem dX8_picture_46 : decode cX8_picture 46 = .ok (.iload_n 3, 1) := by decide +kernel
theorem dX8_picture_47 : decode cX8_picture 47 = .ok (.iconst 0, 1) := by decide +kernel
theorem dX8_picture_48 : decode cX8_picture 48 = .ok (.iastore, 1) := by decide +kernel
theorem dX8_picture_49 : decode cX8_picture 49 = .ok (.iinc 3 1, 3) := by decide +kernel
theorem dX8_picture_52 : decode cX8_picture 52 = .ok (.goto (-17), 3) := by decide +kernel
theorem dX8_picture_55 : decode cX8_picture 55 = .ok (.aload_n 0, 1) := by decide +kernel
theorem dX8_picture_56 : decode cX8_picture 56 = .ok (.iload_n 1, 1) := by decide +kernel
theorem dX8_picture_57 : decode cX8_picture 57 = .ok (.iload_n 2, 1) := by decide +kernel
theorem dX8_picture_58 : decode cX8_picture 58 = .ok (.imul, 1) := by decide +kernel
theorem dX8_picture_59 : decode cX8_picture 59 = .ok (.invokevirtual 100, 3) := by decide +kernel
theorem dX8_picture_62 : decode cX8_picture 62 = .ok (.ireturn, 1) := by decide +kernel
theorem dX8_dot_0 : decode cX8_dot 0 = .ok (.aload_n 0, 1) := by decide +kernel
theorem dX8_dot_1 : decode cX8_dot 1 = .ok (.iload_n 1, 1) := by decide +kernel
theorem dX8_dot_2 : decode cX8_dot 2 = .ok (.iload_n 2, 1) := by decide +kernel
theorem dX8_dot_3 : decode cX8_dot 3 = .ok (.invokevirtual 104, 3) := by decide +kernel
theorem dX8_dot_6 : decode cX8_dot 6 = .ok (.ifCond .ne 5, 3) := by decide +kernel
theorem dX8_dot_9 : decode cX8_dot 9 = .ok (.iconst (-1), 1) := by decide +kernel
theorem dX8_dot_10 : decode cX8_dot 10 = .ok (.ireturn, 1) := by decide +kernel
theorem dX8_dot_11 : decode cX8_dot 11 = .ok (.iload_n 3, 1) := by decide +kernel
theorem dX8_dot_12 : decode cX8_dot 12 = .ok (.iconst 0, 1) := by decide +kernel
theorem dX8_dot_13 : decode cX8_dot 13 = .ok (.bipush 99, 2) := by decide +kernel
theorem dX8_dot_15 : decode cX8_dot 15 = .ok (.invokestatic 96, 3) := by decide +kernel
theorem dX8_dot_18 : decode cX8_dot 18 = .ok (.ifCond .ne 6, 3) := by decide +kernel
theorem dX8_dot_21 : decode cX8_dot 21 = .ok (.bipush (-2), 2) := by decide +kernel
theorem dX8_dot_23 : decode cX8_dot 23 = .ok (.ireturn, 1) := by decide +kernel
theorem dX8_dot_24 : decode cX8_dot 24 = .ok (.aload_n 0, 1) := by decide +kernel
theorem dX8_dot_25 : decode cX8_dot 25 = .ok (.getfield 16, 3) := by decide +kernel
theorem dX8_dot_28 : decode cX8_dot 28 = .ok (.bipush 16, 2) := by decide +kernel
theorem dX8_dot_30 : decode cX8_dot 30 = .ok (.iload_n 2, 1) := by decide +kernel
theorem dX8_dot_31 : decode cX8_dot 31 = .ok (.imul, 1) := by decide +kernel
theorem dX8_dot_32 : decode cX8_dot 32 = .ok (.iload_n 1, 1) := by decide +kernel
theorem dX8_dot_33 : decode cX8_dot 33 = .ok (.iadd, 1) := by decide +kernel
theorem dX8_dot_34 : decode cX8_dot 34 = .ok (.iaload, 1) := by decide +kernel
theorem dX8_dot_35 : decode cX8_dot 35 = .ok (.istore 4, 2) := by decide +kernel
theorem dX8_dot_37 : decode cX8_dot 37 = .ok (.aload_n 0, 1) := by decide +kernel
theorem dX8_dot_38 : decode cX8_dot 38 = .ok (.getfield 16, 3) := by decide +kernel
theorem dX8_dot_41 : decode cX8_dot 41 = .ok (.bipush 16, 2) := by decide +kernel
theorem dX8_dot_43 : decode cX8_dot 43 = .ok (.iload_n 2, 1) := by decide +kernel
theorem dX8_dot_44 : decode cX8_dot 44 = .ok (.imul, 1) := by decide +kernel
theorem dX8_dot_45 : decode cX8_dot 45 = .ok (.iload_n 1, 1) := by decide +kernel
theorem dX8_dot_46 : decode cX8_dot 46 = .ok (.iadd, 1) := by decide +kernel
theorem dX8_dot_47 : decode cX8_dot 47 = .ok (.iload_n 3, 1) := by decide +kernel
theorem dX8_dot_48 : decode cX8_dot 48 = .ok (.iastore, 1) := by decide +kernel
theorem dX8_dot_49 : decode cX8_dot 49 = .ok (.aload_n 0, 1) := by decide +kernel
theorem dX8_dot_50 : decode cX8_dot 50 = .ok (.iload 4, 2) := by decide +kernel
theorem dX8_dot_52 : decode cX8_dot 52 = .ok (.invokevirtual 100, 3) := by decide +kernel
theorem dX8_dot_55 : decode cX8_dot 55 = .ok (.ireturn, 1) := by decide +kernel
theorem dX8_at_0 : decode cX8_at 0 = .ok (.aload_n 0, 1) := by decide +kernel
theorem dX8_at_1 : decode cX8_at 1 = .ok (.iload_n 1, 1) := by decide +kernel
theorem dX8_at_2 : decode cX8_at 2 = .ok (.iload_n 2, 1) := by decide +kernel
theorem dX8_at_3 : decode cX8_at 3 = .ok (.invokevirtual 104, 3) := by decide +kernel
theorem dX8_at_6 : decode cX8_at 6 = .ok (.ifCond .eq 17, 3) := by decide +kernel
theorem dX8_at_9 : decode cX8_at 9 = .ok (.aload_n 0, 1) := by decide +kernel
theorem dX8_at_10 : decode cX8_at 10 = .ok (.getfield 16, 3) := by decide +kernel
theorem dX8_at_13 : decode cX8_at 13 = .ok (.bipush 16, 2) := by decide +kernel
theorem dX8_at_15 : decode cX8_at 15 = .ok (.iload_n 2, 1) := by decide +kernel
theorem dX8_at_16 : decode cX8_at 16 = .ok (.imul, 1) := by decide +kernel
theorem dX8_at_17 : decode cX8_at 17 = .ok (.iload_n 1, 1) := by decide +kernel
theorem dX8_at_18 : decode cX8_at 18 = .ok (.iadd, 1) := by decide +kernel
theorem dX8_at_19 : decode cX8_at 19 = .ok (.iaload, 1) := by decide +kernel
theorem dX8_at_20 : decode cX8_at 20 = .ok (.goto 4, 3) := by decide +kernel
theorem dX8_at_23 : decode cX8_at 23 = .ok (.iconst (-1), 1) := by decide +kernel
theorem dX8_at_24 : decode cX8_at 24 = .ok (.ireturn, 1) := by decide +kernel
theorem dX8_isPart_0 : decode cX8_isPart 0 = .ok (.iload_n 3, 1) := by decide +kernel
theorem dX8_isPart_1 : decode cX8_isPart 1 = .ok (.ifCond .le 33, 3) := by decide +kernel
theorem dX8_isPart_4 : decode cX8_isPart 4 = .ok (.iload 4, 2) := by decide +kernel
theorem dX8_isPart_6 : decode cX8_isPart 6 = .ok (.ifCond .le 28, 3) := by decide +kernel
theorem dX8_isPart_9 : decode cX8_isPart 9 = .ok (.iload_n 3, 1) := by decide +kernel
theorem dX8_isPart_10 : decode cX8_isPart 10 = .ok (.aload_n 0, 1) := by decide +kernel
theorem dX8_isPart_11 : decode cX8_isPart 11 = .ok (.getfield 7, 3) := by decide +kernel
theorem dX8_isPart_14 : decode cX8_isPart 14 = .ok (.iload_n 1, 1) := by decide +kernel
theorem dX8_isPart_15 : decode cX8_isPart 15 = .ok (.isub, 1) := by decide +kernel
theorem dX8_isPart_16 : decode cX8_isPart 16 = .ok (.if_icmp .gt 18, 3) := by decide +kernel
theorem dX8_isPart_19 : decode cX8_isPart 19 = .ok (.iload 4, 2) := by decide +kernel
theorem dX8_isPart_21 : decode cX8_isPart 21 = .ok (.aload_n 0, 1) := by decide +kernel
theorem dX8_isPart_22 : decode cX8_isPart 22 = .ok (.getfield 13, 3) := by decide +kernel
theorem dX8_isPart_25 : decode cX8_isPart 25 = .ok (.iload_n 2, 1) := by decide +kernel
theorem dX8_isPart_26 : decode cX8_isPart 26 = .ok (.isub, 1) := by decide +kernel
theorem dX8_isPart_27 : decode cX8_isPart 27 = .ok (.if_icmp .gt 7, 3) := by decide +kernel
theorem dX8_isPart_30 : decode cX8_isPart 30 = .ok (.iconst 1, 1) := by decide +kernel
theorem dX8_isPart_31 : decode cX8_isPart 31 = .ok (.goto 4, 3) := by decide +kernel
theorem dX8_isPart_34 : decode cX8_isPart 34 = .ok (.iconst 0, 1) := by decide +kernel
theorem dX8_isPart_35 : decode cX8_isPart 35 = .ok (.ireturn, 1) := by decide +kernel
theorem dX8_raise_0 : decode cX8_raise 0 = .ok (.aload_n 0, 1) := by decide +kernel
theorem dX8_raise_1 : decode cX8_raise 1 = .ok (.iload_n 1, 1) := by decide +kernel
theorem dX8_raise_2 : decode cX8_raise 2 = .ok (.iload_n 2, 1) := by decide +kernel
theorem dX8_raise_3 : decode cX8_raise 3 = .ok (.invokevirtual 104, 3) := by decide +kernel
theorem dX8_raise_6 : decode cX8_raise 6 = .ok (.ifCond .ne 5, 3) := by decide +kernel
theorem dX8_raise_9 : decode cX8_raise 9 = .ok (.iconst (-1), 1) := by decide +kernel
theorem dX8_raise_10 : decode cX8_raise 10 = .ok (.ireturn, 1) := by decide +kernel
theorem dX8_raise_11 : decode cX8_raise 11 = .ok (.aload_n 0, 1) := by decide +kernel
theorem dX8_raise_12 : decode cX8_raise 12 = .ok (.iload_n 1, 1) := by decide +kernel
theorem dX8_raise_13 : decode cX8_raise 13 = .ok (.iload_n 2, 1) := by decide +kernel
theorem dX8_raise_14 : decode cX8_raise 14 = .ok (.iload_n 3, 1) := by decide +kernel
theorem dX8_raise_15 : decode cX8_raise 15 = .ok (.iload 4, 2) := by decide +kernel
theorem dX8_raise_17 : decode cX8_raise 17 = .ok (.invokevirtual 108, 3) := by decide +kernel
theorem dX8_raise_20 : decode cX8_raise 20 = .ok (.ifCond .eq 15, 3) := by decide +kernel
theorem dX8_raise_23 : decode cX8_raise 23 = .ok (.iload 5, 2) := by decide +kernel
theorem dX8_raise_25 : decode cX8_raise 25 = .ok (.bipush (-99), 2) := by decide +kernel
theorem dX8_raise_27 : decode cX8_raise 27 = .ok (.bipush 99, 2) := by decide +kernel
theorem dX8_raise_29 : decode cX8_raise 29 = .ok (.invokestatic 96, 3) := by decide +kernel
theorem dX8_raise_32 : decode cX8_raise 32 = .ok (.ifCond .ne 6, 3) := by decide +kernel
theorem dX8_raise_35 : decode cX8_raise 35 = .ok (.bipush (-2), 2) := by decide +kernel
theorem dX8_raise_37 : decode cX8_raise 37 = .ok (.ireturn, 1) := by decide +kernel
theorem dX8_raise_38 : decode cX8_raise 38 = .ok (.iconst 0, 1) := by decide +kernel
theorem dX8_raise_39 : decode cX8_raise 39 = .ok (.istore 6, 2) := by decide +kernel
theorem dX8_raise_41 : decode cX8_raise 41 = .ok (.iload_n 2, 1) := by decide +kernel
theorem dX8_raise_42 : decode cX8_raise 42 = .ok (.istore 7, 2) := by decide +kernel
theorem dX8_raise_44 : decode cX8_raise 44 = .ok (.iload 7, 2) := by decide +kernel
theorem dX8_raise_46 : decode cX8_raise 46 = .ok (.iload_n 2, 1) := by decide +kernel
theorem dX8_raise_47 : decode cX8_raise 47 = .ok (.iload 4, 2) := by decide +kernel
theorem dX8_raise_49 : decode cX8_raise 49 = .ok (.iadd, 1) := by decide +kernel
theorem dX8_raise_50 : decode cX8_raise 50 = .ok (.if_icmp .ge 107, 3) := by decide +kernel
theorem dX8_raise_53 : decode cX8_raise 53 = .ok (.iload_n 1, 1) := by decide +kernel
theorem dX8_raise_54 : decode cX8_raise 54 = .ok (.istore 8, 2) := by decide +kernel
theorem dX8_raise_56 : decode cX8_raise 56 = .ok (.iload 8, 2) := by decide +kernel
theorem dX8_raise_58 : decode cX8_raise 58 = .ok (.iload_n 1, 1) := by decide +kernel
theorem dX8_raise_59 : decode cX8_raise 59 = .ok (.iload_n 3, 1) := by decide +kernel
theorem dX8_raise_60 : decode cX8_raise 60 = .ok (.iadd, 1) := by decide +kernel
theorem dX8_raise_61 : decode cX8_raise 61 = .ok (.if_icmp .ge 90, 3) := by decide +kernel
theorem dX8_raise_64 : decode cX8_raise 64 = .ok (.aload_n 0, 1) := by decide +kernel
theorem dX8_raise_65 : decode cX8_raise 65 = .ok (.getfield 16, 3) := by decide +kernel
theorem dX8_raise_68 : decode cX8_raise 68 = .ok (.bipush 16, 2) := by decide +kernel
theorem dX8_raise_70 : decode cX8_raise 70 = .ok (.iload 7, 2) := by decide +kernel
theorem dX8_raise_72 : decode cX8_raise 72 = .ok (.imul, 1) := by decide +kernel
theorem dX8_raise_73 : decode cX8_raise 73 = .ok (.iload 8, 2) := by decide +kernel
theorem dX8_raise_75 : decode cX8_raise 75 = .ok (.iadd, 1) := by decide +kernel
theorem dX8_raise_76 : decode cX8_raise 76 = .ok (.iaload, 1) := by decide +kernel
theorem dX8_raise_77 : decode cX8_raise 77 = .ok (.istore 9, 2) := by decide +kernel
theorem dX8_raise_79 : decode cX8_raise 79 = .ok (.iload 9, 2) := by decide +kernel
theorem dX8_raise_81 : decode cX8_raise 81 = .ok (.iload 5, 2) := by decide +kernel
theorem dX8_raise_83 : decode cX8_raise 83 = .ok (.iadd, 1) := by decide +kernel
theorem dX8_raise_84 : decode cX8_raise 84 = .ok (.ifCond .ge 7, 3) := by decide +kernel
theorem dX8_raise_87 : decode cX8_raise 87 = .ok (.iconst 0, 1) := by decide +kernel
theorem dX8_raise_88 : decode cX8_raise 88 = .ok (.goto 23, 3) := by decide +kernel
theorem dX8_raise_91 : decode cX8_raise 91 = .ok (.iload 9, 2) := by decide +kernel
theorem dX8_raise_93 : decode cX8_raise 93 = .ok (.iload 5, 2) := by decide +kernel
theorem dX8_raise_95 : decode cX8_raise 95 = .ok (.iadd, 1) := by decide +kernel
theorem dX8_raise_96 : decode cX8_raise 96 = .ok (.bipush 99, 2) := by decide +kernel
theorem dX8_raise_98 : decode cX8_raise 98 = .ok (.if_icmp .le 8, 3) := by decide +kernel
theorem dX8_raise_101 : decode cX8_raise 101 = .ok (.bipush 99, 2) := by decide +kernel
theorem dX8_raise_103 : decode cX8_raise 103 = .ok (.goto 8, 3) := by decide +kernel
theorem dX8_raise_106 : decode cX8_raise 106 = .ok (.iload 9, 2) := by decide +kernel
theorem dX8_raise_108 : decode cX8_raise 108 = .ok (.iload 5, 2) := by decide +kernel
theorem dX8_raise_110 : decode cX8_raise 110 = .ok (.iadd, 1) := by decide +kernel
theorem dX8_raise_111 : decode cX8_raise 111 = .ok (.istore 10, 2) := by decide +kernel
theorem dX8_raise_113 : decode cX8_raise 113 = .ok (.aload_n 0, 1) := by decide +kernel
theorem dX8_raise_114 : decode cX8_raise 114 = .ok (.getfield 16, 3) := by decide +kernel
theorem dX8_raise_117 : decode cX8_raise 117 = .ok (.bipush 16, 2) := by decide +kernel
theorem dX8_raise_119 : decode cX8_raise 119 = .ok (.iload 7, 2) := by decide +kernel
theorem dX8_raise_121 : decode cX8_raise 121 = .ok (.imul, 1) := by decide +kernel
theorem dX8_raise_122 : decode cX8_raise 122 = .ok (.iload 8, 2) := by decide +kernel
theorem dX8_raise_124 : decode cX8_raise 124 = .ok (.iadd, 1) := by decide +kernel
theorem dX8_raise_125 : decode cX8_raise 125 = .ok (.iload 10, 2) := by decide +kernel
theorem dX8_raise_127 : decode cX8_raise 127 = .ok (.iastore, 1) := by decide +kernel
theorem dX8_raise_128 : decode cX8_raise 128 = .ok (.iload 6, 2) := by decide +kernel
theorem dX8_raise_130 : decode cX8_raise 130 = .ok (.iload 10, 2) := by decide +kernel
theorem dX8_raise_132 : decode cX8_raise 132 = .ok (.iload 9, 2) := by decide +kernel
theorem dX8_raise_134 : decode cX8_raise 134 = .ok (.if_icmp .ne 7, 3) := by decide +kernel
theorem dX8_raise_137 : decode cX8_raise 137 = .ok (.iconst 0, 1) := by decide +kernel
theorem dX8_raise_138 : decode cX8_raise 138 = .ok (.goto 4, 3) := by decide +kernel
theorem dX8_raise_141 : decode cX8_raise 141 = .ok (.iconst 1, 1) := by decide +kernel
theorem dX8_raise_142 : decode cX8_raise 142 = .ok (.iadd, 1) := by decide +kernel
theorem dX8_raise_143 : decode cX8_raise 143 = .ok (.istore 6, 2) := by decide +kernel
theorem dX8_raise_145 : decode cX8_raise 145 = .ok (.iinc 8 1, 3) := by decide +kernel
theorem dX8_raise_148 : decode cX8_raise 148 = .ok (.goto (-92), 3) := by decide +kernel
theorem dX8_raise_151 : decode cX8_raise 151 = .ok (.iinc 7 1, 3) := by decide +kernel
theorem dX8_raise_154 : decode cX8_raise 154 = .ok (.goto (-110), 3) := by decide +kernel
theorem dX8_raise_157 : decode cX8_raise 157 = .ok (.aload_n 0, 1) := by decide +kernel
theorem dX8_raise_158 : decode cX8_raise 158 = .ok (.iload 6, 2) := by decide +kernel
theorem dX8_raise_160 : decode cX8_raise 160 = .ok (.invokevirtual 100, 3) := by decide +kernel
theorem dX8_raise_163 : decode cX8_raise 163 = .ok (.ireturn, 1) := by decide +kernel
theorem dX8_paste_0 : decode cX8_paste 0 = .ok (.aload_n 0, 1) := by decide +kernel
theorem dX8_paste_1 : decode cX8_paste 1 = .ok (.iload_n 1, 1) := by decide +kernel
theorem dX8_paste_2 : decode cX8_paste 2 = .ok (.iload_n 2, 1) := by decide +kernel
theorem dX8_paste_3 : decode cX8_paste 3 = .ok (.invokevirtual 104, 3) := by decide +kernel
theorem dX8_paste_6 : decode cX8_paste 6 = .ok (.ifCond .eq 14, 3) := by decide +kernel
theorem dX8_paste_9 : decode cX8_paste 9 = .ok (.aload_n 0, 1) := by decide +kernel
theorem dX8_paste_10 : decode cX8_paste 10 = .ok (.iload 5, 2) := by decide +kernel
theorem dX8_paste_12 : decode cX8_paste 12 = .ok (.iload 6, 2) := by decide +kernel
theorem dX8_paste_14 : decode cX8_paste 14 = .ok (.invokevirtual 104, 3) := by decide +kernel
theorem dX8_paste_17 : decode cX8_paste 17 = .ok (.ifCond .ne 5, 3) := by decide +kernel
theorem dX8_paste_20 : decode cX8_paste 20 = .ok (.iconst (-1), 1) := by decide +kernel
theorem dX8_paste_21 : decode cX8_paste 21 = .ok (.ireturn, 1) := by decide +kernel
theorem dX8_paste_22 : decode cX8_paste 22 = .ok (.aload_n 0, 1) := by decide +kernel
theorem dX8_paste_23 : decode cX8_paste 23 = .ok (.iload_n 1, 1) := by decide +kernel
theorem dX8_paste_24 : decode cX8_paste 24 = .ok (.iload_n 2, 1) := by decide +kernel
theorem dX8_paste_25 : decode cX8_paste 25 = .ok (.iload_n 3, 1) := by decide +kernel
theorem dX8_paste_26 : decode cX8_paste 26 = .ok (.iload 4, 2) := by decide +kernel
theorem dX8_paste_28 : decode cX8_paste 28 = .ok (.invokevirtual 108, 3) := by decide +kernel
theorem dX8_paste_31 : decode cX8_paste 31 = .ok (.ifCond .eq 17, 3) := by decide +kernel
theorem dX8_paste_34 : decode cX8_paste 34 = .ok (.aload_n 0, 1) := by decide +kernel
theorem dX8_paste_35 : decode cX8_paste 35 = .ok (.iload 5, 2) := by decide +kernel
theorem dX8_paste_37 : decode cX8_paste 37 = .ok (.iload 6, 2) := by decide +kernel
theorem dX8_paste_39 : decode cX8_paste 39 = .ok (.iload_n 3, 1) := by decide +kernel
theorem dX8_paste_40 : decode cX8_paste 40 = .ok (.iload 4, 2) := by decide +kernel
theorem dX8_paste_42 : decode cX8_paste 42 = .ok (.invokevirtual 108, 3) := by decide +kernel
theorem dX8_paste_45 : decode cX8_paste 45 = .ok (.ifCond .ne 6, 3) := by decide +kernel
theorem dX8_paste_48 : decode cX8_paste 48 = .ok (.bipush (-2), 2) := by decide +kernel
theorem dX8_paste_50 : decode cX8_paste 50 = .ok (.ireturn, 1) := by decide +kernel
theorem dX8_paste_51 : decode cX8_paste 51 = .ok (.iconst 0, 1) := by decide +kernel
theorem dX8_paste_52 : decode cX8_paste 52 = .ok (.istore 7, 2) := by decide +kernel
theorem dX8_paste_54 : decode cX8_paste 54 = .ok (.iload 7, 2) := by decide +kernel
theorem dX8_paste_56 : decode cX8_paste 56 = .ok (.sipush 256, 3) := by decide +kernel
theorem dX8_paste_59 : decode cX8_paste 59 = .ok (.if_icmp .ge 23, 3) := by decide +kernel
theorem dX8_paste_62 : decode cX8_paste 62 = .ok (.aload_n 0, 1) := by decide +kernel
theorem dX8_paste_63 : decode cX8_paste 63 = .ok (.getfield 29, 3) := by decide +kernel
theorem dX8_paste_66 : decode cX8_paste 66 = .ok (.iload 7, 2) := by decide +kernel
theorem dX8_paste_68 : decode cX8_paste 68 = .ok (.aload_n 0, 1) := by decide +kernel
theorem dX8_paste_69 : decode cX8_paste 69 = .ok (.getfield 16, 3) := by decide +kernel
theorem dX8_paste_72 : decode cX8_paste 72 = .ok (.iload 7, 2) := by decide +kernel
theorem dX8_paste_74 : decode cX8_paste 74 = .ok (.iaload, 1) := by decide +kernel
theorem dX8_paste_75 : decode cX8_paste 75 = .ok (.iastore, 1) := by decide +kernel
theorem dX8_paste_76 : decode cX8_paste 76 = .ok (.iinc 7 1, 3) := by decide +kernel
theorem dX8_paste_79 : decode cX8_paste 79 = .ok (.goto (-25), 3) := by decide +kernel
theorem dX8_paste_82 : decode cX8_paste 82 = .ok (.iconst 0, 1) := by decide +kernel
theorem dX8_paste_83 : decode cX8_paste 83 = .ok (.istore 7, 2) := by decide +kernel
theorem dX8_paste_85 : decode cX8_paste 85 = .ok (.iconst 0, 1) := by decide +kernel
theorem dX8_paste_86 : decode cX8_paste 86 = .ok (.istore 8, 2) := by decide +kernel
theorem dX8_paste_88 : decode cX8_paste 88 = .ok (.iload 8, 2) := by decide +kernel
theorem dX8_paste_90 : decode cX8_paste 90 = .ok (.iload 4, 2) := by decide +kernel
theorem dX8_paste_92 : decode cX8_paste 92 = .ok (.if_icmp .ge 90, 3) := by decide +kernel
theorem dX8_paste_95 : decode cX8_paste 95 = .ok (.iconst 0, 1) := by decide +kernel
theorem dX8_paste_96 : decode cX8_paste 96 = .ok (.istore 9, 2) := by decide +kernel
theorem dX8_paste_98 : decode cX8_paste 98 = .ok (.iload 9, 2) := by decide +kernel
theorem dX8_paste_100 : decode cX8_paste 100 = .ok (.iload_n 3, 1) := by decide +kernel
theorem dX8_paste_101 : decode cX8_paste 101 = .ok (.if_icmp .ge 75, 3) := by decide +kernel
theorem dX8_paste_104 : decode cX8_paste 104 = .ok (.bipush 16, 2) := by decide +kernel
theorem dX8_paste_106 : decode cX8_paste 106 = .ok (.iload 6, 2) := by decide +kernel
theorem dX8_paste_108 : decode cX8_paste 108 = .ok (.iload 8, 2) := by decide +kernel
theorem dX8_paste_110 : decode cX8_paste 110 = .ok (.iadd, 1) := by decide +kernel
theorem dX8_paste_111 : decode cX8_paste 111 = .ok (.imul, 1) := by decide +kernel
theorem dX8_paste_112 : decode cX8_paste 112 = .ok (.iload 5, 2) := by decide +kernel
theorem dX8_paste_114 : decode cX8_paste 114 = .ok (.iadd, 1) := by decide +kernel
theorem dX8_paste_115 : decode cX8_paste 115 = .ok (.iload 9, 2) := by decide +kernel
theorem dX8_paste_117 : decode cX8_paste 117 = .ok (.iadd, 1) := by decide +kernel
theorem dX8_paste_118 : decode cX8_paste 118 = .ok (.istore 10, 2) := by decide +kernel
theorem dX8_paste_120 : decode cX8_paste 120 = .ok (.aload_n 0, 1) := by decide +kernel
theorem dX8_paste_121 : decode cX8_paste 121 = .ok (.getfield 29, 3) := by decide +kernel
theorem dX8_paste_124 : decode cX8_paste 124 = .ok (.bipush 16, 2) := by decide +kernel
theorem dX8_paste_126 : decode cX8_paste 126 = .ok (.iload_n 2, 1) := by decide +kernel
theorem dX8_paste_127 : decode cX8_paste 127 = .ok (.iload 8, 2) := by decide +kernel
theorem dX8_paste_129 : decode cX8_paste 129 = .ok (.iadd, 1) := by decide +kernel
theorem dX8_paste_130 : decode cX8_paste 130 = .ok (.imul, 1) := by decide +kernel
theorem dX8_paste_131 : decode cX8_paste 131 = .ok (.iload_n 1, 1) := by decide +kernel
theorem dX8_paste_132 : decode cX8_paste 132 = .ok (.iadd, 1) := by decide +kernel
theorem dX8_paste_133 : decode cX8_paste 133 = .ok (.iload 9, 2) := by decide +kernel
theorem dX8_paste_135 : decode cX8_paste 135 = .ok (.iadd, 1) := by decide +kernel
theorem dX8_paste_136 : decode cX8_paste 136 = .ok (.iaload, 1) := by decide +kernel
theorem dX8_paste_137 : decode cX8_paste 137 = .ok (.istore 11, 2) := by decide +kernel
theorem dX8_paste_139 : decode cX8_paste 139 = .ok (.iload 7, 2) := by decide +kernel
theorem dX8_paste_141 : decode cX8_paste 141 = .ok (.aload_n 0, 1) := by decide +kernel
theorem dX8_paste_142 : decode cX8_paste 142 = .ok (.getfield 16, 3) := by decide +kernel
theorem dX8_paste_145 : decode cX8_paste 145 = .ok (.iload 10, 2) := by decide +kernel
theorem dX8_paste_147 : decode cX8_paste 147 = .ok (.iaload, 1) := by decide +kernel
theorem dX8_paste_148 : decode cX8_paste 148 = .ok (.iload 11, 2) := by decide +kernel
theorem dX8_paste_150 : decode cX8_paste 150 = .ok (.if_icmp .ne 7, 3) := by decide +kernel
theorem dX8_paste_153 : decode cX8_paste 153 = .ok (.iconst 0, 1) := by decide +kernel
theorem dX8_paste_154 : decode cX8_paste 154 = .ok (.goto 4, 3) := by decide +kernel
theorem dX8_paste_157 : decode cX8_paste 157 = .ok (.iconst 1, 1) := by decide +kernel
theorem dX8_paste_158 : decode cX8_paste 158 = .ok (.iadd, 1) := by decide +kernel
theorem dX8_paste_159 : decode cX8_paste 159 = .ok (.istore 7, 2) := by decide +kernel
theorem dX8_paste_161 : decode cX8_paste 161 = .ok (.aload_n 0, 1) := by decide +kernel
theorem dX8_paste_162 : decode cX8_paste 162 = .ok (.getfield 16, 3) := by decide +kernel
theorem dX8_paste_165 : decode cX8_paste 165 = .ok (.iload 10, 2) := by decide +kernel
theorem dX8_paste_167 : decode cX8_paste 167 = .ok (.iload 11, 2) := by decide +kernel
theorem dX8_paste_169 : decode cX8_paste 169 = .ok (.iastore, 1) := by decide +kernel
theorem dX8_paste_170 : decode cX8_paste 170 = .ok (.iinc 9 1, 3) := by decide +kernel
theorem dX8_paste_173 : decode cX8_paste 173 = .ok (.goto (-75), 3) := by decide +kernel
theorem dX8_paste_176 : decode cX8_paste 176 = .ok (.iinc 8 1, 3) := by decide +kernel
theorem dX8_paste_179 : decode cX8_paste 179 = .ok (.goto (-91), 3) := by decide +kernel
theorem dX8_paste_182 : decode cX8_paste 182 = .ok (.aload_n 0, 1) := by decide +kernel
theorem dX8_paste_183 : decode cX8_paste 183 = .ok (.iload 7, 2) := by decide +kernel
theorem dX8_paste_185 : decode cX8_paste 185 = .ok (.invokevirtual 100, 3) := by decide +kernel
theorem dX8_paste_188 : decode cX8_paste 188 = .ok (.ireturn, 1) := by decide +kernel
theorem dX8_isSetting_0 : decode cX8_isSetting 0 = .ok (.iload_n 1, 1) := by decide +kernel
theorem dX8_isSetting_1 : decode cX8_isSetting 1 = .ok (.iconst 0, 1) := by decide +kernel
theorem dX8_isSetting_2 : decode cX8_isSetting 2 = .ok (.bipush 7, 2) := by decide +kernel
theorem dX8_isSetting_4 : decode cX8_isSetting 4 = .ok (.invokestatic 96, 3) := by decide +kernel
theorem dX8_isSetting_7 : decode cX8_isSetting 7 = .ok (.ifCond .eq 26, 3) := by decide +kernel
theorem dX8_isSetting_10 : decode cX8_isSetting 10 = .ok (.iload_n 2, 1) := by decide +kernel
theorem dX8_isSetting_11 : decode cX8_isSetting 11 = .ok (.aload_n 0, 1) := by decide +kernel
theorem dX8_isSetting_12 : decode cX8_isSetting 12 = .ok (.getfield 23, 3) := by decide +kernel
theorem dX8_isSetting_15 : decode cX8_isSetting 15 = .ok (.iload_n 1, 1) := by decide +kernel
theorem dX8_isSetting_16 : decode cX8_isSetting 16 = .ok (.iaload, 1) := by decide +kernel
theorem dX8_isSetting_17 : decode cX8_isSetting 17 = .ok (.aload_n 0, 1) := by decide +kernel
theorem dX8_isSetting_18 : decode cX8_isSetting 18 = .ok (.getfield 26, 3) := by decide +kernel
theorem dX8_isSetting_21 : decode cX8_isSetting 21 = .ok (.iload_n 1, 1) := by decide +kernel
theorem dX8_isSetting_22 : decode cX8_isSetting 22 = .ok (.iaload, 1) := by decide +kernel
theorem dX8_isSetting_23 : decode cX8_isSetting 23 = .ok (.invokestatic 96, 3) := by decide +kernel
theorem dX8_isSetting_26 : decode cX8_isSetting 26 = .ok (.ifCond .eq 7, 3) := by decide +kernel
theorem dX8_isSetting_29 : decode cX8_isSetting 29 = .ok (.iconst 1, 1) := by decide +kernel
theorem dX8_isSetting_30 : decode cX8_isSetting 30 = .ok (.goto 4, 3) := by decide +kernel
theorem dX8_isSetting_33 : decode cX8_isSetting 33 = .ok (.iconst 0, 1) := by decide +kernel
theorem dX8_isSetting_34 : decode cX8_isSetting 34 = .ok (.ireturn, 1) := by decide +kernel
theorem dX8_tune_0 : decode cX8_tune 0 = .ok (.aload_n 0, 1) := by decide +kernel
theorem dX8_tune_1 : decode cX8_tune 1 = .ok (.iload_n 1, 1) := by decide +kernel
theorem dX8_tune_2 : decode cX8_tune 2 = .ok (.iload_n 2, 1) := by decide +kernel
theorem dX8_tune_3 : decode cX8_tune 3 = .ok (.invokevirtual 112, 3) := by decide +kernel
theorem dX8_tune_6 : decode cX8_tune 6 = .ok (.ifCond .ne 6, 3) := by decide +kernel
theorem dX8_tune_9 : decode cX8_tune 9 = .ok (.bipush (-2), 2) := by decide +kernel
theorem dX8_tune_11 : decode cX8_tune 11 = .ok (.ireturn, 1) := by decide +kernel
theorem dX8_tune_12 : decode cX8_tune 12 = .ok (.aload_n 0, 1) := by decide +kernel
theorem dX8_tune_13 : decode cX8_tune 13 = .ok (.getfield 20, 3) := by decide +kernel
theorem dX8_tune_16 : decode cX8_tune 16 = .ok (.iload_n 1, 1) := by decide +kernel
theorem dX8_tune_17 : decode cX8_tune 17 = .ok (.iaload, 1) := by decide +kernel
theorem dX8_tune_18 : decode cX8_tune 18 = .ok (.istore_n 3, 1) := by decide +kernel
theorem dX8_tune_19 : decode cX8_tune 19 = .ok (.aload_n 0, 1) := by decide +kernel
theorem dX8_tune_20 : decode cX8_tune 20 = .ok (.getfield 20, 3) := by decide +kernel
theorem dX8_tune_23 : decode cX8_tune 23 = .ok (.iload_n 1, 1) := by decide +kernel
theorem dX8_tune_24 : decode cX8_tune 24 = .ok (.iload_n 2, 1) := by decide +kernel
theorem dX8_tune_25 : decode cX8_tune 25 = .ok (.iastore, 1) := by decide +kernel
theorem dX8_tune_26 : decode cX8_tune 26 = .ok (.aload_n 0, 1) := by decide +kernel
theorem dX8_tune_27 : decode cX8_tune 27 = .ok (.iload_n 3, 1) := by decide +kernel
theorem dX8_tune_28 : decode cX8_tune 28 = .ok (.invokevirtual 100, 3) := by decide +kernel
theorem dX8_tune_31 : decode cX8_tune 31 = .ok (.ireturn, 1) := by decide +kernel
theorem dX8_numbers_0 : decode cX8_numbers 0 = .ok (.aload_n 0, 1) := by decide +kernel
theorem dX8_numbers_1 : decode cX8_numbers 1 = .ok (.getfield 20, 3) := by decide +kernel
theorem dX8_numbers_4 : decode cX8_numbers 4 = .ok (.iconst 0, 1) := by decide +kernel
theorem dX8_numbers_5 : decode cX8_numbers 5 = .ok (.iaload, 1) := by decide +kernel
theorem dX8_numbers_6 : decode cX8_numbers 6 = .ok (.aload_n 0, 1) := by decide +kernel
theorem dX8_numbers_7 : decode cX8_numbers 7 = .ok (.getfield 20, 3) := by decide +kernel
theorem dX8_numbers_10 : decode cX8_numbers 10 = .ok (.iconst 0, 1) := by decide +kernel
theorem dX8_numbers_11 : decode cX8_numbers 11 = .ok (.iaload, 1) := by decide +kernel
theorem dX8_numbers_12 : decode cX8_numbers 12 = .ok (.imul, 1) := by decide +kernel
theorem dX8_numbers_13 : decode cX8_numbers 13 = .ok (.ireturn, 1) := by decide +kernel
theorem dX8_greyIn_0 : decode cX8_greyIn 0 = .ok (.aload_n 0, 1) := by decide +kernel
theorem dX8_greyIn_1 : decode cX8_greyIn 1 = .ok (.getfield 16, 3) := by decide +kernel
theorem dX8_greyIn_4 : decode cX8_greyIn 4 = .ok (.aload_n 0, 1) := by decide +kernel
theorem dX8_greyIn_5 : decode cX8_greyIn 5 = .ok (.getfield 32, 3) := by decide +kernel
theorem dX8_greyIn_8 : decode cX8_greyIn 8 = .ok (.iload_n 1, 1) := by decide +kernel
theorem dX8_greyIn_9 : decode cX8_greyIn 9 = .ok (.iaload, 1) := by decide +kernel
theorem dX8_greyIn_10 : decode cX8_greyIn 10 = .ok (.bipush 16, 2) := by decide +kernel
theorem dX8_greyIn_12 : decode cX8_greyIn 12 = .ok (.iload_n 2, 1) := by decide +kernel
theorem dX8_greyIn_13 : decode cX8_greyIn 13 = .ok (.aload_n 0, 1) := by decide +kernel
theorem dX8_greyIn_14 : decode cX8_greyIn 14 = .ok (.getfield 20, 3) := by decide +kernel
theorem dX8_greyIn_17 : decode cX8_greyIn 17 = .ok (.iconst 0, 1) := by decide +kernel
theorem dX8_greyIn_18 : decode cX8_greyIn 18 = .ok (.iaload, 1) := by decide +kernel
theorem dX8_greyIn_19 : decode cX8_greyIn 19 = .ok (.idiv, 1) := by decide +kernel
theorem dX8_greyIn_20 : decode cX8_greyIn 20 = .ok (.imul, 1) := by decide +kernel
theorem dX8_greyIn_21 : decode cX8_greyIn 21 = .ok (.iadd, 1) := by decide +kernel
theorem dX8_greyIn_22 : decode cX8_greyIn 22 = .ok (.iload_n 2, 1) := by decide +kernel
theorem dX8_greyIn_23 : decode cX8_greyIn 23 = .ok (.aload_n 0, 1) := by decide +kernel
theorem dX8_greyIn_24 : decode cX8_greyIn 24 = .ok (.getfield 20, 3) := by decide +kernel
theorem dX8_greyIn_27 : decode cX8_greyIn 27 = .ok (.iconst 0, 1) := by decide +kernel
theorem dX8_greyIn_28 : decode cX8_greyIn 28 = .ok (.iaload, 1) := by decide +kernel
theorem dX8_greyIn_29 : decode cX8_greyIn 29 = .ok (.irem, 1) := by decide +kernel
theorem dX8_greyIn_30 : decode cX8_greyIn 30 = .ok (.iadd, 1) := by decide +kernel
theorem dX8_greyIn_31 : decode cX8_greyIn 31 = .ok (.iaload, 1) := by decide +kernel
theorem dX8_greyIn_32 : decode cX8_greyIn 32 = .ok (.ireturn, 1) := by decide +kernel
theorem dX8_numberIn_0 : decode cX8_numberIn 0 = .ok (.aload_n 0, 1) := by decide +kernel
theorem dX8_numberIn_1 : decode cX8_numberIn 1 = .ok (.iload_n 1, 1) := by decide +kernel
theorem dX8_numberIn_2 : decode cX8_numberIn 2 = .ok (.iload_n 2, 1) := by decide +kernel
theorem dX8_numberIn_3 : decode cX8_numberIn 3 = .ok (.invokevirtual 115, 3) := by decide +kernel
theorem dX8_numberIn_6 : decode cX8_numberIn 6 = .ok (.aload_n 0, 1) := by decide +kernel
theorem dX8_numberIn_7 : decode cX8_numberIn 7 = .ok (.getfield 20, 3) := by decide +kernel
theorem dX8_numberIn_10 : decode cX8_numberIn 10 = .ok (.iconst 2, 1) := by decide +kernel
theorem dX8_numberIn_11 : decode cX8_numberIn 11 = .ok (.iaload, 1) := by decide +kernel
theorem dX8_numberIn_12 : decode cX8_numberIn 12 = .ok (.iconst 1, 1) := by decide +kernel
theorem dX8_numberIn_13 : decode cX8_numberIn 13 = .ok (.if_icmp .ne 12, 3) := by decide +kernel
theorem dX8_numberIn_16 : decode cX8_numberIn 16 = .ok (.aload_n 0, 1) := by decide +kernel
theorem dX8_numberIn_17 : decode cX8_numberIn 17 = .ok (.getfield 35, 3) := by decide +kernel
theorem dX8_numberIn_20 : decode cX8_numberIn 20 = .ok (.iload_n 1, 1) := by decide +kernel
theorem dX8_numberIn_21 : decode cX8_numberIn 21 = .ok (.iaload, 1) := by decide +kernel
theorem dX8_numberIn_22 : decode cX8_numberIn 22 = .ok (.goto 4, 3) := by decide +kernel
theorem dX8_numberIn_25 : decode cX8_numberIn 25 = .ok (.iconst 0, 1) := by decide +kernel
theorem dX8_numberIn_26 : decode cX8_numberIn 26 = .ok (.isub, 1) := by decide +kernel
theorem dX8_numberIn_27 : decode cX8_numberIn 27 = .ok (.istore_n 3, 1) := by decide +kernel
theorem dX8_numberIn_28 : decode cX8_numberIn 28 = .ok (.iload_n 3, 1) := by decide +kernel
theorem dX8_numberIn_29 : decode cX8_numberIn 29 = .ok (.aload_n 0, 1) := by decide +kernel
theorem dX8_numberIn_30 : decode cX8_numberIn 30 = .ok (.getfield 20, 3) := by decide +kernel
theorem dX8_numberIn_33 : decode cX8_numberIn 33 = .ok (.iconst 1, 1) := by decide +kernel
theorem dX8_numberIn_34 : decode cX8_numberIn 34 = .ok (.iaload, 1) := by decide +kernel
theorem dX8_numberIn_35 : decode cX8_numberIn 35 = .ok (.idiv, 1) := by decide +kernel
theorem dX8_numberIn_36 : decode cX8_numberIn 36 = .ok (.ireturn, 1) := by decide +kernel
theorem dX8_isFlat_0 : decode cX8_isFlat 0 = .ok (.aload_n 0, 1) := by decide +kernel
theorem dX8_isFlat_1 : decode cX8_isFlat 1 = .ok (.getfield 38, 3) := by decide +kernel
theorem dX8_isFlat_4 : decode cX8_isFlat 4 = .ok (.iload_n 1, 1) := by decide +kernel
theorem dX8_isFlat_5 : decode cX8_isFlat 5 = .ok (.iaload, 1) := by decide +kernel
theorem dX8_isFlat_6 : decode cX8_isFlat 6 = .ok (.aload_n 0, 1) := by decide +kernel
theorem dX8_isFlat_7 : decode cX8_isFlat 7 = .ok (.getfield 35, 3) := by decide +kernel
theorem dX8_isFlat_10 : decode cX8_isFlat 10 = .ok (.iload_n 1, 1) := by decide +kernel
theorem dX8_isFlat_11 : decode cX8_isFlat 11 = .ok (.iaload, 1) := by decide +kernel
theorem dX8_isFlat_12 : decode cX8_isFlat 12 = .ok (.isub, 1) := by decide +kernel
theorem dX8_isFlat_13 : decode cX8_isFlat 13 = .ok (.aload_n 0, 1) := by decide +kernel
theorem dX8_isFlat_14 : decode cX8_isFlat 14 = .ok (.getfield 20, 3) := by decide +kernel
theorem dX8_isFlat_17 : decode cX8_isFlat 17 = .ok (.iconst 3, 1) := by decide +kernel
theorem dX8_isFlat_18 : decode cX8_isFlat 18 = .ok (.iaload, 1) := by decide +kernel
theorem dX8_isFlat_19 : decode cX8_isFlat 19 = .ok (.if_icmp .gt 7, 3) := by decide +kernel
theorem dX8_isFlat_22 : decode cX8_isFlat 22 = .ok (.iconst 1, 1) := by decide +kernel
theorem dX8_isFlat_23 : decode cX8_isFlat 23 = .ok (.goto 4, 3) := by decide +kernel
theorem dX8_isFlat_26 : decode cX8_isFlat 26 = .ok (.iconst 0, 1) := by decide +kernel
theorem dX8_isFlat_27 : decode cX8_isFlat 27 = .ok (.ireturn, 1) := by decide +kernel
theorem dX8_compared_0 : decode cX8_compared 0 = .ok (.iconst 0, 1) := by decide +kernel
theorem dX8_compared_1 : decode cX8_compared 1 = .ok (.istore_n 3, 1) := by decide +kernel
theorem dX8_compared_2 : decode cX8_compared 2 = .ok (.iload_n 3, 1) := by decide +kernel
theorem dX8_compared_3 : decode cX8_compared 3 = .ok (.aload_n 0, 1) := by decide +kernel
theorem dX8_compared_4 : decode cX8_compared 4 = .ok (.invokevirtual 119, 3) := by decide +kernel
theorem dX8_compared_7 : decode cX8_compared 7 = .ok (.if_icmp .ge 32, 3) := by decide +kernel
theorem dX8_compared_10 : decode cX8_compared 10 = .ok (.aload_n 0, 1) := by decide +kernel
theorem dX8_compared_11 : decode cX8_compared 11 = .ok (.iload_n 1, 1) := by decide +kernel
theorem dX8_compared_12 : decode cX8_compared 12 = .ok (.iload_n 3, 1) := by decide +kernel
theorem dX8_compared_13 : decode cX8_compared 13 = .ok (.invokevirtual 123, 3) := by decide +kernel
theorem dX8_compared_16 : decode cX8_compared 16 = .ok (.aload_n 0, 1) := by decide +kernel
theorem dX8_compared_17 : decode cX8_compared 17 = .ok (.iload_n 2, 1) := by decide +kernel
theorem dX8_compared_18 : decode cX8_compared 18 = .ok (.iload_n 3, 1) := by decide +kernel
theorem dX8_compared_19 : decode cX8_compared 19 = .ok (.invokevirtual 123, 3) := by decide +kernel
theorem dX8_compared_22 : decode cX8_compared 22 = .ok (.isub, 1) := by decide +kernel
theorem dX8_compared_23 : decode cX8_compared 23 = .ok (.istore 4, 2) := by decide +kernel
theorem dX8_compared_25 : decode cX8_compared 25 = .ok (.iload 4, 2) := by decide +kernel
theorem dX8_compared_27 : decode cX8_compared 27 = .ok (.ifCond .eq 6, 3) := by decide +kernel
theorem dX8_compared_30 : decode cX8_compared 30 = .ok (.iload 4, 2) := by decide +kernel
theorem dX8_compared_32 : decode cX8_compared 32 = .ok (.ireturn, 1) := by decide +kernel
theorem dX8_compared_33 : decode cX8_compared 33 = .ok (.iinc 3 1, 3) := by decide +kernel
theorem dX8_compared_36 : decode cX8_compared 36 = .ok (.goto (-34), 3) := by decide +kernel
theorem dX8_compared_39 : decode cX8_compared 39 = .ok (.iconst 0, 1) := by decide +kernel
theorem dX8_compared_40 : decode cX8_compared 40 = .ok (.ireturn, 1) := by decide +kernel
theorem dX8_findSquares_0 : decode cX8_findSquares 0 = .ok (.aload_n 0, 1) := by decide +kernel
theorem dX8_findSquares_1 : decode cX8_findSquares 1 = .ok (.getfield 93, 3) := by decide +kernel
theorem dX8_findSquares_4 : decode cX8_findSquares 4 = .ok (.ifCond .le 4, 3) := by decide +kernel
theorem dX8_findSquares_7 : decode cX8_findSquares 7 = .ok (.return_, 1) := by decide +kernel
theorem dX8_findSquares_8 : decode cX8_findSquares 8 = .ok (.aload_n 0, 1) := by decide +kernel
theorem dX8_findSquares_9 : decode cX8_findSquares 9 = .ok (.iconst 1, 1) := by decide +kernel
theorem dX8_findSquares_10 : decode cX8_findSquares 10 = .ok (.putfield 93, 3) := by decide +kernel
theorem dX8_findSquares_13 : decode cX8_findSquares 13 = .ok (.aload_n 0, 1) := by decide +kernel
theorem dX8_findSquares_14 : decode cX8_findSquares 14 = .ok (.iconst 0, 1) := by decide +kernel
theorem dX8_findSquares_15 : decode cX8_findSquares 15 = .ok (.putfield 126, 3) := by decide +kernel
theorem dX8_findSquares_18 : decode cX8_findSquares 18 = .ok (.iconst 0, 1) := by decide +kernel
theorem dX8_findSquares_19 : decode cX8_findSquares 19 = .ok (.istore_n 1, 1) := by decide +kernel
theorem dX8_findSquares_20 : decode cX8_findSquares 20 = .ok (.iload_n 1, 1) := by decide +kernel
theorem dX8_findSquares_21 : decode cX8_findSquares 21 = .ok (.aload_n 0, 1) := by decide +kernel
theorem dX8_findSquares_22 : decode cX8_findSquares 22 = .ok (.getfield 20, 3) := by decide +kernel
theorem dX8_findSquares_25 : decode cX8_findSquares 25 = .ok (.iconst 0, 1) := by decide +kernel
theorem dX8_findSquares_26 : decode cX8_findSquares 26 = .ok (.iaload, 1) := by decide +kernel
theorem dX8_findSquares_27 : decode cX8_findSquares 27 = .ok (.iadd, 1) := by decide +kernel
theorem dX8_findSquares_28 : decode cX8_findSquares 28 = .ok (.aload_n 0, 1) := by decide +kernel
theorem dX8_findSquares_29 : decode cX8_findSquares 29 = .ok (.getfield 13, 3) := by decide +kernel
theorem dX8_findSquares_32 : decode cX8_findSquares 32 = .ok (.if_icmp .gt 179, 3) := by decide +kernel
theorem dX8_findSquares_35 : decode cX8_findSquares 35 = .ok (.iconst 0, 1) := by decide +kernel
theorem dX8_findSquares_36 : decode cX8_findSquares 36 = .ok (.istore_n 2, 1) := by decide +kernel
theorem dX8_findSquares_37 : decode cX8_findSquares 37 = .ok (.iload_n 2, 1) := by decide +kernel
theorem dX8_findSquares_38 : decode cX8_findSquares 38 = .ok (.aload_n 0, 1) := by decide +kernel
theorem dX8_findSquares_39 : decode cX8_findSquares 39 = .ok (.getfield 20, 3) := by decide +kernel
theorem dX8_findSquares_42 : decode cX8_findSquares 42 = .ok (.iconst 0, 1) := by decide +kernel
theorem dX8_findSquares_43 : decode cX8_findSquares 43 = .ok (.iaload, 1) := by decide +kernel
theorem dX8_findSquares_44 : decode cX8_findSquares 44 = .ok (.iadd, 1) := by decide +kernel
theorem dX8_findSquares_45 : decode cX8_findSquares 45 = .ok (.aload_n 0, 1) := by decide +kernel
theorem dX8_findSquares_46 : decode cX8_findSquares 46 = .ok (.getfield 7, 3) := by decide +kernel
theorem dX8_findSquares_49 : decode cX8_findSquares 49 = .ok (.if_icmp .gt 156, 3) := by decide +kernel
theorem dX8_findSquares_52 : decode cX8_findSquares 52 = .ok (.aload_n 0, 1) := by decide +kernel
theorem dX8_findSquares_53 : decode cX8_findSquares 53 = .ok (.getfield 32, 3) := by decide +kernel
theorem dX8_findSquares_56 : decode cX8_findSquares 56 = .ok (.aload_n 0, 1) := by decide +kernel
theorem dX8_findSquares_57 : decode cX8_findSquares 57 = .ok (.getfield 126, 3) := by decide +kernel
theorem dX8_findSquares_60 : decode cX8_findSquares 60 = .ok (.bipush 16, 2) := by decide +kernel
theorem dX8_findSquares_62 : decode cX8_findSquares 62 = .ok (.iload_n 1, 1) := by decide +kernel
theorem dX8_findSquares_63 : decode cX8_findSquares 63 = .ok (.imul, 1) := by decide +kernel
theorem dX8_findSquares_64 : decode cX8_findSquares 64 = .ok (.iload_n 2, 1) := by decide +kernel
theorem dX8_findSquares_65 : decode cX8_findSquares 65 = .ok (.iadd, 1) := by decide +kernel
theorem dX8_findSquares_66 : decode cX8_findSquares 66 = .ok (.iastore, 1) := by decide +kernel
theorem dX8_findSquares_67 : decode cX8_findSquares 67 = .ok (.aload_n 0, 1) := by decide +kernel
theorem dX8_findSquares_68 : decode cX8_findSquares 68 = .ok (.getfield 35, 3) := by decide +kernel
theorem dX8_findSquares_71 : decode cX8_findSquares 71 = .ok (.aload_n 0, 1) := by decide +kernel
theorem dX8_findSquares_72 : decode cX8_findSquares 72 = .ok (.getfield 126, 3) := by decide +kernel
theorem dX8_findSquares_75 : decode cX8_findSquares 75 = .ok (.bipush 99, 2) := by decide +kernel
theorem dX8_findSquares_77 : decode cX8_findSquares 77 = .ok (.iastore, 1) := by decide +kernel
theorem dX8_findSquares_78 : decode cX8_findSquares 78 = .ok (.aload_n 0, 1) := by decide +kernel
theorem dX8_findSquares_79 : decode cX8_findSquares 79 = .ok (.getfield 38, 3) := by decide +kernel
theorem dX8_findSquares_82 : decode cX8_findSquares 82 = .ok (.aload_n 0, 1) := by decide +kernel
theorem dX8_findSquares_83 : decode cX8_findSquares 83 = .ok (.getfield 126, 3) := by decide +kernel
theorem dX8_findSquares_86 : decode cX8_findSquares 86 = .ok (.iconst 0, 1) := by decide +kernel
theorem dX8_findSquares_87 : decode cX8_findSquares 87 = .ok (.iastore, 1) := by decide +kernel
theorem dX8_findSquares_88 : decode cX8_findSquares 88 = .ok (.iconst 0, 1) := by decide +kernel
theorem dX8_findSquares_89 : decode cX8_findSquares 89 = .ok (.istore_n 3, 1) := by decide +kernel
theorem dX8_findSquares_90 : decode cX8_findSquares 90 = .ok (.iload_n 3, 1) := by decide +kernel
theorem dX8_findSquares_91 : decode cX8_findSquares 91 = .ok (.aload_n 0, 1) := by decide +kernel
theorem dX8_findSquares_92 : decode cX8_findSquares 92 = .ok (.invokevirtual 119, 3) := by decide +kernel
theorem dX8_findSquares_95 : decode cX8_findSquares 95 = .ok (.if_icmp .ge 94, 3) := by decide +kernel
theorem dX8_findSquares_98 : decode cX8_findSquares 98 = .ok (.aload_n 0, 1) := by decide +kernel
theorem dX8_findSquares_99 : decode cX8_findSquares 99 = .ok (.aload_n 0, 1) := by decide +kernel
theorem dX8_findSquares_100 : decode cX8_findSquares 100 = .ok (.getfield 126, 3) := by decide +kernel
theorem dX8_findSquares_103 : decode cX8_findSquares 103 = .ok (.iload_n 3, 1) := by decide +kernel
theorem dX8_findSquares_104 : decode cX8_findSquares 104 = .ok (.invokevirtual 115, 3) := by decide +kernel
theorem dX8_findSquares_107 : decode cX8_findSquares 107 = .ok (.istore 4, 2) := by decide +kernel
theorem dX8_findSquares_109 : decode cX8_findSquares 109 = .ok (.aload_n 0, 1) := by decide +kernel
theorem dX8_findSquares_110 : decode cX8_findSquares 110 = .ok (.getfield 35, 3) := by decide +kernel
theorem dX8_findSquares_113 : decode cX8_findSquares 113 = .ok (.aload_n 0, 1) := by decide +kernel
theorem dX8_findSquares_114 : decode cX8_findSquares 114 = .ok (.getfield 126, 3) := by decide +kernel
theorem dX8_findSquares_117 : decode cX8_findSquares 117 = .ok (.iload 4, 2) := by decide +kernel
theorem dX8_findSquares_119 : decode cX8_findSquares 119 = .ok (.aload_n 0, 1) := by decide +kernel
theorem dX8_findSquares_120 : decode cX8_findSquares 120 = .ok (.getfield 35, 3) := by decide +kernel
theorem dX8_findSquares_123 : decode cX8_findSquares 123 = .ok (.aload_n 0, 1) := by decide +kernel
theorem dX8_findSquares_124 : decode cX8_findSquares 124 = .ok (.getfield 126, 3) := by decide +kernel
theorem dX8_findSquares_127 : decode cX8_findSquares 127 = .ok (.iaload, 1) := by decide +kernel
theorem dX8_findSquares_128 : decode cX8_findSquares 128 = .ok (.if_icmp .ge 8, 3) := by decide +kernel
theorem dX8_findSquares_131 : decode cX8_findSquares 131 = .ok (.iload 4, 2) := by decide +kernel
theorem dX8_findSquares_133 : decode cX8_findSquares 133 = .ok (.goto 12, 3) := by decide +kernel
theorem dX8_findSquares_136 : decode cX8_findSquares 136 = .ok (.aload_n 0, 1) := by decide +kernel
theorem dX8_findSquares_137 : decode cX8_findSquares 137 = .ok (.getfield 35, 3) := by decide +kernel
theorem dX8_findSquares_140 : decode cX8_findSquares 140 = .ok (.aload_n 0, 1) := by decide +kernel
theorem dX8_findSquares_141 : decode cX8_findSquares 141 = .ok (.getfield 126, 3) := by decide +kernel
theorem dX8_findSquares_144 : decode cX8_findSquares 144 = .ok (.iaload, 1) := by decide +kernel
theorem dX8_findSquares_145 : decode cX8_findSquares 145 = .ok (.iastore, 1) := by decide +kernel
theorem dX8_findSquares_146 : decode cX8_findSquares 146 = .ok (.aload_n 0, 1) := by decide +kernel
theorem dX8_findSquares_147 : decode cX8_findSquares 147 = .ok (.getfield 38, 3) := by decide +kernel
theorem dX8_findSquares_150 : decode cX8_findSquares 150 = .ok (.aload_n 0, 1) := by decide +kernel
theorem dX8_findSquares_151 : decode cX8_findSquares 151 = .ok (.getfield 126, 3) := by decide +kernel
theorem dX8_findSquares_154 : decode cX8_findSquares 154 = .ok (.iload 4, 2) := by decide +kernel
theorem dX8_findSquares_156 : decode cX8_findSquares 156 = .ok (.aload_n 0, 1) := by decide +kernel
theorem dX8_findSquares_157 : decode cX8_findSquares 157 = .ok (.getfield 38, 3) := by decide +kernel
theorem dX8_findSquares_160 : decode cX8_findSquares 160 = .ok (.aload_n 0, 1) := by decide +kernel
theorem dX8_findSquares_161 : decode cX8_findSquares 161 = .ok (.getfield 126, 3) := by decide +kernel
theorem dX8_findSquares_164 : decode cX8_findSquares 164 = .ok (.iaload, 1) := by decide +kernel
theorem dX8_findSquares_165 : decode cX8_findSquares 165 = .ok (.if_icmp .le 8, 3) := by decide +kernel
theorem dX8_findSquares_168 : decode cX8_findSquares 168 = .ok (.iload 4, 2) := by decide +kernel
theorem dX8_findSquares_170 : decode cX8_findSquares 170 = .ok (.goto 12, 3) := by decide +kernel
theorem dX8_findSquares_173 : decode cX8_findSquares 173 = .ok (.aload_n 0, 1) := by decide +kernel
theorem dX8_findSquares_174 : decode cX8_findSquares 174 = .ok (.getfield 38, 3) := by decide +kernel
theorem dX8_findSquares_177 : decode cX8_findSquares 177 = .ok (.aload_n 0, 1) := by decide +kernel
theorem dX8_findSquares_178 : decode cX8_findSquares 178 = .ok (.getfield 126, 3) := by decide +kernel
theorem dX8_findSquares_181 : decode cX8_findSquares 181 = .ok (.iaload, 1) := by decide +kernel
theorem dX8_findSquares_182 : decode cX8_findSquares 182 = .ok (.iastore, 1) := by decide +kernel
theorem dX8_findSquares_183 : decode cX8_findSquares 183 = .ok (.iinc 3 1, 3) := by decide +kernel
theorem dX8_findSquares_186 : decode cX8_findSquares 186 = .ok (.goto (-96), 3) := by decide +kernel
theorem dX8_findSquares_189 : decode cX8_findSquares 189 = .ok (.aload_n 0, 1) := by decide +kernel
theorem dX8_findSquares_190 : decode cX8_findSquares 190 = .ok (.dup, 1) := by decide +kernel
theorem dX8_findSquares_191 : decode cX8_findSquares 191 = .ok (.getfield 126, 3) := by decide +kernel
theorem dX8_findSquares_194 : decode cX8_findSquares 194 = .ok (.iconst 1, 1) := by decide +kernel
theorem dX8_findSquares_195 : decode cX8_findSquares 195 = .ok (.iadd, 1) := by decide +kernel
theorem dX8_findSquares_196 : decode cX8_findSquares 196 = .ok (.putfield 126, 3) := by decide +kernel
theorem dX8_findSquares_199 : decode cX8_findSquares 199 = .ok (.iinc 2 1, 3) := by decide +kernel
theorem dX8_findSquares_202 : decode cX8_findSquares 202 = .ok (.goto (-165), 3) := by decide +kernel
theorem dX8_findSquares_205 : decode cX8_findSquares 205 = .ok (.iinc 1 1, 3) := by decide +kernel
theorem dX8_findSquares_208 : decode cX8_findSquares 208 = .ok (.goto (-188), 3) := by decide +kernel
theorem dX8_findSquares_211 : decode cX8_findSquares 211 = .ok (.iconst 0, 1) := by decide +kernel
theorem dX8_findSquares_212 : decode cX8_findSquares 212 = .ok (.istore_n 1, 1) := by decide +kernel
theorem dX8_findSquares_213 : decode cX8_findSquares 213 = .ok (.iload_n 1, 1) := by decide +kernel
theorem dX8_findSquares_214 : decode cX8_findSquares 214 = .ok (.aload_n 0, 1) := by decide +kernel
theorem dX8_findSquares_215 : decode cX8_findSquares 215 = .ok (.getfield 126, 3) := by decide +kernel
theorem dX8_findSquares_218 : decode cX8_findSquares 218 = .ok (.if_icmp .ge 69, 3) := by decide +kernel
theorem dX8_findSquares_221 : decode cX8_findSquares 221 = .ok (.aload_n 0, 1) := by decide +kernel
theorem dX8_findSquares_222 : decode cX8_findSquares 222 = .ok (.getfield 41, 3) := by decide +kernel
theorem dX8_findSquares_225 : decode cX8_findSquares 225 = .ok (.iload_n 1, 1) := by decide +kernel
theorem dX8_findSquares_226 : decode cX8_findSquares 226 = .ok (.iload_n 1, 1) := by decide +kernel
theorem dX8_findSquares_227 : decode cX8_findSquares 227 = .ok (.iastore, 1) := by decide +kernel
theorem dX8_findSquares_228 : decode cX8_findSquares 228 = .ok (.iconst 0, 1) := by decide +kernel
theorem dX8_findSquares_229 : decode cX8_findSquares 229 = .ok (.istore_n 2, 1) := by decide +kernel
theorem dX8_findSquares_230 : decode cX8_findSquares 230 = .ok (.iload_n 2, 1) := by decide +kernel
theorem dX8_findSquares_231 : decode cX8_findSquares 231 = .ok (.iload_n 1, 1) := by decide +kernel
theorem dX8_findSquares_232 : decode cX8_findSquares 232 = .ok (.if_icmp .ge 49, 3) := by decide +kernel
theorem dX8_findSquares_235 : decode cX8_findSquares 235 = .ok (.aload_n 0, 1) := by decide +kernel
theorem dX8_findSquares_236 : decode cX8_findSquares 236 = .ok (.getfield 41, 3) := by decide +kernel
theorem dX8_findSquares_239 : decode cX8_findSquares 239 = .ok (.iload_n 1, 1) := by decide +kernel
theorem dX8_findSquares_240 : decode cX8_findSquares 240 = .ok (.iaload, 1) := by decide +kernel
theorem dX8_findSquares_241 : decode cX8_findSquares 241 = .ok (.iload_n 1, 1) := by decide +kernel
theorem dX8_findSquares_242 : decode cX8_findSquares 242 = .ok (.if_icmp .ne 39, 3) := by decide +kernel
theorem dX8_findSquares_245 : decode cX8_findSquares 245 = .ok (.aload_n 0, 1) := by decide +kernel
theorem dX8_findSquares_246 : decode cX8_findSquares 246 = .ok (.getfield 41, 3) := by decide +kernel
theorem dX8_findSquares_249 : decode cX8_findSquares 249 = .ok (.iload_n 1, 1) := by decide +kernel
theorem dX8_findSquares_250 : decode cX8_findSquares 250 = .ok (.aload_n 0, 1) := by decide +kernel
theorem dX8_findSquares_251 : decode cX8_findSquares 251 = .ok (.getfield 41, 3) := by decide +kernel
theorem dX8_findSquares_254 : decode cX8_findSquares 254 = .ok (.iload_n 2, 1) := by decide +kernel
theorem dX8_findSquares_255 : decode cX8_findSquares 255 = .ok (.iaload, 1) := by decide +kernel
theorem dX8_findSquares_256 : decode cX8_findSquares 256 = .ok (.iload_n 2, 1) := by decide +kernel
theorem dX8_findSquares_257 : decode cX8_findSquares 257 = .ok (.if_icmp .ne 16, 3) := by decide +kernel
theorem dX8_findSquares_260 : decode cX8_findSquares 260 = .ok (.aload_n 0, 1) := by decide +kernel
theorem dX8_findSquares_261 : decode cX8_findSquares 261 = .ok (.iload_n 1, 1) := by decide +kernel
theorem dX8_findSquares_262 : decode cX8_findSquares 262 = .ok (.iload_n 2, 1) := by decide +kernel
theorem dX8_findSquares_263 : decode cX8_findSquares 263 = .ok (.invokevirtual 129, 3) := by decide +kernel
theorem dX8_findSquares_266 : decode cX8_findSquares 266 = .ok (.ifCond .ne 7, 3) := by decide +kernel
theorem dX8_findSquares_269 : decode cX8_findSquares 269 = .ok (.iload_n 2, 1) := by decide +kernel
theorem dX8_findSquares_270 : decode cX8_findSquares 270 = .ok (.goto 4, 3) := by decide +kernel
theorem dX8_findSquares_273 : decode cX8_findSquares 273 = .ok (.iload_n 1, 1) := by decide +kernel
theorem dX8_findSquares_274 : decode cX8_findSquares 274 = .ok (.iastore, 1) := by decide +kernel
theorem dX8_findSquares_275 : decode cX8_findSquares 275 = .ok (.iinc 2 1, 3) := by decide +kernel
theorem dX8_findSquares_278 : decode cX8_findSquares 278 = .ok (.goto (-48), 3) := by decide +kernel
theorem dX8_findSquares_281 : decode cX8_findSquares 281 = .ok (.iinc 1 1, 3) := by decide +kernel
theorem dX8_findSquares_284 : decode cX8_findSquares 284 = .ok (.goto (-71), 3) := by decide +kernel
theorem dX8_findSquares_287 : decode cX8_findSquares 287 = .ok (.return_, 1) := by decide +kernel
theorem dX8_manyLike_0 : decode cX8_manyLike 0 = .ok (.iconst 0, 1) := by decide +kernel
theorem dX8_manyLike_1 : decode cX8_manyLike 1 = .ok (.istore_n 3, 1) := by decide +kernel
theorem dX8_manyLike_2 : decode cX8_manyLike 2 = .ok (.iconst 0, 1) := by decide +kernel
theorem dX8_manyLike_3 : decode cX8_manyLike 3 = .ok (.istore 4, 2) := by decide +kernel
theorem dX8_manyLike_5 : decode cX8_manyLike 5 = .ok (.iload 4, 2) := by decide +kernel
theorem dX8_manyLike_7 : decode cX8_manyLike 7 = .ok (.aload_n 0, 1) := by decide +kernel
theorem dX8_manyLike_8 : decode cX8_manyLike 8 = .ok (.getfield 126, 3) := by decide +kernel
theorem dX8_manyLike_11 : decode cX8_manyLike 11 = .ok (.if_icmp .ge 46, 3) := by decide +kernel
theorem dX8_manyLike_14 : decode cX8_manyLike 14 = .ok (.iload_n 3, 1) := by decide +kernel
theorem dX8_manyLike_15 : decode cX8_manyLike 15 = .ok (.aload_n 0, 1) := by decide +kernel
theorem dX8_manyLike_16 : decode cX8_manyLike 16 = .ok (.getfield 41, 3) := by decide +kernel
theorem dX8_manyLike_19 : decode cX8_manyLike 19 = .ok (.iload 4, 2) := by decide +kernel
theorem dX8_manyLike_21 : decode cX8_manyLike 21 = .ok (.iaload, 1) := by decide +kernel
theorem dX8_manyLike_22 : decode cX8_manyLike 22 = .ok (.aload_n 0, 1) := by decide +kernel
theorem dX8_manyLike_23 : decode cX8_manyLike 23 = .ok (.getfield 41, 3) := by decide +kernel
theorem dX8_manyLike_26 : decode cX8_manyLike 26 = .ok (.iload_n 1, 1) := by decide +kernel
theorem dX8_manyLike_27 : decode cX8_manyLike 27 = .ok (.iaload, 1) := by decide +kernel
theorem dX8_manyLike_28 : decode cX8_manyLike 28 = .ok (.if_icmp .ne 20, 3) := by decide +kernel
theorem dX8_manyLike_31 : decode cX8_manyLike 31 = .ok (.iload_n 2, 1) := by decide +kernel
theorem dX8_manyLike_32 : decode cX8_manyLike 32 = .ok (.ifCond .ne 12, 3) := by decide +kernel
theorem dX8_manyLike_35 : decode cX8_manyLike 35 = .ok (.aload_n 0, 1) := by decide +kernel
theorem dX8_manyLike_36 : decode cX8_manyLike 36 = .ok (.iload 4, 2) := by decide +kernel
theorem dX8_manyLike_38 : decode cX8_manyLike 38 = .ok (.invokevirtual 132, 3) := by decide +kernel
theorem dX8_manyLike_41 : decode cX8_manyLike 41 = .ok (.ifCond .ne 7, 3) := by decide +kernel
theorem dX8_manyLike_44 : decode cX8_manyLike 44 = .ok (.iconst 1, 1) := by decide +kernel
theorem dX8_manyLike_45 : decode cX8_manyLike 45 = .ok (.goto 4, 3) := by decide +kernel
theorem dX8_manyLike_48 : decode cX8_manyLike 48 = .ok (.iconst 0, 1) := by decide +kernel
theorem dX8_manyLike_49 : decode cX8_manyLike 49 = .ok (.iadd, 1) := by decide +kernel
theorem dX8_manyLike_50 : decode cX8_manyLike 50 = .ok (.istore_n 3, 1) := by decide +kernel
theorem dX8_manyLike_51 : decode cX8_manyLike 51 = .ok (.iinc 4 1, 3) := by decide +kernel
theorem dX8_manyLike_54 : decode cX8_manyLike 54 = .ok (.goto (-49), 3) := by decide +kernel
theorem dX8_manyLike_57 : decode cX8_manyLike 57 = .ok (.iload_n 3, 1) := by decide +kernel
theorem dX8_manyLike_58 : decode cX8_manyLike 58 = .ok (.ireturn, 1) := by decide +kernel
theorem dX8_findCrowds_0 : decode cX8_findCrowds 0 = .ok (.iconst 0, 1) := by decide +kernel
theorem dX8_findCrowds_1 : decode cX8_findCrowds 1 = .ok (.istore_n 1, 1) := by decide +kernel
theorem dX8_findCrowds_2 : decode cX8_findCrowds 2 = .ok (.iload_n 1, 1) := by decide +kernel
theorem dX8_findCrowds_3 : decode cX8_findCrowds 3 = .ok (.aload_n 0, 1) := by decide +kernel
theorem dX8_findCrowds_4 : decode cX8_findCrowds 4 = .ok (.getfield 126, 3) := by decide +kernel
theorem dX8_findCrowds_7 : decode cX8_findCrowds 7 = .ok (.if_icmp .ge 43, 3) := by decide +kernel
theorem dX8_findCrowds_10 : decode cX8_findCrowds 10 = .ok (.aload_n 0, 1) := by decide +kernel
theorem dX8_findCrowds_11 : decode cX8_findCrowds 11 = .ok (.getfield 44, 3) := by decide +kernel
theorem dX8_findCrowds_14 : decode cX8_findCrowds 14 = .ok (.iload_n 1, 1) := by decide +kernel
theorem dX8_findCrowds_15 : decode cX8_findCrowds 15 = .ok (.aload_n 0, 1) := by decide +kernel
theorem dX8_findCrowds_16 : decode cX8_findCrowds 16 = .ok (.iload_n 1, 1) := by decide +kernel
theorem dX8_findCrowds_17 : decode cX8_findCrowds 17 = .ok (.invokevirtual 132, 3) := by decide +kernel
theorem dX8_findCrowds_20 : decode cX8_findCrowds 20 = .ok (.ifCond .ne 22, 3) := by decide +kernel
theorem dX8_findCrowds_23 : decode cX8_findCrowds 23 = .ok (.aload_n 0, 1) := by decide +kernel
theorem dX8_findCrowds_24 : decode cX8_findCrowds 24 = .ok (.iload_n 1, 1) := by decide +kernel
theorem dX8_findCrowds_25 : decode cX8_findCrowds 25 = .ok (.iconst 0, 1) := by decide +kernel
theorem dX8_findCrowds_26 : decode cX8_findCrowds 26 = .ok (.invokevirtual 136, 3) := by decide +kernel
theorem dX8_findCrowds_29 : decode cX8_findCrowds 29 = .ok (.aload_n 0, 1) := by decide +kernel
theorem dX8_findCrowds_30 : decode cX8_findCrowds 30 = .ok (.getfield 20, 3) := by decide +kernel
theorem dX8_findCrowds_33 : decode cX8_findCrowds 33 = .ok (.iconst 5, 1) := by decide +kernel
theorem dX8_findCrowds_34 : decode cX8_findCrowds 34 = .ok (.iaload, 1) := by decide +kernel
theorem dX8_findCrowds_35 : decode cX8_findCrowds 35 = .ok (.if_icmp .le 7, 3) := by decide +kernel
theorem dX8_findCrowds_38 : decode cX8_findCrowds 38 = .ok (.iconst 1, 1) := by decide +kernel
theorem dX8_findCrowds_39 : decode cX8_findCrowds 39 = .ok (.goto 4, 3) := by decide +kernel
theorem dX8_findCrowds_42 : decode cX8_findCrowds 42 = .ok (.iconst 0, 1) := by decide +kernel
theorem dX8_findCrowds_43 : decode cX8_findCrowds 43 = .ok (.bastore, 1) := by decide +kernel
theorem dX8_findCrowds_44 : decode cX8_findCrowds 44 = .ok (.iinc 1 1, 3) := by decide +kernel
theorem dX8_findCrowds_47 : decode cX8_findCrowds 47 = .ok (.goto (-45), 3) := by decide +kernel
theorem dX8_findCrowds_50 : decode cX8_findCrowds 50 = .ok (.return_, 1) := by decide +kernel
theorem dX8_squareAt_0 : decode cX8_squareAt 0 = .ok (.aload_n 0, 1) := by decide +kernel
theorem dX8_squareAt_1 : decode cX8_squareAt 1 = .ok (.invokevirtual 140, 3) := by decide +kernel
theorem dX8_squareAt_4 : decode cX8_squareAt 4 = .ok (.iconst 0, 1) := by decide +kernel
theorem dX8_squareAt_5 : decode cX8_squareAt 5 = .ok (.istore_n 3, 1) := by decide +kernel
theorem dX8_squareAt_6 : decode cX8_squareAt 6 = .ok (.iload_n 3, 1) := by decide +kernel
theorem dX8_squareAt_7 : decode cX8_squareAt 7 = .ok (.aload_n 0, 1) := by decide +kernel
theorem dX8_squareAt_8 : decode cX8_squareAt 8 = .ok (.getfield 126, 3) := by decide +kernel
theorem dX8_squareAt_11 : decode cX8_squareAt 11 = .ok (.if_icmp .ge 46, 3) := by decide +kernel
theorem dX8_squareAt_14 : decode cX8_squareAt 14 = .ok (.iload_n 1, 1) := by decide +kernel
theorem dX8_squareAt_15 : decode cX8_squareAt 15 = .ok (.iconst 0, 1) := by decide +kernel
theorem dX8_squareAt_16 : decode cX8_squareAt 16 = .ok (.bipush 15, 2) := by decide +kernel
theorem dX8_squareAt_18 : decode cX8_squareAt 18 = .ok (.invokestatic 96, 3) := by decide +kernel
theorem dX8_squareAt_21 : decode cX8_squareAt 21 = .ok (.ifCond .eq 30, 3) := by decide +kernel
theorem dX8_squareAt_24 : decode cX8_squareAt 24 = .ok (.iload_n 2, 1) := by decide +kernel
theorem dX8_squareAt_25 : decode cX8_squareAt 25 = .ok (.iconst 0, 1) := by decide +kernel
theorem dX8_squareAt_26 : decode cX8_squareAt 26 = .ok (.bipush 15, 2) := by decide +kernel
theorem dX8_squareAt_28 : decode cX8_squareAt 28 = .ok (.invokestatic 96, 3) := by decide +kernel
theorem dX8_squareAt_31 : decode cX8_squareAt 31 = .ok (.ifCond .eq 20, 3) := by decide +kernel
theorem dX8_squareAt_34 : decode cX8_squareAt 34 = .ok (.aload_n 0, 1) := by decide +kernel
theorem dX8_squareAt_35 : decode cX8_squareAt 35 = .ok (.getfield 32, 3) := by decide +kernel
theorem dX8_squareAt_38 : decode cX8_squareAt 38 = .ok (.iload_n 3, 1) := by decide +kernel
theorem dX8_squareAt_39 : decode cX8_squareAt 39 = .ok (.iaload, 1) := by decide +kernel
theorem dX8_squareAt_40 : decode cX8_squareAt 40 = .ok (.bipush 16, 2) := by decide +kernel
theorem dX8_squareAt_42 : decode cX8_squareAt 42 = .ok (.iload_n 2, 1) := by decide +kernel
theorem dX8_squareAt_43 : decode cX8_squareAt 43 = .ok (.imul, 1) := by decide +kernel
theorem dX8_squareAt_44 : decode cX8_squareAt 44 = .ok (.iload_n 1, 1) := by decide +kernel
theorem dX8_squareAt_45 : decode cX8_squareAt 45 = .ok (.iadd, 1) := by decide +kernel
theorem dX8_squareAt_46 : decode cX8_squareAt 46 = .ok (.if_icmp .ne 5, 3) := by decide +kernel
theorem dX8_squareAt_49 : decode cX8_squareAt 49 = .ok (.iload_n 3, 1) := by decide +kernel
theorem dX8_squareAt_50 : decode cX8_squareAt 50 = .ok (.ireturn, 1) := by decide +kernel
theorem dX8_squareAt_51 : decode cX8_squareAt 51 = .ok (.iinc 3 1, 3) := by decide +kernel
theorem dX8_squareAt_54 : decode cX8_squareAt 54 = .ok (.goto (-48), 3) := by decide +kernel
theorem dX8_squareAt_57 : decode cX8_squareAt 57 = .ok (.bipush (-9), 2) := by decide +kernel
theorem dX8_squareAt_59 : decode cX8_squareAt 59 = .ok (.ireturn, 1) := by decide +kernel
theorem dX8_mark_0 : decode cX8_mark 0 = .ok (.aload_n 0, 1) := by decide +kernel
theorem dX8_mark_1 : decode cX8_mark 1 = .ok (.iload_n 1, 1) := by decide +kernel
theorem dX8_mark_2 : decode cX8_mark 2 = .ok (.iload_n 2, 1) := by decide +kernel
theorem dX8_mark_3 : decode cX8_mark 3 = .ok (.invokevirtual 143, 3) := by decide +kernel
theorem dX8_mark_6 : decode cX8_mark 6 = .ok (.istore_n 3, 1) := by decide +kernel
theorem dX8_mark_7 : decode cX8_mark 7 = .ok (.iload_n 3, 1) := by decide +kernel
theorem dX8_mark_8 : decode cX8_mark 8 = .ok (.bipush (-9), 2) := by decide +kernel
theorem dX8_mark_10 : decode cX8_mark 10 = .ok (.if_icmp .ne 5, 3) := by decide +kernel
theorem dX8_mark_13 : decode cX8_mark 13 = .ok (.iconst 0, 1) := by decide +kernel
theorem dX8_mark_14 : decode cX8_mark 14 = .ok (.ireturn, 1) := by decide +kernel
theorem dX8_mark_15 : decode cX8_mark 15 = .ok (.iconst 1, 1) := by decide +kernel
theorem dX8_mark_16 : decode cX8_mark 16 = .ok (.istore 4, 2) := by decide +kernel
theorem dX8_mark_18 : decode cX8_mark 18 = .ok (.iconst 0, 1) := by decide +kernel
theorem dX8_mark_19 : decode cX8_mark 19 = .ok (.istore 5, 2) := by decide +kernel
theorem dX8_mark_21 : decode cX8_mark 21 = .ok (.iload 5, 2) := by decide +kernel
theorem dX8_mark_23 : decode cX8_mark 23 = .ok (.aload_n 0, 1) := by decide +kernel
theorem dX8_mark_24 : decode cX8_mark 24 = .ok (.invokevirtual 119, 3) := by decide +kernel
theorem dX8_mark_27 : decode cX8_mark 27 = .ok (.if_icmp .ge 24, 3) := by decide +kernel
theorem dX8_mark_30 : decode cX8_mark 30 = .ok (.bipush 31, 2) := by decide +kernel
theorem dX8_mark_32 : decode cX8_mark 32 = .ok (.iload 4, 2) := by decide +kernel
theorem dX8_mark_34 : decode cX8_mark 34 = .ok (.imul, 1) := by decide +kernel
theorem dX8_mark_35 : decode cX8_mark 35 = .ok (.aload_n 0, 1) := by decide +kernel
theorem dX8_mark_36 : decode cX8_mark 36 = .ok (.iload_n 3, 1) := by decide +kernel
theorem dX8_mark_37 : decode cX8_mark 37 = .ok (.iload 5, 2) := by decide +kernel
theorem dX8_mark_39 : decode cX8_mark 39 = .ok (.invokevirtual 123, 3) := by decide +kernel
theorem dX8_mark_42 : decode cX8_mark 42 = .ok (.iadd, 1) := by decide +kernel
theorem dX8_mark_43 : decode cX8_mark 43 = .ok (.istore 4, 2) := by decide +kernel
theorem dX8_mark_45 : decode cX8_mark 45 = .ok (.iinc 5 1, 3) := by decide +kernel
theorem dX8_mark_48 : decode cX8_mark 48 = .ok (.goto (-27), 3) := by decide +kernel
theorem dX8_mark_51 : decode cX8_mark 51 = .ok (.iload 4, 2) := by decide +kernel
theorem dX8_mark_53 : decode cX8_mark 53 = .ok (.ireturn, 1) := by decide +kernel
theorem dX8_square_0 : decode cX8_square 0 = .ok (.aload_n 0, 1) := by decide +kernel
theorem dX8_square_1 : decode cX8_square 1 = .ok (.iload_n 1, 1) := by decide +kernel
theorem dX8_square_2 : decode cX8_square 2 = .ok (.iload_n 2, 1) := by decide +kernel
theorem dX8_square_3 : decode cX8_square 3 = .ok (.invokevirtual 143, 3) := by decide +kernel
theorem dX8_square_6 : decode cX8_square 6 = .ok (.istore 4, 2) := by decide +kernel
theorem dX8_square_8 : decode cX8_square 8 = .ok (.iload 4, 2) := by decide +kernel
theorem dX8_square_10 : decode cX8_square 10 = .ok (.bipush (-9), 2) := by decide +kernel
