theorem dX0_init_0 : decode cX0_init 0 = .ok (.aload_n 0, 1) := by decide +kernel
theorem dX0_init_1 : decode cX0_init 1 = .ok (.invokespecial 3, 3) := by decide +kernel
theorem dX0_init_4 : decode cX0_init 4 = .ok (.aload_n 0, 1) := by decide +kernel
theorem dX0_init_5 : decode cX0_init 5 = .ok (.lconst 0, 1) := by decide +kernel
theorem dX0_init_6 : decode cX0_init 6 = .ok (.putfield 9, 3) := by decide +kernel
theorem dX0_init_9 : decode cX0_init 9 = .ok (.aload_n 0, 1) := by decide +kernel
theorem dX0_init_10 : decode cX0_init 10 = .ok (.lconst 1, 1) := by decide +kernel
theorem dX0_init_11 : decode cX0_init 11 = .ok (.putfield 15, 3) := by decide +kernel
theorem dX0_init_14 : decode cX0_init 14 = .ok (.aload_n 0, 1) := by decide +kernel
theorem dX0_init_15 : decode cX0_init 15 = .ok (.bipush 10, 2) := by decide +kernel
theorem dX0_init_17 : decode cX0_init 17 = .ok (.newarray .int, 2) := by decide +kernel
theorem dX0_init_19 : decode cX0_init 19 = .ok (.putfield 18, 3) := by decide +kernel
theorem dX0_init_22 : decode cX0_init 22 = .ok (.aload_n 0, 1) := by decide +kernel
theorem dX0_init_23 : decode cX0_init 23 = .ok (.bipush 10, 2) := by decide +kernel
theorem dX0_init_25 : decode cX0_init 25 = .ok (.newarray .int, 2) := by decide +kernel
theorem dX0_init_27 : decode cX0_init 27 = .ok (.putfield 22, 3) := by decide +kernel
theorem dX0_init_30 : decode cX0_init 30 = .ok (.aload_n 0, 1) := by decide +kernel
theorem dX0_init_31 : decode cX0_init 31 = .ok (.bipush 10, 2) := by decide +kernel
theorem dX0_init_33 : decode cX0_init 33 = .ok (.newarray .int, 2) := by decide +kernel
theorem dX0_init_35 : decode cX0_init 35 = .ok (.putfield 25, 3) := by decide +kernel
theorem dX0_init_38 : decode cX0_init 38 = .ok (.return_, 1) := by decide +kernel
theorem dX0_part_0 : decode cX0_part 0 = .ok (.iload_n 1, 1) := by decide +kernel
theorem dX0_part_1 : decode cX0_part 1 = .ok (.ifCond .eq 10, 3) := by decide +kernel
theorem dX0_part_4 : decode cX0_part 4 = .ok (.aload_n 0, 1) := by decide +kernel
theorem dX0_part_5 : decode cX0_part 5 = .ok (.getfield 15, 3) := by decide +kernel
theorem dX0_part_8 : decode cX0_part 8 = .ok (.goto 7, 3) := by decide +kernel
theorem dX0_part_11 : decode cX0_part 11 = .ok (.aload_n 0, 1) := by decide +kernel
theorem dX0_part_12 : decode cX0_part 12 = .ok (.getfield 9, 3) := by decide +kernel
theorem dX0_part_15 : decode cX0_part 15 = .ok (.lreturn, 1) := by decide +kernel
theorem dX0_reduce_0 : decode cX0_reduce 0 = .ok (.lload_n 1, 1) := by decide +kernel
theorem dX0_reduce_1 : decode cX0_reduce 1 = .ok (.lstore 5, 2) := by decide +kernel
theorem dX0_reduce_3 : decode cX0_reduce 3 = .ok (.lload_n 3, 1) := by decide +kernel
theorem dX0_reduce_4 : decode cX0_reduce 4 = .ok (.lstore 7, 2) := by decide +kernel
theorem dX0_reduce_6 : decode cX0_reduce 6 = .ok (.iconst 0, 1) := by decide +kernel
theorem dX0_reduce_7 : decode cX0_reduce 7 = .ok (.istore 9, 2) := by decide +kernel
theorem dX0_reduce_9 : decode cX0_reduce 9 = .ok (.iload 9, 2) := by decide +kernel
theorem dX0_reduce_11 : decode cX0_reduce 11 = .ok (.sipush 200, 3) := by decide +kernel
theorem dX0_reduce_14 : decode cX0_reduce 14 = .ok (.if_icmp .ge 31, 3) := by decide +kernel
theorem dX0_reduce_17 : decode cX0_reduce 17 = .ok (.lload 7, 2) := by decide +kernel
theorem dX0_reduce_19 : decode cX0_reduce 19 = .ok (.lconst 0, 1) := by decide +kernel
theorem dX0_reduce_20 : decode cX0_reduce 20 = .ok (.lcmp, 1) := by decide +kernel
theorem dX0_reduce_21 : decode cX0_reduce 21 = .ok (.ifCond .eq 24, 3) := by decide +kernel
theorem dX0_reduce_24 : decode cX0_reduce 24 = .ok (.lload 5, 2) := by decide +kernel
theorem dX0_reduce_26 : decode cX0_reduce 26 = .ok (.lload 7, 2) := by decide +kernel
theorem dX0_reduce_28 : decode cX0_reduce 28 = .ok (.lrem, 1) := by decide +kernel
theorem dX0_reduce_29 : decode cX0_reduce 29 = .ok (.lstore 10, 2) := by decide +kernel
theorem dX0_reduce_31 : decode cX0_reduce 31 = .ok (.lload 7, 2) := by decide +kernel
theorem dX0_reduce_33 : decode cX0_reduce 33 = .ok (.lstore 5, 2) := by decide +kernel
theorem dX0_reduce_35 : decode cX0_reduce 35 = .ok (.lload 10, 2) := by decide +kernel
theorem dX0_reduce_37 : decode cX0_reduce 37 = .ok (.lstore 7, 2) := by decide +kernel
theorem dX0_reduce_39 : decode cX0_reduce 39 = .ok (.iinc 9 1, 3) := by decide +kernel
theorem dX0_reduce_42 : decode cX0_reduce 42 = .ok (.goto (-33), 3) := by decide +kernel
theorem dX0_reduce_45 : decode cX0_reduce 45 = .ok (.aload_n 0, 1) := by decide +kernel
theorem dX0_reduce_46 : decode cX0_reduce 46 = .ok (.lload 5, 2) := by decide +kernel
theorem dX0_reduce_48 : decode cX0_reduce 48 = .ok (.lconst 0, 1) := by decide +kernel
theorem dX0_reduce_49 : decode cX0_reduce 49 = .ok (.lcmp, 1) := by decide +kernel
theorem dX0_reduce_50 : decode cX0_reduce 50 = .ok (.ifCond .ne 7, 3) := by decide +kernel
theorem dX0_reduce_53 : decode cX0_reduce 53 = .ok (.lconst 0, 1) := by decide +kernel
theorem dX0_reduce_54 : decode cX0_reduce 54 = .ok (.goto 7, 3) := by decide +kernel
theorem dX0_reduce_57 : decode cX0_reduce 57 = .ok (.lload_n 1, 1) := by decide +kernel
theorem dX0_reduce_58 : decode cX0_reduce 58 = .ok (.lload 5, 2) := by decide +kernel
theorem dX0_reduce_60 : decode cX0_reduce 60 = .ok (.ldiv, 1) := by decide +kernel
theorem dX0_reduce_61 : decode cX0_reduce 61 = .ok (.putfield 9, 3) := by decide +kernel
theorem dX0_reduce_64 : decode cX0_reduce 64 = .ok (.aload_n 0, 1) := by decide +kernel
theorem dX0_reduce_65 : decode cX0_reduce 65 = .ok (.lload 5, 2) := by decide +kernel
theorem dX0_reduce_67 : decode cX0_reduce 67 = .ok (.lconst 0, 1) := by decide +kernel
theorem dX0_reduce_68 : decode cX0_reduce 68 = .ok (.lcmp, 1) := by decide +kernel
theorem dX0_reduce_69 : decode cX0_reduce 69 = .ok (.ifCond .ne 7, 3) := by decide +kernel
theorem dX0_reduce_72 : decode cX0_reduce 72 = .ok (.lconst 1, 1) := by decide +kernel
theorem dX0_reduce_73 : decode cX0_reduce 73 = .ok (.goto 7, 3) := by decide +kernel
theorem dX0_reduce_76 : decode cX0_reduce 76 = .ok (.lload_n 3, 1) := by decide +kernel
theorem dX0_reduce_77 : decode cX0_reduce 77 = .ok (.lload 5, 2) := by decide +kernel
theorem dX0_reduce_79 : decode cX0_reduce 79 = .ok (.ldiv, 1) := by decide +kernel
theorem dX0_reduce_80 : decode cX0_reduce 80 = .ok (.putfield 15, 3) := by decide +kernel
theorem dX0_reduce_83 : decode cX0_reduce 83 = .ok (.return_, 1) := by decide +kernel
theorem dX0_gather_0 : decode cX0_gather 0 = .ok (.aload_n 0, 1) := by decide +kernel
theorem dX0_gather_1 : decode cX0_gather 1 = .ok (.iconst 0, 1) := by decide +kernel
theorem dX0_gather_2 : decode cX0_gather 2 = .ok (.putfield 28, 3) := by decide +kernel
theorem dX0_gather_5 : decode cX0_gather 5 = .ok (.iconst 0, 1) := by decide +kernel
theorem dX0_gather_6 : decode cX0_gather 6 = .ok (.istore_n 3, 1) := by decide +kernel
theorem dX0_gather_7 : decode cX0_gather 7 = .ok (.iload_n 3, 1) := by decide +kernel
theorem dX0_gather_8 : decode cX0_gather 8 = .ok (.aload_n 1, 1) := by decide +kernel
theorem dX0_gather_9 : decode cX0_gather 9 = .ok (.getfield 32, 3) := by decide +kernel
theorem dX0_gather_12 : decode cX0_gather 12 = .ok (.if_icmp .ge 89, 3) := by decide +kernel
theorem dX0_gather_15 : decode cX0_gather 15 = .ok (.iload_n 3, 1) := by decide +kernel
theorem dX0_gather_16 : decode cX0_gather 16 = .ok (.bipush 10, 2) := by decide +kernel
theorem dX0_gather_18 : decode cX0_gather 18 = .ok (.if_icmp .ge 83, 3) := by decide +kernel
theorem dX0_gather_21 : decode cX0_gather 21 = .ok (.aload_n 1, 1) := by decide +kernel
theorem dX0_gather_22 : decode cX0_gather 22 = .ok (.iload_n 3, 1) := by decide +kernel
theorem dX0_gather_23 : decode cX0_gather 23 = .ok (.iload_n 2, 1) := by decide +kernel
theorem dX0_gather_24 : decode cX0_gather 24 = .ok (.invokevirtual 37, 3) := by decide +kernel
theorem dX0_gather_27 : decode cX0_gather 27 = .ok (.ifCond .eq 68, 3) := by decide +kernel
theorem dX0_gather_30 : decode cX0_gather 30 = .ok (.aload_n 0, 1) := by decide +kernel
theorem dX0_gather_31 : decode cX0_gather 31 = .ok (.getfield 28, 3) := by decide +kernel
theorem dX0_gather_34 : decode cX0_gather 34 = .ok (.bipush 10, 2) := by decide +kernel
theorem dX0_gather_36 : decode cX0_gather 36 = .ok (.if_icmp .ge 59, 3) := by decide +kernel
theorem dX0_gather_39 : decode cX0_gather 39 = .ok (.aload_n 0, 1) := by decide +kernel
theorem dX0_gather_40 : decode cX0_gather 40 = .ok (.getfield 18, 3) := by decide +kernel
theorem dX0_gather_43 : decode cX0_gather 43 = .ok (.aload_n 0, 1) := by decide +kernel
theorem dX0_gather_44 : decode cX0_gather 44 = .ok (.getfield 28, 3) := by decide +kernel
theorem dX0_gather_47 : decode cX0_gather 47 = .ok (.iload_n 3, 1) := by decide +kernel
theorem dX0_gather_48 : decode cX0_gather 48 = .ok (.iastore, 1) := by decide +kernel
theorem dX0_gather_49 : decode cX0_gather 49 = .ok (.aload_n 0, 1) := by decide +kernel
theorem dX0_gather_50 : decode cX0_gather 50 = .ok (.getfield 22, 3) := by decide +kernel
theorem dX0_gather_53 : decode cX0_gather 53 = .ok (.aload_n 0, 1) := by decide +kernel
theorem dX0_gather_54 : decode cX0_gather 54 = .ok (.getfield 28, 3) := by decide +kernel
theorem dX0_gather_57 : decode cX0_gather 57 = .ok (.aload_n 1, 1) := by decide +kernel
theorem dX0_gather_58 : decode cX0_gather 58 = .ok (.getfield 41, 3) := by decide +kernel
theorem dX0_gather_61 : decode cX0_gather 61 = .ok (.iload_n 3, 1) := by decide +kernel
theorem dX0_gather_62 : decode cX0_gather 62 = .ok (.iaload, 1) := by decide +kernel
theorem dX0_gather_63 : decode cX0_gather 63 = .ok (.iastore, 1) := by decide +kernel
theorem dX0_gather_64 : decode cX0_gather 64 = .ok (.aload_n 0, 1) := by decide +kernel
theorem dX0_gather_65 : decode cX0_gather 65 = .ok (.getfield 25, 3) := by decide +kernel
theorem dX0_gather_68 : decode cX0_gather 68 = .ok (.aload_n 0, 1) := by decide +kernel
theorem dX0_gather_69 : decode cX0_gather 69 = .ok (.getfield 28, 3) := by decide +kernel
theorem dX0_gather_72 : decode cX0_gather 72 = .ok (.bipush 10, 2) := by decide +kernel
theorem dX0_gather_74 : decode cX0_gather 74 = .ok (.aload_n 1, 1) := by decide +kernel
theorem dX0_gather_75 : decode cX0_gather 75 = .ok (.getfield 42, 3) := by decide +kernel
theorem dX0_gather_78 : decode cX0_gather 78 = .ok (.iload_n 3, 1) := by decide +kernel
theorem dX0_gather_79 : decode cX0_gather 79 = .ok (.iaload, 1) := by decide +kernel
theorem dX0_gather_80 : decode cX0_gather 80 = .ok (.bipush 10, 2) := by decide +kernel
theorem dX0_gather_82 : decode cX0_gather 82 = .ok (.idiv, 1) := by decide +kernel
theorem dX0_gather_83 : decode cX0_gather 83 = .ok (.isub, 1) := by decide +kernel
theorem dX0_gather_84 : decode cX0_gather 84 = .ok (.iastore, 1) := by decide +kernel
theorem dX0_gather_85 : decode cX0_gather 85 = .ok (.aload_n 0, 1) := by decide +kernel
theorem dX0_gather_86 : decode cX0_gather 86 = .ok (.dup, 1) := by decide +kernel
theorem dX0_gather_87 : decode cX0_gather 87 = .ok (.getfield 28, 3) := by decide +kernel
theorem dX0_gather_90 : decode cX0_gather 90 = .ok (.iconst 1, 1) := by decide +kernel
theorem dX0_gather_91 : decode cX0_gather 91 = .ok (.iadd, 1) := by decide +kernel
theorem dX0_gather_92 : decode cX0_gather 92 = .ok (.putfield 28, 3) := by decide +kernel
theorem dX0_gather_95 : decode cX0_gather 95 = .ok (.iinc 3 1, 3) := by decide +kernel
theorem dX0_gather_98 : decode cX0_gather 98 = .ok (.goto (-91), 3) := by decide +kernel
theorem dX0_gather_101 : decode cX0_gather 101 = .ok (.return_, 1) := by decide +kernel
theorem dX0_strengthOf_0 : decode cX0_strengthOf 0 = .ok (.iconst 0, 1) := by decide +kernel
theorem dX0_strengthOf_1 : decode cX0_strengthOf 1 = .ok (.istore_n 2, 1) := by decide +kernel
theorem dX0_strengthOf_2 : decode cX0_strengthOf 2 = .ok (.iconst 0, 1) := by decide +kernel
theorem dX0_strengthOf_3 : decode cX0_strengthOf 3 = .ok (.istore_n 3, 1) := by decide +kernel
theorem dX0_strengthOf_4 : decode cX0_strengthOf 4 = .ok (.iload_n 3, 1) := by decide +kernel
theorem dX0_strengthOf_5 : decode cX0_strengthOf 5 = .ok (.aload_n 0, 1) := by decide +kernel
theorem dX0_strengthOf_6 : decode cX0_strengthOf 6 = .ok (.getfield 28, 3) := by decide +kernel
theorem dX0_strengthOf_9 : decode cX0_strengthOf 9 = .ok (.if_icmp .ge 36, 3) := by decide +kernel
theorem dX0_strengthOf_12 : decode cX0_strengthOf 12 = .ok (.iload_n 3, 1) := by decide +kernel
theorem dX0_strengthOf_13 : decode cX0_strengthOf 13 = .ok (.bipush 10, 2) := by decide +kernel
theorem dX0_strengthOf_15 : decode cX0_strengthOf 15 = .ok (.if_icmp .ge 30, 3) := by decide +kernel
theorem dX0_strengthOf_18 : decode cX0_strengthOf 18 = .ok (.iload_n 2, 1) := by decide +kernel
theorem dX0_strengthOf_19 : decode cX0_strengthOf 19 = .ok (.iload_n 1, 1) := by decide +kernel
theorem dX0_strengthOf_20 : decode cX0_strengthOf 20 = .ok (.iload_n 3, 1) := by decide +kernel
theorem dX0_strengthOf_21 : decode cX0_strengthOf 21 = .ok (.ishr, 1) := by decide +kernel
theorem dX0_strengthOf_22 : decode cX0_strengthOf 22 = .ok (.iconst 1, 1) := by decide +kernel
theorem dX0_strengthOf_23 : decode cX0_strengthOf 23 = .ok (.iand, 1) := by decide +kernel
theorem dX0_strengthOf_24 : decode cX0_strengthOf 24 = .ok (.ifCond .eq 12, 3) := by decide +kernel
theorem dX0_strengthOf_27 : decode cX0_strengthOf 27 = .ok (.aload_n 0, 1) := by decide +kernel
theorem dX0_strengthOf_28 : decode cX0_strengthOf 28 = .ok (.getfield 22, 3) := by decide +kernel
theorem dX0_strengthOf_31 : decode cX0_strengthOf 31 = .ok (.iload_n 3, 1) := by decide +kernel
theorem dX0_strengthOf_32 : decode cX0_strengthOf 32 = .ok (.iaload, 1) := by decide +kernel
theorem dX0_strengthOf_33 : decode cX0_strengthOf 33 = .ok (.goto 4, 3) := by decide +kernel
theorem dX0_strengthOf_36 : decode cX0_strengthOf 36 = .ok (.iconst 0, 1) := by decide +kernel
theorem dX0_strengthOf_37 : decode cX0_strengthOf 37 = .ok (.iadd, 1) := by decide +kernel
theorem dX0_strengthOf_38 : decode cX0_strengthOf 38 = .ok (.istore_n 2, 1) := by decide +kernel
theorem dX0_strengthOf_39 : decode cX0_strengthOf 39 = .ok (.iinc 3 1, 3) := by decide +kernel
theorem dX0_strengthOf_42 : decode cX0_strengthOf 42 = .ok (.goto (-38), 3) := by decide +kernel
theorem dX0_strengthOf_45 : decode cX0_strengthOf 45 = .ok (.iload_n 2, 1) := by decide +kernel
theorem dX0_strengthOf_46 : decode cX0_strengthOf 46 = .ok (.ireturn, 1) := by decide +kernel
theorem dX0_waysToLive_0 : decode cX0_waysToLive 0 = .ok (.lconst 1, 1) := by decide +kernel
theorem dX0_waysToLive_1 : decode cX0_waysToLive 1 = .ok (.lstore_n 2, 1) := by decide +kernel
theorem dX0_waysToLive_2 : decode cX0_waysToLive 2 = .ok (.iconst 0, 1) := by decide +kernel
theorem dX0_waysToLive_3 : decode cX0_waysToLive 3 = .ok (.istore 4, 2) := by decide +kernel
theorem dX0_waysToLive_5 : decode cX0_waysToLive 5 = .ok (.iload 4, 2) := by decide +kernel
theorem dX0_waysToLive_7 : decode cX0_waysToLive 7 = .ok (.aload_n 0, 1) := by decide +kernel
theorem dX0_waysToLive_8 : decode cX0_waysToLive 8 = .ok (.getfield 28, 3) := by decide +kernel
theorem dX0_waysToLive_11 : decode cX0_waysToLive 11 = .ok (.if_icmp .ge 50, 3) := by decide +kernel
theorem dX0_waysToLive_14 : decode cX0_waysToLive 14 = .ok (.iload 4, 2) := by decide +kernel
theorem dX0_waysToLive_16 : decode cX0_waysToLive 16 = .ok (.bipush 10, 2) := by decide +kernel
theorem dX0_waysToLive_18 : decode cX0_waysToLive 18 = .ok (.if_icmp .ge 43, 3) := by decide +kernel
theorem dX0_waysToLive_21 : decode cX0_waysToLive 21 = .ok (.lload_n 2, 1) := by decide +kernel
theorem dX0_waysToLive_22 : decode cX0_waysToLive 22 = .ok (.iload_n 1, 1) := by decide +kernel
theorem dX0_waysToLive_23 : decode cX0_waysToLive 23 = .ok (.iload 4, 2) := by decide +kernel
theorem dX0_waysToLive_25 : decode cX0_waysToLive 25 = .ok (.ishr, 1) := by decide +kernel
theorem dX0_waysToLive_26 : decode cX0_waysToLive 26 = .ok (.iconst 1, 1) := by decide +kernel
theorem dX0_waysToLive_27 : decode cX0_waysToLive 27 = .ok (.iand, 1) := by decide +kernel
theorem dX0_waysToLive_28 : decode cX0_waysToLive 28 = .ok (.ifCond .eq 14, 3) := by decide +kernel
theorem dX0_waysToLive_31 : decode cX0_waysToLive 31 = .ok (.aload_n 0, 1) := by decide +kernel
theorem dX0_waysToLive_32 : decode cX0_waysToLive 32 = .ok (.getfield 25, 3) := by decide +kernel
theorem dX0_waysToLive_35 : decode cX0_waysToLive 35 = .ok (.iload 4, 2) := by decide +kernel
theorem dX0_waysToLive_37 : decode cX0_waysToLive 37 = .ok (.iaload, 1) := by decide +kernel
theorem dX0_waysToLive_38 : decode cX0_waysToLive 38 = .ok (.i2l, 1) := by decide +kernel
theorem dX0_waysToLive_39 : decode cX0_waysToLive 39 = .ok (.goto 14, 3) := by decide +kernel
theorem dX0_waysToLive_42 : decode cX0_waysToLive 42 = .ok (.bipush 10, 2) := by decide +kernel
theorem dX0_waysToLive_44 : decode cX0_waysToLive 44 = .ok (.aload_n 0, 1) := by decide +kernel
theorem dX0_waysToLive_45 : decode cX0_waysToLive 45 = .ok (.getfield 25, 3) := by decide +kernel
theorem dX0_waysToLive_48 : decode cX0_waysToLive 48 = .ok (.iload 4, 2) := by decide +kernel
theorem dX0_waysToLive_50 : decode cX0_waysToLive 50 = .ok (.iaload, 1) := by decide +kernel
theorem dX0_waysToLive_51 : decode cX0_waysToLive 51 = .ok (.isub, 1) := by decide +kernel
theorem dX0_waysToLive_52 : decode cX0_waysToLive 52 = .ok (.i2l, 1) := by decide +kernel
theorem dX0_waysToLive_53 : decode cX0_waysToLive 53 = .ok (.lmul, 1) := by decide +kernel
theorem dX0_waysToLive_54 : decode cX0_waysToLive 54 = .ok (.lstore_n 2, 1) := by decide +kernel
theorem dX0_waysToLive_55 : decode cX0_waysToLive 55 = .ok (.iinc 4 1, 3) := by decide +kernel
theorem dX0_waysToLive_58 : decode cX0_waysToLive 58 = .ok (.goto (-53), 3) := by decide +kernel
theorem dX0_waysToLive_61 : decode cX0_waysToLive 61 = .ok (.lload_n 2, 1) := by decide +kernel
theorem dX0_waysToLive_62 : decode cX0_waysToLive 62 = .ok (.lreturn, 1) := by decide +kernel
theorem dX0_thatTheyLive_0 : decode cX0_thatTheyLive 0 = .ok (.aload_n 1, 1) := by decide +kernel
theorem dX0_thatTheyLive_1 : decode cX0_thatTheyLive 1 = .ok (.ifnull 11, 3) := by decide +kernel
theorem dX0_thatTheyLive_4 : decode cX0_thatTheyLive 4 = .ok (.aload_n 1, 1) := by decide +kernel
theorem dX0_thatTheyLive_5 : decode cX0_thatTheyLive 5 = .ok (.iload_n 3, 1) := by decide +kernel
theorem dX0_thatTheyLive_6 : decode cX0_thatTheyLive 6 = .ok (.invokevirtual 45, 3) := by decide +kernel
theorem dX0_thatTheyLive_9 : decode cX0_thatTheyLive 9 = .ok (.ifCond .ne 4, 3) := by decide +kernel
theorem dX0_thatTheyLive_12 : decode cX0_thatTheyLive 12 = .ok (.return_, 1) := by decide +kernel
theorem dX0_thatTheyLive_13 : decode cX0_thatTheyLive 13 = .ok (.aload_n 0, 1) := by decide +kernel
theorem dX0_thatTheyLive_14 : decode cX0_thatTheyLive 14 = .ok (.aload_n 1, 1) := by decide +kernel
theorem dX0_thatTheyLive_15 : decode cX0_thatTheyLive 15 = .ok (.iload_n 2, 1) := by decide +kernel
theorem dX0_thatTheyLive_16 : decode cX0_thatTheyLive 16 = .ok (.invokevirtual 49, 3) := by decide +kernel
theorem dX0_thatTheyLive_19 : decode cX0_thatTheyLive 19 = .ok (.lconst 0, 1) := by decide +kernel
theorem dX0_thatTheyLive_20 : decode cX0_thatTheyLive 20 = .ok (.lstore 5, 2) := by decide +kernel
theorem dX0_thatTheyLive_22 : decode cX0_thatTheyLive 22 = .ok (.lconst 0, 1) := by decide +kernel
theorem dX0_thatTheyLive_23 : decode cX0_thatTheyLive 23 = .ok (.lstore 7, 2) := by decide +kernel
theorem dX0_thatTheyLive_25 : decode cX0_thatTheyLive 25 = .ok (.iconst 0, 1) := by decide +kernel
theorem dX0_thatTheyLive_26 : decode cX0_thatTheyLive 26 = .ok (.istore 9, 2) := by decide +kernel
theorem dX0_thatTheyLive_28 : decode cX0_thatTheyLive 28 = .ok (.iload 9, 2) := by decide +kernel
theorem dX0_thatTheyLive_30 : decode cX0_thatTheyLive 30 = .ok (.iconst 1, 1) := by decide +kernel
theorem dX0_thatTheyLive_31 : decode cX0_thatTheyLive 31 = .ok (.aload_n 0, 1) := by decide +kernel
theorem dX0_thatTheyLive_32 : decode cX0_thatTheyLive 32 = .ok (.getfield 28, 3) := by decide +kernel
theorem dX0_thatTheyLive_35 : decode cX0_thatTheyLive 35 = .ok (.ishl, 1) := by decide +kernel
theorem dX0_thatTheyLive_36 : decode cX0_thatTheyLive 36 = .ok (.if_icmp .ge 49, 3) := by decide +kernel
theorem dX0_thatTheyLive_39 : decode cX0_thatTheyLive 39 = .ok (.aload_n 0, 1) := by decide +kernel
theorem dX0_thatTheyLive_40 : decode cX0_thatTheyLive 40 = .ok (.iload 9, 2) := by decide +kernel
theorem dX0_thatTheyLive_42 : decode cX0_thatTheyLive 42 = .ok (.invokevirtual 53, 3) := by decide +kernel
theorem dX0_thatTheyLive_45 : decode cX0_thatTheyLive 45 = .ok (.lstore 10, 2) := by decide +kernel
theorem dX0_thatTheyLive_47 : decode cX0_thatTheyLive 47 = .ok (.lload 7, 2) := by decide +kernel
theorem dX0_thatTheyLive_49 : decode cX0_thatTheyLive 49 = .ok (.lload 10, 2) := by decide +kernel
theorem dX0_thatTheyLive_51 : decode cX0_thatTheyLive 51 = .ok (.ladd, 1) := by decide +kernel
theorem dX0_thatTheyLive_52 : decode cX0_thatTheyLive 52 = .ok (.lstore 7, 2) := by decide +kernel
theorem dX0_thatTheyLive_54 : decode cX0_thatTheyLive 54 = .ok (.iload 4, 2) := by decide +kernel
theorem dX0_thatTheyLive_56 : decode cX0_thatTheyLive 56 = .ok (.aload_n 0, 1) := by decide +kernel
theorem dX0_thatTheyLive_57 : decode cX0_thatTheyLive 57 = .ok (.iload 9, 2) := by decide +kernel
theorem dX0_thatTheyLive_59 : decode cX0_thatTheyLive 59 = .ok (.invokevirtual 57, 3) := by decide +kernel
theorem dX0_thatTheyLive_62 : decode cX0_thatTheyLive 62 = .ok (.imul, 1) := by decide +kernel
theorem dX0_thatTheyLive_63 : decode cX0_thatTheyLive 63 = .ok (.aload_n 1, 1) := by decide +kernel
theorem dX0_thatTheyLive_64 : decode cX0_thatTheyLive 64 = .ok (.getfield 61, 3) := by decide +kernel
theorem dX0_thatTheyLive_67 : decode cX0_thatTheyLive 67 = .ok (.iload_n 3, 1) := by decide +kernel
theorem dX0_thatTheyLive_68 : decode cX0_thatTheyLive 68 = .ok (.iaload, 1) := by decide +kernel
theorem dX0_thatTheyLive_69 : decode cX0_thatTheyLive 69 = .ok (.if_icmp .lt 10, 3) := by decide +kernel
theorem dX0_thatTheyLive_72 : decode cX0_thatTheyLive 72 = .ok (.lload 5, 2) := by decide +kernel
theorem dX0_thatTheyLive_74 : decode cX0_thatTheyLive 74 = .ok (.lload 10, 2) := by decide +kernel
theorem dX0_thatTheyLive_76 : decode cX0_thatTheyLive 76 = .ok (.ladd, 1) := by decide +kernel
theorem dX0_thatTheyLive_77 : decode cX0_thatTheyLive 77 = .ok (.lstore 5, 2) := by decide +kernel
theorem dX0_thatTheyLive_79 : decode cX0_thatTheyLive 79 = .ok (.iinc 9 1, 3) := by decide +kernel
theorem dX0_thatTheyLive_82 : decode cX0_thatTheyLive 82 = .ok (.goto (-54), 3) := by decide +kernel
theorem dX0_thatTheyLive_85 : decode cX0_thatTheyLive 85 = .ok (.aload_n 0, 1) := by decide +kernel
theorem dX0_thatTheyLive_86 : decode cX0_thatTheyLive 86 = .ok (.lload 5, 2) := by decide +kernel
theorem dX0_thatTheyLive_88 : decode cX0_thatTheyLive 88 = .ok (.lload 7, 2) := by decide +kernel
theorem dX0_thatTheyLive_90 : decode cX0_thatTheyLive 90 = .ok (.invokevirtual 64, 3) := by decide +kernel
theorem dX0_thatTheyLive_93 : decode cX0_thatTheyLive 93 = .ok (.return_, 1) := by decide +kernel
theorem dX0_thatHeTurnsIt_0 : decode cX0_thatHeTurnsIt 0 = .ok (.aload_n 1, 1) := by decide +kernel
theorem dX0_thatHeTurnsIt_1 : decode cX0_thatHeTurnsIt 1 = .ok (.ifnull 11, 3) := by decide +kernel
theorem dX0_thatHeTurnsIt_4 : decode cX0_thatHeTurnsIt 4 = .ok (.aload_n 1, 1) := by decide +kernel
theorem dX0_thatHeTurnsIt_5 : decode cX0_thatHeTurnsIt 5 = .ok (.iload_n 3, 1) := by decide +kernel
theorem dX0_thatHeTurnsIt_6 : decode cX0_thatHeTurnsIt 6 = .ok (.invokevirtual 45, 3) := by decide +kernel
theorem dX0_thatHeTurnsIt_9 : decode cX0_thatHeTurnsIt 9 = .ok (.ifCond .ne 4, 3) := by decide +kernel
theorem dX0_thatHeTurnsIt_12 : decode cX0_thatHeTurnsIt 12 = .ok (.return_, 1) := by decide +kernel
theorem dX0_thatHeTurnsIt_13 : decode cX0_thatHeTurnsIt 13 = .ok (.aload_n 0, 1) := by decide +kernel
theorem dX0_thatHeTurnsIt_14 : decode cX0_thatHeTurnsIt 14 = .ok (.aload_n 1, 1) := by decide +kernel
theorem dX0_thatHeTurnsIt_15 : decode cX0_thatHeTurnsIt 15 = .ok (.iload_n 2, 1) := by decide +kernel
theorem dX0_thatHeTurnsIt_16 : decode cX0_thatHeTurnsIt 16 = .ok (.invokevirtual 49, 3) := by decide +kernel
theorem dX0_thatHeTurnsIt_19 : decode cX0_thatHeTurnsIt 19 = .ok (.lconst 0, 1) := by decide +kernel
theorem dX0_thatHeTurnsIt_20 : decode cX0_thatHeTurnsIt 20 = .ok (.lstore 6, 2) := by decide +kernel
theorem dX0_thatHeTurnsIt_22 : decode cX0_thatHeTurnsIt 22 = .ok (.iconst 0, 1) := by decide +kernel
theorem dX0_thatHeTurnsIt_23 : decode cX0_thatHeTurnsIt 23 = .ok (.istore 8, 2) := by decide +kernel
theorem dX0_thatHeTurnsIt_25 : decode cX0_thatHeTurnsIt 25 = .ok (.iload 8, 2) := by decide +kernel
theorem dX0_thatHeTurnsIt_27 : decode cX0_thatHeTurnsIt 27 = .ok (.aload_n 0, 1) := by decide +kernel
theorem dX0_thatHeTurnsIt_28 : decode cX0_thatHeTurnsIt 28 = .ok (.getfield 28, 3) := by decide +kernel
theorem dX0_thatHeTurnsIt_31 : decode cX0_thatHeTurnsIt 31 = .ok (.if_icmp .ge 165, 3) := by decide +kernel
theorem dX0_thatHeTurnsIt_34 : decode cX0_thatHeTurnsIt 34 = .ok (.iload 8, 2) := by decide +kernel
theorem dX0_thatHeTurnsIt_36 : decode cX0_thatHeTurnsIt 36 = .ok (.bipush 10, 2) := by decide +kernel
theorem dX0_thatHeTurnsIt_38 : decode cX0_thatHeTurnsIt 38 = .ok (.if_icmp .ge 158, 3) := by decide +kernel
theorem dX0_thatHeTurnsIt_41 : decode cX0_thatHeTurnsIt 41 = .ok (.iconst 0, 1) := by decide +kernel
theorem dX0_thatHeTurnsIt_42 : decode cX0_thatHeTurnsIt 42 = .ok (.istore 9, 2) := by decide +kernel
theorem dX0_thatHeTurnsIt_44 : decode cX0_thatHeTurnsIt 44 = .ok (.aload_n 0, 1) := by decide +kernel
theorem dX0_thatHeTurnsIt_45 : decode cX0_thatHeTurnsIt 45 = .ok (.getfield 18, 3) := by decide +kernel
theorem dX0_thatHeTurnsIt_48 : decode cX0_thatHeTurnsIt 48 = .ok (.iload 8, 2) := by decide +kernel
theorem dX0_thatHeTurnsIt_50 : decode cX0_thatHeTurnsIt 50 = .ok (.iaload, 1) := by decide +kernel
theorem dX0_thatHeTurnsIt_51 : decode cX0_thatHeTurnsIt 51 = .ok (.iload 5, 2) := by decide +kernel
theorem dX0_thatHeTurnsIt_53 : decode cX0_thatHeTurnsIt 53 = .ok (.if_icmp .ne 137, 3) := by decide +kernel
theorem dX0_thatHeTurnsIt_56 : decode cX0_thatHeTurnsIt 56 = .ok (.iload 9, 2) := by decide +kernel
theorem dX0_thatHeTurnsIt_58 : decode cX0_thatHeTurnsIt 58 = .ok (.iconst 1, 1) := by decide +kernel
theorem dX0_thatHeTurnsIt_59 : decode cX0_thatHeTurnsIt 59 = .ok (.aload_n 0, 1) := by decide +kernel
theorem dX0_thatHeTurnsIt_60 : decode cX0_thatHeTurnsIt 60 = .ok (.getfield 28, 3) := by decide +kernel
theorem dX0_thatHeTurnsIt_63 : decode cX0_thatHeTurnsIt 63 = .ok (.ishl, 1) := by decide +kernel
theorem dX0_thatHeTurnsIt_64 : decode cX0_thatHeTurnsIt 64 = .ok (.if_icmp .ge 126, 3) := by decide +kernel
theorem dX0_thatHeTurnsIt_67 : decode cX0_thatHeTurnsIt 67 = .ok (.iload 9, 2) := by decide +kernel
theorem dX0_thatHeTurnsIt_69 : decode cX0_thatHeTurnsIt 69 = .ok (.iload 8, 2) := by decide +kernel
theorem dX0_thatHeTurnsIt_71 : decode cX0_thatHeTurnsIt 71 = .ok (.ishr, 1) := by decide +kernel
theorem dX0_thatHeTurnsIt_72 : decode cX0_thatHeTurnsIt 72 = .ok (.iconst 1, 1) := by decide +kernel
theorem dX0_thatHeTurnsIt_73 : decode cX0_thatHeTurnsIt 73 = .ok (.iand, 1) := by decide +kernel
theorem dX0_thatHeTurnsIt_74 : decode cX0_thatHeTurnsIt 74 = .ok (.ifCond .ne 7, 3) := by decide +kernel
theorem dX0_thatHeTurnsIt_77 : decode cX0_thatHeTurnsIt 77 = .ok (.iconst 1, 1) := by decide +kernel
theorem dX0_thatHeTurnsIt_78 : decode cX0_thatHeTurnsIt 78 = .ok (.goto 4, 3) := by decide +kernel
theorem dX0_thatHeTurnsIt_81 : decode cX0_thatHeTurnsIt 81 = .ok (.iconst 0, 1) := by decide +kernel
theorem dX0_thatHeTurnsIt_82 : decode cX0_thatHeTurnsIt 82 = .ok (.istore 10, 2) := by decide +kernel
theorem dX0_thatHeTurnsIt_84 : decode cX0_thatHeTurnsIt 84 = .ok (.iload 4, 2) := by decide +kernel
theorem dX0_thatHeTurnsIt_86 : decode cX0_thatHeTurnsIt 86 = .ok (.aload_n 0, 1) := by decide +kernel
theorem dX0_thatHeTurnsIt_87 : decode cX0_thatHeTurnsIt 87 = .ok (.iload 9, 2) := by decide +kernel
theorem dX0_thatHeTurnsIt_89 : decode cX0_thatHeTurnsIt 89 = .ok (.invokevirtual 57, 3) := by decide +kernel
theorem dX0_thatHeTurnsIt_92 : decode cX0_thatHeTurnsIt 92 = .ok (.imul, 1) := by decide +kernel
theorem dX0_thatHeTurnsIt_93 : decode cX0_thatHeTurnsIt 93 = .ok (.aload_n 1, 1) := by decide +kernel
theorem dX0_thatHeTurnsIt_94 : decode cX0_thatHeTurnsIt 94 = .ok (.getfield 61, 3) := by decide +kernel
theorem dX0_thatHeTurnsIt_97 : decode cX0_thatHeTurnsIt 97 = .ok (.iload_n 3, 1) := by decide +kernel
theorem dX0_thatHeTurnsIt_98 : decode cX0_thatHeTurnsIt 98 = .ok (.iaload, 1) := by decide +kernel
theorem dX0_thatHeTurnsIt_99 : decode cX0_thatHeTurnsIt 99 = .ok (.if_icmp .lt 7, 3) := by decide +kernel
theorem dX0_thatHeTurnsIt_102 : decode cX0_thatHeTurnsIt 102 = .ok (.iconst 1, 1) := by decide +kernel
theorem dX0_thatHeTurnsIt_103 : decode cX0_thatHeTurnsIt 103 = .ok (.goto 4, 3) := by decide +kernel
theorem dX0_thatHeTurnsIt_106 : decode cX0_thatHeTurnsIt 106 = .ok (.iconst 0, 1) := by decide +kernel
theorem dX0_thatHeTurnsIt_107 : decode cX0_thatHeTurnsIt 107 = .ok (.istore 11, 2) := by decide +kernel
theorem dX0_thatHeTurnsIt_109 : decode cX0_thatHeTurnsIt 109 = .ok (.iload 4, 2) := by decide +kernel
theorem dX0_thatHeTurnsIt_111 : decode cX0_thatHeTurnsIt 111 = .ok (.aload_n 0, 1) := by decide +kernel
theorem dX0_thatHeTurnsIt_112 : decode cX0_thatHeTurnsIt 112 = .ok (.iload 9, 2) := by decide +kernel
theorem dX0_thatHeTurnsIt_114 : decode cX0_thatHeTurnsIt 114 = .ok (.iconst 1, 1) := by decide +kernel
theorem dX0_thatHeTurnsIt_115 : decode cX0_thatHeTurnsIt 115 = .ok (.iload 8, 2) := by decide +kernel
theorem dX0_thatHeTurnsIt_117 : decode cX0_thatHeTurnsIt 117 = .ok (.ishl, 1) := by decide +kernel
theorem dX0_thatHeTurnsIt_118 : decode cX0_thatHeTurnsIt 118 = .ok (.ior, 1) := by decide +kernel
theorem dX0_thatHeTurnsIt_119 : decode cX0_thatHeTurnsIt 119 = .ok (.invokevirtual 57, 3) := by decide +kernel
theorem dX0_thatHeTurnsIt_122 : decode cX0_thatHeTurnsIt 122 = .ok (.imul, 1) := by decide +kernel
theorem dX0_thatHeTurnsIt_123 : decode cX0_thatHeTurnsIt 123 = .ok (.aload_n 1, 1) := by decide +kernel
theorem dX0_thatHeTurnsIt_124 : decode cX0_thatHeTurnsIt 124 = .ok (.getfield 61, 3) := by decide +kernel
theorem dX0_thatHeTurnsIt_127 : decode cX0_thatHeTurnsIt 127 = .ok (.iload_n 3, 1) := by decide +kernel
theorem dX0_thatHeTurnsIt_128 : decode cX0_thatHeTurnsIt 128 = .ok (.iaload, 1) := by decide +kernel
theorem dX0_thatHeTurnsIt_129 : decode cX0_thatHeTurnsIt 129 = .ok (.if_icmp .lt 7, 3) := by decide +kernel
theorem dX0_thatHeTurnsIt_132 : decode cX0_thatHeTurnsIt 132 = .ok (.iconst 1, 1) := by decide +kernel
theorem dX0_thatHeTurnsIt_133 : decode cX0_thatHeTurnsIt 133 = .ok (.goto 4, 3) := by decide +kernel
theorem dX0_thatHeTurnsIt_136 : decode cX0_thatHeTurnsIt 136 = .ok (.iconst 0, 1) := by decide +kernel
theorem dX0_thatHeTurnsIt_137 : decode cX0_thatHeTurnsIt 137 = .ok (.istore 12, 2) := by decide +kernel
theorem dX0_thatHeTurnsIt_139 : decode cX0_thatHeTurnsIt 139 = .ok (.iload 10, 2) := by decide +kernel
theorem dX0_thatHeTurnsIt_141 : decode cX0_thatHeTurnsIt 141 = .ok (.ifCond .eq 43, 3) := by decide +kernel
theorem dX0_thatHeTurnsIt_144 : decode cX0_thatHeTurnsIt 144 = .ok (.iload 11, 2) := by decide +kernel
theorem dX0_thatHeTurnsIt_146 : decode cX0_thatHeTurnsIt 146 = .ok (.ifCond .ne 38, 3) := by decide +kernel
theorem dX0_thatHeTurnsIt_149 : decode cX0_thatHeTurnsIt 149 = .ok (.iload 12, 2) := by decide +kernel
theorem dX0_thatHeTurnsIt_151 : decode cX0_thatHeTurnsIt 151 = .ok (.ifCond .eq 33, 3) := by decide +kernel
theorem dX0_thatHeTurnsIt_154 : decode cX0_thatHeTurnsIt 154 = .ok (.iload 9, 2) := by decide +kernel
theorem dX0_thatHeTurnsIt_156 : decode cX0_thatHeTurnsIt 156 = .ok (.invokestatic 68, 3) := by decide +kernel
theorem dX0_thatHeTurnsIt_159 : decode cX0_thatHeTurnsIt 159 = .ok (.istore 13, 2) := by decide +kernel
theorem dX0_thatHeTurnsIt_161 : decode cX0_thatHeTurnsIt 161 = .ok (.lload 6, 2) := by decide +kernel
theorem dX0_thatHeTurnsIt_163 : decode cX0_thatHeTurnsIt 163 = .ok (.iload 13, 2) := by decide +kernel
theorem dX0_thatHeTurnsIt_165 : decode cX0_thatHeTurnsIt 165 = .ok (.invokestatic 73, 3) := by decide +kernel
theorem dX0_thatHeTurnsIt_168 : decode cX0_thatHeTurnsIt 168 = .ok (.aload_n 0, 1) := by decide +kernel
theorem dX0_thatHeTurnsIt_169 : decode cX0_thatHeTurnsIt 169 = .ok (.getfield 28, 3) := by decide +kernel
theorem dX0_thatHeTurnsIt_172 : decode cX0_thatHeTurnsIt 172 = .ok (.iconst 1, 1) := by decide +kernel
theorem dX0_thatHeTurnsIt_173 : decode cX0_thatHeTurnsIt 173 = .ok (.isub, 1) := by decide +kernel
theorem dX0_thatHeTurnsIt_174 : decode cX0_thatHeTurnsIt 174 = .ok (.iload 13, 2) := by decide +kernel
theorem dX0_thatHeTurnsIt_176 : decode cX0_thatHeTurnsIt 176 = .ok (.isub, 1) := by decide +kernel
theorem dX0_thatHeTurnsIt_177 : decode cX0_thatHeTurnsIt 177 = .ok (.invokestatic 73, 3) := by decide +kernel
theorem dX0_thatHeTurnsIt_180 : decode cX0_thatHeTurnsIt 180 = .ok (.lmul, 1) := by decide +kernel
theorem dX0_thatHeTurnsIt_181 : decode cX0_thatHeTurnsIt 181 = .ok (.ladd, 1) := by decide +kernel
theorem dX0_thatHeTurnsIt_182 : decode cX0_thatHeTurnsIt 182 = .ok (.lstore 6, 2) := by decide +kernel
theorem dX0_thatHeTurnsIt_184 : decode cX0_thatHeTurnsIt 184 = .ok (.iinc 9 1, 3) := by decide +kernel
theorem dX0_thatHeTurnsIt_187 : decode cX0_thatHeTurnsIt 187 = .ok (.goto (-143), 3) := by decide +kernel
theorem dX0_thatHeTurnsIt_190 : decode cX0_thatHeTurnsIt 190 = .ok (.iinc 8 1, 3) := by decide +kernel
theorem dX0_thatHeTurnsIt_193 : decode cX0_thatHeTurnsIt 193 = .ok (.goto (-168), 3) := by decide +kernel
theorem dX0_thatHeTurnsIt_196 : decode cX0_thatHeTurnsIt 196 = .ok (.aload_n 0, 1) := by decide +kernel
theorem dX0_thatHeTurnsIt_197 : decode cX0_thatHeTurnsIt 197 = .ok (.lload 6, 2) := by decide +kernel
theorem dX0_thatHeTurnsIt_199 : decode cX0_thatHeTurnsIt 199 = .ok (.aload_n 0, 1) := by decide +kernel
theorem dX0_thatHeTurnsIt_200 : decode cX0_thatHeTurnsIt 200 = .ok (.getfield 28, 3) := by decide +kernel
theorem dX0_thatHeTurnsIt_203 : decode cX0_thatHeTurnsIt 203 = .ok (.invokestatic 73, 3) := by decide +kernel
theorem dX0_thatHeTurnsIt_206 : decode cX0_thatHeTurnsIt 206 = .ok (.invokevirtual 64, 3) := by decide +kernel
theorem dX0_thatHeTurnsIt_209 : decode cX0_thatHeTurnsIt 209 = .ok (.return_, 1) := by decide +kernel
theorem dX0_rowsOf_0 : decode cX0_rowsOf 0 = .ok (.lconst 1, 1) := by decide +kernel
theorem dX0_rowsOf_1 : decode cX0_rowsOf 1 = .ok (.lstore_n 1, 1) := by decide +kernel
theorem dX0_rowsOf_2 : decode cX0_rowsOf 2 = .ok (.iconst 2, 1) := by decide +kernel
theorem dX0_rowsOf_3 : decode cX0_rowsOf 3 = .ok (.istore_n 3, 1) := by decide +kernel
theorem dX0_rowsOf_4 : decode cX0_rowsOf 4 = .ok (.iload_n 3, 1) := by decide +kernel
theorem dX0_rowsOf_5 : decode cX0_rowsOf 5 = .ok (.iload_n 0, 1) := by decide +kernel
theorem dX0_rowsOf_6 : decode cX0_rowsOf 6 = .ok (.if_icmp .gt 20, 3) := by decide +kernel
theorem dX0_rowsOf_9 : decode cX0_rowsOf 9 = .ok (.iload_n 3, 1) := by decide +kernel
theorem dX0_rowsOf_10 : decode cX0_rowsOf 10 = .ok (.bipush 10, 2) := by decide +kernel
theorem dX0_rowsOf_12 : decode cX0_rowsOf 12 = .ok (.if_icmp .gt 14, 3) := by decide +kernel
theorem dX0_rowsOf_15 : decode cX0_rowsOf 15 = .ok (.lload_n 1, 1) := by decide +kernel
theorem dX0_rowsOf_16 : decode cX0_rowsOf 16 = .ok (.iload_n 3, 1) := by decide +kernel
theorem dX0_rowsOf_17 : decode cX0_rowsOf 17 = .ok (.i2l, 1) := by decide +kernel
theorem dX0_rowsOf_18 : decode cX0_rowsOf 18 = .ok (.lmul, 1) := by decide +kernel
theorem dX0_rowsOf_19 : decode cX0_rowsOf 19 = .ok (.lstore_n 1, 1) := by decide +kernel
theorem dX0_rowsOf_20 : decode cX0_rowsOf 20 = .ok (.iinc 3 1, 3) := by decide +kernel
theorem dX0_rowsOf_23 : decode cX0_rowsOf 23 = .ok (.goto (-19), 3) := by decide +kernel
theorem dX0_rowsOf_26 : decode cX0_rowsOf 26 = .ok (.lload_n 1, 1) := by decide +kernel
theorem dX0_rowsOf_27 : decode cX0_rowsOf 27 = .ok (.lreturn, 1) := by decide +kernel
theorem dX1_init_0 : decode cX1_init 0 = .ok (.aload_n 0, 1) := by decide +kernel
theorem dX1_init_1 : decode cX1_init 1 = .ok (.invokespecial 3, 3) := by decide +kernel
theorem dX1_init_4 : decode cX1_init 4 = .ok (.aload_n 0, 1) := by decide +kernel
theorem dX1_init_5 : decode cX1_init 5 = .ok (.bipush 64, 2) := by decide +kernel
theorem dX1_init_7 : decode cX1_init 7 = .ok (.newarray .int, 2) := by decide +kernel
theorem dX1_init_9 : decode cX1_init 9 = .ok (.putfield 9, 3) := by decide +kernel
theorem dX1_init_12 : decode cX1_init 12 = .ok (.aload_n 0, 1) := by decide +kernel
theorem dX1_init_13 : decode cX1_init 13 = .ok (.bipush 64, 2) := by decide +kernel
theorem dX1_init_15 : decode cX1_init 15 = .ok (.newarray .int, 2) := by decide +kernel
theorem dX1_init_17 : decode cX1_init 17 = .ok (.putfield 15, 3) := by decide +kernel
theorem dX1_init_20 : decode cX1_init 20 = .ok (.aload_n 0, 1) := by decide +kernel
theorem dX1_init_21 : decode cX1_init 21 = .ok (.bipush 6, 2) := by decide +kernel
theorem dX1_init_23 : decode cX1_init 23 = .ok (.newarray .int, 2) := by decide +kernel
theorem dX1_init_25 : decode cX1_init 25 = .ok (.putfield 18, 3) := by decide +kernel
theorem dX1_init_28 : decode cX1_init 28 = .ok (.aload_n 0, 1) := by decide +kernel
theorem dX1_init_29 : decode cX1_init 29 = .ok (.bipush 64, 2) := by decide +kernel
theorem dX1_init_31 : decode cX1_init 31 = .ok (.newarray .int, 2) := by decide +kernel
theorem dX1_init_33 : decode cX1_init 33 = .ok (.putfield 21, 3) := by decide +kernel
theorem dX1_init_36 : decode cX1_init 36 = .ok (.aload_n 0, 1) := by decide +kernel
theorem dX1_init_37 : decode cX1_init 37 = .ok (.bipush 6, 2) := by decide +kernel
theorem dX1_init_39 : decode cX1_init 39 = .ok (.newarray .int, 2) := by decide +kernel
theorem dX1_init_41 : decode cX1_init 41 = .ok (.putfield 24, 3) := by decide +kernel
theorem dX1_init_44 : decode cX1_init 44 = .ok (.aload_n 0, 1) := by decide +kernel
theorem dX1_init_45 : decode cX1_init 45 = .ok (.bipush 64, 2) := by decide +kernel
theorem dX1_init_47 : decode cX1_init 47 = .ok (.newarray .int, 2) := by decide +kernel
theorem dX1_init_49 : decode cX1_init 49 = .ok (.putfield 27, 3) := by decide +kernel
theorem dX1_init_52 : decode cX1_init 52 = .ok (.aload_n 0, 1) := by decide +kernel
theorem dX1_init_53 : decode cX1_init 53 = .ok (.bipush 6, 2) := by decide +kernel
theorem dX1_init_55 : decode cX1_init 55 = .ok (.newarray .int, 2) := by decide +kernel
theorem dX1_init_57 : decode cX1_init 57 = .ok (.putfield 30, 3) := by decide +kernel
theorem dX1_init_60 : decode cX1_init 60 = .ok (.aload_n 0, 1) := by decide +kernel
theorem dX1_init_61 : decode cX1_init 61 = .ok (.sipush 1024, 3) := by decide +kernel
theorem dX1_init_64 : decode cX1_init 64 = .ok (.newarray .int, 2) := by decide +kernel
theorem dX1_init_66 : decode cX1_init 66 = .ok (.putfield 33, 3) := by decide +kernel
theorem dX1_init_69 : decode cX1_init 69 = .ok (.return_, 1) := by decide +kernel
theorem dX1_sumUp_0 : decode cX1_sumUp 0 = .ok (.aload_n 0, 1) := by decide +kernel
theorem dX1_sumUp_1 : decode cX1_sumUp 1 = .ok (.ifnull 11, 3) := by decide +kernel
theorem dX1_sumUp_4 : decode cX1_sumUp 4 = .ok (.aload_n 1, 1) := by decide +kernel
theorem dX1_sumUp_5 : decode cX1_sumUp 5 = .ok (.ifnull 7, 3) := by decide +kernel
theorem dX1_sumUp_8 : decode cX1_sumUp 8 = .ok (.aload_n 2, 1) := by decide +kernel
theorem dX1_sumUp_9 : decode cX1_sumUp 9 = .ok (.ifnonnull 4, 3) := by decide +kernel
theorem dX1_sumUp_12 : decode cX1_sumUp 12 = .ok (.return_, 1) := by decide +kernel
theorem dX1_sumUp_13 : decode cX1_sumUp 13 = .ok (.iconst 0, 1) := by decide +kernel
theorem dX1_sumUp_14 : decode cX1_sumUp 14 = .ok (.istore_n 3, 1) := by decide +kernel
theorem dX1_sumUp_15 : decode cX1_sumUp 15 = .ok (.iload_n 3, 1) := by decide +kernel
theorem dX1_sumUp_16 : decode cX1_sumUp 16 = .ok (.aload_n 2, 1) := by decide +kernel
theorem dX1_sumUp_17 : decode cX1_sumUp 17 = .ok (.arraylength, 1) := by decide +kernel
theorem dX1_sumUp_18 : decode cX1_sumUp 18 = .ok (.if_icmp .ge 61, 3) := by decide +kernel
theorem dX1_sumUp_21 : decode cX1_sumUp 21 = .ok (.aload_n 2, 1) := by decide +kernel
theorem dX1_sumUp_22 : decode cX1_sumUp 22 = .ok (.iload_n 3, 1) := by decide +kernel
theorem dX1_sumUp_23 : decode cX1_sumUp 23 = .ok (.iconst 0, 1) := by decide +kernel
theorem dX1_sumUp_24 : decode cX1_sumUp 24 = .ok (.iastore, 1) := by decide +kernel
theorem dX1_sumUp_25 : decode cX1_sumUp 25 = .ok (.iconst 0, 1) := by decide +kernel
theorem dX1_sumUp_26 : decode cX1_sumUp 26 = .ok (.istore 4, 2) := by decide +kernel
theorem dX1_sumUp_28 : decode cX1_sumUp 28 = .ok (.iload 4, 2) := by decide +kernel
theorem dX1_sumUp_30 : decode cX1_sumUp 30 = .ok (.aload_n 0, 1) := by decide +kernel
theorem dX1_sumUp_31 : decode cX1_sumUp 31 = .ok (.getfield 36, 3) := by decide +kernel
theorem dX1_sumUp_34 : decode cX1_sumUp 34 = .ok (.if_icmp .ge 39, 3) := by decide +kernel
theorem dX1_sumUp_37 : decode cX1_sumUp 37 = .ok (.iload 4, 2) := by decide +kernel
theorem dX1_sumUp_39 : decode cX1_sumUp 39 = .ok (.aload_n 1, 1) := by decide +kernel
theorem dX1_sumUp_40 : decode cX1_sumUp 40 = .ok (.arraylength, 1) := by decide +kernel
theorem dX1_sumUp_41 : decode cX1_sumUp 41 = .ok (.if_icmp .ge 32, 3) := by decide +kernel
theorem dX1_sumUp_44 : decode cX1_sumUp 44 = .ok (.aload_n 2, 1) := by decide +kernel
theorem dX1_sumUp_45 : decode cX1_sumUp 45 = .ok (.iload_n 3, 1) := by decide +kernel
theorem dX1_sumUp_46 : decode cX1_sumUp 46 = .ok (.dup2, 1) := by decide +kernel
theorem dX1_sumUp_47 : decode cX1_sumUp 47 = .ok (.iaload, 1) := by decide +kernel
theorem dX1_sumUp_48 : decode cX1_sumUp 48 = .ok (.iload_n 3, 1) := by decide +kernel
theorem dX1_sumUp_49 : decode cX1_sumUp 49 = .ok (.iload 4, 2) := by decide +kernel
theorem dX1_sumUp_51 : decode cX1_sumUp 51 = .ok (.ishr, 1) := by decide +kernel
theorem dX1_sumUp_52 : decode cX1_sumUp 52 = .ok (.iconst 1, 1) := by decide +kernel
theorem dX1_sumUp_53 : decode cX1_sumUp 53 = .ok (.iand, 1) := by decide +kernel
theorem dX1_sumUp_54 : decode cX1_sumUp 54 = .ok (.ifCond .eq 10, 3) := by decide +kernel
theorem dX1_sumUp_57 : decode cX1_sumUp 57 = .ok (.aload_n 1, 1) := by decide +kernel
theorem dX1_sumUp_58 : decode cX1_sumUp 58 = .ok (.iload 4, 2) := by decide +kernel
theorem dX1_sumUp_60 : decode cX1_sumUp 60 = .ok (.iaload, 1) := by decide +kernel
theorem dX1_sumUp_61 : decode cX1_sumUp 61 = .ok (.goto 4, 3) := by decide +kernel
theorem dX1_sumUp_64 : decode cX1_sumUp 64 = .ok (.iconst 0, 1) := by decide +kernel
theorem dX1_sumUp_65 : decode cX1_sumUp 65 = .ok (.iadd, 1) := by decide +kernel
theorem dX1_sumUp_66 : decode cX1_sumUp 66 = .ok (.iastore, 1) := by decide +kernel
theorem dX1_sumUp_67 : decode cX1_sumUp 67 = .ok (.iinc 4 1, 3) := by decide +kernel
theorem dX1_sumUp_70 : decode cX1_sumUp 70 = .ok (.goto (-42), 3) := by decide +kernel
theorem dX1_sumUp_73 : decode cX1_sumUp 73 = .ok (.iinc 3 1, 3) := by decide +kernel
theorem dX1_sumUp_76 : decode cX1_sumUp 76 = .ok (.goto (-61), 3) := by decide +kernel
theorem dX1_sumUp_79 : decode cX1_sumUp 79 = .ok (.return_, 1) := by decide +kernel
theorem dX1_bestLot_0 : decode cX1_bestLot 0 = .ok (.aload_n 1, 1) := by decide +kernel
theorem dX1_bestLot_1 : decode cX1_bestLot 1 = .ok (.ifnonnull 5, 3) := by decide +kernel
theorem dX1_bestLot_4 : decode cX1_bestLot 4 = .ok (.iconst (-1), 1) := by decide +kernel
theorem dX1_bestLot_5 : decode cX1_bestLot 5 = .ok (.ireturn, 1) := by decide +kernel
theorem dX1_bestLot_6 : decode cX1_bestLot 6 = .ok (.aload_n 1, 1) := by decide +kernel
theorem dX1_bestLot_7 : decode cX1_bestLot 7 = .ok (.aload_n 1, 1) := by decide +kernel
theorem dX1_bestLot_8 : decode cX1_bestLot 8 = .ok (.getfield 42, 3) := by decide +kernel
theorem dX1_bestLot_11 : decode cX1_bestLot 11 = .ok (.aload_n 0, 1) := by decide +kernel
theorem dX1_bestLot_12 : decode cX1_bestLot 12 = .ok (.getfield 9, 3) := by decide +kernel
theorem dX1_bestLot_15 : decode cX1_bestLot 15 = .ok (.invokestatic 45, 3) := by decide +kernel
theorem dX1_bestLot_18 : decode cX1_bestLot 18 = .ok (.aload_n 1, 1) := by decide +kernel
theorem dX1_bestLot_19 : decode cX1_bestLot 19 = .ok (.aload_n 1, 1) := by decide +kernel
theorem dX1_bestLot_20 : decode cX1_bestLot 20 = .ok (.getfield 49, 3) := by decide +kernel
theorem dX1_bestLot_23 : decode cX1_bestLot 23 = .ok (.aload_n 0, 1) := by decide +kernel
theorem dX1_bestLot_24 : decode cX1_bestLot 24 = .ok (.getfield 15, 3) := by decide +kernel
theorem dX1_bestLot_27 : decode cX1_bestLot 27 = .ok (.invokestatic 45, 3) := by decide +kernel
theorem dX1_bestLot_30 : decode cX1_bestLot 30 = .ok (.iconst 0, 1) := by decide +kernel
theorem dX1_bestLot_31 : decode cX1_bestLot 31 = .ok (.istore 4, 2) := by decide +kernel
theorem dX1_bestLot_33 : decode cX1_bestLot 33 = .ok (.iconst 0, 1) := by decide +kernel
theorem dX1_bestLot_34 : decode cX1_bestLot 34 = .ok (.istore 5, 2) := by decide +kernel
theorem dX1_bestLot_36 : decode cX1_bestLot 36 = .ok (.iload 5, 2) := by decide +kernel
theorem dX1_bestLot_38 : decode cX1_bestLot 38 = .ok (.aload_n 1, 1) := by decide +kernel
theorem dX1_bestLot_39 : decode cX1_bestLot 39 = .ok (.invokevirtual 52, 3) := by decide +kernel
theorem dX1_bestLot_42 : decode cX1_bestLot 42 = .ok (.if_icmp .gt 48, 3) := by decide +kernel
theorem dX1_bestLot_45 : decode cX1_bestLot 45 = .ok (.iload 5, 2) := by decide +kernel
theorem dX1_bestLot_47 : decode cX1_bestLot 47 = .ok (.bipush 64, 2) := by decide +kernel
theorem dX1_bestLot_49 : decode cX1_bestLot 49 = .ok (.if_icmp .ge 41, 3) := by decide +kernel
theorem dX1_bestLot_52 : decode cX1_bestLot 52 = .ok (.aload_n 0, 1) := by decide +kernel
theorem dX1_bestLot_53 : decode cX1_bestLot 53 = .ok (.getfield 9, 3) := by decide +kernel
theorem dX1_bestLot_56 : decode cX1_bestLot 56 = .ok (.iload 5, 2) := by decide +kernel
theorem dX1_bestLot_58 : decode cX1_bestLot 58 = .ok (.iaload, 1) := by decide +kernel
theorem dX1_bestLot_59 : decode cX1_bestLot 59 = .ok (.iload_n 2, 1) := by decide +kernel
theorem dX1_bestLot_60 : decode cX1_bestLot 60 = .ok (.if_icmp .gt 24, 3) := by decide +kernel
theorem dX1_bestLot_63 : decode cX1_bestLot 63 = .ok (.aload_n 0, 1) := by decide +kernel
theorem dX1_bestLot_64 : decode cX1_bestLot 64 = .ok (.getfield 15, 3) := by decide +kernel
theorem dX1_bestLot_67 : decode cX1_bestLot 67 = .ok (.iload 5, 2) := by decide +kernel
theorem dX1_bestLot_69 : decode cX1_bestLot 69 = .ok (.iaload, 1) := by decide +kernel
theorem dX1_bestLot_70 : decode cX1_bestLot 70 = .ok (.aload_n 0, 1) := by decide +kernel
theorem dX1_bestLot_71 : decode cX1_bestLot 71 = .ok (.getfield 15, 3) := by decide +kernel
theorem dX1_bestLot_74 : decode cX1_bestLot 74 = .ok (.iload 4, 2) := by decide +kernel
theorem dX1_bestLot_76 : decode cX1_bestLot 76 = .ok (.iaload, 1) := by decide +kernel
theorem dX1_bestLot_77 : decode cX1_bestLot 77 = .ok (.if_icmp .le 7, 3) := by decide +kernel
theorem dX1_bestLot_80 : decode cX1_bestLot 80 = .ok (.iload 5, 2) := by decide +kernel
theorem dX1_bestLot_82 : decode cX1_bestLot 82 = .ok (.istore 4, 2) := by decide +kernel
theorem dX1_bestLot_84 : decode cX1_bestLot 84 = .ok (.iinc 5 1, 3) := by decide +kernel
theorem dX1_bestLot_87 : decode cX1_bestLot 87 = .ok (.goto (-51), 3) := by decide +kernel
theorem dX1_bestLot_90 : decode cX1_bestLot 90 = .ok (.iload_n 3, 1) := by decide +kernel
theorem dX1_bestLot_91 : decode cX1_bestLot 91 = .ok (.ifCond .eq 8, 3) := by decide +kernel
theorem dX1_bestLot_94 : decode cX1_bestLot 94 = .ok (.iload 4, 2) := by decide +kernel
theorem dX1_bestLot_96 : decode cX1_bestLot 96 = .ok (.goto 10, 3) := by decide +kernel
theorem dX1_bestLot_99 : decode cX1_bestLot 99 = .ok (.aload_n 0, 1) := by decide +kernel
theorem dX1_bestLot_100 : decode cX1_bestLot 100 = .ok (.getfield 15, 3) := by decide +kernel
theorem dX1_bestLot_103 : decode cX1_bestLot 103 = .ok (.iload 4, 2) := by decide +kernel
theorem dX1_bestLot_105 : decode cX1_bestLot 105 = .ok (.iaload, 1) := by decide +kernel
theorem dX1_bestLot_106 : decode cX1_bestLot 106 = .ok (.ireturn, 1) := by decide +kernel
theorem dX1_leastDifference_0 : decode cX1_leastDifference 0 = .ok (.aload_n 1, 1) := by decide +kernel
theorem dX1_leastDifference_1 : decode cX1_leastDifference 1 = .ok (.ifnonnull 5, 3) := by decide +kernel
theorem dX1_leastDifference_4 : decode cX1_leastDifference 4 = .ok (.iconst 0, 1) := by decide +kernel
theorem dX1_leastDifference_5 : decode cX1_leastDifference 5 = .ok (.ireturn, 1) := by decide +kernel
theorem dX1_leastDifference_6 : decode cX1_leastDifference 6 = .ok (.aload_n 1, 1) := by decide +kernel
theorem dX1_leastDifference_7 : decode cX1_leastDifference 7 = .ok (.aload_n 1, 1) := by decide +kernel
theorem dX1_leastDifference_8 : decode cX1_leastDifference 8 = .ok (.getfield 42, 3) := by decide +kernel
theorem dX1_leastDifference_11 : decode cX1_leastDifference 11 = .ok (.aload_n 0, 1) := by decide +kernel
theorem dX1_leastDifference_12 : decode cX1_leastDifference 12 = .ok (.getfield 9, 3) := by decide +kernel
theorem dX1_leastDifference_15 : decode cX1_leastDifference 15 = .ok (.invokestatic 45, 3) := by decide +kernel
theorem dX1_leastDifference_18 : decode cX1_leastDifference 18 = .ok (.aload_n 0, 1) := by decide +kernel
theorem dX1_leastDifference_19 : decode cX1_leastDifference 19 = .ok (.getfield 9, 3) := by decide +kernel
theorem dX1_leastDifference_22 : decode cX1_leastDifference 22 = .ok (.bipush 63, 2) := by decide +kernel
theorem dX1_leastDifference_24 : decode cX1_leastDifference 24 = .ok (.iaload, 1) := by decide +kernel
theorem dX1_leastDifference_25 : decode cX1_leastDifference 25 = .ok (.istore_n 2, 1) := by decide +kernel
theorem dX1_leastDifference_26 : decode cX1_leastDifference 26 = .ok (.iload_n 2, 1) := by decide +kernel
theorem dX1_leastDifference_27 : decode cX1_leastDifference 27 = .ok (.istore_n 3, 1) := by decide +kernel
theorem dX1_leastDifference_28 : decode cX1_leastDifference 28 = .ok (.iconst 0, 1) := by decide +kernel
theorem dX1_leastDifference_29 : decode cX1_leastDifference 29 = .ok (.istore 4, 2) := by decide +kernel
theorem dX1_leastDifference_31 : decode cX1_leastDifference 31 = .ok (.iload 4, 2) := by decide +kernel
theorem dX1_leastDifference_33 : decode cX1_leastDifference 33 = .ok (.bipush 64, 2) := by decide +kernel
theorem dX1_leastDifference_35 : decode cX1_leastDifference 35 = .ok (.if_icmp .ge 28, 3) := by decide +kernel
theorem dX1_leastDifference_38 : decode cX1_leastDifference 38 = .ok (.iload_n 3, 1) := by decide +kernel
theorem dX1_leastDifference_39 : decode cX1_leastDifference 39 = .ok (.iload_n 2, 1) := by decide +kernel
theorem dX1_leastDifference_40 : decode cX1_leastDifference 40 = .ok (.iconst 2, 1) := by decide +kernel
theorem dX1_leastDifference_41 : decode cX1_leastDifference 41 = .ok (.aload_n 0, 1) := by decide +kernel
theorem dX1_leastDifference_42 : decode cX1_leastDifference 42 = .ok (.getfield 9, 3) := by decide +kernel
theorem dX1_leastDifference_45 : decode cX1_leastDifference 45 = .ok (.iload 4, 2) := by decide +kernel
theorem dX1_leastDifference_47 : decode cX1_leastDifference 47 = .ok (.iaload, 1) := by decide +kernel
theorem dX1_leastDifference_48 : decode cX1_leastDifference 48 = .ok (.imul, 1) := by decide +kernel
theorem dX1_leastDifference_49 : decode cX1_leastDifference 49 = .ok (.isub, 1) := by decide +kernel
theorem dX1_leastDifference_50 : decode cX1_leastDifference 50 = .ok (.invokestatic 56, 3) := by decide +kernel
theorem dX1_leastDifference_53 : decode cX1_leastDifference 53 = .ok (.invokestatic 62, 3) := by decide +kernel
theorem dX1_leastDifference_56 : decode cX1_leastDifference 56 = .ok (.istore_n 3, 1) := by decide +kernel
theorem dX1_leastDifference_57 : decode cX1_leastDifference 57 = .ok (.iinc 4 1, 3) := by decide +kernel
theorem dX1_leastDifference_60 : decode cX1_leastDifference 60 = .ok (.goto (-29), 3) := by decide +kernel
theorem dX1_leastDifference_63 : decode cX1_leastDifference 63 = .ok (.iload_n 3, 1) := by decide +kernel
theorem dX1_leastDifference_64 : decode cX1_leastDifference 64 = .ok (.ireturn, 1) := by decide +kernel
theorem dX1_yearsForAll_0 : decode cX1_yearsForAll 0 = .ok (.aload_n 1, 1) := by decide +kernel
theorem dX1_yearsForAll_1 : decode cX1_yearsForAll 1 = .ok (.ifnonnull 5, 3) := by decide +kernel
theorem dX1_yearsForAll_4 : decode cX1_yearsForAll 4 = .ok (.iconst (-1), 1) := by decide +kernel
theorem dX1_yearsForAll_5 : decode cX1_yearsForAll 5 = .ok (.ireturn, 1) := by decide +kernel
theorem dX1_yearsForAll_6 : decode cX1_yearsForAll 6 = .ok (.aload_n 1, 1) := by decide +kernel
theorem dX1_yearsForAll_7 : decode cX1_yearsForAll 7 = .ok (.aload_n 1, 1) := by decide +kernel
theorem dX1_yearsForAll_8 : decode cX1_yearsForAll 8 = .ok (.getfield 42, 3) := by decide +kernel
theorem dX1_yearsForAll_11 : decode cX1_yearsForAll 11 = .ok (.aload_n 0, 1) := by decide +kernel
theorem dX1_yearsForAll_12 : decode cX1_yearsForAll 12 = .ok (.getfield 9, 3) := by decide +kernel
theorem dX1_yearsForAll_15 : decode cX1_yearsForAll 15 = .ok (.invokestatic 45, 3) := by decide +kernel
theorem dX1_yearsForAll_18 : decode cX1_yearsForAll 18 = .ok (.aload_n 1, 1) := by decide +kernel
theorem dX1_yearsForAll_19 : decode cX1_yearsForAll 19 = .ok (.invokevirtual 66, 3) := by decide +kernel
theorem dX1_yearsForAll_22 : decode cX1_yearsForAll 22 = .ok (.istore_n 2, 1) := by decide +kernel
theorem dX1_yearsForAll_23 : decode cX1_yearsForAll 23 = .ok (.iconst 0, 1) := by decide +kernel
theorem dX1_yearsForAll_24 : decode cX1_yearsForAll 24 = .ok (.istore_n 3, 1) := by decide +kernel
theorem dX1_yearsForAll_25 : decode cX1_yearsForAll 25 = .ok (.iload_n 3, 1) := by decide +kernel
theorem dX1_yearsForAll_26 : decode cX1_yearsForAll 26 = .ok (.bipush 99, 2) := by decide +kernel
theorem dX1_yearsForAll_28 : decode cX1_yearsForAll 28 = .ok (.if_icmp .gt 24, 3) := by decide +kernel
theorem dX1_yearsForAll_31 : decode cX1_yearsForAll 31 = .ok (.iload_n 3, 1) := by decide +kernel
theorem dX1_yearsForAll_32 : decode cX1_yearsForAll 32 = .ok (.iload_n 2, 1) := by decide +kernel
theorem dX1_yearsForAll_33 : decode cX1_yearsForAll 33 = .ok (.imul, 1) := by decide +kernel
theorem dX1_yearsForAll_34 : decode cX1_yearsForAll 34 = .ok (.aload_n 0, 1) := by decide +kernel
theorem dX1_yearsForAll_35 : decode cX1_yearsForAll 35 = .ok (.getfield 9, 3) := by decide +kernel
theorem dX1_yearsForAll_38 : decode cX1_yearsForAll 38 = .ok (.bipush 63, 2) := by decide +kernel
theorem dX1_yearsForAll_40 : decode cX1_yearsForAll 40 = .ok (.iaload, 1) := by decide +kernel
theorem dX1_yearsForAll_41 : decode cX1_yearsForAll 41 = .ok (.if_icmp .lt 5, 3) := by decide +kernel
theorem dX1_yearsForAll_44 : decode cX1_yearsForAll 44 = .ok (.iload_n 3, 1) := by decide +kernel
theorem dX1_yearsForAll_45 : decode cX1_yearsForAll 45 = .ok (.ireturn, 1) := by decide +kernel
theorem dX1_yearsForAll_46 : decode cX1_yearsForAll 46 = .ok (.iinc 3 1, 3) := by decide +kernel
theorem dX1_yearsForAll_49 : decode cX1_yearsForAll 49 = .ok (.goto (-24), 3) := by decide +kernel
theorem dX1_yearsForAll_52 : decode cX1_yearsForAll 52 = .ok (.iconst (-1), 1) := by decide +kernel
theorem dX1_yearsForAll_53 : decode cX1_yearsForAll 53 = .ok (.ireturn, 1) := by decide +kernel
theorem dX1_makePlan_0 : decode cX1_makePlan 0 = .ok (.aload_n 0, 1) := by decide +kernel
theorem dX1_makePlan_1 : decode cX1_makePlan 1 = .ok (.iconst 0, 1) := by decide +kernel
theorem dX1_makePlan_2 : decode cX1_makePlan 2 = .ok (.putfield 69, 3) := by decide +kernel
theorem dX1_makePlan_5 : decode cX1_makePlan 5 = .ok (.aload_n 0, 1) := by decide +kernel
theorem dX1_makePlan_6 : decode cX1_makePlan 6 = .ok (.iconst 0, 1) := by decide +kernel
theorem dX1_makePlan_7 : decode cX1_makePlan 7 = .ok (.putfield 72, 3) := by decide +kernel
theorem dX1_makePlan_10 : decode cX1_makePlan 10 = .ok (.aload_n 0, 1) := by decide +kernel
theorem dX1_makePlan_11 : decode cX1_makePlan 11 = .ok (.iconst 0, 1) := by decide +kernel
theorem dX1_makePlan_12 : decode cX1_makePlan 12 = .ok (.putfield 75, 3) := by decide +kernel
theorem dX1_makePlan_15 : decode cX1_makePlan 15 = .ok (.aload_n 1, 1) := by decide +kernel
theorem dX1_makePlan_16 : decode cX1_makePlan 16 = .ok (.ifnull 7, 3) := by decide +kernel
theorem dX1_makePlan_19 : decode cX1_makePlan 19 = .ok (.iload_n 2, 1) := by decide +kernel
theorem dX1_makePlan_20 : decode cX1_makePlan 20 = .ok (.ifCond .gt 4, 3) := by decide +kernel
theorem dX1_makePlan_23 : decode cX1_makePlan 23 = .ok (.return_, 1) := by decide +kernel
theorem dX1_makePlan_24 : decode cX1_makePlan 24 = .ok (.iconst 0, 1) := by decide +kernel
theorem dX1_makePlan_25 : decode cX1_makePlan 25 = .ok (.istore_n 3, 1) := by decide +kernel
theorem dX1_makePlan_26 : decode cX1_makePlan 26 = .ok (.iload_n 3, 1) := by decide +kernel
theorem dX1_makePlan_27 : decode cX1_makePlan 27 = .ok (.bipush 6, 2) := by decide +kernel
theorem dX1_makePlan_29 : decode cX1_makePlan 29 = .ok (.if_icmp .ge 55, 3) := by decide +kernel
theorem dX1_makePlan_32 : decode cX1_makePlan 32 = .ok (.aload_n 0, 1) := by decide +kernel
theorem dX1_makePlan_33 : decode cX1_makePlan 33 = .ok (.getfield 18, 3) := by decide +kernel
theorem dX1_makePlan_36 : decode cX1_makePlan 36 = .ok (.iload_n 3, 1) := by decide +kernel
theorem dX1_makePlan_37 : decode cX1_makePlan 37 = .ok (.aload_n 1, 1) := by decide +kernel
theorem dX1_makePlan_38 : decode cX1_makePlan 38 = .ok (.iload_n 3, 1) := by decide +kernel
theorem dX1_makePlan_39 : decode cX1_makePlan 39 = .ok (.invokevirtual 78, 3) := by decide +kernel
theorem dX1_makePlan_42 : decode cX1_makePlan 42 = .ok (.ifCond .eq 18, 3) := by decide +kernel
theorem dX1_makePlan_45 : decode cX1_makePlan 45 = .ok (.aload_n 1, 1) := by decide +kernel
theorem dX1_makePlan_46 : decode cX1_makePlan 46 = .ok (.getfield 42, 3) := by decide +kernel
theorem dX1_makePlan_49 : decode cX1_makePlan 49 = .ok (.iload_n 3, 1) := by decide +kernel
theorem dX1_makePlan_50 : decode cX1_makePlan 50 = .ok (.iaload, 1) := by decide +kernel
theorem dX1_makePlan_51 : decode cX1_makePlan 51 = .ok (.iload_n 2, 1) := by decide +kernel
theorem dX1_makePlan_52 : decode cX1_makePlan 52 = .ok (.iadd, 1) := by decide +kernel
theorem dX1_makePlan_53 : decode cX1_makePlan 53 = .ok (.iconst 1, 1) := by decide +kernel
theorem dX1_makePlan_54 : decode cX1_makePlan 54 = .ok (.isub, 1) := by decide +kernel
theorem dX1_makePlan_55 : decode cX1_makePlan 55 = .ok (.iload_n 2, 1) := by decide +kernel
theorem dX1_makePlan_56 : decode cX1_makePlan 56 = .ok (.idiv, 1) := by decide +kernel
theorem dX1_makePlan_57 : decode cX1_makePlan 57 = .ok (.goto 4, 3) := by decide +kernel
theorem dX1_makePlan_60 : decode cX1_makePlan 60 = .ok (.iconst 0, 1) := by decide +kernel
theorem dX1_makePlan_61 : decode cX1_makePlan 61 = .ok (.iastore, 1) := by decide +kernel
theorem dX1_makePlan_62 : decode cX1_makePlan 62 = .ok (.aload_n 0, 1) := by decide +kernel
theorem dX1_makePlan_63 : decode cX1_makePlan 63 = .ok (.getfield 24, 3) := by decide +kernel
theorem dX1_makePlan_66 : decode cX1_makePlan 66 = .ok (.iload_n 3, 1) := by decide +kernel
theorem dX1_makePlan_67 : decode cX1_makePlan 67 = .ok (.aload_n 1, 1) := by decide +kernel
theorem dX1_makePlan_68 : decode cX1_makePlan 68 = .ok (.aload_n 0, 1) := by decide +kernel
theorem dX1_makePlan_69 : decode cX1_makePlan 69 = .ok (.getfield 18, 3) := by decide +kernel
theorem dX1_makePlan_72 : decode cX1_makePlan 72 = .ok (.iload_n 3, 1) := by decide +kernel
theorem dX1_makePlan_73 : decode cX1_makePlan 73 = .ok (.iaload, 1) := by decide +kernel
theorem dX1_makePlan_74 : decode cX1_makePlan 74 = .ok (.invokestatic 82, 3) := by decide +kernel
theorem dX1_makePlan_77 : decode cX1_makePlan 77 = .ok (.iastore, 1) := by decide +kernel
theorem dX1_makePlan_78 : decode cX1_makePlan 78 = .ok (.iinc 3 1, 3) := by decide +kernel
theorem dX1_makePlan_81 : decode cX1_makePlan 81 = .ok (.goto (-55), 3) := by decide +kernel
theorem dX1_makePlan_84 : decode cX1_makePlan 84 = .ok (.aload_n 1, 1) := by decide +kernel
theorem dX1_makePlan_85 : decode cX1_makePlan 85 = .ok (.aload_n 1, 1) := by decide +kernel
theorem dX1_makePlan_86 : decode cX1_makePlan 86 = .ok (.getfield 49, 3) := by decide +kernel
theorem dX1_makePlan_89 : decode cX1_makePlan 89 = .ok (.aload_n 0, 1) := by decide +kernel
theorem dX1_makePlan_90 : decode cX1_makePlan 90 = .ok (.getfield 15, 3) := by decide +kernel
theorem dX1_makePlan_93 : decode cX1_makePlan 93 = .ok (.invokestatic 45, 3) := by decide +kernel
theorem dX1_makePlan_96 : decode cX1_makePlan 96 = .ok (.aload_n 1, 1) := by decide +kernel
theorem dX1_makePlan_97 : decode cX1_makePlan 97 = .ok (.aload_n 0, 1) := by decide +kernel
theorem dX1_makePlan_98 : decode cX1_makePlan 98 = .ok (.getfield 18, 3) := by decide +kernel
theorem dX1_makePlan_101 : decode cX1_makePlan 101 = .ok (.aload_n 0, 1) := by decide +kernel
theorem dX1_makePlan_102 : decode cX1_makePlan 102 = .ok (.getfield 21, 3) := by decide +kernel
theorem dX1_makePlan_105 : decode cX1_makePlan 105 = .ok (.invokestatic 45, 3) := by decide +kernel
theorem dX1_makePlan_108 : decode cX1_makePlan 108 = .ok (.aload_n 1, 1) := by decide +kernel
theorem dX1_makePlan_109 : decode cX1_makePlan 109 = .ok (.aload_n 0, 1) := by decide +kernel
theorem dX1_makePlan_110 : decode cX1_makePlan 110 = .ok (.getfield 24, 3) := by decide +kernel
theorem dX1_makePlan_113 : decode cX1_makePlan 113 = .ok (.aload_n 0, 1) := by decide +kernel
theorem dX1_makePlan_114 : decode cX1_makePlan 114 = .ok (.getfield 27, 3) := by decide +kernel
theorem dX1_makePlan_117 : decode cX1_makePlan 117 = .ok (.invokestatic 45, 3) := by decide +kernel
theorem dX1_makePlan_120 : decode cX1_makePlan 120 = .ok (.aload_n 0, 1) := by decide +kernel
theorem dX1_makePlan_121 : decode cX1_makePlan 121 = .ok (.aload_n 1, 1) := by decide +kernel
theorem dX1_makePlan_122 : decode cX1_makePlan 122 = .ok (.invokevirtual 86, 3) := by decide +kernel
theorem dX1_makePlan_125 : decode cX1_makePlan 125 = .ok (.iconst 0, 1) := by decide +kernel
theorem dX1_makePlan_126 : decode cX1_makePlan 126 = .ok (.istore_n 3, 1) := by decide +kernel
theorem dX1_makePlan_127 : decode cX1_makePlan 127 = .ok (.iload_n 3, 1) := by decide +kernel
theorem dX1_makePlan_128 : decode cX1_makePlan 128 = .ok (.bipush 64, 2) := by decide +kernel
theorem dX1_makePlan_130 : decode cX1_makePlan 130 = .ok (.if_icmp .ge 62, 3) := by decide +kernel
theorem dX1_makePlan_133 : decode cX1_makePlan 133 = .ok (.aload_n 0, 1) := by decide +kernel
theorem dX1_makePlan_134 : decode cX1_makePlan 134 = .ok (.invokevirtual 90, 3) := by decide +kernel
theorem dX1_makePlan_137 : decode cX1_makePlan 137 = .ok (.istore 4, 2) := by decide +kernel
theorem dX1_makePlan_139 : decode cX1_makePlan 139 = .ok (.aload_n 0, 1) := by decide +kernel
theorem dX1_makePlan_140 : decode cX1_makePlan 140 = .ok (.aload_n 1, 1) := by decide +kernel
theorem dX1_makePlan_141 : decode cX1_makePlan 141 = .ok (.iload 4, 2) := by decide +kernel
theorem dX1_makePlan_143 : decode cX1_makePlan 143 = .ok (.invokevirtual 93, 3) := by decide +kernel
theorem dX1_makePlan_146 : decode cX1_makePlan 146 = .ok (.istore 5, 2) := by decide +kernel
theorem dX1_makePlan_148 : decode cX1_makePlan 148 = .ok (.iload 5, 2) := by decide +kernel
theorem dX1_makePlan_150 : decode cX1_makePlan 150 = .ok (.iconst (-1), 1) := by decide +kernel
theorem dX1_makePlan_151 : decode cX1_makePlan 151 = .ok (.if_icmp .eq 27, 3) := by decide +kernel
theorem dX1_makePlan_154 : decode cX1_makePlan 154 = .ok (.aload_n 0, 1) := by decide +kernel
theorem dX1_makePlan_155 : decode cX1_makePlan 155 = .ok (.aload_n 0, 1) := by decide +kernel
theorem dX1_makePlan_156 : decode cX1_makePlan 156 = .ok (.getfield 15, 3) := by decide +kernel
theorem dX1_makePlan_159 : decode cX1_makePlan 159 = .ok (.iload 4, 2) := by decide +kernel
theorem dX1_makePlan_161 : decode cX1_makePlan 161 = .ok (.iaload, 1) := by decide +kernel
theorem dX1_makePlan_162 : decode cX1_makePlan 162 = .ok (.putfield 69, 3) := by decide +kernel
theorem dX1_makePlan_165 : decode cX1_makePlan 165 = .ok (.aload_n 0, 1) := by decide +kernel
theorem dX1_makePlan_166 : decode cX1_makePlan 166 = .ok (.iload 4, 2) := by decide +kernel
theorem dX1_makePlan_168 : decode cX1_makePlan 168 = .ok (.putfield 72, 3) := by decide +kernel
theorem dX1_makePlan_171 : decode cX1_makePlan 171 = .ok (.aload_n 0, 1) := by decide +kernel
theorem dX1_makePlan_172 : decode cX1_makePlan 172 = .ok (.iload 5, 2) := by decide +kernel
theorem dX1_makePlan_174 : decode cX1_makePlan 174 = .ok (.putfield 75, 3) := by decide +kernel
theorem dX1_makePlan_177 : decode cX1_makePlan 177 = .ok (.return_, 1) := by decide +kernel
theorem dX1_makePlan_178 : decode cX1_makePlan 178 = .ok (.aload_n 0, 1) := by decide +kernel
theorem dX1_makePlan_179 : decode cX1_makePlan 179 = .ok (.getfield 15, 3) := by decide +kernel
theorem dX1_makePlan_182 : decode cX1_makePlan 182 = .ok (.iload 4, 2) := by decide +kernel
theorem dX1_makePlan_184 : decode cX1_makePlan 184 = .ok (.iconst (-1), 1) := by decide +kernel
theorem dX1_makePlan_185 : decode cX1_makePlan 185 = .ok (.iastore, 1) := by decide +kernel
theorem dX1_makePlan_186 : decode cX1_makePlan 186 = .ok (.iinc 3 1, 3) := by decide +kernel
theorem dX1_makePlan_189 : decode cX1_makePlan 189 = .ok (.goto (-62), 3) := by decide +kernel
theorem dX1_makePlan_192 : decode cX1_makePlan 192 = .ok (.return_, 1) := by decide +kernel
theorem dX1_handsAlone_0 : decode cX1_handsAlone 0 = .ok (.iload_n 1, 1) := by decide +kernel
theorem dX1_handsAlone_1 : decode cX1_handsAlone 1 = .ok (.istore_n 2, 1) := by decide +kernel
theorem dX1_handsAlone_2 : decode cX1_handsAlone 2 = .ok (.iconst 0, 1) := by decide +kernel
theorem dX1_handsAlone_3 : decode cX1_handsAlone 3 = .ok (.istore_n 3, 1) := by decide +kernel
theorem dX1_handsAlone_4 : decode cX1_handsAlone 4 = .ok (.iconst 0, 1) := by decide +kernel
theorem dX1_handsAlone_5 : decode cX1_handsAlone 5 = .ok (.istore 4, 2) := by decide +kernel
theorem dX1_handsAlone_7 : decode cX1_handsAlone 7 = .ok (.iload 4, 2) := by decide +kernel
theorem dX1_handsAlone_9 : decode cX1_handsAlone 9 = .ok (.bipush 10, 2) := by decide +kernel
theorem dX1_handsAlone_11 : decode cX1_handsAlone 11 = .ok (.if_icmp .gt 103, 3) := by decide +kernel
theorem dX1_handsAlone_14 : decode cX1_handsAlone 14 = .ok (.iload_n 2, 1) := by decide +kernel
theorem dX1_handsAlone_15 : decode cX1_handsAlone 15 = .ok (.ifCond .gt 6, 3) := by decide +kernel
theorem dX1_handsAlone_18 : decode cX1_handsAlone 18 = .ok (.iload 4, 2) := by decide +kernel
theorem dX1_handsAlone_20 : decode cX1_handsAlone 20 = .ok (.ireturn, 1) := by decide +kernel
theorem dX1_handsAlone_21 : decode cX1_handsAlone 21 = .ok (.iconst (-1), 1) := by decide +kernel
theorem dX1_handsAlone_22 : decode cX1_handsAlone 22 = .ok (.istore 5, 2) := by decide +kernel
theorem dX1_handsAlone_24 : decode cX1_handsAlone 24 = .ok (.iconst 0, 1) := by decide +kernel
theorem dX1_handsAlone_25 : decode cX1_handsAlone 25 = .ok (.istore 6, 2) := by decide +kernel
theorem dX1_handsAlone_27 : decode cX1_handsAlone 27 = .ok (.iconst 0, 1) := by decide +kernel
theorem dX1_handsAlone_28 : decode cX1_handsAlone 28 = .ok (.istore 7, 2) := by decide +kernel
theorem dX1_handsAlone_30 : decode cX1_handsAlone 30 = .ok (.iload 7, 2) := by decide +kernel
theorem dX1_handsAlone_32 : decode cX1_handsAlone 32 = .ok (.aload_n 0, 1) := by decide +kernel
theorem dX1_handsAlone_33 : decode cX1_handsAlone 33 = .ok (.getfield 96, 3) := by decide +kernel
theorem dX1_handsAlone_36 : decode cX1_handsAlone 36 = .ok (.if_icmp .ge 50, 3) := by decide +kernel
theorem dX1_handsAlone_39 : decode cX1_handsAlone 39 = .ok (.iload 7, 2) := by decide +kernel
theorem dX1_handsAlone_41 : decode cX1_handsAlone 41 = .ok (.bipush 10, 2) := by decide +kernel
theorem dX1_handsAlone_43 : decode cX1_handsAlone 43 = .ok (.if_icmp .ge 43, 3) := by decide +kernel
theorem dX1_handsAlone_46 : decode cX1_handsAlone 46 = .ok (.iload_n 3, 1) := by decide +kernel
theorem dX1_handsAlone_47 : decode cX1_handsAlone 47 = .ok (.iload 7, 2) := by decide +kernel
theorem dX1_handsAlone_49 : decode cX1_handsAlone 49 = .ok (.ishr, 1) := by decide +kernel
theorem dX1_handsAlone_50 : decode cX1_handsAlone 50 = .ok (.iconst 1, 1) := by decide +kernel
theorem dX1_handsAlone_51 : decode cX1_handsAlone 51 = .ok (.iand, 1) := by decide +kernel
theorem dX1_handsAlone_52 : decode cX1_handsAlone 52 = .ok (.ifCond .ne 28, 3) := by decide +kernel
theorem dX1_handsAlone_55 : decode cX1_handsAlone 55 = .ok (.aload_n 0, 1) := by decide +kernel
theorem dX1_handsAlone_56 : decode cX1_handsAlone 56 = .ok (.getfield 99, 3) := by decide +kernel
theorem dX1_handsAlone_59 : decode cX1_handsAlone 59 = .ok (.iload 7, 2) := by decide +kernel
theorem dX1_handsAlone_61 : decode cX1_handsAlone 61 = .ok (.iaload, 1) := by decide +kernel
theorem dX1_handsAlone_62 : decode cX1_handsAlone 62 = .ok (.iload 6, 2) := by decide +kernel
theorem dX1_handsAlone_64 : decode cX1_handsAlone 64 = .ok (.if_icmp .le 16, 3) := by decide +kernel
theorem dX1_handsAlone_67 : decode cX1_handsAlone 67 = .ok (.aload_n 0, 1) := by decide +kernel
theorem dX1_handsAlone_68 : decode cX1_handsAlone 68 = .ok (.getfield 99, 3) := by decide +kernel
theorem dX1_handsAlone_71 : decode cX1_handsAlone 71 = .ok (.iload 7, 2) := by decide +kernel
theorem dX1_handsAlone_73 : decode cX1_handsAlone 73 = .ok (.iaload, 1) := by decide +kernel
theorem dX1_handsAlone_74 : decode cX1_handsAlone 74 = .ok (.istore 6, 2) := by decide +kernel
theorem dX1_handsAlone_76 : decode cX1_handsAlone 76 = .ok (.iload 7, 2) := by decide +kernel
theorem dX1_handsAlone_78 : decode cX1_handsAlone 78 = .ok (.istore 5, 2) := by decide +kernel
theorem dX1_handsAlone_80 : decode cX1_handsAlone 80 = .ok (.iinc 7 1, 3) := by decide +kernel
theorem dX1_handsAlone_83 : decode cX1_handsAlone 83 = .ok (.goto (-53), 3) := by decide +kernel
theorem dX1_handsAlone_86 : decode cX1_handsAlone 86 = .ok (.iload_n 3, 1) := by decide +kernel
theorem dX1_handsAlone_87 : decode cX1_handsAlone 87 = .ok (.iload 5, 2) := by decide +kernel
theorem dX1_handsAlone_89 : decode cX1_handsAlone 89 = .ok (.iconst (-1), 1) := by decide +kernel
theorem dX1_handsAlone_90 : decode cX1_handsAlone 90 = .ok (.if_icmp .ne 7, 3) := by decide +kernel
theorem dX1_handsAlone_93 : decode cX1_handsAlone 93 = .ok (.iconst 0, 1) := by decide +kernel
theorem dX1_handsAlone_94 : decode cX1_handsAlone 94 = .ok (.goto 7, 3) := by decide +kernel
theorem dX1_handsAlone_97 : decode cX1_handsAlone 97 = .ok (.iconst 1, 1) := by decide +kernel
theorem dX1_handsAlone_98 : decode cX1_handsAlone 98 = .ok (.iload 5, 2) := by decide +kernel
theorem dX1_handsAlone_100 : decode cX1_handsAlone 100 = .ok (.ishl, 1) := by decide +kernel
theorem dX1_handsAlone_101 : decode cX1_handsAlone 101 = .ok (.ior, 1) := by decide +kernel
theorem dX1_handsAlone_102 : decode cX1_handsAlone 102 = .ok (.istore_n 3, 1) := by decide +kernel
theorem dX1_handsAlone_103 : decode cX1_handsAlone 103 = .ok (.iload_n 2, 1) := by decide +kernel
theorem dX1_handsAlone_104 : decode cX1_handsAlone 104 = .ok (.iload 6, 2) := by decide +kernel
theorem dX1_handsAlone_106 : decode cX1_handsAlone 106 = .ok (.isub, 1) := by decide +kernel
theorem dX1_handsAlone_107 : decode cX1_handsAlone 107 = .ok (.istore_n 2, 1) := by decide +kernel
theorem dX1_handsAlone_108 : decode cX1_handsAlone 108 = .ok (.iinc 4 1, 3) := by decide +kernel
theorem dX1_handsAlone_111 : decode cX1_handsAlone 111 = .ok (.goto (-104), 3) := by decide +kernel
theorem dX1_handsAlone_114 : decode cX1_handsAlone 114 = .ok (.bipush 11, 2) := by decide +kernel
theorem dX1_handsAlone_116 : decode cX1_handsAlone 116 = .ok (.ireturn, 1) := by decide +kernel
theorem dX1_strikeHopeless_0 : decode cX1_strikeHopeless 0 = .ok (.aload_n 1, 1) := by decide +kernel
theorem dX1_strikeHopeless_1 : decode cX1_strikeHopeless 1 = .ok (.invokevirtual 66, 3) := by decide +kernel
theorem dX1_strikeHopeless_4 : decode cX1_strikeHopeless 4 = .ok (.istore_n 2, 1) := by decide +kernel
theorem dX1_strikeHopeless_5 : decode cX1_strikeHopeless 5 = .ok (.iconst 0, 1) := by decide +kernel
theorem dX1_strikeHopeless_6 : decode cX1_strikeHopeless 6 = .ok (.istore_n 3, 1) := by decide +kernel
theorem dX1_strikeHopeless_7 : decode cX1_strikeHopeless 7 = .ok (.iload_n 3, 1) := by decide +kernel
theorem dX1_strikeHopeless_8 : decode cX1_strikeHopeless 8 = .ok (.bipush 64, 2) := by decide +kernel
theorem dX1_strikeHopeless_10 : decode cX1_strikeHopeless 10 = .ok (.if_icmp .ge 59, 3) := by decide +kernel
theorem dX1_strikeHopeless_13 : decode cX1_strikeHopeless 13 = .ok (.iload_n 3, 1) := by decide +kernel
theorem dX1_strikeHopeless_14 : decode cX1_strikeHopeless 14 = .ok (.aload_n 1, 1) := by decide +kernel
theorem dX1_strikeHopeless_15 : decode cX1_strikeHopeless 15 = .ok (.invokevirtual 52, 3) := by decide +kernel
theorem dX1_strikeHopeless_18 : decode cX1_strikeHopeless 18 = .ok (.if_icmp .gt 7, 3) := by decide +kernel
theorem dX1_strikeHopeless_21 : decode cX1_strikeHopeless 21 = .ok (.iconst 1, 1) := by decide +kernel
theorem dX1_strikeHopeless_22 : decode cX1_strikeHopeless 22 = .ok (.goto 4, 3) := by decide +kernel
theorem dX1_strikeHopeless_25 : decode cX1_strikeHopeless 25 = .ok (.iconst 0, 1) := by decide +kernel
theorem dX1_strikeHopeless_26 : decode cX1_strikeHopeless 26 = .ok (.istore 4, 2) := by decide +kernel
theorem dX1_strikeHopeless_28 : decode cX1_strikeHopeless 28 = .ok (.iload 4, 2) := by decide +kernel
theorem dX1_strikeHopeless_30 : decode cX1_strikeHopeless 30 = .ok (.ifCond .eq 26, 3) := by decide +kernel
theorem dX1_strikeHopeless_33 : decode cX1_strikeHopeless 33 = .ok (.aload_n 0, 1) := by decide +kernel
theorem dX1_strikeHopeless_34 : decode cX1_strikeHopeless 34 = .ok (.getfield 21, 3) := by decide +kernel
theorem dX1_strikeHopeless_37 : decode cX1_strikeHopeless 37 = .ok (.iload_n 3, 1) := by decide +kernel
theorem dX1_strikeHopeless_38 : decode cX1_strikeHopeless 38 = .ok (.iaload, 1) := by decide +kernel
theorem dX1_strikeHopeless_39 : decode cX1_strikeHopeless 39 = .ok (.iload_n 2, 1) := by decide +kernel
theorem dX1_strikeHopeless_40 : decode cX1_strikeHopeless 40 = .ok (.if_icmp .gt 16, 3) := by decide +kernel
theorem dX1_strikeHopeless_43 : decode cX1_strikeHopeless 43 = .ok (.aload_n 0, 1) := by decide +kernel
theorem dX1_strikeHopeless_44 : decode cX1_strikeHopeless 44 = .ok (.getfield 27, 3) := by decide +kernel
theorem dX1_strikeHopeless_47 : decode cX1_strikeHopeless 47 = .ok (.iload_n 3, 1) := by decide +kernel
theorem dX1_strikeHopeless_48 : decode cX1_strikeHopeless 48 = .ok (.iaload, 1) := by decide +kernel
theorem dX1_strikeHopeless_49 : decode cX1_strikeHopeless 49 = .ok (.aload_n 1, 1) := by decide +kernel
theorem dX1_strikeHopeless_50 : decode cX1_strikeHopeless 50 = .ok (.getfield 96, 3) := by decide +kernel
theorem dX1_strikeHopeless_53 : decode cX1_strikeHopeless 53 = .ok (.if_icmp .le 10, 3) := by decide +kernel
theorem dX1_strikeHopeless_56 : decode cX1_strikeHopeless 56 = .ok (.aload_n 0, 1) := by decide +kernel
theorem dX1_strikeHopeless_57 : decode cX1_strikeHopeless 57 = .ok (.getfield 15, 3) := by decide +kernel
theorem dX1_strikeHopeless_60 : decode cX1_strikeHopeless 60 = .ok (.iload_n 3, 1) := by decide +kernel
theorem dX1_strikeHopeless_61 : decode cX1_strikeHopeless 61 = .ok (.iconst (-1), 1) := by decide +kernel
theorem dX1_strikeHopeless_62 : decode cX1_strikeHopeless 62 = .ok (.iastore, 1) := by decide +kernel
theorem dX1_strikeHopeless_63 : decode cX1_strikeHopeless 63 = .ok (.iinc 3 1, 3) := by decide +kernel
theorem dX1_strikeHopeless_66 : decode cX1_strikeHopeless 66 = .ok (.goto (-59), 3) := by decide +kernel
theorem dX1_strikeHopeless_69 : decode cX1_strikeHopeless 69 = .ok (.return_, 1) := by decide +kernel
theorem dX1_bestUnstruck_0 : decode cX1_bestUnstruck 0 = .ok (.iconst 0, 1) := by decide +kernel
theorem dX1_bestUnstruck_1 : decode cX1_bestUnstruck 1 = .ok (.istore_n 1, 1) := by decide +kernel
theorem dX1_bestUnstruck_2 : decode cX1_bestUnstruck 2 = .ok (.iconst 0, 1) := by decide +kernel
theorem dX1_bestUnstruck_3 : decode cX1_bestUnstruck 3 = .ok (.istore_n 2, 1) := by decide +kernel
theorem dX1_bestUnstruck_4 : decode cX1_bestUnstruck 4 = .ok (.iload_n 2, 1) := by decide +kernel
theorem dX1_bestUnstruck_5 : decode cX1_bestUnstruck 5 = .ok (.bipush 64, 2) := by decide +kernel
theorem dX1_bestUnstruck_7 : decode cX1_bestUnstruck 7 = .ok (.if_icmp .ge 26, 3) := by decide +kernel
theorem dX1_bestUnstruck_10 : decode cX1_bestUnstruck 10 = .ok (.aload_n 0, 1) := by decide +kernel
theorem dX1_bestUnstruck_11 : decode cX1_bestUnstruck 11 = .ok (.getfield 15, 3) := by decide +kernel
theorem dX1_bestUnstruck_14 : decode cX1_bestUnstruck 14 = .ok (.iload_n 2, 1) := by decide +kernel
theorem dX1_bestUnstruck_15 : decode cX1_bestUnstruck 15 = .ok (.iaload, 1) := by decide +kernel
theorem dX1_bestUnstruck_16 : decode cX1_bestUnstruck 16 = .ok (.aload_n 0, 1) := by decide +kernel
theorem dX1_bestUnstruck_17 : decode cX1_bestUnstruck 17 = .ok (.getfield 15, 3) := by decide +kernel
theorem dX1_bestUnstruck_20 : decode cX1_bestUnstruck 20 = .ok (.iload_n 1, 1) := by decide +kernel
theorem dX1_bestUnstruck_21 : decode cX1_bestUnstruck 21 = .ok (.iaload, 1) := by decide +kernel
theorem dX1_bestUnstruck_22 : decode cX1_bestUnstruck 22 = .ok (.if_icmp .le 5, 3) := by decide +kernel
theorem dX1_bestUnstruck_25 : decode cX1_bestUnstruck 25 = .ok (.iload_n 2, 1) := by decide +kernel
theorem dX1_bestUnstruck_26 : decode cX1_bestUnstruck 26 = .ok (.istore_n 1, 1) := by decide +kernel
theorem dX1_bestUnstruck_27 : decode cX1_bestUnstruck 27 = .ok (.iinc 2 1, 3) := by decide +kernel
theorem dX1_bestUnstruck_30 : decode cX1_bestUnstruck 30 = .ok (.goto (-26), 3) := by decide +kernel
theorem dX1_bestUnstruck_33 : decode cX1_bestUnstruck 33 = .ok (.iload_n 1, 1) := by decide +kernel
theorem dX1_bestUnstruck_34 : decode cX1_bestUnstruck 34 = .ok (.ireturn, 1) := by decide +kernel
theorem dX1_fewestHands_0 : decode cX1_fewestHands 0 = .ok (.aload_n 0, 1) := by decide +kernel
theorem dX1_fewestHands_1 : decode cX1_fewestHands 1 = .ok (.iload_n 2, 1) := by decide +kernel
theorem dX1_fewestHands_2 : decode cX1_fewestHands 2 = .ok (.invokevirtual 102, 3) := by decide +kernel
theorem dX1_fewestHands_5 : decode cX1_fewestHands 5 = .ok (.aload_n 0, 1) := by decide +kernel
theorem dX1_fewestHands_6 : decode cX1_fewestHands 6 = .ok (.getfield 106, 3) := by decide +kernel
theorem dX1_fewestHands_9 : decode cX1_fewestHands 9 = .ok (.ifCond .ne 5, 3) := by decide +kernel
theorem dX1_fewestHands_12 : decode cX1_fewestHands 12 = .ok (.iconst 0, 1) := by decide +kernel
theorem dX1_fewestHands_13 : decode cX1_fewestHands 13 = .ok (.ireturn, 1) := by decide +kernel
theorem dX1_fewestHands_14 : decode cX1_fewestHands 14 = .ok (.iconst (-1), 1) := by decide +kernel
theorem dX1_fewestHands_15 : decode cX1_fewestHands 15 = .ok (.istore_n 3, 1) := by decide +kernel
theorem dX1_fewestHands_16 : decode cX1_fewestHands 16 = .ok (.iconst 1, 1) := by decide +kernel
theorem dX1_fewestHands_17 : decode cX1_fewestHands 17 = .ok (.aload_n 1, 1) := by decide +kernel
theorem dX1_fewestHands_18 : decode cX1_fewestHands 18 = .ok (.getfield 96, 3) := by decide +kernel
theorem dX1_fewestHands_21 : decode cX1_fewestHands 21 = .ok (.ishl, 1) := by decide +kernel
theorem dX1_fewestHands_22 : decode cX1_fewestHands 22 = .ok (.istore 4, 2) := by decide +kernel
theorem dX1_fewestHands_24 : decode cX1_fewestHands 24 = .ok (.aload_n 0, 1) := by decide +kernel
theorem dX1_fewestHands_25 : decode cX1_fewestHands 25 = .ok (.getfield 33, 3) := by decide +kernel
theorem dX1_fewestHands_28 : decode cX1_fewestHands 28 = .ok (.iconst 0, 1) := by decide +kernel
theorem dX1_fewestHands_29 : decode cX1_fewestHands 29 = .ok (.iconst 0, 1) := by decide +kernel
theorem dX1_fewestHands_30 : decode cX1_fewestHands 30 = .ok (.iastore, 1) := by decide +kernel
theorem dX1_fewestHands_31 : decode cX1_fewestHands 31 = .ok (.iconst 1, 1) := by decide +kernel
theorem dX1_fewestHands_32 : decode cX1_fewestHands 32 = .ok (.istore 5, 2) := by decide +kernel
theorem dX1_fewestHands_34 : decode cX1_fewestHands 34 = .ok (.iload 5, 2) := by decide +kernel
theorem dX1_fewestHands_36 : decode cX1_fewestHands 36 = .ok (.iload 4, 2) := by decide +kernel
theorem dX1_fewestHands_38 : decode cX1_fewestHands 38 = .ok (.if_icmp .ge 129, 3) := by decide +kernel
theorem dX1_fewestHands_41 : decode cX1_fewestHands 41 = .ok (.iload 5, 2) := by decide +kernel
theorem dX1_fewestHands_43 : decode cX1_fewestHands 43 = .ok (.sipush 1024, 3) := by decide +kernel
theorem dX1_fewestHands_46 : decode cX1_fewestHands 46 = .ok (.if_icmp .ge 121, 3) := by decide +kernel
theorem dX1_fewestHands_49 : decode cX1_fewestHands 49 = .ok (.iconst 0, 1) := by decide +kernel
theorem dX1_fewestHands_50 : decode cX1_fewestHands 50 = .ok (.istore 6, 2) := by decide +kernel
theorem dX1_fewestHands_52 : decode cX1_fewestHands 52 = .ok (.iconst 0, 1) := by decide +kernel
theorem dX1_fewestHands_53 : decode cX1_fewestHands 53 = .ok (.istore 7, 2) := by decide +kernel
theorem dX1_fewestHands_55 : decode cX1_fewestHands 55 = .ok (.iload 7, 2) := by decide +kernel
theorem dX1_fewestHands_57 : decode cX1_fewestHands 57 = .ok (.aload_n 1, 1) := by decide +kernel
theorem dX1_fewestHands_58 : decode cX1_fewestHands 58 = .ok (.getfield 96, 3) := by decide +kernel
theorem dX1_fewestHands_61 : decode cX1_fewestHands 61 = .ok (.if_icmp .ge 58, 3) := by decide +kernel
theorem dX1_fewestHands_64 : decode cX1_fewestHands 64 = .ok (.iload 7, 2) := by decide +kernel
theorem dX1_fewestHands_66 : decode cX1_fewestHands 66 = .ok (.bipush 10, 2) := by decide +kernel
theorem dX1_fewestHands_68 : decode cX1_fewestHands 68 = .ok (.if_icmp .ge 51, 3) := by decide +kernel
theorem dX1_fewestHands_71 : decode cX1_fewestHands 71 = .ok (.iload 5, 2) := by decide +kernel
theorem dX1_fewestHands_73 : decode cX1_fewestHands 73 = .ok (.iload 7, 2) := by decide +kernel
theorem dX1_fewestHands_75 : decode cX1_fewestHands 75 = .ok (.ishr, 1) := by decide +kernel
theorem dX1_fewestHands_76 : decode cX1_fewestHands 76 = .ok (.iconst 1, 1) := by decide +kernel
theorem dX1_fewestHands_77 : decode cX1_fewestHands 77 = .ok (.iand, 1) := by decide +kernel
theorem dX1_fewestHands_78 : decode cX1_fewestHands 78 = .ok (.ifCond .eq 35, 3) := by decide +kernel
theorem dX1_fewestHands_81 : decode cX1_fewestHands 81 = .ok (.iload 6, 2) := by decide +kernel
theorem dX1_fewestHands_83 : decode cX1_fewestHands 83 = .ok (.aload_n 0, 1) := by decide +kernel
theorem dX1_fewestHands_84 : decode cX1_fewestHands 84 = .ok (.aload_n 0, 1) := by decide +kernel
theorem dX1_fewestHands_85 : decode cX1_fewestHands 85 = .ok (.getfield 33, 3) := by decide +kernel
theorem dX1_fewestHands_88 : decode cX1_fewestHands 88 = .ok (.iload 5, 2) := by decide +kernel
theorem dX1_fewestHands_90 : decode cX1_fewestHands 90 = .ok (.iconst 1, 1) := by decide +kernel
theorem dX1_fewestHands_91 : decode cX1_fewestHands 91 = .ok (.iload 7, 2) := by decide +kernel
theorem dX1_fewestHands_93 : decode cX1_fewestHands 93 = .ok (.ishl, 1) := by decide +kernel
theorem dX1_fewestHands_94 : decode cX1_fewestHands 94 = .ok (.iconst (-1), 1) := by decide +kernel
theorem dX1_fewestHands_95 : decode cX1_fewestHands 95 = .ok (.ixor, 1) := by decide +kernel
theorem dX1_fewestHands_96 : decode cX1_fewestHands 96 = .ok (.iand, 1) := by decide +kernel
theorem dX1_fewestHands_97 : decode cX1_fewestHands 97 = .ok (.iaload, 1) := by decide +kernel
theorem dX1_fewestHands_98 : decode cX1_fewestHands 98 = .ok (.aload_n 1, 1) := by decide +kernel
theorem dX1_fewestHands_99 : decode cX1_fewestHands 99 = .ok (.getfield 99, 3) := by decide +kernel
theorem dX1_fewestHands_102 : decode cX1_fewestHands 102 = .ok (.iload 7, 2) := by decide +kernel
theorem dX1_fewestHands_104 : decode cX1_fewestHands 104 = .ok (.iaload, 1) := by decide +kernel
theorem dX1_fewestHands_105 : decode cX1_fewestHands 105 = .ok (.invokevirtual 109, 3) := by decide +kernel
theorem dX1_fewestHands_108 : decode cX1_fewestHands 108 = .ok (.invokestatic 112, 3) := by decide +kernel
theorem dX1_fewestHands_111 : decode cX1_fewestHands 111 = .ok (.istore 6, 2) := by decide +kernel
theorem dX1_fewestHands_113 : decode cX1_fewestHands 113 = .ok (.iinc 7 1, 3) := by decide +kernel
theorem dX1_fewestHands_116 : decode cX1_fewestHands 116 = .ok (.goto (-61), 3) := by decide +kernel
theorem dX1_fewestHands_119 : decode cX1_fewestHands 119 = .ok (.aload_n 0, 1) := by decide +kernel
theorem dX1_fewestHands_120 : decode cX1_fewestHands 120 = .ok (.getfield 33, 3) := by decide +kernel
theorem dX1_fewestHands_123 : decode cX1_fewestHands 123 = .ok (.iload 5, 2) := by decide +kernel
theorem dX1_fewestHands_125 : decode cX1_fewestHands 125 = .ok (.iload 6, 2) := by decide +kernel
theorem dX1_fewestHands_127 : decode cX1_fewestHands 127 = .ok (.iastore, 1) := by decide +kernel
theorem dX1_fewestHands_128 : decode cX1_fewestHands 128 = .ok (.iload 5, 2) := by decide +kernel
theorem dX1_fewestHands_130 : decode cX1_fewestHands 130 = .ok (.invokestatic 115, 3) := by decide +kernel
theorem dX1_fewestHands_133 : decode cX1_fewestHands 133 = .ok (.istore 7, 2) := by decide +kernel
theorem dX1_fewestHands_135 : decode cX1_fewestHands 135 = .ok (.iload 6, 2) := by decide +kernel
theorem dX1_fewestHands_137 : decode cX1_fewestHands 137 = .ok (.aload_n 0, 1) := by decide +kernel
theorem dX1_fewestHands_138 : decode cX1_fewestHands 138 = .ok (.getfield 106, 3) := by decide +kernel
theorem dX1_fewestHands_141 : decode cX1_fewestHands 141 = .ok (.bipush 64, 2) := by decide +kernel
theorem dX1_fewestHands_143 : decode cX1_fewestHands 143 = .ok (.imul, 1) := by decide +kernel
theorem dX1_fewestHands_144 : decode cX1_fewestHands 144 = .ok (.if_icmp .lt 17, 3) := by decide +kernel
theorem dX1_fewestHands_147 : decode cX1_fewestHands 147 = .ok (.iload_n 3, 1) := by decide +kernel
theorem dX1_fewestHands_148 : decode cX1_fewestHands 148 = .ok (.iconst (-1), 1) := by decide +kernel
theorem dX1_fewestHands_149 : decode cX1_fewestHands 149 = .ok (.if_icmp .eq 9, 3) := by decide +kernel
theorem dX1_fewestHands_152 : decode cX1_fewestHands 152 = .ok (.iload 7, 2) := by decide +kernel
theorem dX1_fewestHands_154 : decode cX1_fewestHands 154 = .ok (.iload_n 3, 1) := by decide +kernel
theorem dX1_fewestHands_155 : decode cX1_fewestHands 155 = .ok (.if_icmp .ge 6, 3) := by decide +kernel
theorem dX1_fewestHands_158 : decode cX1_fewestHands 158 = .ok (.iload 7, 2) := by decide +kernel
theorem dX1_fewestHands_160 : decode cX1_fewestHands 160 = .ok (.istore_n 3, 1) := by decide +kernel
theorem dX1_fewestHands_161 : decode cX1_fewestHands 161 = .ok (.iinc 5 1, 3) := by decide +kernel
theorem dX1_fewestHands_164 : decode cX1_fewestHands 164 = .ok (.goto (-130), 3) := by decide +kernel
theorem dX1_fewestHands_167 : decode cX1_fewestHands 167 = .ok (.iload_n 3, 1) := by decide +kernel
theorem dX1_fewestHands_168 : decode cX1_fewestHands 168 = .ok (.ireturn, 1) := by decide +kernel
theorem dX1_wantWorks_0 : decode cX1_wantWorks 0 = .ok (.aload_n 0, 1) := by decide +kernel
theorem dX1_wantWorks_1 : decode cX1_wantWorks 1 = .ok (.iconst 0, 1) := by decide +kernel
theorem dX1_wantWorks_2 : decode cX1_wantWorks 2 = .ok (.putfield 106, 3) := by decide +kernel
theorem dX1_wantWorks_5 : decode cX1_wantWorks 5 = .ok (.iconst 0, 1) := by decide +kernel
theorem dX1_wantWorks_6 : decode cX1_wantWorks 6 = .ok (.istore_n 2, 1) := by decide +kernel
theorem dX1_wantWorks_7 : decode cX1_wantWorks 7 = .ok (.iload_n 2, 1) := by decide +kernel
theorem dX1_wantWorks_8 : decode cX1_wantWorks 8 = .ok (.bipush 6, 2) := by decide +kernel
theorem dX1_wantWorks_10 : decode cX1_wantWorks 10 = .ok (.if_icmp .ge 51, 3) := by decide +kernel
theorem dX1_wantWorks_13 : decode cX1_wantWorks 13 = .ok (.iload_n 1, 1) := by decide +kernel
theorem dX1_wantWorks_14 : decode cX1_wantWorks 14 = .ok (.iload_n 2, 1) := by decide +kernel
theorem dX1_wantWorks_15 : decode cX1_wantWorks 15 = .ok (.ishr, 1) := by decide +kernel
theorem dX1_wantWorks_16 : decode cX1_wantWorks 16 = .ok (.iconst 1, 1) := by decide +kernel
theorem dX1_wantWorks_17 : decode cX1_wantWorks 17 = .ok (.iand, 1) := by decide +kernel
theorem dX1_wantWorks_18 : decode cX1_wantWorks 18 = .ok (.ifCond .eq 37, 3) := by decide +kernel
theorem dX1_wantWorks_21 : decode cX1_wantWorks 21 = .ok (.aload_n 0, 1) := by decide +kernel
theorem dX1_wantWorks_22 : decode cX1_wantWorks 22 = .ok (.getfield 106, 3) := by decide +kernel
theorem dX1_wantWorks_25 : decode cX1_wantWorks 25 = .ok (.bipush 6, 2) := by decide +kernel
theorem dX1_wantWorks_27 : decode cX1_wantWorks 27 = .ok (.if_icmp .ge 28, 3) := by decide +kernel
theorem dX1_wantWorks_30 : decode cX1_wantWorks 30 = .ok (.aload_n 0, 1) := by decide +kernel
theorem dX1_wantWorks_31 : decode cX1_wantWorks 31 = .ok (.getfield 30, 3) := by decide +kernel
theorem dX1_wantWorks_34 : decode cX1_wantWorks 34 = .ok (.aload_n 0, 1) := by decide +kernel
theorem dX1_wantWorks_35 : decode cX1_wantWorks 35 = .ok (.getfield 106, 3) := by decide +kernel
theorem dX1_wantWorks_38 : decode cX1_wantWorks 38 = .ok (.aload_n 0, 1) := by decide +kernel
theorem dX1_wantWorks_39 : decode cX1_wantWorks 39 = .ok (.getfield 18, 3) := by decide +kernel
theorem dX1_wantWorks_42 : decode cX1_wantWorks 42 = .ok (.iload_n 2, 1) := by decide +kernel
theorem dX1_wantWorks_43 : decode cX1_wantWorks 43 = .ok (.iaload, 1) := by decide +kernel
theorem dX1_wantWorks_44 : decode cX1_wantWorks 44 = .ok (.iastore, 1) := by decide +kernel
theorem dX1_wantWorks_45 : decode cX1_wantWorks 45 = .ok (.aload_n 0, 1) := by decide +kernel
theorem dX1_wantWorks_46 : decode cX1_wantWorks 46 = .ok (.dup, 1) := by decide +kernel
theorem dX1_wantWorks_47 : decode cX1_wantWorks 47 = .ok (.getfield 106, 3) := by decide +kernel
theorem dX1_wantWorks_50 : decode cX1_wantWorks 50 = .ok (.iconst 1, 1) := by decide +kernel
theorem dX1_wantWorks_51 : decode cX1_wantWorks 51 = .ok (.iadd, 1) := by decide +kernel
theorem dX1_wantWorks_52 : decode cX1_wantWorks 52 = .ok (.putfield 106, 3) := by decide +kernel
theorem dX1_wantWorks_55 : decode cX1_wantWorks 55 = .ok (.iinc 2 1, 3) := by decide +kernel
theorem dX1_wantWorks_58 : decode cX1_wantWorks 58 = .ok (.goto (-51), 3) := by decide +kernel
theorem dX1_wantWorks_61 : decode cX1_wantWorks 61 = .ok (.return_, 1) := by decide +kernel
theorem dX1_digOn_0 : decode cX1_digOn 0 = .ok (.iload_n 1, 1) := by decide +kernel
theorem dX1_digOn_1 : decode cX1_digOn 1 = .ok (.bipush 64, 2) := by decide +kernel
theorem dX1_digOn_3 : decode cX1_digOn 3 = .ok (.idiv, 1) := by decide +kernel
theorem dX1_digOn_4 : decode cX1_digOn 4 = .ok (.istore_n 3, 1) := by decide +kernel
theorem dX1_digOn_5 : decode cX1_digOn 5 = .ok (.iload_n 3, 1) := by decide +kernel
theorem dX1_digOn_6 : decode cX1_digOn 6 = .ok (.ifCond .lt 17, 3) := by decide +kernel
theorem dX1_digOn_9 : decode cX1_digOn 9 = .ok (.iload_n 3, 1) := by decide +kernel
theorem dX1_digOn_10 : decode cX1_digOn 10 = .ok (.aload_n 0, 1) := by decide +kernel
theorem dX1_digOn_11 : decode cX1_digOn 11 = .ok (.getfield 106, 3) := by decide +kernel
theorem dX1_digOn_14 : decode cX1_digOn 14 = .ok (.if_icmp .ge 9, 3) := by decide +kernel
theorem dX1_digOn_17 : decode cX1_digOn 17 = .ok (.iload_n 3, 1) := by decide +kernel
theorem dX1_digOn_18 : decode cX1_digOn 18 = .ok (.bipush 6, 2) := by decide +kernel
theorem dX1_digOn_20 : decode cX1_digOn 20 = .ok (.if_icmp .lt 5, 3) := by decide +kernel
theorem dX1_digOn_23 : decode cX1_digOn 23 = .ok (.iload_n 1, 1) := by decide +kernel
theorem dX1_digOn_24 : decode cX1_digOn 24 = .ok (.ireturn, 1) := by decide +kernel
theorem dX1_digOn_25 : decode cX1_digOn 25 = .ok (.iload_n 1, 1) := by decide +kernel
theorem dX1_digOn_26 : decode cX1_digOn 26 = .ok (.bipush 64, 2) := by decide +kernel
theorem dX1_digOn_28 : decode cX1_digOn 28 = .ok (.irem, 1) := by decide +kernel
theorem dX1_digOn_29 : decode cX1_digOn 29 = .ok (.iload_n 2, 1) := by decide +kernel
theorem dX1_digOn_30 : decode cX1_digOn 30 = .ok (.iadd, 1) := by decide +kernel
theorem dX1_digOn_31 : decode cX1_digOn 31 = .ok (.istore 4, 2) := by decide +kernel
theorem dX1_digOn_33 : decode cX1_digOn 33 = .ok (.iload 4, 2) := by decide +kernel
theorem dX1_digOn_35 : decode cX1_digOn 35 = .ok (.aload_n 0, 1) := by decide +kernel
theorem dX1_digOn_36 : decode cX1_digOn 36 = .ok (.getfield 30, 3) := by decide +kernel
theorem dX1_digOn_39 : decode cX1_digOn 39 = .ok (.iload_n 3, 1) := by decide +kernel
theorem dX1_digOn_40 : decode cX1_digOn 40 = .ok (.iaload, 1) := by decide +kernel
theorem dX1_digOn_41 : decode cX1_digOn 41 = .ok (.if_icmp .lt 12, 3) := by decide +kernel
theorem dX1_digOn_44 : decode cX1_digOn 44 = .ok (.iload_n 3, 1) := by decide +kernel
theorem dX1_digOn_45 : decode cX1_digOn 45 = .ok (.iconst 1, 1) := by decide +kernel
theorem dX1_digOn_46 : decode cX1_digOn 46 = .ok (.iadd, 1) := by decide +kernel
theorem dX1_digOn_47 : decode cX1_digOn 47 = .ok (.bipush 64, 2) := by decide +kernel
theorem dX1_digOn_49 : decode cX1_digOn 49 = .ok (.imul, 1) := by decide +kernel
theorem dX1_digOn_50 : decode cX1_digOn 50 = .ok (.goto 10, 3) := by decide +kernel
theorem dX1_digOn_53 : decode cX1_digOn 53 = .ok (.iload_n 3, 1) := by decide +kernel
theorem dX1_digOn_54 : decode cX1_digOn 54 = .ok (.bipush 64, 2) := by decide +kernel
theorem dX1_digOn_56 : decode cX1_digOn 56 = .ok (.imul, 1) := by decide +kernel
theorem dX1_digOn_57 : decode cX1_digOn 57 = .ok (.iload 4, 2) := by decide +kernel
theorem dX1_digOn_59 : decode cX1_digOn 59 = .ok (.iadd, 1) := by decide +kernel
theorem dX1_digOn_60 : decode cX1_digOn 60 = .ok (.ireturn, 1) := by decide +kernel
theorem dX2_init_0 : decode cX2_init 0 = .ok (.aload_n 0, 1) := by decide +kernel
theorem dX2_init_1 : decode cX2_init 1 = .ok (.invokespecial 3, 3) := by decide +kernel
theorem dX2_init_4 : decode cX2_init 4 = .ok (.aload_n 0, 1) := by decide +kernel
theorem dX2_init_5 : decode cX2_init 5 = .ok (.bipush 60, 2) := by decide +kernel
theorem dX2_init_7 : decode cX2_init 7 = .ok (.newarray .int, 2) := by decide +kernel
theorem dX2_init_9 : decode cX2_init 9 = .ok (.putfield 11, 3) := by decide +kernel
theorem dX2_init_12 : decode cX2_init 12 = .ok (.aload_n 0, 1) := by decide +kernel
theorem dX2_init_13 : decode cX2_init 13 = .ok (.bipush 60, 2) := by decide +kernel
theorem dX2_init_15 : decode cX2_init 15 = .ok (.newarray .int, 2) := by decide +kernel
theorem dX2_init_17 : decode cX2_init 17 = .ok (.putfield 15, 3) := by decide +kernel
theorem dX2_init_20 : decode cX2_init 20 = .ok (.aload_n 0, 1) := by decide +kernel
theorem dX2_init_21 : decode cX2_init 21 = .ok (.bipush 60, 2) := by decide +kernel
theorem dX2_init_23 : decode cX2_init 23 = .ok (.newarray .int, 2) := by decide +kernel
theorem dX2_init_25 : decode cX2_init 25 = .ok (.putfield 18, 3) := by decide +kernel
theorem dX2_init_28 : decode cX2_init 28 = .ok (.aload_n 0, 1) := by decide +kernel
theorem dX2_init_29 : decode cX2_init 29 = .ok (.bipush 31, 2) := by decide +kernel
theorem dX2_init_31 : decode cX2_init 31 = .ok (.newarray .int, 2) := by decide +kernel
theorem dX2_init_33 : decode cX2_init 33 = .ok (.putfield 21, 3) := by decide +kernel
theorem dX2_init_36 : decode cX2_init 36 = .ok (.return_, 1) := by decide +kernel
theorem dX2_find_0 : decode cX2_find 0 = .ok (.aload_n 0, 1) := by decide +kernel
theorem dX2_find_1 : decode cX2_find 1 = .ok (.iconst 0, 1) := by decide +kernel
theorem dX2_find_2 : decode cX2_find 2 = .ok (.putfield 24, 3) := by decide +kernel
theorem dX2_find_5 : decode cX2_find 5 = .ok (.aload_n 0, 1) := by decide +kernel
theorem dX2_find_6 : decode cX2_find 6 = .ok (.iconst 0, 1) := by decide +kernel
theorem dX2_find_7 : decode cX2_find 7 = .ok (.putfield 28, 3) := by decide +kernel
theorem dX2_find_10 : decode cX2_find 10 = .ok (.aload_n 0, 1) := by decide +kernel
theorem dX2_find_11 : decode cX2_find 11 = .ok (.iconst 0, 1) := by decide +kernel
theorem dX2_find_12 : decode cX2_find 12 = .ok (.putfield 31, 3) := by decide +kernel
theorem dX2_find_15 : decode cX2_find 15 = .ok (.aload_n 1, 1) := by decide +kernel
theorem dX2_find_16 : decode cX2_find 16 = .ok (.ifnull 11, 3) := by decide +kernel
theorem dX2_find_19 : decode cX2_find 19 = .ok (.aload_n 2, 1) := by decide +kernel
theorem dX2_find_20 : decode cX2_find 20 = .ok (.ifnull 7, 3) := by decide +kernel
theorem dX2_find_23 : decode cX2_find 23 = .ok (.aload_n 3, 1) := by decide +kernel
theorem dX2_find_24 : decode cX2_find 24 = .ok (.ifnonnull 5, 3) := by decide +kernel
theorem dX2_find_27 : decode cX2_find 27 = .ok (.iconst 0, 1) := by decide +kernel
theorem dX2_find_28 : decode cX2_find 28 = .ok (.ireturn, 1) := by decide +kernel
theorem dX2_find_29 : decode cX2_find 29 = .ok (.aload_n 0, 1) := by decide +kernel
theorem dX2_find_30 : decode cX2_find 30 = .ok (.aload_n 1, 1) := by decide +kernel
theorem dX2_find_31 : decode cX2_find 31 = .ok (.getfield 34, 3) := by decide +kernel
theorem dX2_find_34 : decode cX2_find 34 = .ok (.putfield 31, 3) := by decide +kernel
theorem dX2_find_37 : decode cX2_find 37 = .ok (.iconst 0, 1) := by decide +kernel
theorem dX2_find_38 : decode cX2_find 38 = .ok (.istore 4, 2) := by decide +kernel
theorem dX2_find_40 : decode cX2_find 40 = .ok (.iload 4, 2) := by decide +kernel
theorem dX2_find_42 : decode cX2_find 42 = .ok (.aload_n 2, 1) := by decide +kernel
theorem dX2_find_43 : decode cX2_find 43 = .ok (.getfield 37, 3) := by decide +kernel
theorem dX2_find_46 : decode cX2_find 46 = .ok (.if_icmp .ge 32, 3) := by decide +kernel
theorem dX2_find_49 : decode cX2_find 49 = .ok (.iload 4, 2) := by decide +kernel
theorem dX2_find_51 : decode cX2_find 51 = .ok (.bipush 8, 2) := by decide +kernel
theorem dX2_find_53 : decode cX2_find 53 = .ok (.if_icmp .ge 25, 3) := by decide +kernel
theorem dX2_find_56 : decode cX2_find 56 = .ok (.aload_n 1, 1) := by decide +kernel
theorem dX2_find_57 : decode cX2_find 57 = .ok (.aload_n 2, 1) := by decide +kernel
theorem dX2_find_58 : decode cX2_find 58 = .ok (.getfield 42, 3) := by decide +kernel
theorem dX2_find_61 : decode cX2_find 61 = .ok (.iload 4, 2) := by decide +kernel
theorem dX2_find_63 : decode cX2_find 63 = .ok (.iaload, 1) := by decide +kernel
theorem dX2_find_64 : decode cX2_find 64 = .ok (.invokevirtual 43, 3) := by decide +kernel
theorem dX2_find_67 : decode cX2_find 67 = .ok (.ifCond .ne 5, 3) := by decide +kernel
theorem dX2_find_70 : decode cX2_find 70 = .ok (.iconst 0, 1) := by decide +kernel
theorem dX2_find_71 : decode cX2_find 71 = .ok (.ireturn, 1) := by decide +kernel
theorem dX2_find_72 : decode cX2_find 72 = .ok (.iinc 4 1, 3) := by decide +kernel
theorem dX2_find_75 : decode cX2_find 75 = .ok (.goto (-35), 3) := by decide +kernel
theorem dX2_find_78 : decode cX2_find 78 = .ok (.iconst 0, 1) := by decide +kernel
theorem dX2_find_79 : decode cX2_find 79 = .ok (.istore 4, 2) := by decide +kernel
theorem dX2_find_81 : decode cX2_find 81 = .ok (.iload 4, 2) := by decide +kernel
theorem dX2_find_83 : decode cX2_find 83 = .ok (.aload_n 1, 1) := by decide +kernel
theorem dX2_find_84 : decode cX2_find 84 = .ok (.getfield 47, 3) := by decide +kernel
theorem dX2_find_87 : decode cX2_find 87 = .ok (.if_icmp .ge 128, 3) := by decide +kernel
theorem dX2_find_90 : decode cX2_find 90 = .ok (.iload 4, 2) := by decide +kernel
theorem dX2_find_92 : decode cX2_find 92 = .ok (.bipush 10, 2) := by decide +kernel
theorem dX2_find_94 : decode cX2_find 94 = .ok (.if_icmp .ge 121, 3) := by decide +kernel
theorem dX2_find_97 : decode cX2_find 97 = .ok (.iconst 0, 1) := by decide +kernel
theorem dX2_find_98 : decode cX2_find 98 = .ok (.istore 5, 2) := by decide +kernel
theorem dX2_find_100 : decode cX2_find 100 = .ok (.iload 5, 2) := by decide +kernel
theorem dX2_find_102 : decode cX2_find 102 = .ok (.aload_n 1, 1) := by decide +kernel
theorem dX2_find_103 : decode cX2_find 103 = .ok (.getfield 34, 3) := by decide +kernel
theorem dX2_find_106 : decode cX2_find 106 = .ok (.if_icmp .ge 103, 3) := by decide +kernel
theorem dX2_find_109 : decode cX2_find 109 = .ok (.iload 5, 2) := by decide +kernel
theorem dX2_find_111 : decode cX2_find 111 = .ok (.bipush 6, 2) := by decide +kernel
theorem dX2_find_113 : decode cX2_find 113 = .ok (.if_icmp .ge 96, 3) := by decide +kernel
theorem dX2_find_116 : decode cX2_find 116 = .ok (.aload_n 3, 1) := by decide +kernel
theorem dX2_find_117 : decode cX2_find 117 = .ok (.aload_n 1, 1) := by decide +kernel
theorem dX2_find_118 : decode cX2_find 118 = .ok (.invokevirtual 49, 3) := by decide +kernel
theorem dX2_find_121 : decode cX2_find 121 = .ok (.aload_n 3, 1) := by decide +kernel
theorem dX2_find_122 : decode cX2_find 122 = .ok (.iconst 0, 1) := by decide +kernel
theorem dX2_find_123 : decode cX2_find 123 = .ok (.iload 4, 2) := by decide +kernel
theorem dX2_find_125 : decode cX2_find 125 = .ok (.iload 5, 2) := by decide +kernel
theorem dX2_find_127 : decode cX2_find 127 = .ok (.bipush 9, 2) := by decide +kernel
theorem dX2_find_129 : decode cX2_find 129 = .ok (.invokevirtual 55, 3) := by decide +kernel
theorem dX2_find_132 : decode cX2_find 132 = .ok (.istore 6, 2) := by decide +kernel
theorem dX2_find_134 : decode cX2_find 134 = .ok (.aload_n 3, 1) := by decide +kernel
theorem dX2_find_135 : decode cX2_find 135 = .ok (.aload_n 2, 1) := by decide +kernel
theorem dX2_find_136 : decode cX2_find 136 = .ok (.getfield 59, 3) := by decide +kernel
theorem dX2_find_139 : decode cX2_find 139 = .ok (.invokevirtual 62, 3) := by decide +kernel
theorem dX2_find_142 : decode cX2_find 142 = .ok (.iload 6, 2) := by decide +kernel
theorem dX2_find_144 : decode cX2_find 144 = .ok (.ifCond .eq 59, 3) := by decide +kernel
theorem dX2_find_147 : decode cX2_find 147 = .ok (.aload_n 2, 1) := by decide +kernel
theorem dX2_find_148 : decode cX2_find 148 = .ok (.aload_n 3, 1) := by decide +kernel
theorem dX2_find_149 : decode cX2_find 149 = .ok (.invokestatic 66, 3) := by decide +kernel
theorem dX2_find_152 : decode cX2_find 152 = .ok (.ifCond .eq 51, 3) := by decide +kernel
theorem dX2_find_155 : decode cX2_find 155 = .ok (.aload_n 0, 1) := by decide +kernel
theorem dX2_find_156 : decode cX2_find 156 = .ok (.iload 4, 2) := by decide +kernel
theorem dX2_find_158 : decode cX2_find 158 = .ok (.iload 5, 2) := by decide +kernel
theorem dX2_find_160 : decode cX2_find 160 = .ok (.aload_n 3, 1) := by decide +kernel
theorem dX2_find_161 : decode cX2_find 161 = .ok (.iload 5, 2) := by decide +kernel
theorem dX2_find_163 : decode cX2_find 163 = .ok (.invokevirtual 70, 3) := by decide +kernel
theorem dX2_find_166 : decode cX2_find 166 = .ok (.invokevirtual 74, 3) := by decide +kernel
theorem dX2_find_169 : decode cX2_find 169 = .ok (.aload_n 3, 1) := by decide +kernel
theorem dX2_find_170 : decode cX2_find 170 = .ok (.bipush 9, 2) := by decide +kernel
theorem dX2_find_172 : decode cX2_find 172 = .ok (.aload_n 2, 1) := by decide +kernel
theorem dX2_find_173 : decode cX2_find 173 = .ok (.getfield 59, 3) := by decide +kernel
theorem dX2_find_176 : decode cX2_find 176 = .ok (.isub, 1) := by decide +kernel
theorem dX2_find_177 : decode cX2_find 177 = .ok (.invokevirtual 62, 3) := by decide +kernel
theorem dX2_find_180 : decode cX2_find 180 = .ok (.aload_n 0, 1) := by decide +kernel
theorem dX2_find_181 : decode cX2_find 181 = .ok (.dup, 1) := by decide +kernel
theorem dX2_find_182 : decode cX2_find 182 = .ok (.getfield 28, 3) := by decide +kernel
theorem dX2_find_185 : decode cX2_find 185 = .ok (.aload_n 3, 1) := by decide +kernel
theorem dX2_find_186 : decode cX2_find 186 = .ok (.iload 5, 2) := by decide +kernel
theorem dX2_find_188 : decode cX2_find 188 = .ok (.invokevirtual 78, 3) := by decide +kernel
theorem dX2_find_191 : decode cX2_find 191 = .ok (.ifCond .eq 7, 3) := by decide +kernel
theorem dX2_find_194 : decode cX2_find 194 = .ok (.iconst 1, 1) := by decide +kernel
theorem dX2_find_195 : decode cX2_find 195 = .ok (.goto 4, 3) := by decide +kernel
theorem dX2_find_198 : decode cX2_find 198 = .ok (.iconst 0, 1) := by decide +kernel
theorem dX2_find_199 : decode cX2_find 199 = .ok (.iadd, 1) := by decide +kernel
theorem dX2_find_200 : decode cX2_find 200 = .ok (.putfield 28, 3) := by decide +kernel
theorem dX2_find_203 : decode cX2_find 203 = .ok (.iinc 5 1, 3) := by decide +kernel
theorem dX2_find_206 : decode cX2_find 206 = .ok (.goto (-106), 3) := by decide +kernel
theorem dX2_find_209 : decode cX2_find 209 = .ok (.iinc 4 1, 3) := by decide +kernel
theorem dX2_find_212 : decode cX2_find 212 = .ok (.goto (-131), 3) := by decide +kernel
theorem dX2_find_215 : decode cX2_find 215 = .ok (.iconst 1, 1) := by decide +kernel
theorem dX2_find_216 : decode cX2_find 216 = .ok (.ireturn, 1) := by decide +kernel
theorem dX2_agrees_0 : decode cX2_agrees 0 = .ok (.iconst 0, 1) := by decide +kernel
theorem dX2_agrees_1 : decode cX2_agrees 1 = .ok (.istore_n 2, 1) := by decide +kernel
theorem dX2_agrees_2 : decode cX2_agrees 2 = .ok (.iload_n 2, 1) := by decide +kernel
theorem dX2_agrees_3 : decode cX2_agrees 3 = .ok (.aload_n 0, 1) := by decide +kernel
theorem dX2_agrees_4 : decode cX2_agrees 4 = .ok (.getfield 37, 3) := by decide +kernel
theorem dX2_agrees_7 : decode cX2_agrees 7 = .ok (.if_icmp .ge 36, 3) := by decide +kernel
theorem dX2_agrees_10 : decode cX2_agrees 10 = .ok (.iload_n 2, 1) := by decide +kernel
theorem dX2_agrees_11 : decode cX2_agrees 11 = .ok (.bipush 8, 2) := by decide +kernel
theorem dX2_agrees_13 : decode cX2_agrees 13 = .ok (.if_icmp .ge 30, 3) := by decide +kernel
theorem dX2_agrees_16 : decode cX2_agrees 16 = .ok (.aload_n 1, 1) := by decide +kernel
theorem dX2_agrees_17 : decode cX2_agrees 17 = .ok (.aload_n 0, 1) := by decide +kernel
theorem dX2_agrees_18 : decode cX2_agrees 18 = .ok (.getfield 42, 3) := by decide +kernel
theorem dX2_agrees_21 : decode cX2_agrees 21 = .ok (.iload_n 2, 1) := by decide +kernel
theorem dX2_agrees_22 : decode cX2_agrees 22 = .ok (.iaload, 1) := by decide +kernel
theorem dX2_agrees_23 : decode cX2_agrees 23 = .ok (.invokevirtual 70, 3) := by decide +kernel
theorem dX2_agrees_26 : decode cX2_agrees 26 = .ok (.aload_n 0, 1) := by decide +kernel
theorem dX2_agrees_27 : decode cX2_agrees 27 = .ok (.getfield 81, 3) := by decide +kernel
theorem dX2_agrees_30 : decode cX2_agrees 30 = .ok (.iload_n 2, 1) := by decide +kernel
theorem dX2_agrees_31 : decode cX2_agrees 31 = .ok (.iaload, 1) := by decide +kernel
theorem dX2_agrees_32 : decode cX2_agrees 32 = .ok (.if_icmp .eq 5, 3) := by decide +kernel
theorem dX2_agrees_35 : decode cX2_agrees 35 = .ok (.iconst 0, 1) := by decide +kernel
theorem dX2_agrees_36 : decode cX2_agrees 36 = .ok (.ireturn, 1) := by decide +kernel
theorem dX2_agrees_37 : decode cX2_agrees 37 = .ok (.iinc 2 1, 3) := by decide +kernel
theorem dX2_agrees_40 : decode cX2_agrees 40 = .ok (.goto (-38), 3) := by decide +kernel
theorem dX2_agrees_43 : decode cX2_agrees 43 = .ok (.iconst 1, 1) := by decide +kernel
theorem dX2_agrees_44 : decode cX2_agrees 44 = .ok (.ireturn, 1) := by decide +kernel
theorem dX2_add_0 : decode cX2_add 0 = .ok (.aload_n 0, 1) := by decide +kernel
theorem dX2_add_1 : decode cX2_add 1 = .ok (.getfield 24, 3) := by decide +kernel
theorem dX2_add_4 : decode cX2_add 4 = .ok (.ifCond .lt 52, 3) := by decide +kernel
theorem dX2_add_7 : decode cX2_add 7 = .ok (.aload_n 0, 1) := by decide +kernel
theorem dX2_add_8 : decode cX2_add 8 = .ok (.getfield 24, 3) := by decide +kernel
theorem dX2_add_11 : decode cX2_add 11 = .ok (.bipush 60, 2) := by decide +kernel
theorem dX2_add_13 : decode cX2_add 13 = .ok (.if_icmp .ge 43, 3) := by decide +kernel
theorem dX2_add_16 : decode cX2_add 16 = .ok (.aload_n 0, 1) := by decide +kernel
theorem dX2_add_17 : decode cX2_add 17 = .ok (.getfield 11, 3) := by decide +kernel
theorem dX2_add_20 : decode cX2_add 20 = .ok (.aload_n 0, 1) := by decide +kernel
theorem dX2_add_21 : decode cX2_add 21 = .ok (.getfield 24, 3) := by decide +kernel
theorem dX2_add_24 : decode cX2_add 24 = .ok (.iload_n 1, 1) := by decide +kernel
theorem dX2_add_25 : decode cX2_add 25 = .ok (.iastore, 1) := by decide +kernel
theorem dX2_add_26 : decode cX2_add 26 = .ok (.aload_n 0, 1) := by decide +kernel
theorem dX2_add_27 : decode cX2_add 27 = .ok (.getfield 15, 3) := by decide +kernel
theorem dX2_add_30 : decode cX2_add 30 = .ok (.aload_n 0, 1) := by decide +kernel
theorem dX2_add_31 : decode cX2_add 31 = .ok (.getfield 24, 3) := by decide +kernel
theorem dX2_add_34 : decode cX2_add 34 = .ok (.iload_n 2, 1) := by decide +kernel
theorem dX2_add_35 : decode cX2_add 35 = .ok (.iastore, 1) := by decide +kernel
theorem dX2_add_36 : decode cX2_add 36 = .ok (.aload_n 0, 1) := by decide +kernel
theorem dX2_add_37 : decode cX2_add 37 = .ok (.getfield 18, 3) := by decide +kernel
theorem dX2_add_40 : decode cX2_add 40 = .ok (.aload_n 0, 1) := by decide +kernel
theorem dX2_add_41 : decode cX2_add 41 = .ok (.getfield 24, 3) := by decide +kernel
theorem dX2_add_44 : decode cX2_add 44 = .ok (.iload_n 3, 1) := by decide +kernel
theorem dX2_add_45 : decode cX2_add 45 = .ok (.iastore, 1) := by decide +kernel
theorem dX2_add_46 : decode cX2_add 46 = .ok (.aload_n 0, 1) := by decide +kernel
theorem dX2_add_47 : decode cX2_add 47 = .ok (.dup, 1) := by decide +kernel
theorem dX2_add_48 : decode cX2_add 48 = .ok (.getfield 24, 3) := by decide +kernel
theorem dX2_add_51 : decode cX2_add 51 = .ok (.iconst 1, 1) := by decide +kernel
theorem dX2_add_52 : decode cX2_add 52 = .ok (.iadd, 1) := by decide +kernel
theorem dX2_add_53 : decode cX2_add 53 = .ok (.putfield 24, 3) := by decide +kernel
theorem dX2_add_56 : decode cX2_add 56 = .ok (.return_, 1) := by decide +kernel
theorem dX2_has_0 : decode cX2_has 0 = .ok (.iload_n 1, 1) := by decide +kernel
theorem dX2_has_1 : decode cX2_has 1 = .ok (.ifCond .lt 21, 3) := by decide +kernel
theorem dX2_has_4 : decode cX2_has 4 = .ok (.iload_n 1, 1) := by decide +kernel
theorem dX2_has_5 : decode cX2_has 5 = .ok (.aload_n 0, 1) := by decide +kernel
theorem dX2_has_6 : decode cX2_has 6 = .ok (.getfield 24, 3) := by decide +kernel
theorem dX2_has_9 : decode cX2_has 9 = .ok (.if_icmp .ge 13, 3) := by decide +kernel
theorem dX2_has_12 : decode cX2_has 12 = .ok (.iload_n 1, 1) := by decide +kernel
theorem dX2_has_13 : decode cX2_has 13 = .ok (.bipush 60, 2) := by decide +kernel
theorem dX2_has_15 : decode cX2_has 15 = .ok (.if_icmp .ge 7, 3) := by decide +kernel
theorem dX2_has_18 : decode cX2_has 18 = .ok (.iconst 1, 1) := by decide +kernel
theorem dX2_has_19 : decode cX2_has 19 = .ok (.goto 4, 3) := by decide +kernel
theorem dX2_has_22 : decode cX2_has 22 = .ok (.iconst 0, 1) := by decide +kernel
theorem dX2_has_23 : decode cX2_has 23 = .ok (.ireturn, 1) := by decide +kernel
theorem dX2_look_0 : decode cX2_look 0 = .ok (.iload_n 1, 1) := by decide +kernel
theorem dX2_look_1 : decode cX2_look 1 = .ok (.ifCond .ne 8, 3) := by decide +kernel
theorem dX2_look_4 : decode cX2_look 4 = .ok (.aload_n 0, 1) := by decide +kernel
theorem dX2_look_5 : decode cX2_look 5 = .ok (.getfield 24, 3) := by decide +kernel
theorem dX2_look_8 : decode cX2_look 8 = .ok (.ireturn, 1) := by decide +kernel
theorem dX2_look_9 : decode cX2_look 9 = .ok (.iload_n 1, 1) := by decide +kernel
theorem dX2_look_10 : decode cX2_look 10 = .ok (.iconst 1, 1) := by decide +kernel
theorem dX2_look_11 : decode cX2_look 11 = .ok (.if_icmp .ne 8, 3) := by decide +kernel
theorem dX2_look_14 : decode cX2_look 14 = .ok (.aload_n 0, 1) := by decide +kernel
theorem dX2_look_15 : decode cX2_look 15 = .ok (.invokevirtual 82, 3) := by decide +kernel
theorem dX2_look_18 : decode cX2_look 18 = .ok (.ireturn, 1) := by decide +kernel
theorem dX2_look_19 : decode cX2_look 19 = .ok (.iload_n 1, 1) := by decide +kernel
theorem dX2_look_20 : decode cX2_look 20 = .ok (.iconst 2, 1) := by decide +kernel
theorem dX2_look_21 : decode cX2_look 21 = .ok (.if_icmp .ne 8, 3) := by decide +kernel
theorem dX2_look_24 : decode cX2_look 24 = .ok (.aload_n 0, 1) := by decide +kernel
theorem dX2_look_25 : decode cX2_look 25 = .ok (.invokevirtual 86, 3) := by decide +kernel
theorem dX2_look_28 : decode cX2_look 28 = .ok (.ireturn, 1) := by decide +kernel
theorem dX2_look_29 : decode cX2_look 29 = .ok (.iload_n 1, 1) := by decide +kernel
theorem dX2_look_30 : decode cX2_look 30 = .ok (.bipush 10, 2) := by decide +kernel
theorem dX2_look_32 : decode cX2_look 32 = .ok (.isub, 1) := by decide +kernel
theorem dX2_look_33 : decode cX2_look 33 = .ok (.istore_n 2, 1) := by decide +kernel
theorem dX2_look_34 : decode cX2_look 34 = .ok (.aload_n 0, 1) := by decide +kernel
theorem dX2_look_35 : decode cX2_look 35 = .ok (.iload_n 2, 1) := by decide +kernel
theorem dX2_look_36 : decode cX2_look 36 = .ok (.invokevirtual 89, 3) := by decide +kernel
theorem dX2_look_39 : decode cX2_look 39 = .ok (.ifCond .eq 22, 3) := by decide +kernel
theorem dX2_look_42 : decode cX2_look 42 = .ok (.bipush 10, 2) := by decide +kernel
theorem dX2_look_44 : decode cX2_look 44 = .ok (.aload_n 0, 1) := by decide +kernel
theorem dX2_look_45 : decode cX2_look 45 = .ok (.getfield 11, 3) := by decide +kernel
theorem dX2_look_48 : decode cX2_look 48 = .ok (.iload_n 2, 1) := by decide +kernel
theorem dX2_look_49 : decode cX2_look 49 = .ok (.iaload, 1) := by decide +kernel
theorem dX2_look_50 : decode cX2_look 50 = .ok (.imul, 1) := by decide +kernel
theorem dX2_look_51 : decode cX2_look 51 = .ok (.aload_n 0, 1) := by decide +kernel
theorem dX2_look_52 : decode cX2_look 52 = .ok (.getfield 15, 3) := by decide +kernel
theorem dX2_look_55 : decode cX2_look 55 = .ok (.iload_n 2, 1) := by decide +kernel
theorem dX2_look_56 : decode cX2_look 56 = .ok (.iaload, 1) := by decide +kernel
theorem dX2_look_57 : decode cX2_look 57 = .ok (.iadd, 1) := by decide +kernel
theorem dX2_look_58 : decode cX2_look 58 = .ok (.goto 5, 3) := by decide +kernel
theorem dX2_look_61 : decode cX2_look 61 = .ok (.bipush (-2), 2) := by decide +kernel
theorem dX2_look_63 : decode cX2_look 63 = .ok (.ireturn, 1) := by decide +kernel
theorem dX2_manyBy_0 : decode cX2_manyBy 0 = .ok (.iconst 0, 1) := by decide +kernel
theorem dX2_manyBy_1 : decode cX2_manyBy 1 = .ok (.istore_n 2, 1) := by decide +kernel
theorem dX2_manyBy_2 : decode cX2_manyBy 2 = .ok (.iconst 0, 1) := by decide +kernel
theorem dX2_manyBy_3 : decode cX2_manyBy 3 = .ok (.istore_n 3, 1) := by decide +kernel
theorem dX2_manyBy_4 : decode cX2_manyBy 4 = .ok (.iload_n 3, 1) := by decide +kernel
theorem dX2_manyBy_5 : decode cX2_manyBy 5 = .ok (.aload_n 0, 1) := by decide +kernel
theorem dX2_manyBy_6 : decode cX2_manyBy 6 = .ok (.getfield 24, 3) := by decide +kernel
theorem dX2_manyBy_9 : decode cX2_manyBy 9 = .ok (.if_icmp .ge 28, 3) := by decide +kernel
theorem dX2_manyBy_12 : decode cX2_manyBy 12 = .ok (.iload_n 3, 1) := by decide +kernel
theorem dX2_manyBy_13 : decode cX2_manyBy 13 = .ok (.bipush 60, 2) := by decide +kernel
theorem dX2_manyBy_15 : decode cX2_manyBy 15 = .ok (.if_icmp .ge 22, 3) := by decide +kernel
theorem dX2_manyBy_18 : decode cX2_manyBy 18 = .ok (.aload_n 0, 1) := by decide +kernel
theorem dX2_manyBy_19 : decode cX2_manyBy 19 = .ok (.getfield 11, 3) := by decide +kernel
theorem dX2_manyBy_22 : decode cX2_manyBy 22 = .ok (.iload_n 3, 1) := by decide +kernel
theorem dX2_manyBy_23 : decode cX2_manyBy 23 = .ok (.iaload, 1) := by decide +kernel
theorem dX2_manyBy_24 : decode cX2_manyBy 24 = .ok (.iload_n 1, 1) := by decide +kernel
theorem dX2_manyBy_25 : decode cX2_manyBy 25 = .ok (.if_icmp .ne 6, 3) := by decide +kernel
theorem dX2_manyBy_28 : decode cX2_manyBy 28 = .ok (.iinc 2 1, 3) := by decide +kernel
theorem dX2_manyBy_31 : decode cX2_manyBy 31 = .ok (.iinc 3 1, 3) := by decide +kernel
theorem dX2_manyBy_34 : decode cX2_manyBy 34 = .ok (.goto (-30), 3) := by decide +kernel
theorem dX2_manyBy_37 : decode cX2_manyBy 37 = .ok (.iload_n 2, 1) := by decide +kernel
theorem dX2_manyBy_38 : decode cX2_manyBy 38 = .ok (.ireturn, 1) := by decide +kernel
theorem dX2_sureFolk_0 : decode cX2_sureFolk 0 = .ok (.aload_n 0, 1) := by decide +kernel
theorem dX2_sureFolk_1 : decode cX2_sureFolk 1 = .ok (.iconst 0, 1) := by decide +kernel
theorem dX2_sureFolk_2 : decode cX2_sureFolk 2 = .ok (.invokevirtual 89, 3) := by decide +kernel
theorem dX2_sureFolk_5 : decode cX2_sureFolk 5 = .ok (.ifCond .eq 29, 3) := by decide +kernel
theorem dX2_sureFolk_8 : decode cX2_sureFolk 8 = .ok (.aload_n 0, 1) := by decide +kernel
theorem dX2_sureFolk_9 : decode cX2_sureFolk 9 = .ok (.aload_n 0, 1) := by decide +kernel
theorem dX2_sureFolk_10 : decode cX2_sureFolk 10 = .ok (.getfield 11, 3) := by decide +kernel
theorem dX2_sureFolk_13 : decode cX2_sureFolk 13 = .ok (.iconst 0, 1) := by decide +kernel
theorem dX2_sureFolk_14 : decode cX2_sureFolk 14 = .ok (.iaload, 1) := by decide +kernel
theorem dX2_sureFolk_15 : decode cX2_sureFolk 15 = .ok (.invokevirtual 92, 3) := by decide +kernel
theorem dX2_sureFolk_18 : decode cX2_sureFolk 18 = .ok (.aload_n 0, 1) := by decide +kernel
theorem dX2_sureFolk_19 : decode cX2_sureFolk 19 = .ok (.getfield 24, 3) := by decide +kernel
theorem dX2_sureFolk_22 : decode cX2_sureFolk 22 = .ok (.if_icmp .ne 12, 3) := by decide +kernel
theorem dX2_sureFolk_25 : decode cX2_sureFolk 25 = .ok (.aload_n 0, 1) := by decide +kernel
theorem dX2_sureFolk_26 : decode cX2_sureFolk 26 = .ok (.getfield 11, 3) := by decide +kernel
theorem dX2_sureFolk_29 : decode cX2_sureFolk 29 = .ok (.iconst 0, 1) := by decide +kernel
theorem dX2_sureFolk_30 : decode cX2_sureFolk 30 = .ok (.iaload, 1) := by decide +kernel
theorem dX2_sureFolk_31 : decode cX2_sureFolk 31 = .ok (.goto 4, 3) := by decide +kernel
theorem dX2_sureFolk_34 : decode cX2_sureFolk 34 = .ok (.iconst (-1), 1) := by decide +kernel
theorem dX2_sureFolk_35 : decode cX2_sureFolk 35 = .ok (.ireturn, 1) := by decide +kernel
theorem dX2_workToAsk_0 : decode cX2_workToAsk 0 = .ok (.iconst (-1), 1) := by decide +kernel
theorem dX2_workToAsk_1 : decode cX2_workToAsk 1 = .ok (.istore_n 1, 1) := by decide +kernel
theorem dX2_workToAsk_2 : decode cX2_workToAsk 2 = .ok (.bipush 61, 2) := by decide +kernel
theorem dX2_workToAsk_4 : decode cX2_workToAsk 4 = .ok (.istore_n 2, 1) := by decide +kernel
theorem dX2_workToAsk_5 : decode cX2_workToAsk 5 = .ok (.iconst 0, 1) := by decide +kernel
theorem dX2_workToAsk_6 : decode cX2_workToAsk 6 = .ok (.istore_n 3, 1) := by decide +kernel
theorem dX2_workToAsk_7 : decode cX2_workToAsk 7 = .ok (.aload_n 0, 1) := by decide +kernel
theorem dX2_workToAsk_8 : decode cX2_workToAsk 8 = .ok (.getfield 24, 3) := by decide +kernel
theorem dX2_workToAsk_11 : decode cX2_workToAsk 11 = .ok (.ifCond .le 35, 3) := by decide +kernel
theorem dX2_workToAsk_14 : decode cX2_workToAsk 14 = .ok (.iload_n 3, 1) := by decide +kernel
theorem dX2_workToAsk_15 : decode cX2_workToAsk 15 = .ok (.aload_n 0, 1) := by decide +kernel
theorem dX2_workToAsk_16 : decode cX2_workToAsk 16 = .ok (.getfield 31, 3) := by decide +kernel
theorem dX2_workToAsk_19 : decode cX2_workToAsk 19 = .ok (.if_icmp .ge 27, 3) := by decide +kernel
theorem dX2_workToAsk_22 : decode cX2_workToAsk 22 = .ok (.aload_n 0, 1) := by decide +kernel
theorem dX2_workToAsk_23 : decode cX2_workToAsk 23 = .ok (.iload_n 3, 1) := by decide +kernel
theorem dX2_workToAsk_24 : decode cX2_workToAsk 24 = .ok (.invokevirtual 95, 3) := by decide +kernel
theorem dX2_workToAsk_27 : decode cX2_workToAsk 27 = .ok (.istore 4, 2) := by decide +kernel
theorem dX2_workToAsk_29 : decode cX2_workToAsk 29 = .ok (.iload 4, 2) := by decide +kernel
theorem dX2_workToAsk_31 : decode cX2_workToAsk 31 = .ok (.iload_n 2, 1) := by decide +kernel
theorem dX2_workToAsk_32 : decode cX2_workToAsk 32 = .ok (.if_icmp .ge 8, 3) := by decide +kernel
theorem dX2_workToAsk_35 : decode cX2_workToAsk 35 = .ok (.iload 4, 2) := by decide +kernel
theorem dX2_workToAsk_37 : decode cX2_workToAsk 37 = .ok (.istore_n 2, 1) := by decide +kernel
theorem dX2_workToAsk_38 : decode cX2_workToAsk 38 = .ok (.iload_n 3, 1) := by decide +kernel
theorem dX2_workToAsk_39 : decode cX2_workToAsk 39 = .ok (.istore_n 1, 1) := by decide +kernel
theorem dX2_workToAsk_40 : decode cX2_workToAsk 40 = .ok (.iinc 3 1, 3) := by decide +kernel
theorem dX2_workToAsk_43 : decode cX2_workToAsk 43 = .ok (.goto (-36), 3) := by decide +kernel
theorem dX2_workToAsk_46 : decode cX2_workToAsk 46 = .ok (.iload_n 1, 1) := by decide +kernel
theorem dX2_workToAsk_47 : decode cX2_workToAsk 47 = .ok (.ireturn, 1) := by decide +kernel
theorem dX2_greatestAlike_0 : decode cX2_greatestAlike 0 = .ok (.iconst 0, 1) := by decide +kernel
theorem dX2_greatestAlike_1 : decode cX2_greatestAlike 1 = .ok (.istore_n 2, 1) := by decide +kernel
theorem dX2_greatestAlike_2 : decode cX2_greatestAlike 2 = .ok (.iload_n 2, 1) := by decide +kernel
theorem dX2_greatestAlike_3 : decode cX2_greatestAlike 3 = .ok (.bipush 30, 2) := by decide +kernel
theorem dX2_greatestAlike_5 : decode cX2_greatestAlike 5 = .ok (.if_icmp .gt 16, 3) := by decide +kernel
theorem dX2_greatestAlike_8 : decode cX2_greatestAlike 8 = .ok (.aload_n 0, 1) := by decide +kernel
theorem dX2_greatestAlike_9 : decode cX2_greatestAlike 9 = .ok (.getfield 21, 3) := by decide +kernel
theorem dX2_greatestAlike_12 : decode cX2_greatestAlike 12 = .ok (.iload_n 2, 1) := by decide +kernel
theorem dX2_greatestAlike_13 : decode cX2_greatestAlike 13 = .ok (.iconst 0, 1) := by decide +kernel
theorem dX2_greatestAlike_14 : decode cX2_greatestAlike 14 = .ok (.iastore, 1) := by decide +kernel
theorem dX2_greatestAlike_15 : decode cX2_greatestAlike 15 = .ok (.iinc 2 1, 3) := by decide +kernel
theorem dX2_greatestAlike_18 : decode cX2_greatestAlike 18 = .ok (.goto (-16), 3) := by decide +kernel
theorem dX2_greatestAlike_21 : decode cX2_greatestAlike 21 = .ok (.iconst 0, 1) := by decide +kernel
theorem dX2_greatestAlike_22 : decode cX2_greatestAlike 22 = .ok (.istore_n 2, 1) := by decide +kernel
theorem dX2_greatestAlike_23 : decode cX2_greatestAlike 23 = .ok (.iconst 0, 1) := by decide +kernel
theorem dX2_greatestAlike_24 : decode cX2_greatestAlike 24 = .ok (.istore_n 3, 1) := by decide +kernel
theorem dX2_greatestAlike_25 : decode cX2_greatestAlike 25 = .ok (.iload_n 3, 1) := by decide +kernel
theorem dX2_greatestAlike_26 : decode cX2_greatestAlike 26 = .ok (.aload_n 0, 1) := by decide +kernel
theorem dX2_greatestAlike_27 : decode cX2_greatestAlike 27 = .ok (.getfield 24, 3) := by decide +kernel
theorem dX2_greatestAlike_30 : decode cX2_greatestAlike 30 = .ok (.if_icmp .ge 72, 3) := by decide +kernel
theorem dX2_greatestAlike_33 : decode cX2_greatestAlike 33 = .ok (.iload_n 3, 1) := by decide +kernel
theorem dX2_greatestAlike_34 : decode cX2_greatestAlike 34 = .ok (.bipush 60, 2) := by decide +kernel
theorem dX2_greatestAlike_36 : decode cX2_greatestAlike 36 = .ok (.if_icmp .ge 66, 3) := by decide +kernel
theorem dX2_greatestAlike_39 : decode cX2_greatestAlike 39 = .ok (.aload_n 0, 1) := by decide +kernel
theorem dX2_greatestAlike_40 : decode cX2_greatestAlike 40 = .ok (.getfield 15, 3) := by decide +kernel
theorem dX2_greatestAlike_43 : decode cX2_greatestAlike 43 = .ok (.iload_n 3, 1) := by decide +kernel
theorem dX2_greatestAlike_44 : decode cX2_greatestAlike 44 = .ok (.iaload, 1) := by decide +kernel
theorem dX2_greatestAlike_45 : decode cX2_greatestAlike 45 = .ok (.iload_n 1, 1) := by decide +kernel
theorem dX2_greatestAlike_46 : decode cX2_greatestAlike 46 = .ok (.if_icmp .ne 12, 3) := by decide +kernel
theorem dX2_greatestAlike_49 : decode cX2_greatestAlike 49 = .ok (.aload_n 0, 1) := by decide +kernel
theorem dX2_greatestAlike_50 : decode cX2_greatestAlike 50 = .ok (.getfield 18, 3) := by decide +kernel
theorem dX2_greatestAlike_53 : decode cX2_greatestAlike 53 = .ok (.iload_n 3, 1) := by decide +kernel
theorem dX2_greatestAlike_54 : decode cX2_greatestAlike 54 = .ok (.iaload, 1) := by decide +kernel
theorem dX2_greatestAlike_55 : decode cX2_greatestAlike 55 = .ok (.goto 4, 3) := by decide +kernel
theorem dX2_greatestAlike_58 : decode cX2_greatestAlike 58 = .ok (.iconst 0, 1) := by decide +kernel
theorem dX2_greatestAlike_59 : decode cX2_greatestAlike 59 = .ok (.istore 4, 2) := by decide +kernel
theorem dX2_greatestAlike_61 : decode cX2_greatestAlike 61 = .ok (.iload 4, 2) := by decide +kernel
theorem dX2_greatestAlike_63 : decode cX2_greatestAlike 63 = .ok (.ifCond .lt 33, 3) := by decide +kernel
theorem dX2_greatestAlike_66 : decode cX2_greatestAlike 66 = .ok (.iload 4, 2) := by decide +kernel
theorem dX2_greatestAlike_68 : decode cX2_greatestAlike 68 = .ok (.bipush 30, 2) := by decide +kernel
theorem dX2_greatestAlike_70 : decode cX2_greatestAlike 70 = .ok (.if_icmp .gt 26, 3) := by decide +kernel
theorem dX2_greatestAlike_73 : decode cX2_greatestAlike 73 = .ok (.aload_n 0, 1) := by decide +kernel
theorem dX2_greatestAlike_74 : decode cX2_greatestAlike 74 = .ok (.getfield 21, 3) := by decide +kernel
theorem dX2_greatestAlike_77 : decode cX2_greatestAlike 77 = .ok (.iload 4, 2) := by decide +kernel
theorem dX2_greatestAlike_79 : decode cX2_greatestAlike 79 = .ok (.dup2, 1) := by decide +kernel
theorem dX2_greatestAlike_80 : decode cX2_greatestAlike 80 = .ok (.iaload, 1) := by decide +kernel
theorem dX2_greatestAlike_81 : decode cX2_greatestAlike 81 = .ok (.iconst 1, 1) := by decide +kernel
theorem dX2_greatestAlike_82 : decode cX2_greatestAlike 82 = .ok (.iadd, 1) := by decide +kernel
theorem dX2_greatestAlike_83 : decode cX2_greatestAlike 83 = .ok (.iastore, 1) := by decide +kernel
theorem dX2_greatestAlike_84 : decode cX2_greatestAlike 84 = .ok (.iload_n 2, 1) := by decide +kernel
theorem dX2_greatestAlike_85 : decode cX2_greatestAlike 85 = .ok (.aload_n 0, 1) := by decide +kernel
theorem dX2_greatestAlike_86 : decode cX2_greatestAlike 86 = .ok (.getfield 21, 3) := by decide +kernel
theorem dX2_greatestAlike_89 : decode cX2_greatestAlike 89 = .ok (.iload 4, 2) := by decide +kernel
theorem dX2_greatestAlike_91 : decode cX2_greatestAlike 91 = .ok (.iaload, 1) := by decide +kernel
theorem dX2_greatestAlike_92 : decode cX2_greatestAlike 92 = .ok (.invokestatic 98, 3) := by decide +kernel
theorem dX2_greatestAlike_95 : decode cX2_greatestAlike 95 = .ok (.istore_n 2, 1) := by decide +kernel
theorem dX2_greatestAlike_96 : decode cX2_greatestAlike 96 = .ok (.iinc 3 1, 3) := by decide +kernel
theorem dX2_greatestAlike_99 : decode cX2_greatestAlike 99 = .ok (.goto (-74), 3) := by decide +kernel
theorem dX2_greatestAlike_102 : decode cX2_greatestAlike 102 = .ok (.iload_n 2, 1) := by decide +kernel
theorem dX2_greatestAlike_103 : decode cX2_greatestAlike 103 = .ok (.ireturn, 1) := by decide +kernel
theorem dX3_init_0 : decode cX3_init 0 = .ok (.aload_n 0, 1) := by decide +kernel
theorem dX3_init_1 : decode cX3_init 1 = .ok (.invokespecial 5, 3) := by decide +kernel
theorem dX3_init_4 : decode cX3_init 4 = .ok (.aload_n 0, 1) := by decide +kernel
theorem dX3_init_5 : decode cX3_init 5 = .ok (.bipush 10, 2) := by decide +kernel
theorem dX3_init_7 : decode cX3_init 7 = .ok (.newarray .int, 2) := by decide +kernel
theorem dX3_init_9 : decode cX3_init 9 = .ok (.putfield 11, 3) := by decide +kernel
theorem dX3_init_12 : decode cX3_init 12 = .ok (.aload_n 0, 1) := by decide +kernel
theorem dX3_init_13 : decode cX3_init 13 = .ok (.bipush 10, 2) := by decide +kernel
theorem dX3_init_15 : decode cX3_init 15 = .ok (.newarray .int, 2) := by decide +kernel
theorem dX3_init_17 : decode cX3_init 17 = .ok (.putfield 15, 3) := by decide +kernel
theorem dX3_init_20 : decode cX3_init 20 = .ok (.aload_n 0, 1) := by decide +kernel
theorem dX3_init_21 : decode cX3_init 21 = .ok (.bipush 10, 2) := by decide +kernel
theorem dX3_init_23 : decode cX3_init 23 = .ok (.bipush 10, 2) := by decide +kernel
theorem dX3_init_25 : decode cX3_init 25 = .ok (.multianewarray 18 2, 4) := by decide +kernel
theorem dX3_init_29 : decode cX3_init 29 = .ok (.putfield 20, 3) := by decide +kernel
theorem dX3_init_32 : decode cX3_init 32 = .ok (.aload_n 0, 1) := by decide +kernel
theorem dX3_init_33 : decode cX3_init 33 = .ok (.sipush 1024, 3) := by decide +kernel
theorem dX3_init_36 : decode cX3_init 36 = .ok (.newarray .int, 2) := by decide +kernel
theorem dX3_init_38 : decode cX3_init 38 = .ok (.putfield 23, 3) := by decide +kernel
theorem dX3_init_41 : decode cX3_init 41 = .ok (.return_, 1) := by decide +kernel
theorem dX3_nearness_0 : decode cX3_nearness 0 = .ok (.aload_n 1, 1) := by decide +kernel
theorem dX3_nearness_1 : decode cX3_nearness 1 = .ok (.ifnull 19, 3) := by decide +kernel
theorem dX3_nearness_4 : decode cX3_nearness 4 = .ok (.aload_n 1, 1) := by decide +kernel
theorem dX3_nearness_5 : decode cX3_nearness 5 = .ok (.iload_n 2, 1) := by decide +kernel
theorem dX3_nearness_6 : decode cX3_nearness 6 = .ok (.invokevirtual 26, 3) := by decide +kernel
theorem dX3_nearness_9 : decode cX3_nearness 9 = .ok (.ifCond .eq 11, 3) := by decide +kernel
theorem dX3_nearness_12 : decode cX3_nearness 12 = .ok (.aload_n 1, 1) := by decide +kernel
theorem dX3_nearness_13 : decode cX3_nearness 13 = .ok (.iload_n 3, 1) := by decide +kernel
theorem dX3_nearness_14 : decode cX3_nearness 14 = .ok (.invokevirtual 26, 3) := by decide +kernel
theorem dX3_nearness_17 : decode cX3_nearness 17 = .ok (.ifCond .ne 5, 3) := by decide +kernel
theorem dX3_nearness_20 : decode cX3_nearness 20 = .ok (.lconst 0, 1) := by decide +kernel
theorem dX3_nearness_21 : decode cX3_nearness 21 = .ok (.lreturn, 1) := by decide +kernel
theorem dX3_nearness_22 : decode cX3_nearness 22 = .ok (.iconst 0, 1) := by decide +kernel
theorem dX3_nearness_23 : decode cX3_nearness 23 = .ok (.istore 4, 2) := by decide +kernel
theorem dX3_nearness_25 : decode cX3_nearness 25 = .ok (.iload 4, 2) := by decide +kernel
theorem dX3_nearness_27 : decode cX3_nearness 27 = .ok (.aload_n 1, 1) := by decide +kernel
theorem dX3_nearness_28 : decode cX3_nearness 28 = .ok (.getfield 32, 3) := by decide +kernel
theorem dX3_nearness_31 : decode cX3_nearness 31 = .ok (.if_icmp .ge 104, 3) := by decide +kernel
theorem dX3_nearness_34 : decode cX3_nearness 34 = .ok (.iload 4, 2) := by decide +kernel
theorem dX3_nearness_36 : decode cX3_nearness 36 = .ok (.bipush 10, 2) := by decide +kernel
theorem dX3_nearness_38 : decode cX3_nearness 38 = .ok (.if_icmp .ge 97, 3) := by decide +kernel
theorem dX3_nearness_41 : decode cX3_nearness 41 = .ok (.iconst 0, 1) := by decide +kernel
theorem dX3_nearness_42 : decode cX3_nearness 42 = .ok (.istore 5, 2) := by decide +kernel
theorem dX3_nearness_44 : decode cX3_nearness 44 = .ok (.iload 5, 2) := by decide +kernel
theorem dX3_nearness_46 : decode cX3_nearness 46 = .ok (.iload 4, 2) := by decide +kernel
theorem dX3_nearness_48 : decode cX3_nearness 48 = .ok (.if_icmp .ge 52, 3) := by decide +kernel
theorem dX3_nearness_51 : decode cX3_nearness 51 = .ok (.aload_n 0, 1) := by decide +kernel
theorem dX3_nearness_52 : decode cX3_nearness 52 = .ok (.getfield 20, 3) := by decide +kernel
theorem dX3_nearness_55 : decode cX3_nearness 55 = .ok (.iload 4, 2) := by decide +kernel
theorem dX3_nearness_57 : decode cX3_nearness 57 = .ok (.aaload, 1) := by decide +kernel
theorem dX3_nearness_58 : decode cX3_nearness 58 = .ok (.iload 5, 2) := by decide +kernel
theorem dX3_nearness_60 : decode cX3_nearness 60 = .ok (.aload_n 0, 1) := by decide +kernel
theorem dX3_nearness_61 : decode cX3_nearness 61 = .ok (.aload_n 1, 1) := by decide +kernel
theorem dX3_nearness_62 : decode cX3_nearness 62 = .ok (.getfield 36, 3) := by decide +kernel
theorem dX3_nearness_65 : decode cX3_nearness 65 = .ok (.iload 4, 2) := by decide +kernel
theorem dX3_nearness_67 : decode cX3_nearness 67 = .ok (.iaload, 1) := by decide +kernel
theorem dX3_nearness_68 : decode cX3_nearness 68 = .ok (.iload 5, 2) := by decide +kernel
theorem dX3_nearness_70 : decode cX3_nearness 70 = .ok (.invokevirtual 39, 3) := by decide +kernel
theorem dX3_nearness_73 : decode cX3_nearness 73 = .ok (.lastore, 1) := by decide +kernel
theorem dX3_nearness_74 : decode cX3_nearness 74 = .ok (.aload_n 0, 1) := by decide +kernel
theorem dX3_nearness_75 : decode cX3_nearness 75 = .ok (.getfield 20, 3) := by decide +kernel
theorem dX3_nearness_78 : decode cX3_nearness 78 = .ok (.iload 5, 2) := by decide +kernel
theorem dX3_nearness_80 : decode cX3_nearness 80 = .ok (.aaload, 1) := by decide +kernel
theorem dX3_nearness_81 : decode cX3_nearness 81 = .ok (.iload 4, 2) := by decide +kernel
theorem dX3_nearness_83 : decode cX3_nearness 83 = .ok (.aload_n 0, 1) := by decide +kernel
theorem dX3_nearness_84 : decode cX3_nearness 84 = .ok (.getfield 20, 3) := by decide +kernel
theorem dX3_nearness_87 : decode cX3_nearness 87 = .ok (.iload 4, 2) := by decide +kernel
theorem dX3_nearness_89 : decode cX3_nearness 89 = .ok (.aaload, 1) := by decide +kernel
theorem dX3_nearness_90 : decode cX3_nearness 90 = .ok (.iload 5, 2) := by decide +kernel
theorem dX3_nearness_92 : decode cX3_nearness 92 = .ok (.laload, 1) := by decide +kernel
theorem dX3_nearness_93 : decode cX3_nearness 93 = .ok (.lastore, 1) := by decide +kernel
theorem dX3_nearness_94 : decode cX3_nearness 94 = .ok (.iinc 5 1, 3) := by decide +kernel
theorem dX3_nearness_97 : decode cX3_nearness 97 = .ok (.goto (-53), 3) := by decide +kernel
theorem dX3_nearness_100 : decode cX3_nearness 100 = .ok (.aload_n 0, 1) := by decide +kernel
theorem dX3_nearness_101 : decode cX3_nearness 101 = .ok (.getfield 20, 3) := by decide +kernel
theorem dX3_nearness_104 : decode cX3_nearness 104 = .ok (.iload 4, 2) := by decide +kernel
theorem dX3_nearness_106 : decode cX3_nearness 106 = .ok (.aaload, 1) := by decide +kernel
theorem dX3_nearness_107 : decode cX3_nearness 107 = .ok (.iload 4, 2) := by decide +kernel
theorem dX3_nearness_109 : decode cX3_nearness 109 = .ok (.ldc2_w 43, 3) := by decide +kernel
theorem dX3_nearness_112 : decode cX3_nearness 112 = .ok (.aload_n 0, 1) := by decide +kernel
theorem dX3_nearness_113 : decode cX3_nearness 113 = .ok (.aload_n 1, 1) := by decide +kernel
theorem dX3_nearness_114 : decode cX3_nearness 114 = .ok (.getfield 36, 3) := by decide +kernel
theorem dX3_nearness_117 : decode cX3_nearness 117 = .ok (.iload 4, 2) := by decide +kernel
theorem dX3_nearness_119 : decode cX3_nearness 119 = .ok (.iaload, 1) := by decide +kernel
theorem dX3_nearness_120 : decode cX3_nearness 120 = .ok (.invokevirtual 45, 3) := by decide +kernel
theorem dX3_nearness_123 : decode cX3_nearness 123 = .ok (.ldc2_w 49, 3) := by decide +kernel
theorem dX3_nearness_126 : decode cX3_nearness 126 = .ok (.ldiv, 1) := by decide +kernel
theorem dX3_nearness_127 : decode cX3_nearness 127 = .ok (.ladd, 1) := by decide +kernel
theorem dX3_nearness_128 : decode cX3_nearness 128 = .ok (.lastore, 1) := by decide +kernel
theorem dX3_nearness_129 : decode cX3_nearness 129 = .ok (.iinc 4 1, 3) := by decide +kernel
theorem dX3_nearness_132 : decode cX3_nearness 132 = .ok (.goto (-107), 3) := by decide +kernel
theorem dX3_nearness_135 : decode cX3_nearness 135 = .ok (.aload_n 0, 1) := by decide +kernel
theorem dX3_nearness_136 : decode cX3_nearness 136 = .ok (.getfield 20, 3) := by decide +kernel
theorem dX3_nearness_139 : decode cX3_nearness 139 = .ok (.iload_n 2, 1) := by decide +kernel
theorem dX3_nearness_140 : decode cX3_nearness 140 = .ok (.aaload, 1) := by decide +kernel
theorem dX3_nearness_141 : decode cX3_nearness 141 = .ok (.iload_n 3, 1) := by decide +kernel
theorem dX3_nearness_142 : decode cX3_nearness 142 = .ok (.laload, 1) := by decide +kernel
theorem dX3_nearness_143 : decode cX3_nearness 143 = .ok (.lreturn, 1) := by decide +kernel
theorem dX3_nearByParents_0 : decode cX3_nearByParents 0 = .ok (.lconst 0, 1) := by decide +kernel
theorem dX3_nearByParents_1 : decode cX3_nearByParents 1 = .ok (.lstore_n 3, 1) := by decide +kernel
theorem dX3_nearByParents_2 : decode cX3_nearByParents 2 = .ok (.iconst 0, 1) := by decide +kernel
theorem dX3_nearByParents_3 : decode cX3_nearByParents 3 = .ok (.istore 5, 2) := by decide +kernel
theorem dX3_nearByParents_5 : decode cX3_nearByParents 5 = .ok (.iload 5, 2) := by decide +kernel
theorem dX3_nearByParents_7 : decode cX3_nearByParents 7 = .ok (.bipush 10, 2) := by decide +kernel
theorem dX3_nearByParents_9 : decode cX3_nearByParents 9 = .ok (.if_icmp .ge 40, 3) := by decide +kernel
theorem dX3_nearByParents_12 : decode cX3_nearByParents 12 = .ok (.iload_n 2, 1) := by decide +kernel
theorem dX3_nearByParents_13 : decode cX3_nearByParents 13 = .ok (.ifCond .lt 36, 3) := by decide +kernel
theorem dX3_nearByParents_16 : decode cX3_nearByParents 16 = .ok (.iload_n 2, 1) := by decide +kernel
theorem dX3_nearByParents_17 : decode cX3_nearByParents 17 = .ok (.bipush 10, 2) := by decide +kernel
theorem dX3_nearByParents_19 : decode cX3_nearByParents 19 = .ok (.if_icmp .ge 30, 3) := by decide +kernel
theorem dX3_nearByParents_22 : decode cX3_nearByParents 22 = .ok (.iload_n 1, 1) := by decide +kernel
theorem dX3_nearByParents_23 : decode cX3_nearByParents 23 = .ok (.iload 5, 2) := by decide +kernel
theorem dX3_nearByParents_25 : decode cX3_nearByParents 25 = .ok (.ishr, 1) := by decide +kernel
theorem dX3_nearByParents_26 : decode cX3_nearByParents 26 = .ok (.iconst 1, 1) := by decide +kernel
theorem dX3_nearByParents_27 : decode cX3_nearByParents 27 = .ok (.iand, 1) := by decide +kernel
theorem dX3_nearByParents_28 : decode cX3_nearByParents 28 = .ok (.ifCond .eq 15, 3) := by decide +kernel
theorem dX3_nearByParents_31 : decode cX3_nearByParents 31 = .ok (.lload_n 3, 1) := by decide +kernel
theorem dX3_nearByParents_32 : decode cX3_nearByParents 32 = .ok (.aload_n 0, 1) := by decide +kernel
theorem dX3_nearByParents_33 : decode cX3_nearByParents 33 = .ok (.getfield 20, 3) := by decide +kernel
theorem dX3_nearByParents_36 : decode cX3_nearByParents 36 = .ok (.iload 5, 2) := by decide +kernel
theorem dX3_nearByParents_38 : decode cX3_nearByParents 38 = .ok (.aaload, 1) := by decide +kernel
theorem dX3_nearByParents_39 : decode cX3_nearByParents 39 = .ok (.iload_n 2, 1) := by decide +kernel
theorem dX3_nearByParents_40 : decode cX3_nearByParents 40 = .ok (.laload, 1) := by decide +kernel
theorem dX3_nearByParents_41 : decode cX3_nearByParents 41 = .ok (.ladd, 1) := by decide +kernel
theorem dX3_nearByParents_42 : decode cX3_nearByParents 42 = .ok (.lstore_n 3, 1) := by decide +kernel
theorem dX3_nearByParents_43 : decode cX3_nearByParents 43 = .ok (.iinc 5 1, 3) := by decide +kernel
theorem dX3_nearByParents_46 : decode cX3_nearByParents 46 = .ok (.goto (-41), 3) := by decide +kernel
theorem dX3_nearByParents_49 : decode cX3_nearByParents 49 = .ok (.lload_n 3, 1) := by decide +kernel
theorem dX3_nearByParents_50 : decode cX3_nearByParents 50 = .ok (.ldc2_w 49, 3) := by decide +kernel
theorem dX3_nearByParents_53 : decode cX3_nearByParents 53 = .ok (.ldiv, 1) := by decide +kernel
theorem dX3_nearByParents_54 : decode cX3_nearByParents 54 = .ok (.lreturn, 1) := by decide +kernel
theorem dX3_nearOfCouple_0 : decode cX3_nearOfCouple 0 = .ok (.iconst 0, 1) := by decide +kernel
theorem dX3_nearOfCouple_1 : decode cX3_nearOfCouple 1 = .ok (.istore_n 2, 1) := by decide +kernel
theorem dX3_nearOfCouple_2 : decode cX3_nearOfCouple 2 = .ok (.iload_n 2, 1) := by decide +kernel
theorem dX3_nearOfCouple_3 : decode cX3_nearOfCouple 3 = .ok (.bipush 10, 2) := by decide +kernel
theorem dX3_nearOfCouple_5 : decode cX3_nearOfCouple 5 = .ok (.if_icmp .ge 42, 3) := by decide +kernel
theorem dX3_nearOfCouple_8 : decode cX3_nearOfCouple 8 = .ok (.iconst 0, 1) := by decide +kernel
theorem dX3_nearOfCouple_9 : decode cX3_nearOfCouple 9 = .ok (.istore_n 3, 1) := by decide +kernel
theorem dX3_nearOfCouple_10 : decode cX3_nearOfCouple 10 = .ok (.iload_n 3, 1) := by decide +kernel
theorem dX3_nearOfCouple_11 : decode cX3_nearOfCouple 11 = .ok (.iload_n 2, 1) := by decide +kernel
theorem dX3_nearOfCouple_12 : decode cX3_nearOfCouple 12 = .ok (.if_icmp .ge 29, 3) := by decide +kernel
theorem dX3_nearOfCouple_15 : decode cX3_nearOfCouple 15 = .ok (.iload_n 1, 1) := by decide +kernel
theorem dX3_nearOfCouple_16 : decode cX3_nearOfCouple 16 = .ok (.iconst 1, 1) := by decide +kernel
theorem dX3_nearOfCouple_17 : decode cX3_nearOfCouple 17 = .ok (.iload_n 2, 1) := by decide +kernel
theorem dX3_nearOfCouple_18 : decode cX3_nearOfCouple 18 = .ok (.ishl, 1) := by decide +kernel
theorem dX3_nearOfCouple_19 : decode cX3_nearOfCouple 19 = .ok (.iconst 1, 1) := by decide +kernel
theorem dX3_nearOfCouple_20 : decode cX3_nearOfCouple 20 = .ok (.iload_n 3, 1) := by decide +kernel
theorem dX3_nearOfCouple_21 : decode cX3_nearOfCouple 21 = .ok (.ishl, 1) := by decide +kernel
theorem dX3_nearOfCouple_22 : decode cX3_nearOfCouple 22 = .ok (.ior, 1) := by decide +kernel
theorem dX3_nearOfCouple_23 : decode cX3_nearOfCouple 23 = .ok (.if_icmp .ne 12, 3) := by decide +kernel
theorem dX3_nearOfCouple_26 : decode cX3_nearOfCouple 26 = .ok (.aload_n 0, 1) := by decide +kernel
theorem dX3_nearOfCouple_27 : decode cX3_nearOfCouple 27 = .ok (.getfield 20, 3) := by decide +kernel
theorem dX3_nearOfCouple_30 : decode cX3_nearOfCouple 30 = .ok (.iload_n 2, 1) := by decide +kernel
theorem dX3_nearOfCouple_31 : decode cX3_nearOfCouple 31 = .ok (.aaload, 1) := by decide +kernel
theorem dX3_nearOfCouple_32 : decode cX3_nearOfCouple 32 = .ok (.iload_n 3, 1) := by decide +kernel
theorem dX3_nearOfCouple_33 : decode cX3_nearOfCouple 33 = .ok (.laload, 1) := by decide +kernel
theorem dX3_nearOfCouple_34 : decode cX3_nearOfCouple 34 = .ok (.lreturn, 1) := by decide +kernel
theorem dX3_nearOfCouple_35 : decode cX3_nearOfCouple 35 = .ok (.iinc 3 1, 3) := by decide +kernel
theorem dX3_nearOfCouple_38 : decode cX3_nearOfCouple 38 = .ok (.goto (-28), 3) := by decide +kernel
theorem dX3_nearOfCouple_41 : decode cX3_nearOfCouple 41 = .ok (.iinc 2 1, 3) := by decide +kernel
theorem dX3_nearOfCouple_44 : decode cX3_nearOfCouple 44 = .ok (.goto (-42), 3) := by decide +kernel
theorem dX3_nearOfCouple_47 : decode cX3_nearOfCouple 47 = .ok (.lconst 0, 1) := by decide +kernel
theorem dX3_nearOfCouple_48 : decode cX3_nearOfCouple 48 = .ok (.lreturn, 1) := by decide +kernel
theorem dX3_findLine_0 : decode cX3_findLine 0 = .ok (.aload_n 0, 1) := by decide +kernel
theorem dX3_findLine_1 : decode cX3_findLine 1 = .ok (.iconst 0, 1) := by decide +kernel
theorem dX3_findLine_2 : decode cX3_findLine 2 = .ok (.putfield 51, 3) := by decide +kernel
theorem dX3_findLine_5 : decode cX3_findLine 5 = .ok (.aload_n 1, 1) := by decide +kernel
theorem dX3_findLine_6 : decode cX3_findLine 6 = .ok (.ifnonnull 4, 3) := by decide +kernel
theorem dX3_findLine_9 : decode cX3_findLine 9 = .ok (.return_, 1) := by decide +kernel
theorem dX3_findLine_10 : decode cX3_findLine 10 = .ok (.iconst (-1), 1) := by decide +kernel
theorem dX3_findLine_11 : decode cX3_findLine 11 = .ok (.istore_n 2, 1) := by decide +kernel
theorem dX3_findLine_12 : decode cX3_findLine 12 = .ok (.bipush 9, 2) := by decide +kernel
theorem dX3_findLine_14 : decode cX3_findLine 14 = .ok (.istore_n 3, 1) := by decide +kernel
theorem dX3_findLine_15 : decode cX3_findLine 15 = .ok (.iload_n 3, 1) := by decide +kernel
theorem dX3_findLine_16 : decode cX3_findLine 16 = .ok (.ifCond .lt 69, 3) := by decide +kernel
theorem dX3_findLine_19 : decode cX3_findLine 19 = .ok (.aload_n 0, 1) := by decide +kernel
theorem dX3_findLine_20 : decode cX3_findLine 20 = .ok (.getfield 15, 3) := by decide +kernel
theorem dX3_findLine_23 : decode cX3_findLine 23 = .ok (.iload_n 3, 1) := by decide +kernel
theorem dX3_findLine_24 : decode cX3_findLine 24 = .ok (.aload_n 1, 1) := by decide +kernel
theorem dX3_findLine_25 : decode cX3_findLine 25 = .ok (.iload_n 3, 1) := by decide +kernel
theorem dX3_findLine_26 : decode cX3_findLine 26 = .ok (.invokevirtual 26, 3) := by decide +kernel
theorem dX3_findLine_29 : decode cX3_findLine 29 = .ok (.ifCond .eq 14, 3) := by decide +kernel
theorem dX3_findLine_32 : decode cX3_findLine 32 = .ok (.iconst 1, 1) := by decide +kernel
theorem dX3_findLine_33 : decode cX3_findLine 33 = .ok (.aload_n 0, 1) := by decide +kernel
theorem dX3_findLine_34 : decode cX3_findLine 34 = .ok (.aload_n 1, 1) := by decide +kernel
theorem dX3_findLine_35 : decode cX3_findLine 35 = .ok (.iload_n 3, 1) := by decide +kernel
theorem dX3_findLine_36 : decode cX3_findLine 36 = .ok (.invokevirtual 54, 3) := by decide +kernel
theorem dX3_findLine_39 : decode cX3_findLine 39 = .ok (.iadd, 1) := by decide +kernel
theorem dX3_findLine_40 : decode cX3_findLine 40 = .ok (.goto 4, 3) := by decide +kernel
theorem dX3_findLine_43 : decode cX3_findLine 43 = .ok (.iconst 0, 1) := by decide +kernel
theorem dX3_findLine_44 : decode cX3_findLine 44 = .ok (.iastore, 1) := by decide +kernel
theorem dX3_findLine_45 : decode cX3_findLine 45 = .ok (.aload_n 0, 1) := by decide +kernel
theorem dX3_findLine_46 : decode cX3_findLine 46 = .ok (.getfield 15, 3) := by decide +kernel
theorem dX3_findLine_49 : decode cX3_findLine 49 = .ok (.iload_n 3, 1) := by decide +kernel
theorem dX3_findLine_50 : decode cX3_findLine 50 = .ok (.iaload, 1) := by decide +kernel
theorem dX3_findLine_51 : decode cX3_findLine 51 = .ok (.ifCond .le 28, 3) := by decide +kernel
theorem dX3_findLine_54 : decode cX3_findLine 54 = .ok (.aload_n 0, 1) := by decide +kernel
theorem dX3_findLine_55 : decode cX3_findLine 55 = .ok (.getfield 15, 3) := by decide +kernel
theorem dX3_findLine_58 : decode cX3_findLine 58 = .ok (.iload_n 3, 1) := by decide +kernel
theorem dX3_findLine_59 : decode cX3_findLine 59 = .ok (.iaload, 1) := by decide +kernel
theorem dX3_findLine_60 : decode cX3_findLine 60 = .ok (.aload_n 0, 1) := by decide +kernel
theorem dX3_findLine_61 : decode cX3_findLine 61 = .ok (.getfield 51, 3) := by decide +kernel
theorem dX3_findLine_64 : decode cX3_findLine 64 = .ok (.if_icmp .lt 15, 3) := by decide +kernel
theorem dX3_findLine_67 : decode cX3_findLine 67 = .ok (.aload_n 0, 1) := by decide +kernel
theorem dX3_findLine_68 : decode cX3_findLine 68 = .ok (.aload_n 0, 1) := by decide +kernel
theorem dX3_findLine_69 : decode cX3_findLine 69 = .ok (.getfield 15, 3) := by decide +kernel
theorem dX3_findLine_72 : decode cX3_findLine 72 = .ok (.iload_n 3, 1) := by decide +kernel
theorem dX3_findLine_73 : decode cX3_findLine 73 = .ok (.iaload, 1) := by decide +kernel
theorem dX3_findLine_74 : decode cX3_findLine 74 = .ok (.putfield 51, 3) := by decide +kernel
theorem dX3_findLine_77 : decode cX3_findLine 77 = .ok (.iload_n 3, 1) := by decide +kernel
theorem dX3_findLine_78 : decode cX3_findLine 78 = .ok (.istore_n 2, 1) := by decide +kernel
theorem dX3_findLine_79 : decode cX3_findLine 79 = .ok (.iinc 3 (-1), 3) := by decide +kernel
theorem dX3_findLine_82 : decode cX3_findLine 82 = .ok (.goto (-67), 3) := by decide +kernel
theorem dX3_findLine_85 : decode cX3_findLine 85 = .ok (.iconst 0, 1) := by decide +kernel
theorem dX3_findLine_86 : decode cX3_findLine 86 = .ok (.istore_n 3, 1) := by decide +kernel
theorem dX3_findLine_87 : decode cX3_findLine 87 = .ok (.iload_n 3, 1) := by decide +kernel
theorem dX3_findLine_88 : decode cX3_findLine 88 = .ok (.aload_n 0, 1) := by decide +kernel
theorem dX3_findLine_89 : decode cX3_findLine 89 = .ok (.getfield 51, 3) := by decide +kernel
theorem dX3_findLine_92 : decode cX3_findLine 92 = .ok (.if_icmp .ge 37, 3) := by decide +kernel
theorem dX3_findLine_95 : decode cX3_findLine 95 = .ok (.iload_n 3, 1) := by decide +kernel
theorem dX3_findLine_96 : decode cX3_findLine 96 = .ok (.bipush 10, 2) := by decide +kernel
theorem dX3_findLine_98 : decode cX3_findLine 98 = .ok (.if_icmp .ge 31, 3) := by decide +kernel
theorem dX3_findLine_101 : decode cX3_findLine 101 = .ok (.aload_n 0, 1) := by decide +kernel
theorem dX3_findLine_102 : decode cX3_findLine 102 = .ok (.getfield 11, 3) := by decide +kernel
theorem dX3_findLine_105 : decode cX3_findLine 105 = .ok (.iload_n 3, 1) := by decide +kernel
theorem dX3_findLine_106 : decode cX3_findLine 106 = .ok (.iload_n 2, 1) := by decide +kernel
theorem dX3_findLine_107 : decode cX3_findLine 107 = .ok (.iastore, 1) := by decide +kernel
theorem dX3_findLine_108 : decode cX3_findLine 108 = .ok (.aload_n 0, 1) := by decide +kernel
theorem dX3_findLine_109 : decode cX3_findLine 109 = .ok (.aload_n 1, 1) := by decide +kernel
theorem dX3_findLine_110 : decode cX3_findLine 110 = .ok (.iload_n 2, 1) := by decide +kernel
theorem dX3_findLine_111 : decode cX3_findLine 111 = .ok (.aload_n 0, 1) := by decide +kernel
theorem dX3_findLine_112 : decode cX3_findLine 112 = .ok (.getfield 51, 3) := by decide +kernel
theorem dX3_findLine_115 : decode cX3_findLine 115 = .ok (.iload_n 3, 1) := by decide +kernel
theorem dX3_findLine_116 : decode cX3_findLine 116 = .ok (.isub, 1) := by decide +kernel
theorem dX3_findLine_117 : decode cX3_findLine 117 = .ok (.iconst 1, 1) := by decide +kernel
theorem dX3_findLine_118 : decode cX3_findLine 118 = .ok (.isub, 1) := by decide +kernel
theorem dX3_findLine_119 : decode cX3_findLine 119 = .ok (.invokevirtual 58, 3) := by decide +kernel
theorem dX3_findLine_122 : decode cX3_findLine 122 = .ok (.istore_n 2, 1) := by decide +kernel
theorem dX3_findLine_123 : decode cX3_findLine 123 = .ok (.iinc 3 1, 3) := by decide +kernel
theorem dX3_findLine_126 : decode cX3_findLine 126 = .ok (.goto (-39), 3) := by decide +kernel
theorem dX3_findLine_129 : decode cX3_findLine 129 = .ok (.return_, 1) := by decide +kernel
theorem dX3_longestBelow_0 : decode cX3_longestBelow 0 = .ok (.iconst 0, 1) := by decide +kernel
theorem dX3_longestBelow_1 : decode cX3_longestBelow 1 = .ok (.istore_n 3, 1) := by decide +kernel
theorem dX3_longestBelow_2 : decode cX3_longestBelow 2 = .ok (.iconst 0, 1) := by decide +kernel
theorem dX3_longestBelow_3 : decode cX3_longestBelow 3 = .ok (.istore 4, 2) := by decide +kernel
theorem dX3_longestBelow_5 : decode cX3_longestBelow 5 = .ok (.iload 4, 2) := by decide +kernel
theorem dX3_longestBelow_7 : decode cX3_longestBelow 7 = .ok (.aload_n 1, 1) := by decide +kernel
theorem dX3_longestBelow_8 : decode cX3_longestBelow 8 = .ok (.getfield 32, 3) := by decide +kernel
theorem dX3_longestBelow_11 : decode cX3_longestBelow 11 = .ok (.if_icmp .ge 42, 3) := by decide +kernel
theorem dX3_longestBelow_14 : decode cX3_longestBelow 14 = .ok (.iload 4, 2) := by decide +kernel
theorem dX3_longestBelow_16 : decode cX3_longestBelow 16 = .ok (.bipush 10, 2) := by decide +kernel
theorem dX3_longestBelow_18 : decode cX3_longestBelow 18 = .ok (.if_icmp .ge 35, 3) := by decide +kernel
theorem dX3_longestBelow_21 : decode cX3_longestBelow 21 = .ok (.aload_n 1, 1) := by decide +kernel
theorem dX3_longestBelow_22 : decode cX3_longestBelow 22 = .ok (.getfield 36, 3) := by decide +kernel
theorem dX3_longestBelow_25 : decode cX3_longestBelow 25 = .ok (.iload 4, 2) := by decide +kernel
theorem dX3_longestBelow_27 : decode cX3_longestBelow 27 = .ok (.iaload, 1) := by decide +kernel
theorem dX3_longestBelow_28 : decode cX3_longestBelow 28 = .ok (.iload_n 2, 1) := by decide +kernel
theorem dX3_longestBelow_29 : decode cX3_longestBelow 29 = .ok (.ishr, 1) := by decide +kernel
theorem dX3_longestBelow_30 : decode cX3_longestBelow 30 = .ok (.iconst 1, 1) := by decide +kernel
theorem dX3_longestBelow_31 : decode cX3_longestBelow 31 = .ok (.iand, 1) := by decide +kernel
theorem dX3_longestBelow_32 : decode cX3_longestBelow 32 = .ok (.ifCond .eq 15, 3) := by decide +kernel
theorem dX3_longestBelow_35 : decode cX3_longestBelow 35 = .ok (.iload_n 3, 1) := by decide +kernel
theorem dX3_longestBelow_36 : decode cX3_longestBelow 36 = .ok (.aload_n 0, 1) := by decide +kernel
theorem dX3_longestBelow_37 : decode cX3_longestBelow 37 = .ok (.getfield 15, 3) := by decide +kernel
theorem dX3_longestBelow_40 : decode cX3_longestBelow 40 = .ok (.iload 4, 2) := by decide +kernel
theorem dX3_longestBelow_42 : decode cX3_longestBelow 42 = .ok (.iaload, 1) := by decide +kernel
theorem dX3_longestBelow_43 : decode cX3_longestBelow 43 = .ok (.invokestatic 62, 3) := by decide +kernel
theorem dX3_longestBelow_46 : decode cX3_longestBelow 46 = .ok (.istore_n 3, 1) := by decide +kernel
theorem dX3_longestBelow_47 : decode cX3_longestBelow 47 = .ok (.iinc 4 1, 3) := by decide +kernel
theorem dX3_longestBelow_50 : decode cX3_longestBelow 50 = .ok (.goto (-45), 3) := by decide +kernel
theorem dX3_longestBelow_53 : decode cX3_longestBelow 53 = .ok (.iload_n 3, 1) := by decide +kernel
theorem dX3_longestBelow_54 : decode cX3_longestBelow 54 = .ok (.ireturn, 1) := by decide +kernel
theorem dX3_nextInLine_0 : decode cX3_nextInLine 0 = .ok (.iconst 0, 1) := by decide +kernel
theorem dX3_nextInLine_1 : decode cX3_nextInLine 1 = .ok (.istore 4, 2) := by decide +kernel
theorem dX3_nextInLine_3 : decode cX3_nextInLine 3 = .ok (.iload 4, 2) := by decide +kernel
theorem dX3_nextInLine_5 : decode cX3_nextInLine 5 = .ok (.aload_n 1, 1) := by decide +kernel
theorem dX3_nextInLine_6 : decode cX3_nextInLine 6 = .ok (.getfield 32, 3) := by decide +kernel
theorem dX3_nextInLine_9 : decode cX3_nextInLine 9 = .ok (.if_icmp .ge 44, 3) := by decide +kernel
theorem dX3_nextInLine_12 : decode cX3_nextInLine 12 = .ok (.iload 4, 2) := by decide +kernel
theorem dX3_nextInLine_14 : decode cX3_nextInLine 14 = .ok (.bipush 10, 2) := by decide +kernel
theorem dX3_nextInLine_16 : decode cX3_nextInLine 16 = .ok (.if_icmp .ge 37, 3) := by decide +kernel
theorem dX3_nextInLine_19 : decode cX3_nextInLine 19 = .ok (.aload_n 1, 1) := by decide +kernel
theorem dX3_nextInLine_20 : decode cX3_nextInLine 20 = .ok (.getfield 36, 3) := by decide +kernel
theorem dX3_nextInLine_23 : decode cX3_nextInLine 23 = .ok (.iload 4, 2) := by decide +kernel
theorem dX3_nextInLine_25 : decode cX3_nextInLine 25 = .ok (.iaload, 1) := by decide +kernel
theorem dX3_nextInLine_26 : decode cX3_nextInLine 26 = .ok (.iload_n 2, 1) := by decide +kernel
theorem dX3_nextInLine_27 : decode cX3_nextInLine 27 = .ok (.ishr, 1) := by decide +kernel
theorem dX3_nextInLine_28 : decode cX3_nextInLine 28 = .ok (.iconst 1, 1) := by decide +kernel
theorem dX3_nextInLine_29 : decode cX3_nextInLine 29 = .ok (.iand, 1) := by decide +kernel
theorem dX3_nextInLine_30 : decode cX3_nextInLine 30 = .ok (.ifCond .eq 17, 3) := by decide +kernel
theorem dX3_nextInLine_33 : decode cX3_nextInLine 33 = .ok (.aload_n 0, 1) := by decide +kernel
theorem dX3_nextInLine_34 : decode cX3_nextInLine 34 = .ok (.getfield 15, 3) := by decide +kernel
theorem dX3_nextInLine_37 : decode cX3_nextInLine 37 = .ok (.iload 4, 2) := by decide +kernel
theorem dX3_nextInLine_39 : decode cX3_nextInLine 39 = .ok (.iaload, 1) := by decide +kernel
theorem dX3_nextInLine_40 : decode cX3_nextInLine 40 = .ok (.iload_n 3, 1) := by decide +kernel
theorem dX3_nextInLine_41 : decode cX3_nextInLine 41 = .ok (.if_icmp .ne 6, 3) := by decide +kernel
theorem dX3_nextInLine_44 : decode cX3_nextInLine 44 = .ok (.iload 4, 2) := by decide +kernel
theorem dX3_nextInLine_46 : decode cX3_nextInLine 46 = .ok (.ireturn, 1) := by decide +kernel
theorem dX3_nextInLine_47 : decode cX3_nextInLine 47 = .ok (.iinc 4 1, 3) := by decide +kernel
theorem dX3_nextInLine_50 : decode cX3_nextInLine 50 = .ok (.goto (-47), 3) := by decide +kernel
theorem dX3_nextInLine_53 : decode cX3_nextInLine 53 = .ok (.iconst (-1), 1) := by decide +kernel
theorem dX3_nextInLine_54 : decode cX3_nextInLine 54 = .ok (.ireturn, 1) := by decide +kernel
theorem dX3_eldersOf_0 : decode cX3_eldersOf 0 = .ok (.aload_n 1, 1) := by decide +kernel
theorem dX3_eldersOf_1 : decode cX3_eldersOf 1 = .ok (.ifnull 11, 3) := by decide +kernel
theorem dX3_eldersOf_4 : decode cX3_eldersOf 4 = .ok (.aload_n 1, 1) := by decide +kernel
theorem dX3_eldersOf_5 : decode cX3_eldersOf 5 = .ok (.iload_n 2, 1) := by decide +kernel
theorem dX3_eldersOf_6 : decode cX3_eldersOf 6 = .ok (.invokevirtual 26, 3) := by decide +kernel
theorem dX3_eldersOf_9 : decode cX3_eldersOf 9 = .ok (.ifCond .ne 5, 3) := by decide +kernel
theorem dX3_eldersOf_12 : decode cX3_eldersOf 12 = .ok (.iconst 0, 1) := by decide +kernel
theorem dX3_eldersOf_13 : decode cX3_eldersOf 13 = .ok (.ireturn, 1) := by decide +kernel
theorem dX3_eldersOf_14 : decode cX3_eldersOf 14 = .ok (.aload_n 1, 1) := by decide +kernel
theorem dX3_eldersOf_15 : decode cX3_eldersOf 15 = .ok (.getfield 36, 3) := by decide +kernel
theorem dX3_eldersOf_18 : decode cX3_eldersOf 18 = .ok (.iload_n 2, 1) := by decide +kernel
theorem dX3_eldersOf_19 : decode cX3_eldersOf 19 = .ok (.iaload, 1) := by decide +kernel
theorem dX3_eldersOf_20 : decode cX3_eldersOf 20 = .ok (.istore_n 3, 1) := by decide +kernel
theorem dX3_eldersOf_21 : decode cX3_eldersOf 21 = .ok (.iload_n 2, 1) := by decide +kernel
theorem dX3_eldersOf_22 : decode cX3_eldersOf 22 = .ok (.iconst 1, 1) := by decide +kernel
theorem dX3_eldersOf_23 : decode cX3_eldersOf 23 = .ok (.isub, 1) := by decide +kernel
theorem dX3_eldersOf_24 : decode cX3_eldersOf 24 = .ok (.istore 4, 2) := by decide +kernel
theorem dX3_eldersOf_26 : decode cX3_eldersOf 26 = .ok (.iload 4, 2) := by decide +kernel
theorem dX3_eldersOf_28 : decode cX3_eldersOf 28 = .ok (.ifCond .lt 28, 3) := by decide +kernel
theorem dX3_eldersOf_31 : decode cX3_eldersOf 31 = .ok (.iload_n 3, 1) := by decide +kernel
theorem dX3_eldersOf_32 : decode cX3_eldersOf 32 = .ok (.iload 4, 2) := by decide +kernel
theorem dX3_eldersOf_34 : decode cX3_eldersOf 34 = .ok (.ishr, 1) := by decide +kernel
theorem dX3_eldersOf_35 : decode cX3_eldersOf 35 = .ok (.iconst 1, 1) := by decide +kernel
theorem dX3_eldersOf_36 : decode cX3_eldersOf 36 = .ok (.iand, 1) := by decide +kernel
theorem dX3_eldersOf_37 : decode cX3_eldersOf 37 = .ok (.ifCond .eq 13, 3) := by decide +kernel
theorem dX3_eldersOf_40 : decode cX3_eldersOf 40 = .ok (.iload_n 3, 1) := by decide +kernel
theorem dX3_eldersOf_41 : decode cX3_eldersOf 41 = .ok (.aload_n 1, 1) := by decide +kernel
theorem dX3_eldersOf_42 : decode cX3_eldersOf 42 = .ok (.getfield 36, 3) := by decide +kernel
theorem dX3_eldersOf_45 : decode cX3_eldersOf 45 = .ok (.iload 4, 2) := by decide +kernel
theorem dX3_eldersOf_47 : decode cX3_eldersOf 47 = .ok (.iaload, 1) := by decide +kernel
theorem dX3_eldersOf_48 : decode cX3_eldersOf 48 = .ok (.ior, 1) := by decide +kernel
theorem dX3_eldersOf_49 : decode cX3_eldersOf 49 = .ok (.istore_n 3, 1) := by decide +kernel
theorem dX3_eldersOf_50 : decode cX3_eldersOf 50 = .ok (.iinc 4 (-1), 3) := by decide +kernel
theorem dX3_eldersOf_53 : decode cX3_eldersOf 53 = .ok (.goto (-27), 3) := by decide +kernel
theorem dX3_eldersOf_56 : decode cX3_eldersOf 56 = .ok (.iload_n 3, 1) := by decide +kernel
theorem dX3_eldersOf_57 : decode cX3_eldersOf 57 = .ok (.ireturn, 1) := by decide +kernel
theorem dX3_youngOf_0 : decode cX3_youngOf 0 = .ok (.aload_n 1, 1) := by decide +kernel
theorem dX3_youngOf_1 : decode cX3_youngOf 1 = .ok (.ifnull 11, 3) := by decide +kernel
theorem dX3_youngOf_4 : decode cX3_youngOf 4 = .ok (.aload_n 1, 1) := by decide +kernel
theorem dX3_youngOf_5 : decode cX3_youngOf 5 = .ok (.iload_n 2, 1) := by decide +kernel
theorem dX3_youngOf_6 : decode cX3_youngOf 6 = .ok (.invokevirtual 26, 3) := by decide +kernel
theorem dX3_youngOf_9 : decode cX3_youngOf 9 = .ok (.ifCond .ne 5, 3) := by decide +kernel
theorem dX3_youngOf_12 : decode cX3_youngOf 12 = .ok (.iconst 0, 1) := by decide +kernel
theorem dX3_youngOf_13 : decode cX3_youngOf 13 = .ok (.ireturn, 1) := by decide +kernel
theorem dX3_youngOf_14 : decode cX3_youngOf 14 = .ok (.iconst 0, 1) := by decide +kernel
theorem dX3_youngOf_15 : decode cX3_youngOf 15 = .ok (.istore_n 3, 1) := by decide +kernel
theorem dX3_youngOf_16 : decode cX3_youngOf 16 = .ok (.iconst 0, 1) := by decide +kernel
theorem dX3_youngOf_17 : decode cX3_youngOf 17 = .ok (.istore 4, 2) := by decide +kernel
theorem dX3_youngOf_19 : decode cX3_youngOf 19 = .ok (.iload 4, 2) := by decide +kernel
theorem dX3_youngOf_21 : decode cX3_youngOf 21 = .ok (.aload_n 1, 1) := by decide +kernel
theorem dX3_youngOf_22 : decode cX3_youngOf 22 = .ok (.getfield 32, 3) := by decide +kernel
theorem dX3_youngOf_25 : decode cX3_youngOf 25 = .ok (.if_icmp .ge 39, 3) := by decide +kernel
theorem dX3_youngOf_28 : decode cX3_youngOf 28 = .ok (.iload 4, 2) := by decide +kernel
theorem dX3_youngOf_30 : decode cX3_youngOf 30 = .ok (.bipush 10, 2) := by decide +kernel
theorem dX3_youngOf_32 : decode cX3_youngOf 32 = .ok (.if_icmp .ge 32, 3) := by decide +kernel
theorem dX3_youngOf_35 : decode cX3_youngOf 35 = .ok (.aload_n 1, 1) := by decide +kernel
theorem dX3_youngOf_36 : decode cX3_youngOf 36 = .ok (.getfield 36, 3) := by decide +kernel
theorem dX3_youngOf_39 : decode cX3_youngOf 39 = .ok (.iload 4, 2) := by decide +kernel
theorem dX3_youngOf_41 : decode cX3_youngOf 41 = .ok (.iaload, 1) := by decide +kernel
theorem dX3_youngOf_42 : decode cX3_youngOf 42 = .ok (.iload_n 3, 1) := by decide +kernel
theorem dX3_youngOf_43 : decode cX3_youngOf 43 = .ok (.iconst 1, 1) := by decide +kernel
theorem dX3_youngOf_44 : decode cX3_youngOf 44 = .ok (.iload_n 2, 1) := by decide +kernel
theorem dX3_youngOf_45 : decode cX3_youngOf 45 = .ok (.ishl, 1) := by decide +kernel
theorem dX3_youngOf_46 : decode cX3_youngOf 46 = .ok (.ior, 1) := by decide +kernel
theorem dX3_youngOf_47 : decode cX3_youngOf 47 = .ok (.iand, 1) := by decide +kernel
theorem dX3_youngOf_48 : decode cX3_youngOf 48 = .ok (.ifCond .eq 10, 3) := by decide +kernel
theorem dX3_youngOf_51 : decode cX3_youngOf 51 = .ok (.iload_n 3, 1) := by decide +kernel
theorem dX3_youngOf_52 : decode cX3_youngOf 52 = .ok (.iconst 1, 1) := by decide +kernel
theorem dX3_youngOf_53 : decode cX3_youngOf 53 = .ok (.iload 4, 2) := by decide +kernel
theorem dX3_youngOf_55 : decode cX3_youngOf 55 = .ok (.ishl, 1) := by decide +kernel
theorem dX3_youngOf_56 : decode cX3_youngOf 56 = .ok (.ior, 1) := by decide +kernel
theorem dX3_youngOf_57 : decode cX3_youngOf 57 = .ok (.istore_n 3, 1) := by decide +kernel
theorem dX3_youngOf_58 : decode cX3_youngOf 58 = .ok (.iinc 4 1, 3) := by decide +kernel
theorem dX3_youngOf_61 : decode cX3_youngOf 61 = .ok (.goto (-42), 3) := by decide +kernel
theorem dX3_youngOf_64 : decode cX3_youngOf 64 = .ok (.iload_n 3, 1) := by decide +kernel
theorem dX3_youngOf_65 : decode cX3_youngOf 65 = .ok (.ireturn, 1) := by decide +kernel
theorem dX3_oneStepOn_0 : decode cX3_oneStepOn 0 = .ok (.iload_n 1, 1) := by decide +kernel
theorem dX3_oneStepOn_1 : decode cX3_oneStepOn 1 = .ok (.istore_n 2, 1) := by decide +kernel
theorem dX3_oneStepOn_2 : decode cX3_oneStepOn 2 = .ok (.iconst 0, 1) := by decide +kernel
theorem dX3_oneStepOn_3 : decode cX3_oneStepOn 3 = .ok (.istore_n 3, 1) := by decide +kernel
theorem dX3_oneStepOn_4 : decode cX3_oneStepOn 4 = .ok (.iload_n 3, 1) := by decide +kernel
theorem dX3_oneStepOn_5 : decode cX3_oneStepOn 5 = .ok (.aload_n 0, 1) := by decide +kernel
theorem dX3_oneStepOn_6 : decode cX3_oneStepOn 6 = .ok (.getfield 32, 3) := by decide +kernel
theorem dX3_oneStepOn_9 : decode cX3_oneStepOn 9 = .ok (.if_icmp .ge 49, 3) := by decide +kernel
theorem dX3_oneStepOn_12 : decode cX3_oneStepOn 12 = .ok (.iload_n 3, 1) := by decide +kernel
theorem dX3_oneStepOn_13 : decode cX3_oneStepOn 13 = .ok (.bipush 10, 2) := by decide +kernel
theorem dX3_oneStepOn_15 : decode cX3_oneStepOn 15 = .ok (.if_icmp .ge 43, 3) := by decide +kernel
theorem dX3_oneStepOn_18 : decode cX3_oneStepOn 18 = .ok (.iload_n 1, 1) := by decide +kernel
theorem dX3_oneStepOn_19 : decode cX3_oneStepOn 19 = .ok (.iload_n 3, 1) := by decide +kernel
theorem dX3_oneStepOn_20 : decode cX3_oneStepOn 20 = .ok (.ishr, 1) := by decide +kernel
theorem dX3_oneStepOn_21 : decode cX3_oneStepOn 21 = .ok (.iconst 1, 1) := by decide +kernel
theorem dX3_oneStepOn_22 : decode cX3_oneStepOn 22 = .ok (.iand, 1) := by decide +kernel
theorem dX3_oneStepOn_23 : decode cX3_oneStepOn 23 = .ok (.ifCond .eq 12, 3) := by decide +kernel
theorem dX3_oneStepOn_26 : decode cX3_oneStepOn 26 = .ok (.iload_n 2, 1) := by decide +kernel
theorem dX3_oneStepOn_27 : decode cX3_oneStepOn 27 = .ok (.aload_n 0, 1) := by decide +kernel
theorem dX3_oneStepOn_28 : decode cX3_oneStepOn 28 = .ok (.getfield 36, 3) := by decide +kernel
theorem dX3_oneStepOn_31 : decode cX3_oneStepOn 31 = .ok (.iload_n 3, 1) := by decide +kernel
theorem dX3_oneStepOn_32 : decode cX3_oneStepOn 32 = .ok (.iaload, 1) := by decide +kernel
theorem dX3_oneStepOn_33 : decode cX3_oneStepOn 33 = .ok (.ior, 1) := by decide +kernel
theorem dX3_oneStepOn_34 : decode cX3_oneStepOn 34 = .ok (.istore_n 2, 1) := by decide +kernel
theorem dX3_oneStepOn_35 : decode cX3_oneStepOn 35 = .ok (.aload_n 0, 1) := by decide +kernel
theorem dX3_oneStepOn_36 : decode cX3_oneStepOn 36 = .ok (.getfield 36, 3) := by decide +kernel
theorem dX3_oneStepOn_39 : decode cX3_oneStepOn 39 = .ok (.iload_n 3, 1) := by decide +kernel
theorem dX3_oneStepOn_40 : decode cX3_oneStepOn 40 = .ok (.iaload, 1) := by decide +kernel
theorem dX3_oneStepOn_41 : decode cX3_oneStepOn 41 = .ok (.iload_n 1, 1) := by decide +kernel
theorem dX3_oneStepOn_42 : decode cX3_oneStepOn 42 = .ok (.iand, 1) := by decide +kernel
theorem dX3_oneStepOn_43 : decode cX3_oneStepOn 43 = .ok (.ifCond .eq 9, 3) := by decide +kernel
theorem dX3_oneStepOn_46 : decode cX3_oneStepOn 46 = .ok (.iload_n 2, 1) := by decide +kernel
theorem dX3_oneStepOn_47 : decode cX3_oneStepOn 47 = .ok (.iconst 1, 1) := by decide +kernel
theorem dX3_oneStepOn_48 : decode cX3_oneStepOn 48 = .ok (.iload_n 3, 1) := by decide +kernel
theorem dX3_oneStepOn_49 : decode cX3_oneStepOn 49 = .ok (.ishl, 1) := by decide +kernel
theorem dX3_oneStepOn_50 : decode cX3_oneStepOn 50 = .ok (.ior, 1) := by decide +kernel
theorem dX3_oneStepOn_51 : decode cX3_oneStepOn 51 = .ok (.istore_n 2, 1) := by decide +kernel
theorem dX3_oneStepOn_52 : decode cX3_oneStepOn 52 = .ok (.iinc 3 1, 3) := by decide +kernel
theorem dX3_oneStepOn_55 : decode cX3_oneStepOn 55 = .ok (.goto (-51), 3) := by decide +kernel
theorem dX3_oneStepOn_58 : decode cX3_oneStepOn 58 = .ok (.iload_n 2, 1) := by decide +kernel
theorem dX3_oneStepOn_59 : decode cX3_oneStepOn 59 = .ok (.ireturn, 1) := by decide +kernel
theorem dX3_stepsBetween_0 : decode cX3_stepsBetween 0 = .ok (.aload_n 1, 1) := by decide +kernel
theorem dX3_stepsBetween_1 : decode cX3_stepsBetween 1 = .ok (.ifnull 19, 3) := by decide +kernel
theorem dX3_stepsBetween_4 : decode cX3_stepsBetween 4 = .ok (.aload_n 1, 1) := by decide +kernel
theorem dX3_stepsBetween_5 : decode cX3_stepsBetween 5 = .ok (.iload_n 2, 1) := by decide +kernel
theorem dX3_stepsBetween_6 : decode cX3_stepsBetween 6 = .ok (.invokevirtual 26, 3) := by decide +kernel
theorem dX3_stepsBetween_9 : decode cX3_stepsBetween 9 = .ok (.ifCond .eq 11, 3) := by decide +kernel
theorem dX3_stepsBetween_12 : decode cX3_stepsBetween 12 = .ok (.aload_n 1, 1) := by decide +kernel
theorem dX3_stepsBetween_13 : decode cX3_stepsBetween 13 = .ok (.iload_n 3, 1) := by decide +kernel
theorem dX3_stepsBetween_14 : decode cX3_stepsBetween 14 = .ok (.invokevirtual 26, 3) := by decide +kernel
theorem dX3_stepsBetween_17 : decode cX3_stepsBetween 17 = .ok (.ifCond .ne 5, 3) := by decide +kernel
theorem dX3_stepsBetween_20 : decode cX3_stepsBetween 20 = .ok (.iconst (-1), 1) := by decide +kernel
theorem dX3_stepsBetween_21 : decode cX3_stepsBetween 21 = .ok (.ireturn, 1) := by decide +kernel
theorem dX3_stepsBetween_22 : decode cX3_stepsBetween 22 = .ok (.iconst 1, 1) := by decide +kernel
theorem dX3_stepsBetween_23 : decode cX3_stepsBetween 23 = .ok (.iload_n 2, 1) := by decide +kernel
theorem dX3_stepsBetween_24 : decode cX3_stepsBetween 24 = .ok (.ishl, 1) := by decide +kernel
theorem dX3_stepsBetween_25 : decode cX3_stepsBetween 25 = .ok (.istore 4, 2) := by decide +kernel
theorem dX3_stepsBetween_27 : decode cX3_stepsBetween 27 = .ok (.iconst 0, 1) := by decide +kernel
theorem dX3_stepsBetween_28 : decode cX3_stepsBetween 28 = .ok (.istore 5, 2) := by decide +kernel
theorem dX3_stepsBetween_30 : decode cX3_stepsBetween 30 = .ok (.iload 5, 2) := by decide +kernel
theorem dX3_stepsBetween_32 : decode cX3_stepsBetween 32 = .ok (.bipush 10, 2) := by decide +kernel
theorem dX3_stepsBetween_34 : decode cX3_stepsBetween 34 = .ok (.if_icmp .ge 29, 3) := by decide +kernel
theorem dX3_stepsBetween_37 : decode cX3_stepsBetween 37 = .ok (.iload 4, 2) := by decide +kernel
theorem dX3_stepsBetween_39 : decode cX3_stepsBetween 39 = .ok (.iload_n 3, 1) := by decide +kernel
theorem dX3_stepsBetween_40 : decode cX3_stepsBetween 40 = .ok (.ishr, 1) := by decide +kernel
theorem dX3_stepsBetween_41 : decode cX3_stepsBetween 41 = .ok (.iconst 1, 1) := by decide +kernel
theorem dX3_stepsBetween_42 : decode cX3_stepsBetween 42 = .ok (.iand, 1) := by decide +kernel
theorem dX3_stepsBetween_43 : decode cX3_stepsBetween 43 = .ok (.ifCond .eq 6, 3) := by decide +kernel
theorem dX3_stepsBetween_46 : decode cX3_stepsBetween 46 = .ok (.iload 5, 2) := by decide +kernel
theorem dX3_stepsBetween_48 : decode cX3_stepsBetween 48 = .ok (.ireturn, 1) := by decide +kernel
theorem dX3_stepsBetween_49 : decode cX3_stepsBetween 49 = .ok (.aload_n 1, 1) := by decide +kernel
theorem dX3_stepsBetween_50 : decode cX3_stepsBetween 50 = .ok (.iload 4, 2) := by decide +kernel
theorem dX3_stepsBetween_52 : decode cX3_stepsBetween 52 = .ok (.invokestatic 68, 3) := by decide +kernel
theorem dX3_stepsBetween_55 : decode cX3_stepsBetween 55 = .ok (.istore 4, 2) := by decide +kernel
theorem dX3_stepsBetween_57 : decode cX3_stepsBetween 57 = .ok (.iinc 5 1, 3) := by decide +kernel
theorem dX3_stepsBetween_60 : decode cX3_stepsBetween 60 = .ok (.goto (-30), 3) := by decide +kernel
theorem dX3_stepsBetween_63 : decode cX3_stepsBetween 63 = .ok (.iconst (-1), 1) := by decide +kernel
theorem dX3_stepsBetween_64 : decode cX3_stepsBetween 64 = .ok (.ireturn, 1) := by decide +kernel
theorem dX3_houseOf_0 : decode cX3_houseOf 0 = .ok (.iconst 1, 1) := by decide +kernel
theorem dX3_houseOf_1 : decode cX3_houseOf 1 = .ok (.iload_n 1, 1) := by decide +kernel
theorem dX3_houseOf_2 : decode cX3_houseOf 2 = .ok (.ishl, 1) := by decide +kernel
theorem dX3_houseOf_3 : decode cX3_houseOf 3 = .ok (.istore_n 2, 1) := by decide +kernel
theorem dX3_houseOf_4 : decode cX3_houseOf 4 = .ok (.iconst 0, 1) := by decide +kernel
theorem dX3_houseOf_5 : decode cX3_houseOf 5 = .ok (.istore_n 3, 1) := by decide +kernel
theorem dX3_houseOf_6 : decode cX3_houseOf 6 = .ok (.iload_n 3, 1) := by decide +kernel
theorem dX3_houseOf_7 : decode cX3_houseOf 7 = .ok (.bipush 10, 2) := by decide +kernel
theorem dX3_houseOf_9 : decode cX3_houseOf 9 = .ok (.if_icmp .ge 15, 3) := by decide +kernel
theorem dX3_houseOf_12 : decode cX3_houseOf 12 = .ok (.aload_n 0, 1) := by decide +kernel
theorem dX3_houseOf_13 : decode cX3_houseOf 13 = .ok (.iload_n 2, 1) := by decide +kernel
theorem dX3_houseOf_14 : decode cX3_houseOf 14 = .ok (.invokestatic 68, 3) := by decide +kernel
theorem dX3_houseOf_17 : decode cX3_houseOf 17 = .ok (.istore_n 2, 1) := by decide +kernel
theorem dX3_houseOf_18 : decode cX3_houseOf 18 = .ok (.iinc 3 1, 3) := by decide +kernel
theorem dX3_houseOf_21 : decode cX3_houseOf 21 = .ok (.goto (-15), 3) := by decide +kernel
theorem dX3_houseOf_24 : decode cX3_houseOf 24 = .ok (.iload_n 2, 1) := by decide +kernel
theorem dX3_houseOf_25 : decode cX3_houseOf 25 = .ok (.ireturn, 1) := by decide +kernel
theorem dX3_look_0 : decode cX3_look 0 = .ok (.aload_n 1, 1) := by decide +kernel
theorem dX3_look_1 : decode cX3_look 1 = .ok (.ifnonnull 6, 3) := by decide +kernel
theorem dX3_look_4 : decode cX3_look 4 = .ok (.bipush (-2), 2) := by decide +kernel
theorem dX3_look_6 : decode cX3_look 6 = .ok (.ireturn, 1) := by decide +kernel
theorem dX3_look_7 : decode cX3_look 7 = .ok (.iload_n 2, 1) := by decide +kernel
theorem dX3_look_8 : decode cX3_look 8 = .ok (.tableswitch 111 0 8 #[52, 57, 62, 67, 72, 77, 82, 91, 101], 52) := by decide +kernel
theorem dX3_look_60 : decode cX3_look 60 = .ok (.aload_n 1, 1) := by decide +kernel
theorem dX3_look_61 : decode cX3_look 61 = .ok (.invokestatic 71, 3) := by decide +kernel
theorem dX3_look_64 : decode cX3_look 64 = .ok (.ireturn, 1) := by decide +kernel
theorem dX3_look_65 : decode cX3_look 65 = .ok (.aload_n 1, 1) := by decide +kernel
theorem dX3_look_66 : decode cX3_look 66 = .ok (.invokestatic 75, 3) := by decide +kernel
theorem dX3_look_69 : decode cX3_look 69 = .ok (.ireturn, 1) := by decide +kernel
theorem dX3_look_70 : decode cX3_look 70 = .ok (.aload_n 1, 1) := by decide +kernel
theorem dX3_look_71 : decode cX3_look 71 = .ok (.invokestatic 78, 3) := by decide +kernel
theorem dX3_look_74 : decode cX3_look 74 = .ok (.ireturn, 1) := by decide +kernel
theorem dX3_look_75 : decode cX3_look 75 = .ok (.aload_n 1, 1) := by decide +kernel
theorem dX3_look_76 : decode cX3_look 76 = .ok (.invokestatic 81, 3) := by decide +kernel
theorem dX3_look_79 : decode cX3_look 79 = .ok (.ireturn, 1) := by decide +kernel
theorem dX3_look_80 : decode cX3_look 80 = .ok (.aload_n 1, 1) := by decide +kernel
theorem dX3_look_81 : decode cX3_look 81 = .ok (.invokestatic 84, 3) := by decide +kernel
theorem dX3_look_84 : decode cX3_look 84 = .ok (.ireturn, 1) := by decide +kernel
theorem dX3_look_85 : decode cX3_look 85 = .ok (.aload_n 1, 1) := by decide +kernel
theorem dX3_look_86 : decode cX3_look 86 = .ok (.invokestatic 87, 3) := by decide +kernel
theorem dX3_look_89 : decode cX3_look 89 = .ok (.ireturn, 1) := by decide +kernel
theorem dX3_look_90 : decode cX3_look 90 = .ok (.aload_n 1, 1) := by decide +kernel
theorem dX3_look_91 : decode cX3_look 91 = .ok (.aload_n 1, 1) := by decide +kernel
theorem dX3_look_92 : decode cX3_look 92 = .ok (.invokestatic 87, 3) := by decide +kernel
theorem dX3_look_95 : decode cX3_look 95 = .ok (.invokestatic 90, 3) := by decide +kernel
theorem dX3_look_98 : decode cX3_look 98 = .ok (.ireturn, 1) := by decide +kernel
theorem dX3_look_99 : decode cX3_look 99 = .ok (.aload_n 0, 1) := by decide +kernel
theorem dX3_look_100 : decode cX3_look 100 = .ok (.aload_n 1, 1) := by decide +kernel
theorem dX3_look_101 : decode cX3_look 101 = .ok (.invokevirtual 93, 3) := by decide +kernel
theorem dX3_look_104 : decode cX3_look 104 = .ok (.aload_n 0, 1) := by decide +kernel
theorem dX3_look_105 : decode cX3_look 105 = .ok (.getfield 97, 3) := by decide +kernel
theorem dX3_look_108 : decode cX3_look 108 = .ok (.ireturn, 1) := by decide +kernel
theorem dX3_look_109 : decode cX3_look 109 = .ok (.aload_n 0, 1) := by decide +kernel
theorem dX3_look_110 : decode cX3_look 110 = .ok (.aload_n 1, 1) := by decide +kernel
theorem dX3_look_111 : decode cX3_look 111 = .ok (.invokevirtual 93, 3) := by decide +kernel
theorem dX3_look_114 : decode cX3_look 114 = .ok (.aload_n 0, 1) := by decide +kernel
theorem dX3_look_115 : decode cX3_look 115 = .ok (.getfield 100, 3) := by decide +kernel
theorem dX3_look_118 : decode cX3_look 118 = .ok (.ireturn, 1) := by decide +kernel
theorem dX3_look_119 : decode cX3_look 119 = .ok (.bipush (-2), 2) := by decide +kernel
theorem dX3_look_121 : decode cX3_look 121 = .ok (.ireturn, 1) := by decide +kernel
theorem dX3_manyHouses_0 : decode cX3_manyHouses 0 = .ok (.iconst 0, 1) := by decide +kernel
theorem dX3_manyHouses_1 : decode cX3_manyHouses 1 = .ok (.istore_n 1, 1) := by decide +kernel
theorem dX3_manyHouses_2 : decode cX3_manyHouses 2 = .ok (.iconst 0, 1) := by decide +kernel
theorem dX3_manyHouses_3 : decode cX3_manyHouses 3 = .ok (.istore_n 2, 1) := by decide +kernel
theorem dX3_manyHouses_4 : decode cX3_manyHouses 4 = .ok (.iconst 0, 1) := by decide +kernel
theorem dX3_manyHouses_5 : decode cX3_manyHouses 5 = .ok (.istore_n 3, 1) := by decide +kernel
theorem dX3_manyHouses_6 : decode cX3_manyHouses 6 = .ok (.iload_n 3, 1) := by decide +kernel
theorem dX3_manyHouses_7 : decode cX3_manyHouses 7 = .ok (.aload_n 0, 1) := by decide +kernel
theorem dX3_manyHouses_8 : decode cX3_manyHouses 8 = .ok (.getfield 32, 3) := by decide +kernel
theorem dX3_manyHouses_11 : decode cX3_manyHouses 11 = .ok (.if_icmp .ge 34, 3) := by decide +kernel
theorem dX3_manyHouses_14 : decode cX3_manyHouses 14 = .ok (.iload_n 3, 1) := by decide +kernel
theorem dX3_manyHouses_15 : decode cX3_manyHouses 15 = .ok (.bipush 10, 2) := by decide +kernel
theorem dX3_manyHouses_17 : decode cX3_manyHouses 17 = .ok (.if_icmp .ge 28, 3) := by decide +kernel
theorem dX3_manyHouses_20 : decode cX3_manyHouses 20 = .ok (.iload_n 2, 1) := by decide +kernel
theorem dX3_manyHouses_21 : decode cX3_manyHouses 21 = .ok (.iload_n 3, 1) := by decide +kernel
theorem dX3_manyHouses_22 : decode cX3_manyHouses 22 = .ok (.ishr, 1) := by decide +kernel
theorem dX3_manyHouses_23 : decode cX3_manyHouses 23 = .ok (.iconst 1, 1) := by decide +kernel
theorem dX3_manyHouses_24 : decode cX3_manyHouses 24 = .ok (.iand, 1) := by decide +kernel
theorem dX3_manyHouses_25 : decode cX3_manyHouses 25 = .ok (.ifCond .ne 14, 3) := by decide +kernel
theorem dX3_manyHouses_28 : decode cX3_manyHouses 28 = .ok (.iload_n 2, 1) := by decide +kernel
theorem dX3_manyHouses_29 : decode cX3_manyHouses 29 = .ok (.aload_n 0, 1) := by decide +kernel
theorem dX3_manyHouses_30 : decode cX3_manyHouses 30 = .ok (.iload_n 3, 1) := by decide +kernel
theorem dX3_manyHouses_31 : decode cX3_manyHouses 31 = .ok (.invokestatic 103, 3) := by decide +kernel
theorem dX3_manyHouses_34 : decode cX3_manyHouses 34 = .ok (.ior, 1) := by decide +kernel
theorem dX3_manyHouses_35 : decode cX3_manyHouses 35 = .ok (.istore_n 2, 1) := by decide +kernel
theorem dX3_manyHouses_36 : decode cX3_manyHouses 36 = .ok (.iinc 1 1, 3) := by decide +kernel
theorem dX3_manyHouses_39 : decode cX3_manyHouses 39 = .ok (.iinc 3 1, 3) := by decide +kernel
theorem dX3_manyHouses_42 : decode cX3_manyHouses 42 = .ok (.goto (-36), 3) := by decide +kernel
theorem dX3_manyHouses_45 : decode cX3_manyHouses 45 = .ok (.iload_n 1, 1) := by decide +kernel
theorem dX3_manyHouses_46 : decode cX3_manyHouses 46 = .ok (.ireturn, 1) := by decide +kernel
theorem dX3_largestHouse_0 : decode cX3_largestHouse 0 = .ok (.iconst 0, 1) := by decide +kernel
theorem dX3_largestHouse_1 : decode cX3_largestHouse 1 = .ok (.istore_n 1, 1) := by decide +kernel
theorem dX3_largestHouse_2 : decode cX3_largestHouse 2 = .ok (.iconst 0, 1) := by decide +kernel
theorem dX3_largestHouse_3 : decode cX3_largestHouse 3 = .ok (.istore_n 2, 1) := by decide +kernel
theorem dX3_largestHouse_4 : decode cX3_largestHouse 4 = .ok (.iload_n 2, 1) := by decide +kernel
theorem dX3_largestHouse_5 : decode cX3_largestHouse 5 = .ok (.aload_n 0, 1) := by decide +kernel
theorem dX3_largestHouse_6 : decode cX3_largestHouse 6 = .ok (.getfield 32, 3) := by decide +kernel
theorem dX3_largestHouse_9 : decode cX3_largestHouse 9 = .ok (.if_icmp .ge 28, 3) := by decide +kernel
theorem dX3_largestHouse_12 : decode cX3_largestHouse 12 = .ok (.iload_n 2, 1) := by decide +kernel
theorem dX3_largestHouse_13 : decode cX3_largestHouse 13 = .ok (.bipush 10, 2) := by decide +kernel
theorem dX3_largestHouse_15 : decode cX3_largestHouse 15 = .ok (.if_icmp .ge 22, 3) := by decide +kernel
theorem dX3_largestHouse_18 : decode cX3_largestHouse 18 = .ok (.iload_n 1, 1) := by decide +kernel
theorem dX3_largestHouse_19 : decode cX3_largestHouse 19 = .ok (.aload_n 0, 1) := by decide +kernel
theorem dX3_largestHouse_20 : decode cX3_largestHouse 20 = .ok (.iload_n 2, 1) := by decide +kernel
theorem dX3_largestHouse_21 : decode cX3_largestHouse 21 = .ok (.invokestatic 103, 3) := by decide +kernel
theorem dX3_largestHouse_24 : decode cX3_largestHouse 24 = .ok (.invokestatic 106, 3) := by decide +kernel
theorem dX3_largestHouse_27 : decode cX3_largestHouse 27 = .ok (.invokestatic 62, 3) := by decide +kernel
theorem dX3_largestHouse_30 : decode cX3_largestHouse 30 = .ok (.istore_n 1, 1) := by decide +kernel
theorem dX3_largestHouse_31 : decode cX3_largestHouse 31 = .ok (.iinc 2 1, 3) := by decide +kernel
theorem dX3_largestHouse_34 : decode cX3_largestHouse 34 = .ok (.goto (-30), 3) := by decide +kernel
theorem dX3_largestHouse_37 : decode cX3_largestHouse 37 = .ok (.iload_n 1, 1) := by decide +kernel
theorem dX3_largestHouse_38 : decode cX3_largestHouse 38 = .ok (.ireturn, 1) := by decide +kernel
theorem dX3_roots_0 : decode cX3_roots 0 = .ok (.iconst 0, 1) := by decide +kernel
theorem dX3_roots_1 : decode cX3_roots 1 = .ok (.istore_n 1, 1) := by decide +kernel
theorem dX3_roots_2 : decode cX3_roots 2 = .ok (.iconst 0, 1) := by decide +kernel
theorem dX3_roots_3 : decode cX3_roots 3 = .ok (.istore_n 2, 1) := by decide +kernel
theorem dX3_roots_4 : decode cX3_roots 4 = .ok (.iload_n 2, 1) := by decide +kernel
theorem dX3_roots_5 : decode cX3_roots 5 = .ok (.aload_n 0, 1) := by decide +kernel
theorem dX3_roots_6 : decode cX3_roots 6 = .ok (.getfield 32, 3) := by decide +kernel
theorem dX3_roots_9 : decode cX3_roots 9 = .ok (.if_icmp .ge 30, 3) := by decide +kernel
theorem dX3_roots_12 : decode cX3_roots 12 = .ok (.iload_n 2, 1) := by decide +kernel
theorem dX3_roots_13 : decode cX3_roots 13 = .ok (.bipush 10, 2) := by decide +kernel
theorem dX3_roots_15 : decode cX3_roots 15 = .ok (.if_icmp .ge 24, 3) := by decide +kernel
theorem dX3_roots_18 : decode cX3_roots 18 = .ok (.aload_n 0, 1) := by decide +kernel
theorem dX3_roots_19 : decode cX3_roots 19 = .ok (.getfield 36, 3) := by decide +kernel
theorem dX3_roots_22 : decode cX3_roots 22 = .ok (.iload_n 2, 1) := by decide +kernel
theorem dX3_roots_23 : decode cX3_roots 23 = .ok (.iaload, 1) := by decide +kernel
theorem dX3_roots_24 : decode cX3_roots 24 = .ok (.ifCond .ne 9, 3) := by decide +kernel
theorem dX3_roots_27 : decode cX3_roots 27 = .ok (.iload_n 1, 1) := by decide +kernel
theorem dX3_roots_28 : decode cX3_roots 28 = .ok (.iconst 1, 1) := by decide +kernel
theorem dX3_roots_29 : decode cX3_roots 29 = .ok (.iload_n 2, 1) := by decide +kernel
theorem dX3_roots_30 : decode cX3_roots 30 = .ok (.ishl, 1) := by decide +kernel
theorem dX3_roots_31 : decode cX3_roots 31 = .ok (.ior, 1) := by decide +kernel
theorem dX3_roots_32 : decode cX3_roots 32 = .ok (.istore_n 1, 1) := by decide +kernel
theorem dX3_roots_33 : decode cX3_roots 33 = .ok (.iinc 2 1, 3) := by decide +kernel
theorem dX3_roots_36 : decode cX3_roots 36 = .ok (.goto (-32), 3) := by decide +kernel
theorem dX3_roots_39 : decode cX3_roots 39 = .ok (.iload_n 1, 1) := by decide +kernel
theorem dX3_roots_40 : decode cX3_roots 40 = .ok (.ireturn, 1) := by decide +kernel
theorem dX3_orphans_0 : decode cX3_orphans 0 = .ok (.iconst 0, 1) := by decide +kernel
theorem dX3_orphans_1 : decode cX3_orphans 1 = .ok (.istore_n 1, 1) := by decide +kernel
theorem dX3_orphans_2 : decode cX3_orphans 2 = .ok (.iconst 0, 1) := by decide +kernel
theorem dX3_orphans_3 : decode cX3_orphans 3 = .ok (.istore_n 2, 1) := by decide +kernel
theorem dX3_orphans_4 : decode cX3_orphans 4 = .ok (.iload_n 2, 1) := by decide +kernel
theorem dX3_orphans_5 : decode cX3_orphans 5 = .ok (.aload_n 0, 1) := by decide +kernel
theorem dX3_orphans_6 : decode cX3_orphans 6 = .ok (.getfield 32, 3) := by decide +kernel
theorem dX3_orphans_9 : decode cX3_orphans 9 = .ok (.if_icmp .ge 38, 3) := by decide +kernel
theorem dX3_orphans_12 : decode cX3_orphans 12 = .ok (.iload_n 2, 1) := by decide +kernel
theorem dX3_orphans_13 : decode cX3_orphans 13 = .ok (.bipush 10, 2) := by decide +kernel
theorem dX3_orphans_15 : decode cX3_orphans 15 = .ok (.if_icmp .ge 32, 3) := by decide +kernel
theorem dX3_orphans_18 : decode cX3_orphans 18 = .ok (.aload_n 0, 1) := by decide +kernel
theorem dX3_orphans_19 : decode cX3_orphans 19 = .ok (.iload_n 2, 1) := by decide +kernel
theorem dX3_orphans_20 : decode cX3_orphans 20 = .ok (.invokevirtual 112, 3) := by decide +kernel
theorem dX3_orphans_23 : decode cX3_orphans 23 = .ok (.ifCond .eq 18, 3) := by decide +kernel
theorem dX3_orphans_26 : decode cX3_orphans 26 = .ok (.aload_n 0, 1) := by decide +kernel
theorem dX3_orphans_27 : decode cX3_orphans 27 = .ok (.getfield 115, 3) := by decide +kernel
theorem dX3_orphans_30 : decode cX3_orphans 30 = .ok (.iload_n 2, 1) := by decide +kernel
theorem dX3_orphans_31 : decode cX3_orphans 31 = .ok (.iaload, 1) := by decide +kernel
theorem dX3_orphans_32 : decode cX3_orphans 32 = .ok (.ifCond .ne 9, 3) := by decide +kernel
theorem dX3_orphans_35 : decode cX3_orphans 35 = .ok (.iload_n 1, 1) := by decide +kernel
theorem dX3_orphans_36 : decode cX3_orphans 36 = .ok (.iconst 1, 1) := by decide +kernel
theorem dX3_orphans_37 : decode cX3_orphans 37 = .ok (.iload_n 2, 1) := by decide +kernel
theorem dX3_orphans_38 : decode cX3_orphans 38 = .ok (.ishl, 1) := by decide +kernel
theorem dX3_orphans_39 : decode cX3_orphans 39 = .ok (.ior, 1) := by decide +kernel
theorem dX3_orphans_40 : decode cX3_orphans 40 = .ok (.istore_n 1, 1) := by decide +kernel
theorem dX3_orphans_41 : decode cX3_orphans 41 = .ok (.iinc 2 1, 3) := by decide +kernel
theorem dX3_orphans_44 : decode cX3_orphans 44 = .ok (.goto (-40), 3) := by decide +kernel
theorem dX3_orphans_47 : decode cX3_orphans 47 = .ok (.iload_n 1, 1) := by decide +kernel
theorem dX3_orphans_48 : decode cX3_orphans 48 = .ok (.ireturn, 1) := by decide +kernel
theorem dX3_cousins_0 : decode cX3_cousins 0 = .ok (.iconst 0, 1) := by decide +kernel
theorem dX3_cousins_1 : decode cX3_cousins 1 = .ok (.istore_n 1, 1) := by decide +kernel
theorem dX3_cousins_2 : decode cX3_cousins 2 = .ok (.iconst 0, 1) := by decide +kernel
theorem dX3_cousins_3 : decode cX3_cousins 3 = .ok (.istore_n 2, 1) := by decide +kernel
theorem dX3_cousins_4 : decode cX3_cousins 4 = .ok (.iload_n 2, 1) := by decide +kernel
theorem dX3_cousins_5 : decode cX3_cousins 5 = .ok (.aload_n 0, 1) := by decide +kernel
theorem dX3_cousins_6 : decode cX3_cousins 6 = .ok (.getfield 32, 3) := by decide +kernel
theorem dX3_cousins_9 : decode cX3_cousins 9 = .ok (.if_icmp .ge 75, 3) := by decide +kernel
theorem dX3_cousins_12 : decode cX3_cousins 12 = .ok (.iload_n 2, 1) := by decide +kernel
theorem dX3_cousins_13 : decode cX3_cousins 13 = .ok (.bipush 10, 2) := by decide +kernel
theorem dX3_cousins_15 : decode cX3_cousins 15 = .ok (.if_icmp .ge 69, 3) := by decide +kernel
theorem dX3_cousins_18 : decode cX3_cousins 18 = .ok (.iconst 0, 1) := by decide +kernel
theorem dX3_cousins_19 : decode cX3_cousins 19 = .ok (.istore_n 3, 1) := by decide +kernel
theorem dX3_cousins_20 : decode cX3_cousins 20 = .ok (.iload_n 3, 1) := by decide +kernel
theorem dX3_cousins_21 : decode cX3_cousins 21 = .ok (.iload_n 2, 1) := by decide +kernel
theorem dX3_cousins_22 : decode cX3_cousins 22 = .ok (.if_icmp .ge 56, 3) := by decide +kernel
theorem dX3_cousins_25 : decode cX3_cousins 25 = .ok (.aload_n 0, 1) := by decide +kernel
theorem dX3_cousins_26 : decode cX3_cousins 26 = .ok (.getfield 36, 3) := by decide +kernel
theorem dX3_cousins_29 : decode cX3_cousins 29 = .ok (.iload_n 2, 1) := by decide +kernel
theorem dX3_cousins_30 : decode cX3_cousins 30 = .ok (.iaload, 1) := by decide +kernel
theorem dX3_cousins_31 : decode cX3_cousins 31 = .ok (.aload_n 0, 1) := by decide +kernel
theorem dX3_cousins_32 : decode cX3_cousins 32 = .ok (.getfield 36, 3) := by decide +kernel
theorem dX3_cousins_35 : decode cX3_cousins 35 = .ok (.iload_n 3, 1) := by decide +kernel
theorem dX3_cousins_36 : decode cX3_cousins 36 = .ok (.iaload, 1) := by decide +kernel
theorem dX3_cousins_37 : decode cX3_cousins 37 = .ok (.iand, 1) := by decide +kernel
theorem dX3_cousins_38 : decode cX3_cousins 38 = .ok (.ifCond .ne 7, 3) := by decide +kernel
theorem dX3_cousins_41 : decode cX3_cousins 41 = .ok (.iconst 1, 1) := by decide +kernel
theorem dX3_cousins_42 : decode cX3_cousins 42 = .ok (.goto 4, 3) := by decide +kernel
theorem dX3_cousins_45 : decode cX3_cousins 45 = .ok (.iconst 0, 1) := by decide +kernel
theorem dX3_cousins_46 : decode cX3_cousins 46 = .ok (.istore 4, 2) := by decide +kernel
theorem dX3_cousins_48 : decode cX3_cousins 48 = .ok (.iload 4, 2) := by decide +kernel
theorem dX3_cousins_50 : decode cX3_cousins 50 = .ok (.ifCond .eq 22, 3) := by decide +kernel
theorem dX3_cousins_53 : decode cX3_cousins 53 = .ok (.aload_n 0, 1) := by decide +kernel
theorem dX3_cousins_54 : decode cX3_cousins 54 = .ok (.getfield 115, 3) := by decide +kernel
theorem dX3_cousins_57 : decode cX3_cousins 57 = .ok (.iload_n 2, 1) := by decide +kernel
theorem dX3_cousins_58 : decode cX3_cousins 58 = .ok (.iaload, 1) := by decide +kernel
theorem dX3_cousins_59 : decode cX3_cousins 59 = .ok (.aload_n 0, 1) := by decide +kernel
theorem dX3_cousins_60 : decode cX3_cousins 60 = .ok (.getfield 115, 3) := by decide +kernel
theorem dX3_cousins_63 : decode cX3_cousins 63 = .ok (.iload_n 3, 1) := by decide +kernel
theorem dX3_cousins_64 : decode cX3_cousins 64 = .ok (.iaload, 1) := by decide +kernel
theorem dX3_cousins_65 : decode cX3_cousins 65 = .ok (.iand, 1) := by decide +kernel
theorem dX3_cousins_66 : decode cX3_cousins 66 = .ok (.ifCond .eq 6, 3) := by decide +kernel
theorem dX3_cousins_69 : decode cX3_cousins 69 = .ok (.iinc 1 1, 3) := by decide +kernel
theorem dX3_cousins_72 : decode cX3_cousins 72 = .ok (.iinc 3 1, 3) := by decide +kernel
theorem dX3_cousins_75 : decode cX3_cousins 75 = .ok (.goto (-55), 3) := by decide +kernel
theorem dX3_cousins_78 : decode cX3_cousins 78 = .ok (.iinc 2 1, 3) := by decide +kernel
theorem dX3_cousins_81 : decode cX3_cousins 81 = .ok (.goto (-77), 3) := by decide +kernel
theorem dX3_cousins_84 : decode cX3_cousins 84 = .ok (.iload_n 1, 1) := by decide +kernel
theorem dX3_cousins_85 : decode cX3_cousins 85 = .ok (.ireturn, 1) := by decide +kernel
theorem dX3_childrenBinding_0 : decode cX3_childrenBinding 0 = .ok (.iconst 0, 1) := by decide +kernel
theorem dX3_childrenBinding_1 : decode cX3_childrenBinding 1 = .ok (.istore_n 2, 1) := by decide +kernel
theorem dX3_childrenBinding_2 : decode cX3_childrenBinding 2 = .ok (.iconst 0, 1) := by decide +kernel
theorem dX3_childrenBinding_3 : decode cX3_childrenBinding 3 = .ok (.istore_n 3, 1) := by decide +kernel
theorem dX3_childrenBinding_4 : decode cX3_childrenBinding 4 = .ok (.iload_n 3, 1) := by decide +kernel
theorem dX3_childrenBinding_5 : decode cX3_childrenBinding 5 = .ok (.aload_n 0, 1) := by decide +kernel
theorem dX3_childrenBinding_6 : decode cX3_childrenBinding 6 = .ok (.getfield 32, 3) := by decide +kernel
theorem dX3_childrenBinding_9 : decode cX3_childrenBinding 9 = .ok (.if_icmp .ge 35, 3) := by decide +kernel
theorem dX3_childrenBinding_12 : decode cX3_childrenBinding 12 = .ok (.iload_n 3, 1) := by decide +kernel
theorem dX3_childrenBinding_13 : decode cX3_childrenBinding 13 = .ok (.bipush 10, 2) := by decide +kernel
theorem dX3_childrenBinding_15 : decode cX3_childrenBinding 15 = .ok (.if_icmp .ge 29, 3) := by decide +kernel
theorem dX3_childrenBinding_18 : decode cX3_childrenBinding 18 = .ok (.aload_n 0, 1) := by decide +kernel
theorem dX3_childrenBinding_19 : decode cX3_childrenBinding 19 = .ok (.iload_n 3, 1) := by decide +kernel
theorem dX3_childrenBinding_20 : decode cX3_childrenBinding 20 = .ok (.invokevirtual 112, 3) := by decide +kernel
theorem dX3_childrenBinding_23 : decode cX3_childrenBinding 23 = .ok (.ifCond .eq 15, 3) := by decide +kernel
theorem dX3_childrenBinding_26 : decode cX3_childrenBinding 26 = .ok (.aload_n 0, 1) := by decide +kernel
theorem dX3_childrenBinding_27 : decode cX3_childrenBinding 27 = .ok (.iload_n 1, 1) := by decide +kernel
theorem dX3_childrenBinding_28 : decode cX3_childrenBinding 28 = .ok (.iload_n 3, 1) := by decide +kernel
theorem dX3_childrenBinding_29 : decode cX3_childrenBinding 29 = .ok (.invokevirtual 118, 3) := by decide +kernel
theorem dX3_childrenBinding_32 : decode cX3_childrenBinding 32 = .ok (.ifCond .eq 6, 3) := by decide +kernel
theorem dX3_childrenBinding_35 : decode cX3_childrenBinding 35 = .ok (.iinc 2 1, 3) := by decide +kernel
theorem dX3_childrenBinding_38 : decode cX3_childrenBinding 38 = .ok (.iinc 3 1, 3) := by decide +kernel
theorem dX3_childrenBinding_41 : decode cX3_childrenBinding 41 = .ok (.goto (-37), 3) := by decide +kernel
theorem dX3_childrenBinding_44 : decode cX3_childrenBinding 44 = .ok (.iload_n 2, 1) := by decide +kernel
theorem dX3_childrenBinding_45 : decode cX3_childrenBinding 45 = .ok (.ireturn, 1) := by decide +kernel
theorem dX3_mostBurdened_0 : decode cX3_mostBurdened 0 = .ok (.iconst (-1), 1) := by decide +kernel
theorem dX3_mostBurdened_1 : decode cX3_mostBurdened 1 = .ok (.istore_n 1, 1) := by decide +kernel
theorem dX3_mostBurdened_2 : decode cX3_mostBurdened 2 = .ok (.iconst 0, 1) := by decide +kernel
theorem dX3_mostBurdened_3 : decode cX3_mostBurdened 3 = .ok (.istore_n 2, 1) := by decide +kernel
theorem dX3_mostBurdened_4 : decode cX3_mostBurdened 4 = .ok (.iconst 0, 1) := by decide +kernel
theorem dX3_mostBurdened_5 : decode cX3_mostBurdened 5 = .ok (.istore_n 3, 1) := by decide +kernel
theorem dX3_mostBurdened_6 : decode cX3_mostBurdened 6 = .ok (.iload_n 3, 1) := by decide +kernel
theorem dX3_mostBurdened_7 : decode cX3_mostBurdened 7 = .ok (.aload_n 0, 1) := by decide +kernel
theorem dX3_mostBurdened_8 : decode cX3_mostBurdened 8 = .ok (.getfield 32, 3) := by decide +kernel
theorem dX3_mostBurdened_11 : decode cX3_mostBurdened 11 = .ok (.if_icmp .ge 33, 3) := by decide +kernel
theorem dX3_mostBurdened_14 : decode cX3_mostBurdened 14 = .ok (.iload_n 3, 1) := by decide +kernel
theorem dX3_mostBurdened_15 : decode cX3_mostBurdened 15 = .ok (.bipush 10, 2) := by decide +kernel
theorem dX3_mostBurdened_17 : decode cX3_mostBurdened 17 = .ok (.if_icmp .ge 27, 3) := by decide +kernel
theorem dX3_mostBurdened_20 : decode cX3_mostBurdened 20 = .ok (.aload_n 0, 1) := by decide +kernel
theorem dX3_mostBurdened_21 : decode cX3_mostBurdened 21 = .ok (.iload_n 3, 1) := by decide +kernel
theorem dX3_mostBurdened_22 : decode cX3_mostBurdened 22 = .ok (.invokestatic 90, 3) := by decide +kernel
theorem dX3_mostBurdened_25 : decode cX3_mostBurdened 25 = .ok (.istore 4, 2) := by decide +kernel
theorem dX3_mostBurdened_27 : decode cX3_mostBurdened 27 = .ok (.iload 4, 2) := by decide +kernel
theorem dX3_mostBurdened_29 : decode cX3_mostBurdened 29 = .ok (.iload_n 2, 1) := by decide +kernel
theorem dX3_mostBurdened_30 : decode cX3_mostBurdened 30 = .ok (.if_icmp .le 8, 3) := by decide +kernel
theorem dX3_mostBurdened_33 : decode cX3_mostBurdened 33 = .ok (.iload 4, 2) := by decide +kernel
theorem dX3_mostBurdened_35 : decode cX3_mostBurdened 35 = .ok (.istore_n 2, 1) := by decide +kernel
theorem dX3_mostBurdened_36 : decode cX3_mostBurdened 36 = .ok (.iload_n 3, 1) := by decide +kernel
theorem dX3_mostBurdened_37 : decode cX3_mostBurdened 37 = .ok (.istore_n 1, 1) := by decide +kernel
theorem dX3_mostBurdened_38 : decode cX3_mostBurdened 38 = .ok (.iinc 3 1, 3) := by decide +kernel
theorem dX3_mostBurdened_41 : decode cX3_mostBurdened 41 = .ok (.goto (-35), 3) := by decide +kernel
theorem dX3_mostBurdened_44 : decode cX3_mostBurdened 44 = .ok (.iload_n 1, 1) := by decide +kernel
theorem dX3_mostBurdened_45 : decode cX3_mostBurdened 45 = .ok (.ireturn, 1) := by decide +kernel
theorem dX3_findWatch_0 : decode cX3_findWatch 0 = .ok (.iconst 0, 1) := by decide +kernel
theorem dX3_findWatch_1 : decode cX3_findWatch 1 = .ok (.istore_n 2, 1) := by decide +kernel
theorem dX3_findWatch_2 : decode cX3_findWatch 2 = .ok (.iconst 0, 1) := by decide +kernel
theorem dX3_findWatch_3 : decode cX3_findWatch 3 = .ok (.istore_n 3, 1) := by decide +kernel
theorem dX3_findWatch_4 : decode cX3_findWatch 4 = .ok (.iconst 0, 1) := by decide +kernel
theorem dX3_findWatch_5 : decode cX3_findWatch 5 = .ok (.istore 4, 2) := by decide +kernel
theorem dX3_findWatch_7 : decode cX3_findWatch 7 = .ok (.iload 4, 2) := by decide +kernel
theorem dX3_findWatch_9 : decode cX3_findWatch 9 = .ok (.aload_n 1, 1) := by decide +kernel
theorem dX3_findWatch_10 : decode cX3_findWatch 10 = .ok (.getfield 32, 3) := by decide +kernel
theorem dX3_findWatch_13 : decode cX3_findWatch 13 = .ok (.if_icmp .ge 42, 3) := by decide +kernel
theorem dX3_findWatch_16 : decode cX3_findWatch 16 = .ok (.iload 4, 2) := by decide +kernel
theorem dX3_findWatch_18 : decode cX3_findWatch 18 = .ok (.bipush 10, 2) := by decide +kernel
theorem dX3_findWatch_20 : decode cX3_findWatch 20 = .ok (.if_icmp .ge 35, 3) := by decide +kernel
theorem dX3_findWatch_23 : decode cX3_findWatch 23 = .ok (.aload_n 1, 1) := by decide +kernel
theorem dX3_findWatch_24 : decode cX3_findWatch 24 = .ok (.iload 4, 2) := by decide +kernel
theorem dX3_findWatch_26 : decode cX3_findWatch 26 = .ok (.invokevirtual 112, 3) := by decide +kernel
theorem dX3_findWatch_29 : decode cX3_findWatch 29 = .ok (.ifCond .eq 20, 3) := by decide +kernel
theorem dX3_findWatch_32 : decode cX3_findWatch 32 = .ok (.iload_n 2, 1) := by decide +kernel
theorem dX3_findWatch_33 : decode cX3_findWatch 33 = .ok (.iconst 1, 1) := by decide +kernel
theorem dX3_findWatch_34 : decode cX3_findWatch 34 = .ok (.iload 4, 2) := by decide +kernel
theorem dX3_findWatch_36 : decode cX3_findWatch 36 = .ok (.ishl, 1) := by decide +kernel
theorem dX3_findWatch_37 : decode cX3_findWatch 37 = .ok (.ior, 1) := by decide +kernel
theorem dX3_findWatch_38 : decode cX3_findWatch 38 = .ok (.istore_n 2, 1) := by decide +kernel
theorem dX3_findWatch_39 : decode cX3_findWatch 39 = .ok (.iload_n 3, 1) := by decide +kernel
theorem dX3_findWatch_40 : decode cX3_findWatch 40 = .ok (.aload_n 1, 1) := by decide +kernel
theorem dX3_findWatch_41 : decode cX3_findWatch 41 = .ok (.getfield 115, 3) := by decide +kernel
theorem dX3_findWatch_44 : decode cX3_findWatch 44 = .ok (.iload 4, 2) := by decide +kernel
theorem dX3_findWatch_46 : decode cX3_findWatch 46 = .ok (.iaload, 1) := by decide +kernel
theorem dX3_findWatch_47 : decode cX3_findWatch 47 = .ok (.ior, 1) := by decide +kernel
theorem dX3_findWatch_48 : decode cX3_findWatch 48 = .ok (.istore_n 3, 1) := by decide +kernel
theorem dX3_findWatch_49 : decode cX3_findWatch 49 = .ok (.iinc 4 1, 3) := by decide +kernel
theorem dX3_findWatch_52 : decode cX3_findWatch 52 = .ok (.goto (-45), 3) := by decide +kernel
theorem dX3_findWatch_55 : decode cX3_findWatch 55 = .ok (.aload_n 0, 1) := by decide +kernel
theorem dX3_findWatch_56 : decode cX3_findWatch 56 = .ok (.getfield 23, 3) := by decide +kernel
theorem dX3_findWatch_59 : decode cX3_findWatch 59 = .ok (.iconst 0, 1) := by decide +kernel
theorem dX3_findWatch_60 : decode cX3_findWatch 60 = .ok (.iconst 0, 1) := by decide +kernel
theorem dX3_findWatch_61 : decode cX3_findWatch 61 = .ok (.iastore, 1) := by decide +kernel
theorem dX3_findWatch_62 : decode cX3_findWatch 62 = .ok (.iconst 0, 1) := by decide +kernel
theorem dX3_findWatch_63 : decode cX3_findWatch 63 = .ok (.istore 4, 2) := by decide +kernel
theorem dX3_findWatch_65 : decode cX3_findWatch 65 = .ok (.iload 4, 2) := by decide +kernel
theorem dX3_findWatch_67 : decode cX3_findWatch 67 = .ok (.bipush 10, 2) := by decide +kernel
theorem dX3_findWatch_69 : decode cX3_findWatch 69 = .ok (.if_icmp .ge 54, 3) := by decide +kernel
theorem dX3_findWatch_72 : decode cX3_findWatch 72 = .ok (.iconst 0, 1) := by decide +kernel
theorem dX3_findWatch_73 : decode cX3_findWatch 73 = .ok (.istore 5, 2) := by decide +kernel
theorem dX3_findWatch_75 : decode cX3_findWatch 75 = .ok (.iload 5, 2) := by decide +kernel
theorem dX3_findWatch_77 : decode cX3_findWatch 77 = .ok (.iconst 1, 1) := by decide +kernel
theorem dX3_findWatch_78 : decode cX3_findWatch 78 = .ok (.iload 4, 2) := by decide +kernel
theorem dX3_findWatch_80 : decode cX3_findWatch 80 = .ok (.ishl, 1) := by decide +kernel
theorem dX3_findWatch_81 : decode cX3_findWatch 81 = .ok (.if_icmp .ge 36, 3) := by decide +kernel
theorem dX3_findWatch_84 : decode cX3_findWatch 84 = .ok (.aload_n 0, 1) := by decide +kernel
theorem dX3_findWatch_85 : decode cX3_findWatch 85 = .ok (.getfield 23, 3) := by decide +kernel
theorem dX3_findWatch_88 : decode cX3_findWatch 88 = .ok (.iload 5, 2) := by decide +kernel
theorem dX3_findWatch_90 : decode cX3_findWatch 90 = .ok (.iconst 1, 1) := by decide +kernel
theorem dX3_findWatch_91 : decode cX3_findWatch 91 = .ok (.iload 4, 2) := by decide +kernel
theorem dX3_findWatch_93 : decode cX3_findWatch 93 = .ok (.ishl, 1) := by decide +kernel
theorem dX3_findWatch_94 : decode cX3_findWatch 94 = .ok (.ior, 1) := by decide +kernel
theorem dX3_findWatch_95 : decode cX3_findWatch 95 = .ok (.aload_n 0, 1) := by decide +kernel
theorem dX3_findWatch_96 : decode cX3_findWatch 96 = .ok (.getfield 23, 3) := by decide +kernel
theorem dX3_findWatch_99 : decode cX3_findWatch 99 = .ok (.iload 5, 2) := by decide +kernel
theorem dX3_findWatch_101 : decode cX3_findWatch 101 = .ok (.iaload, 1) := by decide +kernel
theorem dX3_findWatch_102 : decode cX3_findWatch 102 = .ok (.aload_n 1, 1) := by decide +kernel
theorem dX3_findWatch_103 : decode cX3_findWatch 103 = .ok (.getfield 115, 3) := by decide +kernel
theorem dX3_findWatch_106 : decode cX3_findWatch 106 = .ok (.iload 4, 2) := by decide +kernel
theorem dX3_findWatch_108 : decode cX3_findWatch 108 = .ok (.iaload, 1) := by decide +kernel
theorem dX3_findWatch_109 : decode cX3_findWatch 109 = .ok (.ior, 1) := by decide +kernel
theorem dX3_findWatch_110 : decode cX3_findWatch 110 = .ok (.iastore, 1) := by decide +kernel
theorem dX3_findWatch_111 : decode cX3_findWatch 111 = .ok (.iinc 5 1, 3) := by decide +kernel
theorem dX3_findWatch_114 : decode cX3_findWatch 114 = .ok (.goto (-39), 3) := by decide +kernel
theorem dX3_findWatch_117 : decode cX3_findWatch 117 = .ok (.iinc 4 1, 3) := by decide +kernel
theorem dX3_findWatch_120 : decode cX3_findWatch 120 = .ok (.goto (-55), 3) := by decide +kernel
theorem dX3_findWatch_123 : decode cX3_findWatch 123 = .ok (.aload_n 0, 1) := by decide +kernel
theorem dX3_findWatch_124 : decode cX3_findWatch 124 = .ok (.bipush 11, 2) := by decide +kernel
theorem dX3_findWatch_126 : decode cX3_findWatch 126 = .ok (.putfield 97, 3) := by decide +kernel
theorem dX3_findWatch_129 : decode cX3_findWatch 129 = .ok (.iconst 0, 1) := by decide +kernel
theorem dX3_findWatch_130 : decode cX3_findWatch 130 = .ok (.istore 4, 2) := by decide +kernel
theorem dX3_findWatch_132 : decode cX3_findWatch 132 = .ok (.iload 4, 2) := by decide +kernel
theorem dX3_findWatch_134 : decode cX3_findWatch 134 = .ok (.sipush 1024, 3) := by decide +kernel
theorem dX3_findWatch_137 : decode cX3_findWatch 137 = .ok (.if_icmp .ge 69, 3) := by decide +kernel
theorem dX3_findWatch_140 : decode cX3_findWatch 140 = .ok (.iload 4, 2) := by decide +kernel
theorem dX3_findWatch_142 : decode cX3_findWatch 142 = .ok (.invokestatic 106, 3) := by decide +kernel
theorem dX3_findWatch_145 : decode cX3_findWatch 145 = .ok (.istore 5, 2) := by decide +kernel
theorem dX3_findWatch_147 : decode cX3_findWatch 147 = .ok (.iload 4, 2) := by decide +kernel
theorem dX3_findWatch_149 : decode cX3_findWatch 149 = .ok (.iload_n 2, 1) := by decide +kernel
theorem dX3_findWatch_150 : decode cX3_findWatch 150 = .ok (.iconst (-1), 1) := by decide +kernel
theorem dX3_findWatch_151 : decode cX3_findWatch 151 = .ok (.ixor, 1) := by decide +kernel
theorem dX3_findWatch_152 : decode cX3_findWatch 152 = .ok (.iand, 1) := by decide +kernel
theorem dX3_findWatch_153 : decode cX3_findWatch 153 = .ok (.ifCond .ne 18, 3) := by decide +kernel
theorem dX3_findWatch_156 : decode cX3_findWatch 156 = .ok (.aload_n 0, 1) := by decide +kernel
theorem dX3_findWatch_157 : decode cX3_findWatch 157 = .ok (.getfield 23, 3) := by decide +kernel
theorem dX3_findWatch_160 : decode cX3_findWatch 160 = .ok (.iload 4, 2) := by decide +kernel
theorem dX3_findWatch_162 : decode cX3_findWatch 162 = .ok (.iaload, 1) := by decide +kernel
theorem dX3_findWatch_163 : decode cX3_findWatch 163 = .ok (.iload_n 3, 1) := by decide +kernel
theorem dX3_findWatch_164 : decode cX3_findWatch 164 = .ok (.if_icmp .ne 7, 3) := by decide +kernel
theorem dX3_findWatch_167 : decode cX3_findWatch 167 = .ok (.iconst 1, 1) := by decide +kernel
theorem dX3_findWatch_168 : decode cX3_findWatch 168 = .ok (.goto 4, 3) := by decide +kernel
theorem dX3_findWatch_171 : decode cX3_findWatch 171 = .ok (.iconst 0, 1) := by decide +kernel
theorem dX3_findWatch_172 : decode cX3_findWatch 172 = .ok (.istore 6, 2) := by decide +kernel
theorem dX3_findWatch_174 : decode cX3_findWatch 174 = .ok (.iload 6, 2) := by decide +kernel
theorem dX3_findWatch_176 : decode cX3_findWatch 176 = .ok (.ifCond .eq 24, 3) := by decide +kernel
theorem dX3_findWatch_179 : decode cX3_findWatch 179 = .ok (.iload 5, 2) := by decide +kernel
theorem dX3_findWatch_181 : decode cX3_findWatch 181 = .ok (.aload_n 0, 1) := by decide +kernel
theorem dX3_findWatch_182 : decode cX3_findWatch 182 = .ok (.getfield 97, 3) := by decide +kernel
theorem dX3_findWatch_185 : decode cX3_findWatch 185 = .ok (.if_icmp .ge 15, 3) := by decide +kernel
theorem dX3_findWatch_188 : decode cX3_findWatch 188 = .ok (.aload_n 0, 1) := by decide +kernel
theorem dX3_findWatch_189 : decode cX3_findWatch 189 = .ok (.iload 5, 2) := by decide +kernel
theorem dX3_findWatch_191 : decode cX3_findWatch 191 = .ok (.putfield 97, 3) := by decide +kernel
theorem dX3_findWatch_194 : decode cX3_findWatch 194 = .ok (.aload_n 0, 1) := by decide +kernel
theorem dX3_findWatch_195 : decode cX3_findWatch 195 = .ok (.iload 4, 2) := by decide +kernel
theorem dX3_findWatch_197 : decode cX3_findWatch 197 = .ok (.putfield 100, 3) := by decide +kernel
theorem dX3_findWatch_200 : decode cX3_findWatch 200 = .ok (.iinc 4 1, 3) := by decide +kernel
theorem dX3_findWatch_203 : decode cX3_findWatch 203 = .ok (.goto (-71), 3) := by decide +kernel
theorem dX3_findWatch_206 : decode cX3_findWatch 206 = .ok (.return_, 1) := by decide +kernel
theorem dX4_init_0 : decode cX4_init 0 = .ok (.aload_n 0, 1) := by decide +kernel
theorem dX4_init_1 : decode cX4_init 1 = .ok (.invokespecial 3, 3) := by decide +kernel
theorem dX4_init_4 : decode cX4_init 4 = .ok (.aload_n 0, 1) := by decide +kernel
theorem dX4_init_5 : decode cX4_init 5 = .ok (.bipush 40, 2) := by decide +kernel
theorem dX4_init_7 : decode cX4_init 7 = .ok (.newarray .int, 2) := by decide +kernel
theorem dX4_init_9 : decode cX4_init 9 = .ok (.putfield 9, 3) := by decide +kernel
theorem dX4_init_12 : decode cX4_init 12 = .ok (.aload_n 0, 1) := by decide +kernel
theorem dX4_init_13 : decode cX4_init 13 = .ok (.bipush 40, 2) := by decide +kernel
theorem dX4_init_15 : decode cX4_init 15 = .ok (.newarray .int, 2) := by decide +kernel
theorem dX4_init_17 : decode cX4_init 17 = .ok (.putfield 15, 3) := by decide +kernel
theorem dX4_init_20 : decode cX4_init 20 = .ok (.aload_n 0, 1) := by decide +kernel
theorem dX4_init_21 : decode cX4_init 21 = .ok (.bipush 40, 2) := by decide +kernel
theorem dX4_init_23 : decode cX4_init 23 = .ok (.newarray .int, 2) := by decide +kernel
theorem dX4_init_25 : decode cX4_init 25 = .ok (.putfield 18, 3) := by decide +kernel
theorem dX4_init_28 : decode cX4_init 28 = .ok (.aload_n 0, 1) := by decide +kernel
theorem dX4_init_29 : decode cX4_init 29 = .ok (.bipush 40, 2) := by decide +kernel
theorem dX4_init_31 : decode cX4_init 31 = .ok (.newarray .int, 2) := by decide +kernel
theorem dX4_init_33 : decode cX4_init 33 = .ok (.putfield 21, 3) := by decide +kernel
theorem dX4_init_36 : decode cX4_init 36 = .ok (.aload_n 0, 1) := by decide +kernel
theorem dX4_init_37 : decode cX4_init 37 = .ok (.iconst 0, 1) := by decide +kernel
theorem dX4_init_38 : decode cX4_init 38 = .ok (.putfield 24, 3) := by decide +kernel
theorem dX4_init_41 : decode cX4_init 41 = .ok (.return_, 1) := by decide +kernel
theorem dX4_copyFrom_0 : decode cX4_copyFrom 0 = .ok (.aload_n 1, 1) := by decide +kernel
theorem dX4_copyFrom_1 : decode cX4_copyFrom 1 = .ok (.ifnonnull 4, 3) := by decide +kernel
theorem dX4_copyFrom_4 : decode cX4_copyFrom 4 = .ok (.return_, 1) := by decide +kernel
theorem dX4_copyFrom_5 : decode cX4_copyFrom 5 = .ok (.aload_n 0, 1) := by decide +kernel
theorem dX4_copyFrom_6 : decode cX4_copyFrom 6 = .ok (.aload_n 1, 1) := by decide +kernel
theorem dX4_copyFrom_7 : decode cX4_copyFrom 7 = .ok (.getfield 24, 3) := by decide +kernel
theorem dX4_copyFrom_10 : decode cX4_copyFrom 10 = .ok (.putfield 24, 3) := by decide +kernel
theorem dX4_copyFrom_13 : decode cX4_copyFrom 13 = .ok (.aload_n 1, 1) := by decide +kernel
theorem dX4_copyFrom_14 : decode cX4_copyFrom 14 = .ok (.getfield 9, 3) := by decide +kernel
theorem dX4_copyFrom_17 : decode cX4_copyFrom 17 = .ok (.iconst 0, 1) := by decide +kernel
theorem dX4_copyFrom_18 : decode cX4_copyFrom 18 = .ok (.aload_n 0, 1) := by decide +kernel
theorem dX4_copyFrom_19 : decode cX4_copyFrom 19 = .ok (.getfield 9, 3) := by decide +kernel
theorem dX4_copyFrom_22 : decode cX4_copyFrom 22 = .ok (.iconst 0, 1) := by decide +kernel
theorem dX4_copyFrom_23 : decode cX4_copyFrom 23 = .ok (.bipush 40, 2) := by decide +kernel
theorem dX4_copyFrom_25 : decode cX4_copyFrom 25 = .ok (.invokestatic 28, 3) := by decide +kernel
theorem dX4_copyFrom_28 : decode cX4_copyFrom 28 = .ok (.aload_n 1, 1) := by decide +kernel
theorem dX4_copyFrom_29 : decode cX4_copyFrom 29 = .ok (.getfield 15, 3) := by decide +kernel
theorem dX4_copyFrom_32 : decode cX4_copyFrom 32 = .ok (.iconst 0, 1) := by decide +kernel
theorem dX4_copyFrom_33 : decode cX4_copyFrom 33 = .ok (.aload_n 0, 1) := by decide +kernel
theorem dX4_copyFrom_34 : decode cX4_copyFrom 34 = .ok (.getfield 15, 3) := by decide +kernel
theorem dX4_copyFrom_37 : decode cX4_copyFrom 37 = .ok (.iconst 0, 1) := by decide +kernel
theorem dX4_copyFrom_38 : decode cX4_copyFrom 38 = .ok (.bipush 40, 2) := by decide +kernel
theorem dX4_copyFrom_40 : decode cX4_copyFrom 40 = .ok (.invokestatic 28, 3) := by decide +kernel
theorem dX4_copyFrom_43 : decode cX4_copyFrom 43 = .ok (.aload_n 1, 1) := by decide +kernel
theorem dX4_copyFrom_44 : decode cX4_copyFrom 44 = .ok (.getfield 18, 3) := by decide +kernel
theorem dX4_copyFrom_47 : decode cX4_copyFrom 47 = .ok (.iconst 0, 1) := by decide +kernel
theorem dX4_copyFrom_48 : decode cX4_copyFrom 48 = .ok (.aload_n 0, 1) := by decide +kernel
theorem dX4_copyFrom_49 : decode cX4_copyFrom 49 = .ok (.getfield 18, 3) := by decide +kernel
theorem dX4_copyFrom_52 : decode cX4_copyFrom 52 = .ok (.iconst 0, 1) := by decide +kernel
theorem dX4_copyFrom_53 : decode cX4_copyFrom 53 = .ok (.bipush 40, 2) := by decide +kernel
theorem dX4_copyFrom_55 : decode cX4_copyFrom 55 = .ok (.invokestatic 28, 3) := by decide +kernel
theorem dX4_copyFrom_58 : decode cX4_copyFrom 58 = .ok (.aload_n 1, 1) := by decide +kernel
theorem dX4_copyFrom_59 : decode cX4_copyFrom 59 = .ok (.getfield 21, 3) := by decide +kernel
theorem dX4_copyFrom_62 : decode cX4_copyFrom 62 = .ok (.iconst 0, 1) := by decide +kernel
theorem dX4_copyFrom_63 : decode cX4_copyFrom 63 = .ok (.aload_n 0, 1) := by decide +kernel
theorem dX4_copyFrom_64 : decode cX4_copyFrom 64 = .ok (.getfield 21, 3) := by decide +kernel
theorem dX4_copyFrom_67 : decode cX4_copyFrom 67 = .ok (.iconst 0, 1) := by decide +kernel
theorem dX4_copyFrom_68 : decode cX4_copyFrom 68 = .ok (.bipush 40, 2) := by decide +kernel
theorem dX4_copyFrom_70 : decode cX4_copyFrom 70 = .ok (.invokestatic 28, 3) := by decide +kernel
theorem dX4_copyFrom_73 : decode cX4_copyFrom 73 = .ok (.return_, 1) := by decide +kernel
theorem dX4_hasDeed_0 : decode cX4_hasDeed 0 = .ok (.iload_n 1, 1) := by decide +kernel
theorem dX4_hasDeed_1 : decode cX4_hasDeed 1 = .ok (.ifCond .lt 21, 3) := by decide +kernel
theorem dX4_hasDeed_4 : decode cX4_hasDeed 4 = .ok (.iload_n 1, 1) := by decide +kernel
theorem dX4_hasDeed_5 : decode cX4_hasDeed 5 = .ok (.aload_n 0, 1) := by decide +kernel
theorem dX4_hasDeed_6 : decode cX4_hasDeed 6 = .ok (.getfield 24, 3) := by decide +kernel
theorem dX4_hasDeed_9 : decode cX4_hasDeed 9 = .ok (.if_icmp .ge 13, 3) := by decide +kernel
theorem dX4_hasDeed_12 : decode cX4_hasDeed 12 = .ok (.iload_n 1, 1) := by decide +kernel
theorem dX4_hasDeed_13 : decode cX4_hasDeed 13 = .ok (.bipush 40, 2) := by decide +kernel
theorem dX4_hasDeed_15 : decode cX4_hasDeed 15 = .ok (.if_icmp .ge 7, 3) := by decide +kernel
theorem dX4_hasDeed_18 : decode cX4_hasDeed 18 = .ok (.iconst 1, 1) := by decide +kernel
theorem dX4_hasDeed_19 : decode cX4_hasDeed 19 = .ok (.goto 4, 3) := by decide +kernel
theorem dX4_hasDeed_22 : decode cX4_hasDeed 22 = .ok (.iconst 0, 1) := by decide +kernel
theorem dX4_hasDeed_23 : decode cX4_hasDeed 23 = .ok (.ireturn, 1) := by decide +kernel
theorem dX4_look_0 : decode cX4_look 0 = .ok (.iload_n 1, 1) := by decide +kernel
theorem dX4_look_1 : decode cX4_look 1 = .ok (.iconst (-1), 1) := by decide +kernel
theorem dX4_look_2 : decode cX4_look 2 = .ok (.if_icmp .ne 12, 3) := by decide +kernel
theorem dX4_look_5 : decode cX4_look 5 = .ok (.iload_n 2, 1) := by decide +kernel
theorem dX4_look_6 : decode cX4_look 6 = .ok (.ifCond .ne 8, 3) := by decide +kernel
theorem dX4_look_9 : decode cX4_look 9 = .ok (.aload_n 0, 1) := by decide +kernel
theorem dX4_look_10 : decode cX4_look 10 = .ok (.getfield 24, 3) := by decide +kernel
theorem dX4_look_13 : decode cX4_look 13 = .ok (.ireturn, 1) := by decide +kernel
theorem dX4_look_14 : decode cX4_look 14 = .ok (.aload_n 0, 1) := by decide +kernel
theorem dX4_look_15 : decode cX4_look 15 = .ok (.iload_n 1, 1) := by decide +kernel
theorem dX4_look_16 : decode cX4_look 16 = .ok (.invokevirtual 34, 3) := by decide +kernel
theorem dX4_look_19 : decode cX4_look 19 = .ok (.ifCond .eq 12, 3) := by decide +kernel
theorem dX4_look_22 : decode cX4_look 22 = .ok (.iload_n 2, 1) := by decide +kernel
theorem dX4_look_23 : decode cX4_look 23 = .ok (.ifCond .lt 8, 3) := by decide +kernel
theorem dX4_look_26 : decode cX4_look 26 = .ok (.iload_n 2, 1) := by decide +kernel
theorem dX4_look_27 : decode cX4_look 27 = .ok (.iconst 3, 1) := by decide +kernel
theorem dX4_look_28 : decode cX4_look 28 = .ok (.if_icmp .le 6, 3) := by decide +kernel
theorem dX4_look_31 : decode cX4_look 31 = .ok (.bipush (-2), 2) := by decide +kernel
theorem dX4_look_33 : decode cX4_look 33 = .ok (.ireturn, 1) := by decide +kernel
theorem dX4_look_34 : decode cX4_look 34 = .ok (.iload_n 2, 1) := by decide +kernel
theorem dX4_look_35 : decode cX4_look 35 = .ok (.ifCond .ne 10, 3) := by decide +kernel
theorem dX4_look_38 : decode cX4_look 38 = .ok (.aload_n 0, 1) := by decide +kernel
theorem dX4_look_39 : decode cX4_look 39 = .ok (.getfield 9, 3) := by decide +kernel
theorem dX4_look_42 : decode cX4_look 42 = .ok (.iload_n 1, 1) := by decide +kernel
theorem dX4_look_43 : decode cX4_look 43 = .ok (.iaload, 1) := by decide +kernel
theorem dX4_look_44 : decode cX4_look 44 = .ok (.ireturn, 1) := by decide +kernel
theorem dX4_look_45 : decode cX4_look 45 = .ok (.iload_n 2, 1) := by decide +kernel
theorem dX4_look_46 : decode cX4_look 46 = .ok (.iconst 1, 1) := by decide +kernel
theorem dX4_look_47 : decode cX4_look 47 = .ok (.if_icmp .ne 10, 3) := by decide +kernel
theorem dX4_look_50 : decode cX4_look 50 = .ok (.aload_n 0, 1) := by decide +kernel
theorem dX4_look_51 : decode cX4_look 51 = .ok (.getfield 15, 3) := by decide +kernel
theorem dX4_look_54 : decode cX4_look 54 = .ok (.iload_n 1, 1) := by decide +kernel
theorem dX4_look_55 : decode cX4_look 55 = .ok (.iaload, 1) := by decide +kernel
theorem dX4_look_56 : decode cX4_look 56 = .ok (.ireturn, 1) := by decide +kernel
theorem dX4_look_57 : decode cX4_look 57 = .ok (.iload_n 2, 1) := by decide +kernel
theorem dX4_look_58 : decode cX4_look 58 = .ok (.iconst 2, 1) := by decide +kernel
theorem dX4_look_59 : decode cX4_look 59 = .ok (.if_icmp .ne 12, 3) := by decide +kernel
theorem dX4_look_62 : decode cX4_look 62 = .ok (.aload_n 0, 1) := by decide +kernel
theorem dX4_look_63 : decode cX4_look 63 = .ok (.getfield 18, 3) := by decide +kernel
theorem dX4_look_66 : decode cX4_look 66 = .ok (.iload_n 1, 1) := by decide +kernel
theorem dX4_look_67 : decode cX4_look 67 = .ok (.iaload, 1) := by decide +kernel
theorem dX4_look_68 : decode cX4_look 68 = .ok (.goto 9, 3) := by decide +kernel
theorem dX4_look_71 : decode cX4_look 71 = .ok (.aload_n 0, 1) := by decide +kernel
theorem dX4_look_72 : decode cX4_look 72 = .ok (.getfield 21, 3) := by decide +kernel
theorem dX4_look_75 : decode cX4_look 75 = .ok (.iload_n 1, 1) := by decide +kernel
theorem dX4_look_76 : decode cX4_look 76 = .ok (.iaload, 1) := by decide +kernel
theorem dX4_look_77 : decode cX4_look 77 = .ok (.ireturn, 1) := by decide +kernel
theorem dX5_init_0 : decode cX5_init 0 = .ok (.aload_n 0, 1) := by decide +kernel
theorem dX5_init_1 : decode cX5_init 1 = .ok (.invokespecial 3, 3) := by decide +kernel
theorem dX5_init_4 : decode cX5_init 4 = .ok (.aload_n 0, 1) := by decide +kernel
theorem dX5_init_5 : decode cX5_init 5 = .ok (.new 9, 3) := by decide +kernel
theorem dX5_init_8 : decode cX5_init 8 = .ok (.dup, 1) := by decide +kernel
theorem dX5_init_9 : decode cX5_init 9 = .ok (.invokespecial 11, 3) := by decide +kernel
theorem dX5_init_12 : decode cX5_init 12 = .ok (.putfield 12, 3) := by decide +kernel
theorem dX5_init_15 : decode cX5_init 15 = .ok (.aload_n 0, 1) := by decide +kernel
theorem dX5_init_16 : decode cX5_init 16 = .ok (.new 18, 3) := by decide +kernel
theorem dX5_init_19 : decode cX5_init 19 = .ok (.dup, 1) := by decide +kernel
theorem dX5_init_20 : decode cX5_init 20 = .ok (.invokespecial 20, 3) := by decide +kernel
theorem dX5_init_23 : decode cX5_init 23 = .ok (.putfield 21, 3) := by decide +kernel
theorem dX5_init_26 : decode cX5_init 26 = .ok (.aload_n 0, 1) := by decide +kernel
theorem dX5_init_27 : decode cX5_init 27 = .ok (.new 25, 3) := by decide +kernel
theorem dX5_init_30 : decode cX5_init 30 = .ok (.dup, 1) := by decide +kernel
theorem dX5_init_31 : decode cX5_init 31 = .ok (.invokespecial 27, 3) := by decide +kernel
theorem dX5_init_34 : decode cX5_init 34 = .ok (.putfield 28, 3) := by decide +kernel
theorem dX5_init_37 : decode cX5_init 37 = .ok (.aload_n 0, 1) := by decide +kernel
theorem dX5_init_38 : decode cX5_init 38 = .ok (.iconst 0, 1) := by decide +kernel
theorem dX5_init_39 : decode cX5_init 39 = .ok (.putfield 32, 3) := by decide +kernel
theorem dX5_init_42 : decode cX5_init 42 = .ok (.aload_n 0, 1) := by decide +kernel
theorem dX5_init_43 : decode cX5_init 43 = .ok (.iconst (-1), 1) := by decide +kernel
theorem dX5_init_44 : decode cX5_init 44 = .ok (.putfield 36, 3) := by decide +kernel
theorem dX5_init_47 : decode cX5_init 47 = .ok (.aload_n 0, 1) := by decide +kernel
theorem dX5_init_48 : decode cX5_init 48 = .ok (.aconst_null, 1) := by decide +kernel
theorem dX5_init_49 : decode cX5_init 49 = .ok (.putfield 39, 3) := by decide +kernel
theorem dX5_init_52 : decode cX5_init 52 = .ok (.aload_n 0, 1) := by decide +kernel
theorem dX5_init_53 : decode cX5_init 53 = .ok (.iconst 3, 1) := by decide +kernel
theorem dX5_init_54 : decode cX5_init 54 = .ok (.newarray .int, 2) := by decide +kernel
theorem dX5_init_56 : decode cX5_init 56 = .ok (.putfield 43, 3) := by decide +kernel
theorem dX5_init_59 : decode cX5_init 59 = .ok (.aload_n 0, 1) := by decide +kernel
theorem dX5_init_60 : decode cX5_init 60 = .ok (.iconst 3, 1) := by decide +kernel
theorem dX5_init_61 : decode cX5_init 61 = .ok (.newarray .int, 2) := by decide +kernel
theorem dX5_init_63 : decode cX5_init 63 = .ok (.putfield 46, 3) := by decide +kernel
theorem dX5_init_66 : decode cX5_init 66 = .ok (.return_, 1) := by decide +kernel
theorem dX5_read_0 : decode cX5_read 0 = .ok (.aload_n 0, 1) := by decide +kernel
theorem dX5_read_1 : decode cX5_read 1 = .ok (.aload_n 1, 1) := by decide +kernel
theorem dX5_read_2 : decode cX5_read 2 = .ok (.putfield 39, 3) := by decide +kernel
theorem dX5_read_5 : decode cX5_read 5 = .ok (.aload_n 0, 1) := by decide +kernel
theorem dX5_read_6 : decode cX5_read 6 = .ok (.aload_n 1, 1) := by decide +kernel
theorem dX5_read_7 : decode cX5_read 7 = .ok (.ifnonnull 7, 3) := by decide +kernel
theorem dX5_read_10 : decode cX5_read 10 = .ok (.iconst 0, 1) := by decide +kernel
theorem dX5_read_11 : decode cX5_read 11 = .ok (.goto 13, 3) := by decide +kernel
theorem dX5_read_14 : decode cX5_read 14 = .ok (.iconst 0, 1) := by decide +kernel
theorem dX5_read_15 : decode cX5_read 15 = .ok (.iload_n 2, 1) := by decide +kernel
theorem dX5_read_16 : decode cX5_read 16 = .ok (.aload_n 1, 1) := by decide +kernel
theorem dX5_read_17 : decode cX5_read 17 = .ok (.arraylength, 1) := by decide +kernel
theorem dX5_read_18 : decode cX5_read 18 = .ok (.invokestatic 49, 3) := by decide +kernel
theorem dX5_read_21 : decode cX5_read 21 = .ok (.invokestatic 55, 3) := by decide +kernel
theorem dX5_read_24 : decode cX5_read 24 = .ok (.putfield 58, 3) := by decide +kernel
theorem dX5_read_27 : decode cX5_read 27 = .ok (.aload_n 0, 1) := by decide +kernel
theorem dX5_read_28 : decode cX5_read 28 = .ok (.iload_n 3, 1) := by decide +kernel
theorem dX5_read_29 : decode cX5_read 29 = .ok (.putfield 61, 3) := by decide +kernel
theorem dX5_read_32 : decode cX5_read 32 = .ok (.aload_n 0, 1) := by decide +kernel
theorem dX5_read_33 : decode cX5_read 33 = .ok (.iconst 0, 1) := by decide +kernel
theorem dX5_read_34 : decode cX5_read 34 = .ok (.putfield 32, 3) := by decide +kernel
theorem dX5_read_37 : decode cX5_read 37 = .ok (.aload_n 0, 1) := by decide +kernel
theorem dX5_read_38 : decode cX5_read 38 = .ok (.iconst (-1), 1) := by decide +kernel
theorem dX5_read_39 : decode cX5_read 39 = .ok (.putfield 36, 3) := by decide +kernel
theorem dX5_read_42 : decode cX5_read 42 = .ok (.aload_n 0, 1) := by decide +kernel
theorem dX5_read_43 : decode cX5_read 43 = .ok (.iconst 0, 1) := by decide +kernel
theorem dX5_read_44 : decode cX5_read 44 = .ok (.putfield 64, 3) := by decide +kernel
theorem dX5_read_47 : decode cX5_read 47 = .ok (.aload_n 0, 1) := by decide +kernel
theorem dX5_read_48 : decode cX5_read 48 = .ok (.iconst 0, 1) := by decide +kernel
theorem dX5_read_49 : decode cX5_read 49 = .ok (.putfield 67, 3) := by decide +kernel
theorem dX5_read_52 : decode cX5_read 52 = .ok (.aload_n 0, 1) := by decide +kernel
theorem dX5_read_53 : decode cX5_read 53 = .ok (.getfield 12, 3) := by decide +kernel
theorem dX5_read_56 : decode cX5_read 56 = .ok (.invokevirtual 70, 3) := by decide +kernel
theorem dX5_read_59 : decode cX5_read 59 = .ok (.aload_n 0, 1) := by decide +kernel
theorem dX5_read_60 : decode cX5_read 60 = .ok (.getfield 21, 3) := by decide +kernel
theorem dX5_read_63 : decode cX5_read 63 = .ok (.iconst 0, 1) := by decide +kernel
theorem dX5_read_64 : decode cX5_read 64 = .ok (.putfield 73, 3) := by decide +kernel
theorem dX5_read_67 : decode cX5_read 67 = .ok (.aload_n 0, 1) := by decide +kernel
theorem dX5_read_68 : decode cX5_read 68 = .ok (.getfield 28, 3) := by decide +kernel
theorem dX5_read_71 : decode cX5_read 71 = .ok (.iconst 1, 1) := by decide +kernel
theorem dX5_read_72 : decode cX5_read 72 = .ok (.putfield 76, 3) := by decide +kernel
theorem dX5_read_75 : decode cX5_read 75 = .ok (.aload_n 0, 1) := by decide +kernel
theorem dX5_read_76 : decode cX5_read 76 = .ok (.getfield 28, 3) := by decide +kernel
theorem dX5_read_79 : decode cX5_read 79 = .ok (.iconst 0, 1) := by decide +kernel
theorem dX5_read_80 : decode cX5_read 80 = .ok (.putfield 79, 3) := by decide +kernel
theorem dX5_read_83 : decode cX5_read 83 = .ok (.iconst 1, 1) := by decide +kernel
theorem dX5_read_84 : decode cX5_read 84 = .ok (.istore 4, 2) := by decide +kernel
theorem dX5_read_86 : decode cX5_read 86 = .ok (.iconst 0, 1) := by decide +kernel
theorem dX5_read_87 : decode cX5_read 87 = .ok (.istore 5, 2) := by decide +kernel
theorem dX5_read_89 : decode cX5_read 89 = .ok (.iload 4, 2) := by decide +kernel
theorem dX5_read_91 : decode cX5_read 91 = .ok (.ifCond .eq 24, 3) := by decide +kernel
theorem dX5_read_94 : decode cX5_read 94 = .ok (.iload 5, 2) := by decide +kernel
theorem dX5_read_96 : decode cX5_read 96 = .ok (.aload_n 0, 1) := by decide +kernel
theorem dX5_read_97 : decode cX5_read 97 = .ok (.getfield 58, 3) := by decide +kernel
theorem dX5_read_100 : decode cX5_read 100 = .ok (.if_icmp .gt 15, 3) := by decide +kernel
theorem dX5_read_103 : decode cX5_read 103 = .ok (.aload_n 0, 1) := by decide +kernel
theorem dX5_read_104 : decode cX5_read 104 = .ok (.invokevirtual 82, 3) := by decide +kernel
theorem dX5_read_107 : decode cX5_read 107 = .ok (.istore 4, 2) := by decide +kernel
theorem dX5_read_109 : decode cX5_read 109 = .ok (.iinc 5 1, 3) := by decide +kernel
theorem dX5_read_112 : decode cX5_read 112 = .ok (.goto (-23), 3) := by decide +kernel
theorem dX5_read_115 : decode cX5_read 115 = .ok (.aload_n 0, 1) := by decide +kernel
theorem dX5_read_116 : decode cX5_read 116 = .ok (.getfield 32, 3) := by decide +kernel
theorem dX5_read_119 : decode cX5_read 119 = .ok (.ifCond .ne 21, 3) := by decide +kernel
theorem dX5_read_122 : decode cX5_read 122 = .ok (.aload_n 0, 1) := by decide +kernel
theorem dX5_read_123 : decode cX5_read 123 = .ok (.getfield 61, 3) := by decide +kernel
theorem dX5_read_126 : decode cX5_read 126 = .ok (.ifCond .ne 14, 3) := by decide +kernel
theorem dX5_read_129 : decode cX5_read 129 = .ok (.aload_n 0, 1) := by decide +kernel
theorem dX5_read_130 : decode cX5_read 130 = .ok (.invokevirtual 86, 3) := by decide +kernel
theorem dX5_read_133 : decode cX5_read 133 = .ok (.aload_n 0, 1) := by decide +kernel
theorem dX5_read_134 : decode cX5_read 134 = .ok (.getfield 12, 3) := by decide +kernel
theorem dX5_read_137 : decode cX5_read 137 = .ok (.invokevirtual 89, 3) := by decide +kernel
theorem dX5_read_140 : decode cX5_read 140 = .ok (.return_, 1) := by decide +kernel
theorem dX5_readLine_0 : decode cX5_readLine 0 = .ok (.aload_n 0, 1) := by decide +kernel
theorem dX5_readLine_1 : decode cX5_readLine 1 = .ok (.invokevirtual 92, 3) := by decide +kernel
theorem dX5_readLine_4 : decode cX5_readLine 4 = .ok (.istore_n 1, 1) := by decide +kernel
theorem dX5_readLine_5 : decode cX5_readLine 5 = .ok (.iload_n 1, 1) := by decide +kernel
theorem dX5_readLine_6 : decode cX5_readLine 6 = .ok (.ifCond .ne 5, 3) := by decide +kernel
theorem dX5_readLine_9 : decode cX5_readLine 9 = .ok (.iconst 0, 1) := by decide +kernel
theorem dX5_readLine_10 : decode cX5_readLine 10 = .ok (.ireturn, 1) := by decide +kernel
theorem dX5_readLine_11 : decode cX5_readLine 11 = .ok (.aload_n 0, 1) := by decide +kernel
theorem dX5_readLine_12 : decode cX5_readLine 12 = .ok (.getfield 96, 3) := by decide +kernel
theorem dX5_readLine_15 : decode cX5_readLine 15 = .ok (.istore_n 2, 1) := by decide +kernel
theorem dX5_readLine_16 : decode cX5_readLine 16 = .ok (.iload_n 1, 1) := by decide +kernel
theorem dX5_readLine_17 : decode cX5_readLine 17 = .ok (.iconst 1, 1) := by decide +kernel
theorem dX5_readLine_18 : decode cX5_readLine 18 = .ok (.if_icmp .ne 10, 3) := by decide +kernel
theorem dX5_readLine_21 : decode cX5_readLine 21 = .ok (.aload_n 0, 1) := by decide +kernel
theorem dX5_readLine_22 : decode cX5_readLine 22 = .ok (.invokevirtual 99, 3) := by decide +kernel
theorem dX5_readLine_25 : decode cX5_readLine 25 = .ok (.goto 4, 3) := by decide +kernel
theorem dX5_readLine_28 : decode cX5_readLine 28 = .ok (.iconst (-1), 1) := by decide +kernel
theorem dX5_readLine_29 : decode cX5_readLine 29 = .ok (.istore_n 3, 1) := by decide +kernel
theorem dX5_readLine_30 : decode cX5_readLine 30 = .ok (.iload_n 3, 1) := by decide +kernel
theorem dX5_readLine_31 : decode cX5_readLine 31 = .ok (.iconst (-1), 1) := by decide +kernel
theorem dX5_readLine_32 : decode cX5_readLine 32 = .ok (.if_icmp .ne 8, 3) := by decide +kernel
theorem dX5_readLine_35 : decode cX5_readLine 35 = .ok (.aload_n 0, 1) := by decide +kernel
theorem dX5_readLine_36 : decode cX5_readLine 36 = .ok (.invokevirtual 102, 3) := by decide +kernel
theorem dX5_readLine_39 : decode cX5_readLine 39 = .ok (.ireturn, 1) := by decide +kernel
theorem dX5_readLine_40 : decode cX5_readLine 40 = .ok (.aload_n 0, 1) := by decide +kernel
theorem dX5_readLine_41 : decode cX5_readLine 41 = .ok (.iload_n 3, 1) := by decide +kernel
theorem dX5_readLine_42 : decode cX5_readLine 42 = .ok (.invokevirtual 105, 3) := by decide +kernel
theorem dX5_readLine_45 : decode cX5_readLine 45 = .ok (.istore 4, 2) := by decide +kernel
theorem dX5_readLine_47 : decode cX5_readLine 47 = .ok (.iconst 0, 1) := by decide +kernel
theorem dX5_readLine_48 : decode cX5_readLine 48 = .ok (.istore 5, 2) := by decide +kernel
theorem dX5_readLine_50 : decode cX5_readLine 50 = .ok (.iload 5, 2) := by decide +kernel
theorem dX5_readLine_52 : decode cX5_readLine 52 = .ok (.iconst 3, 1) := by decide +kernel
theorem dX5_readLine_53 : decode cX5_readLine 53 = .ok (.if_icmp .ge 59, 3) := by decide +kernel
theorem dX5_readLine_56 : decode cX5_readLine 56 = .ok (.aload_n 0, 1) := by decide +kernel
theorem dX5_readLine_57 : decode cX5_readLine 57 = .ok (.getfield 43, 3) := by decide +kernel
theorem dX5_readLine_60 : decode cX5_readLine 60 = .ok (.iload 5, 2) := by decide +kernel
theorem dX5_readLine_62 : decode cX5_readLine 62 = .ok (.iconst (-1), 1) := by decide +kernel
theorem dX5_readLine_63 : decode cX5_readLine 63 = .ok (.iastore, 1) := by decide +kernel
theorem dX5_readLine_64 : decode cX5_readLine 64 = .ok (.iload 5, 2) := by decide +kernel
theorem dX5_readLine_66 : decode cX5_readLine 66 = .ok (.iload 4, 2) := by decide +kernel
theorem dX5_readLine_68 : decode cX5_readLine 68 = .ok (.if_icmp .ge 38, 3) := by decide +kernel
theorem dX5_readLine_71 : decode cX5_readLine 71 = .ok (.aload_n 0, 1) := by decide +kernel
theorem dX5_readLine_72 : decode cX5_readLine 72 = .ok (.invokevirtual 92, 3) := by decide +kernel
theorem dX5_readLine_75 : decode cX5_readLine 75 = .ok (.iconst 2, 1) := by decide +kernel
theorem dX5_readLine_76 : decode cX5_readLine 76 = .ok (.if_icmp .eq 8, 3) := by decide +kernel
theorem dX5_readLine_79 : decode cX5_readLine 79 = .ok (.aload_n 0, 1) := by decide +kernel
theorem dX5_readLine_80 : decode cX5_readLine 80 = .ok (.invokevirtual 102, 3) := by decide +kernel
theorem dX5_readLine_83 : decode cX5_readLine 83 = .ok (.ireturn, 1) := by decide +kernel
theorem dX5_readLine_84 : decode cX5_readLine 84 = .ok (.aload_n 0, 1) := by decide +kernel
theorem dX5_readLine_85 : decode cX5_readLine 85 = .ok (.getfield 43, 3) := by decide +kernel
theorem dX5_readLine_88 : decode cX5_readLine 88 = .ok (.iload 5, 2) := by decide +kernel
theorem dX5_readLine_90 : decode cX5_readLine 90 = .ok (.aload_n 0, 1) := by decide +kernel
theorem dX5_readLine_91 : decode cX5_readLine 91 = .ok (.invokevirtual 109, 3) := by decide +kernel
theorem dX5_readLine_94 : decode cX5_readLine 94 = .ok (.iastore, 1) := by decide +kernel
theorem dX5_readLine_95 : decode cX5_readLine 95 = .ok (.aload_n 0, 1) := by decide +kernel
theorem dX5_readLine_96 : decode cX5_readLine 96 = .ok (.getfield 46, 3) := by decide +kernel
theorem dX5_readLine_99 : decode cX5_readLine 99 = .ok (.iload 5, 2) := by decide +kernel
theorem dX5_readLine_101 : decode cX5_readLine 101 = .ok (.aload_n 0, 1) := by decide +kernel
theorem dX5_readLine_102 : decode cX5_readLine 102 = .ok (.getfield 96, 3) := by decide +kernel
theorem dX5_readLine_105 : decode cX5_readLine 105 = .ok (.iastore, 1) := by decide +kernel
theorem dX5_readLine_106 : decode cX5_readLine 106 = .ok (.iinc 5 1, 3) := by decide +kernel
theorem dX5_readLine_109 : decode cX5_readLine 109 = .ok (.goto (-59), 3) := by decide +kernel
theorem dX5_readLine_112 : decode cX5_readLine 112 = .ok (.aload_n 0, 1) := by decide +kernel
theorem dX5_readLine_113 : decode cX5_readLine 113 = .ok (.invokevirtual 92, 3) := by decide +kernel
theorem dX5_readLine_116 : decode cX5_readLine 116 = .ok (.iconst 3, 1) := by decide +kernel
theorem dX5_readLine_117 : decode cX5_readLine 117 = .ok (.if_icmp .eq 8, 3) := by decide +kernel
theorem dX5_readLine_120 : decode cX5_readLine 120 = .ok (.aload_n 0, 1) := by decide +kernel
theorem dX5_readLine_121 : decode cX5_readLine 121 = .ok (.invokevirtual 102, 3) := by decide +kernel
theorem dX5_readLine_124 : decode cX5_readLine 124 = .ok (.ireturn, 1) := by decide +kernel
theorem dX5_readLine_125 : decode cX5_readLine 125 = .ok (.aload_n 0, 1) := by decide +kernel
theorem dX5_readLine_126 : decode cX5_readLine 126 = .ok (.iload_n 3, 1) := by decide +kernel
theorem dX5_readLine_127 : decode cX5_readLine 127 = .ok (.iload 4, 2) := by decide +kernel
theorem dX5_readLine_129 : decode cX5_readLine 129 = .ok (.iload_n 2, 1) := by decide +kernel
theorem dX5_readLine_130 : decode cX5_readLine 130 = .ok (.invokevirtual 112, 3) := by decide +kernel
theorem dX5_readLine_133 : decode cX5_readLine 133 = .ok (.aload_n 0, 1) := by decide +kernel
theorem dX5_readLine_134 : decode cX5_readLine 134 = .ok (.getfield 32, 3) := by decide +kernel
theorem dX5_readLine_137 : decode cX5_readLine 137 = .ok (.ifCond .ne 8, 3) := by decide +kernel
theorem dX5_readLine_140 : decode cX5_readLine 140 = .ok (.aload_n 0, 1) := by decide +kernel
theorem dX5_readLine_141 : decode cX5_readLine 141 = .ok (.iload_n 3, 1) := by decide +kernel
theorem dX5_readLine_142 : decode cX5_readLine 142 = .ok (.invokevirtual 116, 3) := by decide +kernel
theorem dX5_readLine_145 : decode cX5_readLine 145 = .ok (.iconst 1, 1) := by decide +kernel
theorem dX5_readLine_146 : decode cX5_readLine 146 = .ok (.ireturn, 1) := by decide +kernel
theorem dX5_outOfForm_0 : decode cX5_outOfForm 0 = .ok (.aload_n 0, 1) := by decide +kernel
theorem dX5_outOfForm_1 : decode cX5_outOfForm 1 = .ok (.iconst 1, 1) := by decide +kernel
theorem dX5_outOfForm_2 : decode cX5_outOfForm 2 = .ok (.putfield 32, 3) := by decide +kernel
theorem dX5_outOfForm_5 : decode cX5_outOfForm 5 = .ok (.aload_n 0, 1) := by decide +kernel
theorem dX5_outOfForm_6 : decode cX5_outOfForm 6 = .ok (.aload_n 0, 1) := by decide +kernel
theorem dX5_outOfForm_7 : decode cX5_outOfForm 7 = .ok (.getfield 96, 3) := by decide +kernel
theorem dX5_outOfForm_10 : decode cX5_outOfForm 10 = .ok (.putfield 36, 3) := by decide +kernel
theorem dX5_outOfForm_13 : decode cX5_outOfForm 13 = .ok (.iconst 0, 1) := by decide +kernel
theorem dX5_outOfForm_14 : decode cX5_outOfForm 14 = .ok (.ireturn, 1) := by decide +kernel
theorem dX5_byteAt_0 : decode cX5_byteAt 0 = .ok (.aload_n 0, 1) := by decide +kernel
theorem dX5_byteAt_1 : decode cX5_byteAt 1 = .ok (.getfield 39, 3) := by decide +kernel
theorem dX5_byteAt_4 : decode cX5_byteAt 4 = .ok (.ifnull 33, 3) := by decide +kernel
theorem dX5_byteAt_7 : decode cX5_byteAt 7 = .ok (.iload_n 1, 1) := by decide +kernel
theorem dX5_byteAt_8 : decode cX5_byteAt 8 = .ok (.ifCond .lt 29, 3) := by decide +kernel
theorem dX5_byteAt_11 : decode cX5_byteAt 11 = .ok (.iload_n 1, 1) := by decide +kernel
theorem dX5_byteAt_12 : decode cX5_byteAt 12 = .ok (.aload_n 0, 1) := by decide +kernel
theorem dX5_byteAt_13 : decode cX5_byteAt 13 = .ok (.getfield 58, 3) := by decide +kernel
theorem dX5_byteAt_16 : decode cX5_byteAt 16 = .ok (.if_icmp .ge 21, 3) := by decide +kernel
theorem dX5_byteAt_19 : decode cX5_byteAt 19 = .ok (.iload_n 1, 1) := by decide +kernel
theorem dX5_byteAt_20 : decode cX5_byteAt 20 = .ok (.aload_n 0, 1) := by decide +kernel
theorem dX5_byteAt_21 : decode cX5_byteAt 21 = .ok (.getfield 39, 3) := by decide +kernel
theorem dX5_byteAt_24 : decode cX5_byteAt 24 = .ok (.arraylength, 1) := by decide +kernel
theorem dX5_byteAt_25 : decode cX5_byteAt 25 = .ok (.if_icmp .ge 12, 3) := by decide +kernel
theorem dX5_byteAt_28 : decode cX5_byteAt 28 = .ok (.aload_n 0, 1) := by decide +kernel
theorem dX5_byteAt_29 : decode cX5_byteAt 29 = .ok (.getfield 39, 3) := by decide +kernel
theorem dX5_byteAt_32 : decode cX5_byteAt 32 = .ok (.iload_n 1, 1) := by decide +kernel
theorem dX5_byteAt_33 : decode cX5_byteAt 33 = .ok (.iaload, 1) := by decide +kernel
theorem dX5_byteAt_34 : decode cX5_byteAt 34 = .ok (.goto 4, 3) := by decide +kernel
theorem dX5_byteAt_37 : decode cX5_byteAt 37 = .ok (.iconst (-1), 1) := by decide +kernel
theorem dX5_byteAt_38 : decode cX5_byteAt 38 = .ok (.ireturn, 1) := by decide +kernel
theorem dX5_isLetter_0 : decode cX5_isLetter 0 = .ok (.iload_n 0, 1) := by decide +kernel
theorem dX5_isLetter_1 : decode cX5_isLetter 1 = .ok (.bipush 97, 2) := by decide +kernel
theorem dX5_isLetter_3 : decode cX5_isLetter 3 = .ok (.if_icmp .lt 13, 3) := by decide +kernel
theorem dX5_isLetter_6 : decode cX5_isLetter 6 = .ok (.iload_n 0, 1) := by decide +kernel
theorem dX5_isLetter_7 : decode cX5_isLetter 7 = .ok (.bipush 122, 2) := by decide +kernel
theorem dX5_isLetter_9 : decode cX5_isLetter 9 = .ok (.if_icmp .gt 7, 3) := by decide +kernel
theorem dX5_isLetter_12 : decode cX5_isLetter 12 = .ok (.iconst 1, 1) := by decide +kernel
theorem dX5_isLetter_13 : decode cX5_isLetter 13 = .ok (.goto 4, 3) := by decide +kernel
theorem dX5_isLetter_16 : decode cX5_isLetter 16 = .ok (.iconst 0, 1) := by decide +kernel
theorem dX5_isLetter_17 : decode cX5_isLetter 17 = .ok (.ireturn, 1) := by decide +kernel
theorem dX5_isDigit_0 : decode cX5_isDigit 0 = .ok (.iload_n 0, 1) := by decide +kernel
theorem dX5_isDigit_1 : decode cX5_isDigit 1 = .ok (.bipush 48, 2) := by decide +kernel
theorem dX5_isDigit_3 : decode cX5_isDigit 3 = .ok (.if_icmp .lt 13, 3) := by decide +kernel
theorem dX5_isDigit_6 : decode cX5_isDigit 6 = .ok (.iload_n 0, 1) := by decide +kernel
theorem dX5_isDigit_7 : decode cX5_isDigit 7 = .ok (.bipush 57, 2) := by decide +kernel
theorem dX5_isDigit_9 : decode cX5_isDigit 9 = .ok (.if_icmp .gt 7, 3) := by decide +kernel
theorem dX5_isDigit_12 : decode cX5_isDigit 12 = .ok (.iconst 1, 1) := by decide +kernel
theorem dX5_isDigit_13 : decode cX5_isDigit 13 = .ok (.goto 4, 3) := by decide +kernel
theorem dX5_isDigit_16 : decode cX5_isDigit 16 = .ok (.iconst 0, 1) := by decide +kernel
theorem dX5_isDigit_17 : decode cX5_isDigit 17 = .ok (.ireturn, 1) := by decide +kernel
theorem dX5_nextToken_0 : decode cX5_nextToken 0 = .ok (.aload_n 0, 1) := by decide +kernel
theorem dX5_nextToken_1 : decode cX5_nextToken 1 = .ok (.getfield 64, 3) := by decide +kernel
theorem dX5_nextToken_4 : decode cX5_nextToken 4 = .ok (.aload_n 0, 1) := by decide +kernel
theorem dX5_nextToken_5 : decode cX5_nextToken 5 = .ok (.getfield 58, 3) := by decide +kernel
theorem dX5_nextToken_8 : decode cX5_nextToken 8 = .ok (.if_icmp .ge 42, 3) := by decide +kernel
theorem dX5_nextToken_11 : decode cX5_nextToken 11 = .ok (.aload_n 0, 1) := by decide +kernel
theorem dX5_nextToken_12 : decode cX5_nextToken 12 = .ok (.aload_n 0, 1) := by decide +kernel
theorem dX5_nextToken_13 : decode cX5_nextToken 13 = .ok (.getfield 64, 3) := by decide +kernel
theorem dX5_nextToken_16 : decode cX5_nextToken 16 = .ok (.invokevirtual 120, 3) := by decide +kernel
theorem dX5_nextToken_19 : decode cX5_nextToken 19 = .ok (.bipush 32, 2) := by decide +kernel
theorem dX5_nextToken_21 : decode cX5_nextToken 21 = .ok (.if_icmp .eq 16, 3) := by decide +kernel
theorem dX5_nextToken_24 : decode cX5_nextToken 24 = .ok (.aload_n 0, 1) := by decide +kernel
theorem dX5_nextToken_25 : decode cX5_nextToken 25 = .ok (.aload_n 0, 1) := by decide +kernel
theorem dX5_nextToken_26 : decode cX5_nextToken 26 = .ok (.getfield 64, 3) := by decide +kernel
theorem dX5_nextToken_29 : decode cX5_nextToken 29 = .ok (.invokevirtual 120, 3) := by decide +kernel
theorem dX5_nextToken_32 : decode cX5_nextToken 32 = .ok (.bipush 10, 2) := by decide +kernel
theorem dX5_nextToken_34 : decode cX5_nextToken 34 = .ok (.if_icmp .ne 16, 3) := by decide +kernel
theorem dX5_nextToken_37 : decode cX5_nextToken 37 = .ok (.aload_n 0, 1) := by decide +kernel
theorem dX5_nextToken_38 : decode cX5_nextToken 38 = .ok (.dup, 1) := by decide +kernel
theorem dX5_nextToken_39 : decode cX5_nextToken 39 = .ok (.getfield 64, 3) := by decide +kernel
theorem dX5_nextToken_42 : decode cX5_nextToken 42 = .ok (.iconst 1, 1) := by decide +kernel
theorem dX5_nextToken_43 : decode cX5_nextToken 43 = .ok (.iadd, 1) := by decide +kernel
theorem dX5_nextToken_44 : decode cX5_nextToken 44 = .ok (.putfield 64, 3) := by decide +kernel
theorem dX5_nextToken_47 : decode cX5_nextToken 47 = .ok (.goto (-47), 3) := by decide +kernel
theorem dX5_nextToken_50 : decode cX5_nextToken 50 = .ok (.aload_n 0, 1) := by decide +kernel
theorem dX5_nextToken_51 : decode cX5_nextToken 51 = .ok (.aload_n 0, 1) := by decide +kernel
theorem dX5_nextToken_52 : decode cX5_nextToken 52 = .ok (.getfield 64, 3) := by decide +kernel
theorem dX5_nextToken_55 : decode cX5_nextToken 55 = .ok (.putfield 96, 3) := by decide +kernel
theorem dX5_nextToken_58 : decode cX5_nextToken 58 = .ok (.aload_n 0, 1) := by decide +kernel
theorem dX5_nextToken_59 : decode cX5_nextToken 59 = .ok (.getfield 64, 3) := by decide +kernel
theorem dX5_nextToken_62 : decode cX5_nextToken 62 = .ok (.aload_n 0, 1) := by decide +kernel
theorem dX5_nextToken_63 : decode cX5_nextToken 63 = .ok (.getfield 58, 3) := by decide +kernel
theorem dX5_nextToken_66 : decode cX5_nextToken 66 = .ok (.if_icmp .lt 5, 3) := by decide +kernel
theorem dX5_nextToken_69 : decode cX5_nextToken 69 = .ok (.iconst 0, 1) := by decide +kernel
theorem dX5_nextToken_70 : decode cX5_nextToken 70 = .ok (.ireturn, 1) := by decide +kernel
theorem dX5_nextToken_71 : decode cX5_nextToken 71 = .ok (.aload_n 0, 1) := by decide +kernel
theorem dX5_nextToken_72 : decode cX5_nextToken 72 = .ok (.aload_n 0, 1) := by decide +kernel
theorem dX5_nextToken_73 : decode cX5_nextToken 73 = .ok (.getfield 64, 3) := by decide +kernel
