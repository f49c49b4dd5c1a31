theorem dX10_makePromise_1 : decode cX10_makePromise 1 = .ok (.iload_n 1, 1) := by decide +kernel
theorem dX10_makePromise_2 : decode cX10_makePromise 2 = .ok (.invokevirtual 159, 3) := by decide +kernel
theorem dX10_makePromise_5 : decode cX10_makePromise 5 = .ok (.ifCond .eq 25, 3) := by decide +kernel
theorem dX10_makePromise_8 : decode cX10_makePromise 8 = .ok (.aload_n 0, 1) := by decide +kernel
theorem dX10_makePromise_9 : decode cX10_makePromise 9 = .ok (.getfield 9, 3) := by decide +kernel
theorem dX10_makePromise_12 : decode cX10_makePromise 12 = .ok (.iload_n 1, 1) := by decide +kernel
theorem dX10_makePromise_13 : decode cX10_makePromise 13 = .ok (.iaload, 1) := by decide +kernel
theorem dX10_makePromise_14 : decode cX10_makePromise 14 = .ok (.bipush 10, 2) := by decide +kernel
theorem dX10_makePromise_16 : decode cX10_makePromise 16 = .ok (.if_icmp .ge 14, 3) := by decide +kernel
theorem dX10_makePromise_19 : decode cX10_makePromise 19 = .ok (.aload_n 0, 1) := by decide +kernel
theorem dX10_makePromise_20 : decode cX10_makePromise 20 = .ok (.getfield 75, 3) := by decide +kernel
theorem dX10_makePromise_23 : decode cX10_makePromise 23 = .ok (.iload_n 1, 1) := by decide +kernel
theorem dX10_makePromise_24 : decode cX10_makePromise 24 = .ok (.ishr, 1) := by decide +kernel
theorem dX10_makePromise_25 : decode cX10_makePromise 25 = .ok (.iconst 1, 1) := by decide +kernel
theorem dX10_makePromise_26 : decode cX10_makePromise 26 = .ok (.iand, 1) := by decide +kernel
theorem dX10_makePromise_27 : decode cX10_makePromise 27 = .ok (.ifCond .eq 5, 3) := by decide +kernel
theorem dX10_makePromise_30 : decode cX10_makePromise 30 = .ok (.iconst 0, 1) := by decide +kernel
theorem dX10_makePromise_31 : decode cX10_makePromise 31 = .ok (.ireturn, 1) := by decide +kernel
theorem dX10_makePromise_32 : decode cX10_makePromise 32 = .ok (.aload_n 0, 1) := by decide +kernel
theorem dX10_makePromise_33 : decode cX10_makePromise 33 = .ok (.iload_n 2, 1) := by decide +kernel
theorem dX10_makePromise_34 : decode cX10_makePromise 34 = .ok (.invokevirtual 156, 3) := by decide +kernel
theorem dX10_makePromise_37 : decode cX10_makePromise 37 = .ok (.ifCond .eq 27, 3) := by decide +kernel
theorem dX10_makePromise_40 : decode cX10_makePromise 40 = .ok (.aload_n 0, 1) := by decide +kernel
theorem dX10_makePromise_41 : decode cX10_makePromise 41 = .ok (.iload_n 2, 1) := by decide +kernel
theorem dX10_makePromise_42 : decode cX10_makePromise 42 = .ok (.invokevirtual 162, 3) := by decide +kernel
theorem dX10_makePromise_45 : decode cX10_makePromise 45 = .ok (.ifCond .ne 19, 3) := by decide +kernel
theorem dX10_makePromise_48 : decode cX10_makePromise 48 = .ok (.aload_n 0, 1) := by decide +kernel
theorem dX10_makePromise_49 : decode cX10_makePromise 49 = .ok (.getfield 78, 3) := by decide +kernel
theorem dX10_makePromise_52 : decode cX10_makePromise 52 = .ok (.ifCond .lt 12, 3) := by decide +kernel
theorem dX10_makePromise_55 : decode cX10_makePromise 55 = .ok (.aload_n 0, 1) := by decide +kernel
theorem dX10_makePromise_56 : decode cX10_makePromise 56 = .ok (.getfield 78, 3) := by decide +kernel
theorem dX10_makePromise_59 : decode cX10_makePromise 59 = .ok (.bipush 12, 2) := by decide +kernel
theorem dX10_makePromise_61 : decode cX10_makePromise 61 = .ok (.if_icmp .lt 5, 3) := by decide +kernel
theorem dX10_makePromise_64 : decode cX10_makePromise 64 = .ok (.iconst 0, 1) := by decide +kernel
theorem dX10_makePromise_65 : decode cX10_makePromise 65 = .ok (.ireturn, 1) := by decide +kernel
theorem dX10_makePromise_66 : decode cX10_makePromise 66 = .ok (.aload_n 0, 1) := by decide +kernel
theorem dX10_makePromise_67 : decode cX10_makePromise 67 = .ok (.getfield 33, 3) := by decide +kernel
theorem dX10_makePromise_70 : decode cX10_makePromise 70 = .ok (.aload_n 0, 1) := by decide +kernel
theorem dX10_makePromise_71 : decode cX10_makePromise 71 = .ok (.getfield 78, 3) := by decide +kernel
theorem dX10_makePromise_74 : decode cX10_makePromise 74 = .ok (.iload_n 1, 1) := by decide +kernel
theorem dX10_makePromise_75 : decode cX10_makePromise 75 = .ok (.iastore, 1) := by decide +kernel
theorem dX10_makePromise_76 : decode cX10_makePromise 76 = .ok (.aload_n 0, 1) := by decide +kernel
theorem dX10_makePromise_77 : decode cX10_makePromise 77 = .ok (.getfield 36, 3) := by decide +kernel
theorem dX10_makePromise_80 : decode cX10_makePromise 80 = .ok (.aload_n 0, 1) := by decide +kernel
theorem dX10_makePromise_81 : decode cX10_makePromise 81 = .ok (.getfield 78, 3) := by decide +kernel
theorem dX10_makePromise_84 : decode cX10_makePromise 84 = .ok (.iload_n 2, 1) := by decide +kernel
theorem dX10_makePromise_85 : decode cX10_makePromise 85 = .ok (.iastore, 1) := by decide +kernel
theorem dX10_makePromise_86 : decode cX10_makePromise 86 = .ok (.aload_n 0, 1) := by decide +kernel
theorem dX10_makePromise_87 : decode cX10_makePromise 87 = .ok (.getfield 39, 3) := by decide +kernel
theorem dX10_makePromise_90 : decode cX10_makePromise 90 = .ok (.aload_n 0, 1) := by decide +kernel
theorem dX10_makePromise_91 : decode cX10_makePromise 91 = .ok (.getfield 78, 3) := by decide +kernel
theorem dX10_makePromise_94 : decode cX10_makePromise 94 = .ok (.aload_n 0, 1) := by decide +kernel
theorem dX10_makePromise_95 : decode cX10_makePromise 95 = .ok (.getfield 45, 3) := by decide +kernel
theorem dX10_makePromise_98 : decode cX10_makePromise 98 = .ok (.iload_n 3, 1) := by decide +kernel
theorem dX10_makePromise_99 : decode cX10_makePromise 99 = .ok (.iadd, 1) := by decide +kernel
theorem dX10_makePromise_100 : decode cX10_makePromise 100 = .ok (.iastore, 1) := by decide +kernel
theorem dX10_makePromise_101 : decode cX10_makePromise 101 = .ok (.aload_n 0, 1) := by decide +kernel
theorem dX10_makePromise_102 : decode cX10_makePromise 102 = .ok (.getfield 42, 3) := by decide +kernel
theorem dX10_makePromise_105 : decode cX10_makePromise 105 = .ok (.aload_n 0, 1) := by decide +kernel
theorem dX10_makePromise_106 : decode cX10_makePromise 106 = .ok (.getfield 78, 3) := by decide +kernel
theorem dX10_makePromise_109 : decode cX10_makePromise 109 = .ok (.aload_n 0, 1) := by decide +kernel
theorem dX10_makePromise_110 : decode cX10_makePromise 110 = .ok (.getfield 21, 3) := by decide +kernel
theorem dX10_makePromise_113 : decode cX10_makePromise 113 = .ok (.iload_n 1, 1) := by decide +kernel
theorem dX10_makePromise_114 : decode cX10_makePromise 114 = .ok (.iaload, 1) := by decide +kernel
theorem dX10_makePromise_115 : decode cX10_makePromise 115 = .ok (.aload_n 0, 1) := by decide +kernel
theorem dX10_makePromise_116 : decode cX10_makePromise 116 = .ok (.getfield 72, 3) := by decide +kernel
theorem dX10_makePromise_119 : decode cX10_makePromise 119 = .ok (.iand, 1) := by decide +kernel
theorem dX10_makePromise_120 : decode cX10_makePromise 120 = .ok (.ifCond .ne 7, 3) := by decide +kernel
theorem dX10_makePromise_123 : decode cX10_makePromise 123 = .ok (.iconst 4, 1) := by decide +kernel
theorem dX10_makePromise_124 : decode cX10_makePromise 124 = .ok (.goto 4, 3) := by decide +kernel
theorem dX10_makePromise_127 : decode cX10_makePromise 127 = .ok (.iconst 0, 1) := by decide +kernel
theorem dX10_makePromise_128 : decode cX10_makePromise 128 = .ok (.iastore, 1) := by decide +kernel
theorem dX10_makePromise_129 : decode cX10_makePromise 129 = .ok (.aload_n 0, 1) := by decide +kernel
theorem dX10_makePromise_130 : decode cX10_makePromise 130 = .ok (.dup, 1) := by decide +kernel
theorem dX10_makePromise_131 : decode cX10_makePromise 131 = .ok (.getfield 78, 3) := by decide +kernel
theorem dX10_makePromise_134 : decode cX10_makePromise 134 = .ok (.iconst 1, 1) := by decide +kernel
theorem dX10_makePromise_135 : decode cX10_makePromise 135 = .ok (.iadd, 1) := by decide +kernel
theorem dX10_makePromise_136 : decode cX10_makePromise 136 = .ok (.putfield 78, 3) := by decide +kernel
theorem dX10_makePromise_139 : decode cX10_makePromise 139 = .ok (.iconst 1, 1) := by decide +kernel
theorem dX10_makePromise_140 : decode cX10_makePromise 140 = .ok (.ireturn, 1) := by decide +kernel
theorem dX10_coverMouth_0 : decode cX10_coverMouth 0 = .ok (.aload_n 0, 1) := by decide +kernel
theorem dX10_coverMouth_1 : decode cX10_coverMouth 1 = .ok (.iload_n 1, 1) := by decide +kernel
theorem dX10_coverMouth_2 : decode cX10_coverMouth 2 = .ok (.invokevirtual 159, 3) := by decide +kernel
theorem dX10_coverMouth_5 : decode cX10_coverMouth 5 = .ok (.ifCond .eq 14, 3) := by decide +kernel
theorem dX10_coverMouth_8 : decode cX10_coverMouth 8 = .ok (.aload_n 0, 1) := by decide +kernel
theorem dX10_coverMouth_9 : decode cX10_coverMouth 9 = .ok (.getfield 9, 3) := by decide +kernel
theorem dX10_coverMouth_12 : decode cX10_coverMouth 12 = .ok (.iload_n 1, 1) := by decide +kernel
theorem dX10_coverMouth_13 : decode cX10_coverMouth 13 = .ok (.iaload, 1) := by decide +kernel
theorem dX10_coverMouth_14 : decode cX10_coverMouth 14 = .ok (.bipush 10, 2) := by decide +kernel
theorem dX10_coverMouth_16 : decode cX10_coverMouth 16 = .ok (.if_icmp .lt 5, 3) := by decide +kernel
theorem dX10_coverMouth_19 : decode cX10_coverMouth 19 = .ok (.iconst 0, 1) := by decide +kernel
theorem dX10_coverMouth_20 : decode cX10_coverMouth 20 = .ok (.ireturn, 1) := by decide +kernel
theorem dX10_coverMouth_21 : decode cX10_coverMouth 21 = .ok (.aload_n 0, 1) := by decide +kernel
theorem dX10_coverMouth_22 : decode cX10_coverMouth 22 = .ok (.dup, 1) := by decide +kernel
theorem dX10_coverMouth_23 : decode cX10_coverMouth 23 = .ok (.getfield 75, 3) := by decide +kernel
theorem dX10_coverMouth_26 : decode cX10_coverMouth 26 = .ok (.iconst 1, 1) := by decide +kernel
theorem dX10_coverMouth_27 : decode cX10_coverMouth 27 = .ok (.iload_n 1, 1) := by decide +kernel
theorem dX10_coverMouth_28 : decode cX10_coverMouth 28 = .ok (.ishl, 1) := by decide +kernel
theorem dX10_coverMouth_29 : decode cX10_coverMouth 29 = .ok (.ior, 1) := by decide +kernel
theorem dX10_coverMouth_30 : decode cX10_coverMouth 30 = .ok (.putfield 75, 3) := by decide +kernel
theorem dX10_coverMouth_33 : decode cX10_coverMouth 33 = .ok (.iconst 1, 1) := by decide +kernel
theorem dX10_coverMouth_34 : decode cX10_coverMouth 34 = .ok (.ireturn, 1) := by decide +kernel
theorem dX10_letDie_0 : decode cX10_letDie 0 = .ok (.aload_n 0, 1) := by decide +kernel
theorem dX10_letDie_1 : decode cX10_letDie 1 = .ok (.iload_n 1, 1) := by decide +kernel
theorem dX10_letDie_2 : decode cX10_letDie 2 = .ok (.invokevirtual 159, 3) := by decide +kernel
theorem dX10_letDie_5 : decode cX10_letDie 5 = .ok (.ifCond .ne 5, 3) := by decide +kernel
theorem dX10_letDie_8 : decode cX10_letDie 8 = .ok (.iconst 0, 1) := by decide +kernel
theorem dX10_letDie_9 : decode cX10_letDie 9 = .ok (.ireturn, 1) := by decide +kernel
theorem dX10_letDie_10 : decode cX10_letDie 10 = .ok (.aload_n 0, 1) := by decide +kernel
theorem dX10_letDie_11 : decode cX10_letDie 11 = .ok (.dup, 1) := by decide +kernel
theorem dX10_letDie_12 : decode cX10_letDie 12 = .ok (.getfield 72, 3) := by decide +kernel
theorem dX10_letDie_15 : decode cX10_letDie 15 = .ok (.iconst 1, 1) := by decide +kernel
theorem dX10_letDie_16 : decode cX10_letDie 16 = .ok (.iload_n 1, 1) := by decide +kernel
theorem dX10_letDie_17 : decode cX10_letDie 17 = .ok (.ishl, 1) := by decide +kernel
theorem dX10_letDie_18 : decode cX10_letDie 18 = .ok (.iconst (-1), 1) := by decide +kernel
theorem dX10_letDie_19 : decode cX10_letDie 19 = .ok (.ixor, 1) := by decide +kernel
theorem dX10_letDie_20 : decode cX10_letDie 20 = .ok (.iand, 1) := by decide +kernel
theorem dX10_letDie_21 : decode cX10_letDie 21 = .ok (.putfield 72, 3) := by decide +kernel
theorem dX10_letDie_24 : decode cX10_letDie 24 = .ok (.iconst 0, 1) := by decide +kernel
theorem dX10_letDie_25 : decode cX10_letDie 25 = .ok (.istore_n 2, 1) := by decide +kernel
theorem dX10_letDie_26 : decode cX10_letDie 26 = .ok (.iload_n 2, 1) := by decide +kernel
theorem dX10_letDie_27 : decode cX10_letDie 27 = .ok (.aload_n 0, 1) := by decide +kernel
theorem dX10_letDie_28 : decode cX10_letDie 28 = .ok (.getfield 78, 3) := by decide +kernel
theorem dX10_letDie_31 : decode cX10_letDie 31 = .ok (.if_icmp .ge 41, 3) := by decide +kernel
theorem dX10_letDie_34 : decode cX10_letDie 34 = .ok (.iload_n 2, 1) := by decide +kernel
theorem dX10_letDie_35 : decode cX10_letDie 35 = .ok (.bipush 12, 2) := by decide +kernel
theorem dX10_letDie_37 : decode cX10_letDie 37 = .ok (.if_icmp .ge 35, 3) := by decide +kernel
theorem dX10_letDie_40 : decode cX10_letDie 40 = .ok (.aload_n 0, 1) := by decide +kernel
theorem dX10_letDie_41 : decode cX10_letDie 41 = .ok (.getfield 42, 3) := by decide +kernel
theorem dX10_letDie_44 : decode cX10_letDie 44 = .ok (.iload_n 2, 1) := by decide +kernel
theorem dX10_letDie_45 : decode cX10_letDie 45 = .ok (.iaload, 1) := by decide +kernel
theorem dX10_letDie_46 : decode cX10_letDie 46 = .ok (.ifCond .ne 20, 3) := by decide +kernel
theorem dX10_letDie_49 : decode cX10_letDie 49 = .ok (.aload_n 0, 1) := by decide +kernel
theorem dX10_letDie_50 : decode cX10_letDie 50 = .ok (.getfield 33, 3) := by decide +kernel
theorem dX10_letDie_53 : decode cX10_letDie 53 = .ok (.iload_n 2, 1) := by decide +kernel
theorem dX10_letDie_54 : decode cX10_letDie 54 = .ok (.iaload, 1) := by decide +kernel
theorem dX10_letDie_55 : decode cX10_letDie 55 = .ok (.iload_n 1, 1) := by decide +kernel
theorem dX10_letDie_56 : decode cX10_letDie 56 = .ok (.if_icmp .ne 10, 3) := by decide +kernel
theorem dX10_letDie_59 : decode cX10_letDie 59 = .ok (.aload_n 0, 1) := by decide +kernel
theorem dX10_letDie_60 : decode cX10_letDie 60 = .ok (.getfield 42, 3) := by decide +kernel
theorem dX10_letDie_63 : decode cX10_letDie 63 = .ok (.iload_n 2, 1) := by decide +kernel
theorem dX10_letDie_64 : decode cX10_letDie 64 = .ok (.iconst 2, 1) := by decide +kernel
theorem dX10_letDie_65 : decode cX10_letDie 65 = .ok (.iastore, 1) := by decide +kernel
theorem dX10_letDie_66 : decode cX10_letDie 66 = .ok (.iinc 2 1, 3) := by decide +kernel
theorem dX10_letDie_69 : decode cX10_letDie 69 = .ok (.goto (-43), 3) := by decide +kernel
theorem dX10_letDie_72 : decode cX10_letDie 72 = .ok (.iconst 1, 1) := by decide +kernel
theorem dX10_letDie_73 : decode cX10_letDie 73 = .ok (.ireturn, 1) := by decide +kernel
theorem dX10_bear_0 : decode cX10_bear 0 = .ok (.aload_n 0, 1) := by decide +kernel
theorem dX10_bear_1 : decode cX10_bear 1 = .ok (.iload_n 1, 1) := by decide +kernel
theorem dX10_bear_2 : decode cX10_bear 2 = .ok (.invokevirtual 159, 3) := by decide +kernel
theorem dX10_bear_5 : decode cX10_bear 5 = .ok (.ifCond .eq 23, 3) := by decide +kernel
theorem dX10_bear_8 : decode cX10_bear 8 = .ok (.aload_n 0, 1) := by decide +kernel
theorem dX10_bear_9 : decode cX10_bear 9 = .ok (.getfield 9, 3) := by decide +kernel
theorem dX10_bear_12 : decode cX10_bear 12 = .ok (.iload_n 1, 1) := by decide +kernel
theorem dX10_bear_13 : decode cX10_bear 13 = .ok (.iaload, 1) := by decide +kernel
theorem dX10_bear_14 : decode cX10_bear 14 = .ok (.bipush 16, 2) := by decide +kernel
theorem dX10_bear_16 : decode cX10_bear 16 = .ok (.if_icmp .lt 12, 3) := by decide +kernel
theorem dX10_bear_19 : decode cX10_bear 19 = .ok (.aload_n 0, 1) := by decide +kernel
theorem dX10_bear_20 : decode cX10_bear 20 = .ok (.getfield 63, 3) := by decide +kernel
theorem dX10_bear_23 : decode cX10_bear 23 = .ok (.bipush 10, 2) := by decide +kernel
theorem dX10_bear_25 : decode cX10_bear 25 = .ok (.if_icmp .lt 5, 3) := by decide +kernel
theorem dX10_bear_28 : decode cX10_bear 28 = .ok (.iconst 0, 1) := by decide +kernel
theorem dX10_bear_29 : decode cX10_bear 29 = .ok (.ireturn, 1) := by decide +kernel
theorem dX10_bear_30 : decode cX10_bear 30 = .ok (.aload_n 0, 1) := by decide +kernel
theorem dX10_bear_31 : decode cX10_bear 31 = .ok (.getfield 9, 3) := by decide +kernel
theorem dX10_bear_34 : decode cX10_bear 34 = .ok (.aload_n 0, 1) := by decide +kernel
theorem dX10_bear_35 : decode cX10_bear 35 = .ok (.getfield 63, 3) := by decide +kernel
theorem dX10_bear_38 : decode cX10_bear 38 = .ok (.iconst 0, 1) := by decide +kernel
theorem dX10_bear_39 : decode cX10_bear 39 = .ok (.iastore, 1) := by decide +kernel
theorem dX10_bear_40 : decode cX10_bear 40 = .ok (.aload_n 0, 1) := by decide +kernel
theorem dX10_bear_41 : decode cX10_bear 41 = .ok (.getfield 15, 3) := by decide +kernel
theorem dX10_bear_44 : decode cX10_bear 44 = .ok (.aload_n 0, 1) := by decide +kernel
theorem dX10_bear_45 : decode cX10_bear 45 = .ok (.getfield 63, 3) := by decide +kernel
theorem dX10_bear_48 : decode cX10_bear 48 = .ok (.iload_n 2, 1) := by decide +kernel
theorem dX10_bear_49 : decode cX10_bear 49 = .ok (.iastore, 1) := by decide +kernel
theorem dX10_bear_50 : decode cX10_bear 50 = .ok (.aload_n 0, 1) := by decide +kernel
theorem dX10_bear_51 : decode cX10_bear 51 = .ok (.getfield 18, 3) := by decide +kernel
theorem dX10_bear_54 : decode cX10_bear 54 = .ok (.aload_n 0, 1) := by decide +kernel
theorem dX10_bear_55 : decode cX10_bear 55 = .ok (.getfield 63, 3) := by decide +kernel
theorem dX10_bear_58 : decode cX10_bear 58 = .ok (.iconst 1, 1) := by decide +kernel
theorem dX10_bear_59 : decode cX10_bear 59 = .ok (.iload_n 1, 1) := by decide +kernel
theorem dX10_bear_60 : decode cX10_bear 60 = .ok (.ishl, 1) := by decide +kernel
theorem dX10_bear_61 : decode cX10_bear 61 = .ok (.iastore, 1) := by decide +kernel
theorem dX10_bear_62 : decode cX10_bear 62 = .ok (.aload_n 0, 1) := by decide +kernel
theorem dX10_bear_63 : decode cX10_bear 63 = .ok (.getfield 21, 3) := by decide +kernel
theorem dX10_bear_66 : decode cX10_bear 66 = .ok (.aload_n 0, 1) := by decide +kernel
theorem dX10_bear_67 : decode cX10_bear 67 = .ok (.getfield 63, 3) := by decide +kernel
theorem dX10_bear_70 : decode cX10_bear 70 = .ok (.aload_n 0, 1) := by decide +kernel
theorem dX10_bear_71 : decode cX10_bear 71 = .ok (.getfield 18, 3) := by decide +kernel
theorem dX10_bear_74 : decode cX10_bear 74 = .ok (.iload_n 1, 1) := by decide +kernel
theorem dX10_bear_75 : decode cX10_bear 75 = .ok (.iaload, 1) := by decide +kernel
theorem dX10_bear_76 : decode cX10_bear 76 = .ok (.iastore, 1) := by decide +kernel
theorem dX10_bear_77 : decode cX10_bear 77 = .ok (.aload_n 0, 1) := by decide +kernel
theorem dX10_bear_78 : decode cX10_bear 78 = .ok (.dup, 1) := by decide +kernel
theorem dX10_bear_79 : decode cX10_bear 79 = .ok (.getfield 72, 3) := by decide +kernel
theorem dX10_bear_82 : decode cX10_bear 82 = .ok (.iconst 1, 1) := by decide +kernel
theorem dX10_bear_83 : decode cX10_bear 83 = .ok (.aload_n 0, 1) := by decide +kernel
theorem dX10_bear_84 : decode cX10_bear 84 = .ok (.getfield 63, 3) := by decide +kernel
theorem dX10_bear_87 : decode cX10_bear 87 = .ok (.ishl, 1) := by decide +kernel
theorem dX10_bear_88 : decode cX10_bear 88 = .ok (.ior, 1) := by decide +kernel
theorem dX10_bear_89 : decode cX10_bear 89 = .ok (.putfield 72, 3) := by decide +kernel
theorem dX10_bear_92 : decode cX10_bear 92 = .ok (.aload_n 0, 1) := by decide +kernel
theorem dX10_bear_93 : decode cX10_bear 93 = .ok (.dup, 1) := by decide +kernel
theorem dX10_bear_94 : decode cX10_bear 94 = .ok (.getfield 63, 3) := by decide +kernel
theorem dX10_bear_97 : decode cX10_bear 97 = .ok (.iconst 1, 1) := by decide +kernel
theorem dX10_bear_98 : decode cX10_bear 98 = .ok (.iadd, 1) := by decide +kernel
theorem dX10_bear_99 : decode cX10_bear 99 = .ok (.putfield 63, 3) := by decide +kernel
theorem dX10_bear_102 : decode cX10_bear 102 = .ok (.iconst 1, 1) := by decide +kernel
theorem dX10_bear_103 : decode cX10_bear 103 = .ok (.ireturn, 1) := by decide +kernel
theorem dX10_passYear_0 : decode cX10_passYear 0 = .ok (.aload_n 0, 1) := by decide +kernel
theorem dX10_passYear_1 : decode cX10_passYear 1 = .ok (.getfield 45, 3) := by decide +kernel
theorem dX10_passYear_4 : decode cX10_passYear 4 = .ok (.bipush 99, 2) := by decide +kernel
theorem dX10_passYear_6 : decode cX10_passYear 6 = .ok (.if_icmp .lt 5, 3) := by decide +kernel
theorem dX10_passYear_9 : decode cX10_passYear 9 = .ok (.iconst 0, 1) := by decide +kernel
theorem dX10_passYear_10 : decode cX10_passYear 10 = .ok (.ireturn, 1) := by decide +kernel
theorem dX10_passYear_11 : decode cX10_passYear 11 = .ok (.iconst 0, 1) := by decide +kernel
theorem dX10_passYear_12 : decode cX10_passYear 12 = .ok (.istore_n 1, 1) := by decide +kernel
theorem dX10_passYear_13 : decode cX10_passYear 13 = .ok (.iload_n 1, 1) := by decide +kernel
theorem dX10_passYear_14 : decode cX10_passYear 14 = .ok (.aload_n 0, 1) := by decide +kernel
theorem dX10_passYear_15 : decode cX10_passYear 15 = .ok (.getfield 63, 3) := by decide +kernel
theorem dX10_passYear_18 : decode cX10_passYear 18 = .ok (.if_icmp .ge 52, 3) := by decide +kernel
theorem dX10_passYear_21 : decode cX10_passYear 21 = .ok (.iload_n 1, 1) := by decide +kernel
theorem dX10_passYear_22 : decode cX10_passYear 22 = .ok (.bipush 10, 2) := by decide +kernel
theorem dX10_passYear_24 : decode cX10_passYear 24 = .ok (.if_icmp .ge 46, 3) := by decide +kernel
theorem dX10_passYear_27 : decode cX10_passYear 27 = .ok (.aload_n 0, 1) := by decide +kernel
theorem dX10_passYear_28 : decode cX10_passYear 28 = .ok (.iload_n 1, 1) := by decide +kernel
theorem dX10_passYear_29 : decode cX10_passYear 29 = .ok (.invokevirtual 159, 3) := by decide +kernel
theorem dX10_passYear_32 : decode cX10_passYear 32 = .ok (.ifCond .eq 11, 3) := by decide +kernel
theorem dX10_passYear_35 : decode cX10_passYear 35 = .ok (.aload_n 0, 1) := by decide +kernel
theorem dX10_passYear_36 : decode cX10_passYear 36 = .ok (.iload_n 1, 1) := by decide +kernel
theorem dX10_passYear_37 : decode cX10_passYear 37 = .ok (.invokevirtual 165, 3) := by decide +kernel
theorem dX10_passYear_40 : decode cX10_passYear 40 = .ok (.goto 4, 3) := by decide +kernel
theorem dX10_passYear_43 : decode cX10_passYear 43 = .ok (.iconst (-1), 1) := by decide +kernel
theorem dX10_passYear_44 : decode cX10_passYear 44 = .ok (.istore_n 2, 1) := by decide +kernel
theorem dX10_passYear_45 : decode cX10_passYear 45 = .ok (.aload_n 0, 1) := by decide +kernel
theorem dX10_passYear_46 : decode cX10_passYear 46 = .ok (.iload_n 2, 1) := by decide +kernel
theorem dX10_passYear_47 : decode cX10_passYear 47 = .ok (.invokevirtual 168, 3) := by decide +kernel
theorem dX10_passYear_50 : decode cX10_passYear 50 = .ok (.ifCond .eq 14, 3) := by decide +kernel
theorem dX10_passYear_53 : decode cX10_passYear 53 = .ok (.aload_n 0, 1) := by decide +kernel
theorem dX10_passYear_54 : decode cX10_passYear 54 = .ok (.aload_n 0, 1) := by decide +kernel
theorem dX10_passYear_55 : decode cX10_passYear 55 = .ok (.getfield 36, 3) := by decide +kernel
theorem dX10_passYear_58 : decode cX10_passYear 58 = .ok (.iload_n 2, 1) := by decide +kernel
theorem dX10_passYear_59 : decode cX10_passYear 59 = .ok (.iaload, 1) := by decide +kernel
theorem dX10_passYear_60 : decode cX10_passYear 60 = .ok (.iload_n 1, 1) := by decide +kernel
theorem dX10_passYear_61 : decode cX10_passYear 61 = .ok (.invokevirtual 171, 3) := by decide +kernel
theorem dX10_passYear_64 : decode cX10_passYear 64 = .ok (.iinc 1 1, 3) := by decide +kernel
theorem dX10_passYear_67 : decode cX10_passYear 67 = .ok (.goto (-54), 3) := by decide +kernel
theorem dX10_passYear_70 : decode cX10_passYear 70 = .ok (.iconst 0, 1) := by decide +kernel
theorem dX10_passYear_71 : decode cX10_passYear 71 = .ok (.istore_n 1, 1) := by decide +kernel
theorem dX10_passYear_72 : decode cX10_passYear 72 = .ok (.iload_n 1, 1) := by decide +kernel
theorem dX10_passYear_73 : decode cX10_passYear 73 = .ok (.aload_n 0, 1) := by decide +kernel
theorem dX10_passYear_74 : decode cX10_passYear 74 = .ok (.getfield 63, 3) := by decide +kernel
theorem dX10_passYear_77 : decode cX10_passYear 77 = .ok (.if_icmp .ge 44, 3) := by decide +kernel
theorem dX10_passYear_80 : decode cX10_passYear 80 = .ok (.iload_n 1, 1) := by decide +kernel
theorem dX10_passYear_81 : decode cX10_passYear 81 = .ok (.bipush 10, 2) := by decide +kernel
theorem dX10_passYear_83 : decode cX10_passYear 83 = .ok (.if_icmp .ge 38, 3) := by decide +kernel
theorem dX10_passYear_86 : decode cX10_passYear 86 = .ok (.aload_n 0, 1) := by decide +kernel
theorem dX10_passYear_87 : decode cX10_passYear 87 = .ok (.iload_n 1, 1) := by decide +kernel
theorem dX10_passYear_88 : decode cX10_passYear 88 = .ok (.invokevirtual 159, 3) := by decide +kernel
theorem dX10_passYear_91 : decode cX10_passYear 91 = .ok (.ifCond .eq 24, 3) := by decide +kernel
theorem dX10_passYear_94 : decode cX10_passYear 94 = .ok (.aload_n 0, 1) := by decide +kernel
theorem dX10_passYear_95 : decode cX10_passYear 95 = .ok (.getfield 9, 3) := by decide +kernel
theorem dX10_passYear_98 : decode cX10_passYear 98 = .ok (.iload_n 1, 1) := by decide +kernel
theorem dX10_passYear_99 : decode cX10_passYear 99 = .ok (.iaload, 1) := by decide +kernel
theorem dX10_passYear_100 : decode cX10_passYear 100 = .ok (.bipush 99, 2) := by decide +kernel
theorem dX10_passYear_102 : decode cX10_passYear 102 = .ok (.if_icmp .ge 13, 3) := by decide +kernel
theorem dX10_passYear_105 : decode cX10_passYear 105 = .ok (.aload_n 0, 1) := by decide +kernel
theorem dX10_passYear_106 : decode cX10_passYear 106 = .ok (.getfield 9, 3) := by decide +kernel
theorem dX10_passYear_109 : decode cX10_passYear 109 = .ok (.iload_n 1, 1) := by decide +kernel
theorem dX10_passYear_110 : decode cX10_passYear 110 = .ok (.dup2, 1) := by decide +kernel
theorem dX10_passYear_111 : decode cX10_passYear 111 = .ok (.iaload, 1) := by decide +kernel
theorem dX10_passYear_112 : decode cX10_passYear 112 = .ok (.iconst 1, 1) := by decide +kernel
theorem dX10_passYear_113 : decode cX10_passYear 113 = .ok (.iadd, 1) := by decide +kernel
theorem dX10_passYear_114 : decode cX10_passYear 114 = .ok (.iastore, 1) := by decide +kernel
theorem dX10_passYear_115 : decode cX10_passYear 115 = .ok (.iinc 1 1, 3) := by decide +kernel
theorem dX10_passYear_118 : decode cX10_passYear 118 = .ok (.goto (-46), 3) := by decide +kernel
theorem dX10_passYear_121 : decode cX10_passYear 121 = .ok (.aload_n 0, 1) := by decide +kernel
theorem dX10_passYear_122 : decode cX10_passYear 122 = .ok (.dup, 1) := by decide +kernel
theorem dX10_passYear_123 : decode cX10_passYear 123 = .ok (.getfield 45, 3) := by decide +kernel
theorem dX10_passYear_126 : decode cX10_passYear 126 = .ok (.iconst 1, 1) := by decide +kernel
theorem dX10_passYear_127 : decode cX10_passYear 127 = .ok (.iadd, 1) := by decide +kernel
theorem dX10_passYear_128 : decode cX10_passYear 128 = .ok (.putfield 45, 3) := by decide +kernel
theorem dX10_passYear_131 : decode cX10_passYear 131 = .ok (.aload_n 0, 1) := by decide +kernel
theorem dX10_passYear_132 : decode cX10_passYear 132 = .ok (.iconst 0, 1) := by decide +kernel
theorem dX10_passYear_133 : decode cX10_passYear 133 = .ok (.putfield 75, 3) := by decide +kernel
theorem dX10_passYear_136 : decode cX10_passYear 136 = .ok (.iconst 0, 1) := by decide +kernel
theorem dX10_passYear_137 : decode cX10_passYear 137 = .ok (.istore_n 1, 1) := by decide +kernel
theorem dX10_passYear_138 : decode cX10_passYear 138 = .ok (.iload_n 1, 1) := by decide +kernel
theorem dX10_passYear_139 : decode cX10_passYear 139 = .ok (.aload_n 0, 1) := by decide +kernel
theorem dX10_passYear_140 : decode cX10_passYear 140 = .ok (.getfield 78, 3) := by decide +kernel
theorem dX10_passYear_143 : decode cX10_passYear 143 = .ok (.if_icmp .ge 35, 3) := by decide +kernel
theorem dX10_passYear_146 : decode cX10_passYear 146 = .ok (.iload_n 1, 1) := by decide +kernel
theorem dX10_passYear_147 : decode cX10_passYear 147 = .ok (.bipush 12, 2) := by decide +kernel
theorem dX10_passYear_149 : decode cX10_passYear 149 = .ok (.if_icmp .ge 29, 3) := by decide +kernel
theorem dX10_passYear_152 : decode cX10_passYear 152 = .ok (.aload_n 0, 1) := by decide +kernel
theorem dX10_passYear_153 : decode cX10_passYear 153 = .ok (.getfield 42, 3) := by decide +kernel
theorem dX10_passYear_156 : decode cX10_passYear 156 = .ok (.iload_n 1, 1) := by decide +kernel
theorem dX10_passYear_157 : decode cX10_passYear 157 = .ok (.iaload, 1) := by decide +kernel
theorem dX10_passYear_158 : decode cX10_passYear 158 = .ok (.ifCond .ne 14, 3) := by decide +kernel
theorem dX10_passYear_161 : decode cX10_passYear 161 = .ok (.aload_n 0, 1) := by decide +kernel
theorem dX10_passYear_162 : decode cX10_passYear 162 = .ok (.getfield 42, 3) := by decide +kernel
theorem dX10_passYear_165 : decode cX10_passYear 165 = .ok (.iload_n 1, 1) := by decide +kernel
theorem dX10_passYear_166 : decode cX10_passYear 166 = .ok (.aload_n 0, 1) := by decide +kernel
theorem dX10_passYear_167 : decode cX10_passYear 167 = .ok (.iload_n 1, 1) := by decide +kernel
theorem dX10_passYear_168 : decode cX10_passYear 168 = .ok (.invokevirtual 175, 3) := by decide +kernel
theorem dX10_passYear_171 : decode cX10_passYear 171 = .ok (.iastore, 1) := by decide +kernel
theorem dX10_passYear_172 : decode cX10_passYear 172 = .ok (.iinc 1 1, 3) := by decide +kernel
theorem dX10_passYear_175 : decode cX10_passYear 175 = .ok (.goto (-37), 3) := by decide +kernel
theorem dX10_passYear_178 : decode cX10_passYear 178 = .ok (.iconst 1, 1) := by decide +kernel
theorem dX10_passYear_179 : decode cX10_passYear 179 = .ok (.ireturn, 1) := by decide +kernel
theorem dX10_owes_0 : decode cX10_owes 0 = .ok (.iload_n 2, 1) := by decide +kernel
theorem dX10_owes_1 : decode cX10_owes 1 = .ok (.ifCond .lt 18, 3) := by decide +kernel
theorem dX10_owes_4 : decode cX10_owes 4 = .ok (.iload_n 2, 1) := by decide +kernel
theorem dX10_owes_5 : decode cX10_owes 5 = .ok (.bipush 12, 2) := by decide +kernel
theorem dX10_owes_7 : decode cX10_owes 7 = .ok (.if_icmp .ge 12, 3) := by decide +kernel
theorem dX10_owes_10 : decode cX10_owes 10 = .ok (.aload_n 0, 1) := by decide +kernel
theorem dX10_owes_11 : decode cX10_owes 11 = .ok (.getfield 42, 3) := by decide +kernel
theorem dX10_owes_14 : decode cX10_owes 14 = .ok (.iload_n 2, 1) := by decide +kernel
theorem dX10_owes_15 : decode cX10_owes 15 = .ok (.iaload, 1) := by decide +kernel
theorem dX10_owes_16 : decode cX10_owes 16 = .ok (.ifCond .eq 5, 3) := by decide +kernel
theorem dX10_owes_19 : decode cX10_owes 19 = .ok (.iconst 0, 1) := by decide +kernel
theorem dX10_owes_20 : decode cX10_owes 20 = .ok (.ireturn, 1) := by decide +kernel
theorem dX10_owes_21 : decode cX10_owes 21 = .ok (.aload_n 0, 1) := by decide +kernel
theorem dX10_owes_22 : decode cX10_owes 22 = .ok (.getfield 33, 3) := by decide +kernel
theorem dX10_owes_25 : decode cX10_owes 25 = .ok (.iload_n 2, 1) := by decide +kernel
theorem dX10_owes_26 : decode cX10_owes 26 = .ok (.iaload, 1) := by decide +kernel
theorem dX10_owes_27 : decode cX10_owes 27 = .ok (.istore_n 3, 1) := by decide +kernel
theorem dX10_owes_28 : decode cX10_owes 28 = .ok (.iload_n 3, 1) := by decide +kernel
theorem dX10_owes_29 : decode cX10_owes 29 = .ok (.ifCond .lt 26, 3) := by decide +kernel
theorem dX10_owes_32 : decode cX10_owes 32 = .ok (.iload_n 3, 1) := by decide +kernel
theorem dX10_owes_33 : decode cX10_owes 33 = .ok (.bipush 10, 2) := by decide +kernel
theorem dX10_owes_35 : decode cX10_owes 35 = .ok (.if_icmp .ge 20, 3) := by decide +kernel
theorem dX10_owes_38 : decode cX10_owes 38 = .ok (.aload_n 0, 1) := by decide +kernel
theorem dX10_owes_39 : decode cX10_owes 39 = .ok (.getfield 21, 3) := by decide +kernel
theorem dX10_owes_42 : decode cX10_owes 42 = .ok (.iload_n 3, 1) := by decide +kernel
theorem dX10_owes_43 : decode cX10_owes 43 = .ok (.iaload, 1) := by decide +kernel
theorem dX10_owes_44 : decode cX10_owes 44 = .ok (.iload_n 1, 1) := by decide +kernel
theorem dX10_owes_45 : decode cX10_owes 45 = .ok (.ishr, 1) := by decide +kernel
theorem dX10_owes_46 : decode cX10_owes 46 = .ok (.iconst 1, 1) := by decide +kernel
theorem dX10_owes_47 : decode cX10_owes 47 = .ok (.iand, 1) := by decide +kernel
theorem dX10_owes_48 : decode cX10_owes 48 = .ok (.ifCond .eq 7, 3) := by decide +kernel
theorem dX10_owes_51 : decode cX10_owes 51 = .ok (.iconst 1, 1) := by decide +kernel
theorem dX10_owes_52 : decode cX10_owes 52 = .ok (.goto 4, 3) := by decide +kernel
theorem dX10_owes_55 : decode cX10_owes 55 = .ok (.iconst 0, 1) := by decide +kernel
theorem dX10_owes_56 : decode cX10_owes 56 = .ok (.ireturn, 1) := by decide +kernel
theorem dX10_firstDue_0 : decode cX10_firstDue 0 = .ok (.iconst (-1), 1) := by decide +kernel
theorem dX10_firstDue_1 : decode cX10_firstDue 1 = .ok (.istore_n 2, 1) := by decide +kernel
theorem dX10_firstDue_2 : decode cX10_firstDue 2 = .ok (.iconst 0, 1) := by decide +kernel
theorem dX10_firstDue_3 : decode cX10_firstDue 3 = .ok (.istore_n 3, 1) := by decide +kernel
theorem dX10_firstDue_4 : decode cX10_firstDue 4 = .ok (.iconst 0, 1) := by decide +kernel
theorem dX10_firstDue_5 : decode cX10_firstDue 5 = .ok (.istore 4, 2) := by decide +kernel
theorem dX10_firstDue_7 : decode cX10_firstDue 7 = .ok (.iload 4, 2) := by decide +kernel
theorem dX10_firstDue_9 : decode cX10_firstDue 9 = .ok (.aload_n 0, 1) := by decide +kernel
theorem dX10_firstDue_10 : decode cX10_firstDue 10 = .ok (.getfield 78, 3) := by decide +kernel
theorem dX10_firstDue_13 : decode cX10_firstDue 13 = .ok (.if_icmp .ge 53, 3) := by decide +kernel
theorem dX10_firstDue_16 : decode cX10_firstDue 16 = .ok (.iload 4, 2) := by decide +kernel
theorem dX10_firstDue_18 : decode cX10_firstDue 18 = .ok (.bipush 12, 2) := by decide +kernel
theorem dX10_firstDue_20 : decode cX10_firstDue 20 = .ok (.if_icmp .ge 46, 3) := by decide +kernel
theorem dX10_firstDue_23 : decode cX10_firstDue 23 = .ok (.aload_n 0, 1) := by decide +kernel
theorem dX10_firstDue_24 : decode cX10_firstDue 24 = .ok (.iload_n 1, 1) := by decide +kernel
theorem dX10_firstDue_25 : decode cX10_firstDue 25 = .ok (.iload 4, 2) := by decide +kernel
theorem dX10_firstDue_27 : decode cX10_firstDue 27 = .ok (.invokevirtual 178, 3) := by decide +kernel
theorem dX10_firstDue_30 : decode cX10_firstDue 30 = .ok (.ifCond .eq 30, 3) := by decide +kernel
theorem dX10_firstDue_33 : decode cX10_firstDue 33 = .ok (.iload_n 2, 1) := by decide +kernel
theorem dX10_firstDue_34 : decode cX10_firstDue 34 = .ok (.iconst (-1), 1) := by decide +kernel
theorem dX10_firstDue_35 : decode cX10_firstDue 35 = .ok (.if_icmp .eq 14, 3) := by decide +kernel
theorem dX10_firstDue_38 : decode cX10_firstDue 38 = .ok (.aload_n 0, 1) := by decide +kernel
theorem dX10_firstDue_39 : decode cX10_firstDue 39 = .ok (.getfield 39, 3) := by decide +kernel
theorem dX10_firstDue_42 : decode cX10_firstDue 42 = .ok (.iload 4, 2) := by decide +kernel
theorem dX10_firstDue_44 : decode cX10_firstDue 44 = .ok (.iaload, 1) := by decide +kernel
theorem dX10_firstDue_45 : decode cX10_firstDue 45 = .ok (.iload_n 3, 1) := by decide +kernel
theorem dX10_firstDue_46 : decode cX10_firstDue 46 = .ok (.if_icmp .ge 14, 3) := by decide +kernel
theorem dX10_firstDue_49 : decode cX10_firstDue 49 = .ok (.iload 4, 2) := by decide +kernel
theorem dX10_firstDue_51 : decode cX10_firstDue 51 = .ok (.istore_n 2, 1) := by decide +kernel
theorem dX10_firstDue_52 : decode cX10_firstDue 52 = .ok (.aload_n 0, 1) := by decide +kernel
theorem dX10_firstDue_53 : decode cX10_firstDue 53 = .ok (.getfield 39, 3) := by decide +kernel
theorem dX10_firstDue_56 : decode cX10_firstDue 56 = .ok (.iload 4, 2) := by decide +kernel
theorem dX10_firstDue_58 : decode cX10_firstDue 58 = .ok (.iaload, 1) := by decide +kernel
theorem dX10_firstDue_59 : decode cX10_firstDue 59 = .ok (.istore_n 3, 1) := by decide +kernel
theorem dX10_firstDue_60 : decode cX10_firstDue 60 = .ok (.iinc 4 1, 3) := by decide +kernel
theorem dX10_firstDue_63 : decode cX10_firstDue 63 = .ok (.goto (-56), 3) := by decide +kernel
theorem dX10_firstDue_66 : decode cX10_firstDue 66 = .ok (.iload_n 2, 1) := by decide +kernel
theorem dX10_firstDue_67 : decode cX10_firstDue 67 = .ok (.ireturn, 1) := by decide +kernel
theorem dX10_digAt_0 : decode cX10_digAt 0 = .ok (.aload_n 0, 1) := by decide +kernel
theorem dX10_digAt_1 : decode cX10_digAt 1 = .ok (.iload_n 1, 1) := by decide +kernel
theorem dX10_digAt_2 : decode cX10_digAt 2 = .ok (.invokevirtual 156, 3) := by decide +kernel
theorem dX10_digAt_5 : decode cX10_digAt 5 = .ok (.ifCond .eq 11, 3) := by decide +kernel
theorem dX10_digAt_8 : decode cX10_digAt 8 = .ok (.aload_n 0, 1) := by decide +kernel
theorem dX10_digAt_9 : decode cX10_digAt 9 = .ok (.iload_n 2, 1) := by decide +kernel
theorem dX10_digAt_10 : decode cX10_digAt 10 = .ok (.invokevirtual 153, 3) := by decide +kernel
theorem dX10_digAt_13 : decode cX10_digAt 13 = .ok (.ifCond .ne 4, 3) := by decide +kernel
theorem dX10_digAt_16 : decode cX10_digAt 16 = .ok (.return_, 1) := by decide +kernel
theorem dX10_digAt_17 : decode cX10_digAt 17 = .ok (.aload_n 0, 1) := by decide +kernel
theorem dX10_digAt_18 : decode cX10_digAt 18 = .ok (.getfield 15, 3) := by decide +kernel
theorem dX10_digAt_21 : decode cX10_digAt 21 = .ok (.iload_n 2, 1) := by decide +kernel
theorem dX10_digAt_22 : decode cX10_digAt 22 = .ok (.iaload, 1) := by decide +kernel
theorem dX10_digAt_23 : decode cX10_digAt 23 = .ok (.aload_n 0, 1) := by decide +kernel
theorem dX10_digAt_24 : decode cX10_digAt 24 = .ok (.getfield 27, 3) := by decide +kernel
theorem dX10_digAt_27 : decode cX10_digAt 27 = .ok (.iload_n 1, 1) := by decide +kernel
theorem dX10_digAt_28 : decode cX10_digAt 28 = .ok (.iaload, 1) := by decide +kernel
theorem dX10_digAt_29 : decode cX10_digAt 29 = .ok (.aload_n 0, 1) := by decide +kernel
theorem dX10_digAt_30 : decode cX10_digAt 30 = .ok (.getfield 30, 3) := by decide +kernel
theorem dX10_digAt_33 : decode cX10_digAt 33 = .ok (.iload_n 1, 1) := by decide +kernel
theorem dX10_digAt_34 : decode cX10_digAt 34 = .ok (.iaload, 1) := by decide +kernel
theorem dX10_digAt_35 : decode cX10_digAt 35 = .ok (.isub, 1) := by decide +kernel
theorem dX10_digAt_36 : decode cX10_digAt 36 = .ok (.invokestatic 54, 3) := by decide +kernel
theorem dX10_digAt_39 : decode cX10_digAt 39 = .ok (.istore_n 3, 1) := by decide +kernel
theorem dX10_digAt_40 : decode cX10_digAt 40 = .ok (.aload_n 0, 1) := by decide +kernel
theorem dX10_digAt_41 : decode cX10_digAt 41 = .ok (.getfield 30, 3) := by decide +kernel
theorem dX10_digAt_44 : decode cX10_digAt 44 = .ok (.iload_n 1, 1) := by decide +kernel
theorem dX10_digAt_45 : decode cX10_digAt 45 = .ok (.dup2, 1) := by decide +kernel
theorem dX10_digAt_46 : decode cX10_digAt 46 = .ok (.iaload, 1) := by decide +kernel
theorem dX10_digAt_47 : decode cX10_digAt 47 = .ok (.iload_n 3, 1) := by decide +kernel
theorem dX10_digAt_48 : decode cX10_digAt 48 = .ok (.iadd, 1) := by decide +kernel
theorem dX10_digAt_49 : decode cX10_digAt 49 = .ok (.iastore, 1) := by decide +kernel
theorem dX10_digAt_50 : decode cX10_digAt 50 = .ok (.aload_n 0, 1) := by decide +kernel
theorem dX10_digAt_51 : decode cX10_digAt 51 = .ok (.getfield 24, 3) := by decide +kernel
theorem dX10_digAt_54 : decode cX10_digAt 54 = .ok (.iload_n 2, 1) := by decide +kernel
theorem dX10_digAt_55 : decode cX10_digAt 55 = .ok (.dup2, 1) := by decide +kernel
theorem dX10_digAt_56 : decode cX10_digAt 56 = .ok (.iaload, 1) := by decide +kernel
theorem dX10_digAt_57 : decode cX10_digAt 57 = .ok (.iload_n 3, 1) := by decide +kernel
theorem dX10_digAt_58 : decode cX10_digAt 58 = .ok (.iadd, 1) := by decide +kernel
theorem dX10_digAt_59 : decode cX10_digAt 59 = .ok (.iastore, 1) := by decide +kernel
theorem dX10_digAt_60 : decode cX10_digAt 60 = .ok (.aload_n 0, 1) := by decide +kernel
theorem dX10_digAt_61 : decode cX10_digAt 61 = .ok (.getfield 30, 3) := by decide +kernel
theorem dX10_digAt_64 : decode cX10_digAt 64 = .ok (.iload_n 1, 1) := by decide +kernel
theorem dX10_digAt_65 : decode cX10_digAt 65 = .ok (.iaload, 1) := by decide +kernel
theorem dX10_digAt_66 : decode cX10_digAt 66 = .ok (.aload_n 0, 1) := by decide +kernel
theorem dX10_digAt_67 : decode cX10_digAt 67 = .ok (.getfield 27, 3) := by decide +kernel
theorem dX10_digAt_70 : decode cX10_digAt 70 = .ok (.iload_n 1, 1) := by decide +kernel
theorem dX10_digAt_71 : decode cX10_digAt 71 = .ok (.iaload, 1) := by decide +kernel
theorem dX10_digAt_72 : decode cX10_digAt 72 = .ok (.if_icmp .ge 4, 3) := by decide +kernel
theorem dX10_digAt_75 : decode cX10_digAt 75 = .ok (.return_, 1) := by decide +kernel
theorem dX10_digAt_76 : decode cX10_digAt 76 = .ok (.iconst 0, 1) := by decide +kernel
theorem dX10_digAt_77 : decode cX10_digAt 77 = .ok (.istore 4, 2) := by decide +kernel
theorem dX10_digAt_79 : decode cX10_digAt 79 = .ok (.iload 4, 2) := by decide +kernel
theorem dX10_digAt_81 : decode cX10_digAt 81 = .ok (.aload_n 0, 1) := by decide +kernel
theorem dX10_digAt_82 : decode cX10_digAt 82 = .ok (.getfield 78, 3) := by decide +kernel
theorem dX10_digAt_85 : decode cX10_digAt 85 = .ok (.if_icmp .ge 45, 3) := by decide +kernel
theorem dX10_digAt_88 : decode cX10_digAt 88 = .ok (.iload 4, 2) := by decide +kernel
theorem dX10_digAt_90 : decode cX10_digAt 90 = .ok (.bipush 12, 2) := by decide +kernel
theorem dX10_digAt_92 : decode cX10_digAt 92 = .ok (.if_icmp .ge 38, 3) := by decide +kernel
theorem dX10_digAt_95 : decode cX10_digAt 95 = .ok (.aload_n 0, 1) := by decide +kernel
theorem dX10_digAt_96 : decode cX10_digAt 96 = .ok (.getfield 42, 3) := by decide +kernel
theorem dX10_digAt_99 : decode cX10_digAt 99 = .ok (.iload 4, 2) := by decide +kernel
theorem dX10_digAt_101 : decode cX10_digAt 101 = .ok (.iaload, 1) := by decide +kernel
theorem dX10_digAt_102 : decode cX10_digAt 102 = .ok (.ifCond .ne 22, 3) := by decide +kernel
theorem dX10_digAt_105 : decode cX10_digAt 105 = .ok (.aload_n 0, 1) := by decide +kernel
theorem dX10_digAt_106 : decode cX10_digAt 106 = .ok (.getfield 36, 3) := by decide +kernel
theorem dX10_digAt_109 : decode cX10_digAt 109 = .ok (.iload 4, 2) := by decide +kernel
theorem dX10_digAt_111 : decode cX10_digAt 111 = .ok (.iaload, 1) := by decide +kernel
theorem dX10_digAt_112 : decode cX10_digAt 112 = .ok (.iload_n 1, 1) := by decide +kernel
theorem dX10_digAt_113 : decode cX10_digAt 113 = .ok (.if_icmp .ne 11, 3) := by decide +kernel
theorem dX10_digAt_116 : decode cX10_digAt 116 = .ok (.aload_n 0, 1) := by decide +kernel
theorem dX10_digAt_117 : decode cX10_digAt 117 = .ok (.getfield 42, 3) := by decide +kernel
theorem dX10_digAt_120 : decode cX10_digAt 120 = .ok (.iload 4, 2) := by decide +kernel
theorem dX10_digAt_122 : decode cX10_digAt 122 = .ok (.iconst 1, 1) := by decide +kernel
theorem dX10_digAt_123 : decode cX10_digAt 123 = .ok (.iastore, 1) := by decide +kernel
theorem dX10_digAt_124 : decode cX10_digAt 124 = .ok (.iinc 4 1, 3) := by decide +kernel
theorem dX10_digAt_127 : decode cX10_digAt 127 = .ok (.goto (-48), 3) := by decide +kernel
theorem dX10_digAt_130 : decode cX10_digAt 130 = .ok (.return_, 1) := by decide +kernel
theorem dX10_fateInNewYear_0 : decode cX10_fateInNewYear 0 = .ok (.aload_n 0, 1) := by decide +kernel
theorem dX10_fateInNewYear_1 : decode cX10_fateInNewYear 1 = .ok (.iload_n 1, 1) := by decide +kernel
theorem dX10_fateInNewYear_2 : decode cX10_fateInNewYear 2 = .ok (.invokevirtual 168, 3) := by decide +kernel
theorem dX10_fateInNewYear_5 : decode cX10_fateInNewYear 5 = .ok (.ifCond .ne 5, 3) := by decide +kernel
theorem dX10_fateInNewYear_8 : decode cX10_fateInNewYear 8 = .ok (.iconst 0, 1) := by decide +kernel
theorem dX10_fateInNewYear_9 : decode cX10_fateInNewYear 9 = .ok (.ireturn, 1) := by decide +kernel
theorem dX10_fateInNewYear_10 : decode cX10_fateInNewYear 10 = .ok (.aload_n 0, 1) := by decide +kernel
theorem dX10_fateInNewYear_11 : decode cX10_fateInNewYear 11 = .ok (.getfield 33, 3) := by decide +kernel
theorem dX10_fateInNewYear_14 : decode cX10_fateInNewYear 14 = .ok (.iload_n 1, 1) := by decide +kernel
theorem dX10_fateInNewYear_15 : decode cX10_fateInNewYear 15 = .ok (.iaload, 1) := by decide +kernel
theorem dX10_fateInNewYear_16 : decode cX10_fateInNewYear 16 = .ok (.istore_n 2, 1) := by decide +kernel
theorem dX10_fateInNewYear_17 : decode cX10_fateInNewYear 17 = .ok (.aload_n 0, 1) := by decide +kernel
theorem dX10_fateInNewYear_18 : decode cX10_fateInNewYear 18 = .ok (.getfield 36, 3) := by decide +kernel
theorem dX10_fateInNewYear_21 : decode cX10_fateInNewYear 21 = .ok (.iload_n 1, 1) := by decide +kernel
theorem dX10_fateInNewYear_22 : decode cX10_fateInNewYear 22 = .ok (.iaload, 1) := by decide +kernel
theorem dX10_fateInNewYear_23 : decode cX10_fateInNewYear 23 = .ok (.istore_n 3, 1) := by decide +kernel
theorem dX10_fateInNewYear_24 : decode cX10_fateInNewYear 24 = .ok (.aload_n 0, 1) := by decide +kernel
theorem dX10_fateInNewYear_25 : decode cX10_fateInNewYear 25 = .ok (.iload_n 2, 1) := by decide +kernel
theorem dX10_fateInNewYear_26 : decode cX10_fateInNewYear 26 = .ok (.invokevirtual 153, 3) := by decide +kernel
theorem dX10_fateInNewYear_29 : decode cX10_fateInNewYear 29 = .ok (.ifCond .eq 18, 3) := by decide +kernel
theorem dX10_fateInNewYear_32 : decode cX10_fateInNewYear 32 = .ok (.aload_n 0, 1) := by decide +kernel
theorem dX10_fateInNewYear_33 : decode cX10_fateInNewYear 33 = .ok (.getfield 9, 3) := by decide +kernel
theorem dX10_fateInNewYear_36 : decode cX10_fateInNewYear 36 = .ok (.iload_n 2, 1) := by decide +kernel
theorem dX10_fateInNewYear_37 : decode cX10_fateInNewYear 37 = .ok (.iaload, 1) := by decide +kernel
theorem dX10_fateInNewYear_38 : decode cX10_fateInNewYear 38 = .ok (.bipush 10, 2) := by decide +kernel
theorem dX10_fateInNewYear_40 : decode cX10_fateInNewYear 40 = .ok (.if_icmp .lt 7, 3) := by decide +kernel
theorem dX10_fateInNewYear_43 : decode cX10_fateInNewYear 43 = .ok (.iconst 1, 1) := by decide +kernel
theorem dX10_fateInNewYear_44 : decode cX10_fateInNewYear 44 = .ok (.goto 4, 3) := by decide +kernel
theorem dX10_fateInNewYear_47 : decode cX10_fateInNewYear 47 = .ok (.iconst 0, 1) := by decide +kernel
theorem dX10_fateInNewYear_48 : decode cX10_fateInNewYear 48 = .ok (.istore 4, 2) := by decide +kernel
theorem dX10_fateInNewYear_50 : decode cX10_fateInNewYear 50 = .ok (.aload_n 0, 1) := by decide +kernel
theorem dX10_fateInNewYear_51 : decode cX10_fateInNewYear 51 = .ok (.iload_n 3, 1) := by decide +kernel
theorem dX10_fateInNewYear_52 : decode cX10_fateInNewYear 52 = .ok (.invokevirtual 156, 3) := by decide +kernel
theorem dX10_fateInNewYear_55 : decode cX10_fateInNewYear 55 = .ok (.ifCond .eq 20, 3) := by decide +kernel
theorem dX10_fateInNewYear_58 : decode cX10_fateInNewYear 58 = .ok (.aload_n 0, 1) := by decide +kernel
theorem dX10_fateInNewYear_59 : decode cX10_fateInNewYear 59 = .ok (.getfield 27, 3) := by decide +kernel
theorem dX10_fateInNewYear_62 : decode cX10_fateInNewYear 62 = .ok (.iload_n 3, 1) := by decide +kernel
theorem dX10_fateInNewYear_63 : decode cX10_fateInNewYear 63 = .ok (.iaload, 1) := by decide +kernel
theorem dX10_fateInNewYear_64 : decode cX10_fateInNewYear 64 = .ok (.aload_n 0, 1) := by decide +kernel
theorem dX10_fateInNewYear_65 : decode cX10_fateInNewYear 65 = .ok (.getfield 71, 3) := by decide +kernel
theorem dX10_fateInNewYear_68 : decode cX10_fateInNewYear 68 = .ok (.if_icmp .lt 7, 3) := by decide +kernel
theorem dX10_fateInNewYear_71 : decode cX10_fateInNewYear 71 = .ok (.iconst 1, 1) := by decide +kernel
theorem dX10_fateInNewYear_72 : decode cX10_fateInNewYear 72 = .ok (.goto 4, 3) := by decide +kernel
theorem dX10_fateInNewYear_75 : decode cX10_fateInNewYear 75 = .ok (.iconst 0, 1) := by decide +kernel
theorem dX10_fateInNewYear_76 : decode cX10_fateInNewYear 76 = .ok (.istore 5, 2) := by decide +kernel
theorem dX10_fateInNewYear_78 : decode cX10_fateInNewYear 78 = .ok (.iload 4, 2) := by decide +kernel
theorem dX10_fateInNewYear_80 : decode cX10_fateInNewYear 80 = .ok (.ifCond .eq 10, 3) := by decide +kernel
theorem dX10_fateInNewYear_83 : decode cX10_fateInNewYear 83 = .ok (.iload 5, 2) := by decide +kernel
theorem dX10_fateInNewYear_85 : decode cX10_fateInNewYear 85 = .ok (.ifCond .ne 5, 3) := by decide +kernel
theorem dX10_fateInNewYear_88 : decode cX10_fateInNewYear 88 = .ok (.iconst 2, 1) := by decide +kernel
theorem dX10_fateInNewYear_89 : decode cX10_fateInNewYear 89 = .ok (.ireturn, 1) := by decide +kernel
theorem dX10_fateInNewYear_90 : decode cX10_fateInNewYear 90 = .ok (.aload_n 0, 1) := by decide +kernel
theorem dX10_fateInNewYear_91 : decode cX10_fateInNewYear 91 = .ok (.getfield 39, 3) := by decide +kernel
theorem dX10_fateInNewYear_94 : decode cX10_fateInNewYear 94 = .ok (.iload_n 1, 1) := by decide +kernel
theorem dX10_fateInNewYear_95 : decode cX10_fateInNewYear 95 = .ok (.iaload, 1) := by decide +kernel
theorem dX10_fateInNewYear_96 : decode cX10_fateInNewYear 96 = .ok (.aload_n 0, 1) := by decide +kernel
theorem dX10_fateInNewYear_97 : decode cX10_fateInNewYear 97 = .ok (.getfield 45, 3) := by decide +kernel
theorem dX10_fateInNewYear_100 : decode cX10_fateInNewYear 100 = .ok (.if_icmp .gt 7, 3) := by decide +kernel
theorem dX10_fateInNewYear_103 : decode cX10_fateInNewYear 103 = .ok (.iconst 3, 1) := by decide +kernel
theorem dX10_fateInNewYear_104 : decode cX10_fateInNewYear 104 = .ok (.goto 4, 3) := by decide +kernel
theorem dX10_fateInNewYear_107 : decode cX10_fateInNewYear 107 = .ok (.iconst 0, 1) := by decide +kernel
theorem dX10_fateInNewYear_108 : decode cX10_fateInNewYear 108 = .ok (.ireturn, 1) := by decide +kernel
theorem dX10_look_0 : decode cX10_look 0 = .ok (.iload_n 1, 1) := by decide +kernel
theorem dX10_look_1 : decode cX10_look 1 = .ok (.tableswitch 69 0 5 #[39, 44, 49, 54, 59, 64], 39) := by decide +kernel
theorem dX10_look_40 : decode cX10_look 40 = .ok (.aload_n 0, 1) := by decide +kernel
theorem dX10_look_41 : decode cX10_look 41 = .ok (.getfield 45, 3) := by decide +kernel
theorem dX10_look_44 : decode cX10_look 44 = .ok (.ireturn, 1) := by decide +kernel
theorem dX10_look_45 : decode cX10_look 45 = .ok (.aload_n 0, 1) := by decide +kernel
theorem dX10_look_46 : decode cX10_look 46 = .ok (.getfield 63, 3) := by decide +kernel
theorem dX10_look_49 : decode cX10_look 49 = .ok (.ireturn, 1) := by decide +kernel
theorem dX10_look_50 : decode cX10_look 50 = .ok (.aload_n 0, 1) := by decide +kernel
theorem dX10_look_51 : decode cX10_look 51 = .ok (.getfield 72, 3) := by decide +kernel
theorem dX10_look_54 : decode cX10_look 54 = .ok (.ireturn, 1) := by decide +kernel
theorem dX10_look_55 : decode cX10_look 55 = .ok (.aload_n 0, 1) := by decide +kernel
theorem dX10_look_56 : decode cX10_look 56 = .ok (.getfield 75, 3) := by decide +kernel
theorem dX10_look_59 : decode cX10_look 59 = .ok (.ireturn, 1) := by decide +kernel
theorem dX10_look_60 : decode cX10_look 60 = .ok (.aload_n 0, 1) := by decide +kernel
theorem dX10_look_61 : decode cX10_look 61 = .ok (.getfield 78, 3) := by decide +kernel
theorem dX10_look_64 : decode cX10_look 64 = .ok (.ireturn, 1) := by decide +kernel
theorem dX10_look_65 : decode cX10_look 65 = .ok (.aload_n 0, 1) := by decide +kernel
theorem dX10_look_66 : decode cX10_look 66 = .ok (.invokevirtual 181, 3) := by decide +kernel
theorem dX10_look_69 : decode cX10_look 69 = .ok (.ireturn, 1) := by decide +kernel
theorem dX10_look_70 : decode cX10_look 70 = .ok (.aload_n 0, 1) := by decide +kernel
theorem dX10_look_71 : decode cX10_look 71 = .ok (.iload_n 1, 1) := by decide +kernel
theorem dX10_look_72 : decode cX10_look 72 = .ok (.invokevirtual 185, 3) := by decide +kernel
theorem dX10_look_75 : decode cX10_look 75 = .ok (.ireturn, 1) := by decide +kernel
theorem dX10_lookAtOne_0 : decode cX10_lookAtOne 0 = .ok (.aload_n 0, 1) := by decide +kernel
theorem dX10_lookAtOne_1 : decode cX10_lookAtOne 1 = .ok (.iload_n 1, 1) := by decide +kernel
theorem dX10_lookAtOne_2 : decode cX10_lookAtOne 2 = .ok (.bipush 10, 2) := by decide +kernel
theorem dX10_lookAtOne_4 : decode cX10_lookAtOne 4 = .ok (.isub, 1) := by decide +kernel
theorem dX10_lookAtOne_5 : decode cX10_lookAtOne 5 = .ok (.invokevirtual 153, 3) := by decide +kernel
theorem dX10_lookAtOne_8 : decode cX10_lookAtOne 8 = .ok (.ifCond .eq 13, 3) := by decide +kernel
theorem dX10_lookAtOne_11 : decode cX10_lookAtOne 11 = .ok (.aload_n 0, 1) := by decide +kernel
theorem dX10_lookAtOne_12 : decode cX10_lookAtOne 12 = .ok (.getfield 9, 3) := by decide +kernel
theorem dX10_lookAtOne_15 : decode cX10_lookAtOne 15 = .ok (.iload_n 1, 1) := by decide +kernel
theorem dX10_lookAtOne_16 : decode cX10_lookAtOne 16 = .ok (.bipush 10, 2) := by decide +kernel
theorem dX10_lookAtOne_18 : decode cX10_lookAtOne 18 = .ok (.isub, 1) := by decide +kernel
theorem dX10_lookAtOne_19 : decode cX10_lookAtOne 19 = .ok (.iaload, 1) := by decide +kernel
theorem dX10_lookAtOne_20 : decode cX10_lookAtOne 20 = .ok (.ireturn, 1) := by decide +kernel
theorem dX10_lookAtOne_21 : decode cX10_lookAtOne 21 = .ok (.aload_n 0, 1) := by decide +kernel
theorem dX10_lookAtOne_22 : decode cX10_lookAtOne 22 = .ok (.iload_n 1, 1) := by decide +kernel
theorem dX10_lookAtOne_23 : decode cX10_lookAtOne 23 = .ok (.bipush 20, 2) := by decide +kernel
theorem dX10_lookAtOne_25 : decode cX10_lookAtOne 25 = .ok (.isub, 1) := by decide +kernel
theorem dX10_lookAtOne_26 : decode cX10_lookAtOne 26 = .ok (.invokevirtual 153, 3) := by decide +kernel
theorem dX10_lookAtOne_29 : decode cX10_lookAtOne 29 = .ok (.ifCond .eq 12, 3) := by decide +kernel
theorem dX10_lookAtOne_32 : decode cX10_lookAtOne 32 = .ok (.aload_n 0, 1) := by decide +kernel
theorem dX10_lookAtOne_33 : decode cX10_lookAtOne 33 = .ok (.iload_n 1, 1) := by decide +kernel
theorem dX10_lookAtOne_34 : decode cX10_lookAtOne 34 = .ok (.bipush 20, 2) := by decide +kernel
theorem dX10_lookAtOne_36 : decode cX10_lookAtOne 36 = .ok (.isub, 1) := by decide +kernel
theorem dX10_lookAtOne_37 : decode cX10_lookAtOne 37 = .ok (.invokevirtual 188, 3) := by decide +kernel
theorem dX10_lookAtOne_40 : decode cX10_lookAtOne 40 = .ok (.ireturn, 1) := by decide +kernel
theorem dX10_lookAtOne_41 : decode cX10_lookAtOne 41 = .ok (.aload_n 0, 1) := by decide +kernel
theorem dX10_lookAtOne_42 : decode cX10_lookAtOne 42 = .ok (.iload_n 1, 1) := by decide +kernel
theorem dX10_lookAtOne_43 : decode cX10_lookAtOne 43 = .ok (.bipush 30, 2) := by decide +kernel
theorem dX10_lookAtOne_45 : decode cX10_lookAtOne 45 = .ok (.isub, 1) := by decide +kernel
theorem dX10_lookAtOne_46 : decode cX10_lookAtOne 46 = .ok (.invokevirtual 156, 3) := by decide +kernel
theorem dX10_lookAtOne_49 : decode cX10_lookAtOne 49 = .ok (.ifCond .eq 13, 3) := by decide +kernel
theorem dX10_lookAtOne_52 : decode cX10_lookAtOne 52 = .ok (.aload_n 0, 1) := by decide +kernel
theorem dX10_lookAtOne_53 : decode cX10_lookAtOne 53 = .ok (.getfield 30, 3) := by decide +kernel
theorem dX10_lookAtOne_56 : decode cX10_lookAtOne 56 = .ok (.iload_n 1, 1) := by decide +kernel
theorem dX10_lookAtOne_57 : decode cX10_lookAtOne 57 = .ok (.bipush 30, 2) := by decide +kernel
theorem dX10_lookAtOne_59 : decode cX10_lookAtOne 59 = .ok (.isub, 1) := by decide +kernel
theorem dX10_lookAtOne_60 : decode cX10_lookAtOne 60 = .ok (.iaload, 1) := by decide +kernel
theorem dX10_lookAtOne_61 : decode cX10_lookAtOne 61 = .ok (.ireturn, 1) := by decide +kernel
theorem dX10_lookAtOne_62 : decode cX10_lookAtOne 62 = .ok (.aload_n 0, 1) := by decide +kernel
theorem dX10_lookAtOne_63 : decode cX10_lookAtOne 63 = .ok (.iload_n 1, 1) := by decide +kernel
theorem dX10_lookAtOne_64 : decode cX10_lookAtOne 64 = .ok (.bipush 40, 2) := by decide +kernel
theorem dX10_lookAtOne_66 : decode cX10_lookAtOne 66 = .ok (.isub, 1) := by decide +kernel
theorem dX10_lookAtOne_67 : decode cX10_lookAtOne 67 = .ok (.invokevirtual 168, 3) := by decide +kernel
theorem dX10_lookAtOne_70 : decode cX10_lookAtOne 70 = .ok (.ifCond .eq 13, 3) := by decide +kernel
theorem dX10_lookAtOne_73 : decode cX10_lookAtOne 73 = .ok (.aload_n 0, 1) := by decide +kernel
theorem dX10_lookAtOne_74 : decode cX10_lookAtOne 74 = .ok (.getfield 42, 3) := by decide +kernel
theorem dX10_lookAtOne_77 : decode cX10_lookAtOne 77 = .ok (.iload_n 1, 1) := by decide +kernel
theorem dX10_lookAtOne_78 : decode cX10_lookAtOne 78 = .ok (.bipush 40, 2) := by decide +kernel
theorem dX10_lookAtOne_80 : decode cX10_lookAtOne 80 = .ok (.isub, 1) := by decide +kernel
theorem dX10_lookAtOne_81 : decode cX10_lookAtOne 81 = .ok (.iaload, 1) := by decide +kernel
theorem dX10_lookAtOne_82 : decode cX10_lookAtOne 82 = .ok (.ireturn, 1) := by decide +kernel
theorem dX10_lookAtOne_83 : decode cX10_lookAtOne 83 = .ok (.aload_n 0, 1) := by decide +kernel
theorem dX10_lookAtOne_84 : decode cX10_lookAtOne 84 = .ok (.iload_n 1, 1) := by decide +kernel
theorem dX10_lookAtOne_85 : decode cX10_lookAtOne 85 = .ok (.bipush 60, 2) := by decide +kernel
theorem dX10_lookAtOne_87 : decode cX10_lookAtOne 87 = .ok (.isub, 1) := by decide +kernel
theorem dX10_lookAtOne_88 : decode cX10_lookAtOne 88 = .ok (.invokevirtual 168, 3) := by decide +kernel
theorem dX10_lookAtOne_91 : decode cX10_lookAtOne 91 = .ok (.ifCond .eq 15, 3) := by decide +kernel
theorem dX10_lookAtOne_94 : decode cX10_lookAtOne 94 = .ok (.aload_n 0, 1) := by decide +kernel
theorem dX10_lookAtOne_95 : decode cX10_lookAtOne 95 = .ok (.getfield 39, 3) := by decide +kernel
theorem dX10_lookAtOne_98 : decode cX10_lookAtOne 98 = .ok (.iload_n 1, 1) := by decide +kernel
theorem dX10_lookAtOne_99 : decode cX10_lookAtOne 99 = .ok (.bipush 60, 2) := by decide +kernel
theorem dX10_lookAtOne_101 : decode cX10_lookAtOne 101 = .ok (.isub, 1) := by decide +kernel
theorem dX10_lookAtOne_102 : decode cX10_lookAtOne 102 = .ok (.iaload, 1) := by decide +kernel
theorem dX10_lookAtOne_103 : decode cX10_lookAtOne 103 = .ok (.goto 5, 3) := by decide +kernel
theorem dX10_lookAtOne_106 : decode cX10_lookAtOne 106 = .ok (.bipush (-2), 2) := by decide +kernel
theorem dX10_lookAtOne_108 : decode cX10_lookAtOne 108 = .ok (.ireturn, 1) := by decide +kernel
theorem dX10_doneWorks_0 : decode cX10_doneWorks 0 = .ok (.iconst 0, 1) := by decide +kernel
theorem dX10_doneWorks_1 : decode cX10_doneWorks 1 = .ok (.istore_n 1, 1) := by decide +kernel
theorem dX10_doneWorks_2 : decode cX10_doneWorks 2 = .ok (.iconst 0, 1) := by decide +kernel
theorem dX10_doneWorks_3 : decode cX10_doneWorks 3 = .ok (.istore_n 2, 1) := by decide +kernel
theorem dX10_doneWorks_4 : decode cX10_doneWorks 4 = .ok (.iload_n 2, 1) := by decide +kernel
theorem dX10_doneWorks_5 : decode cX10_doneWorks 5 = .ok (.aload_n 0, 1) := by decide +kernel
theorem dX10_doneWorks_6 : decode cX10_doneWorks 6 = .ok (.getfield 67, 3) := by decide +kernel
theorem dX10_doneWorks_9 : decode cX10_doneWorks 9 = .ok (.if_icmp .ge 29, 3) := by decide +kernel
theorem dX10_doneWorks_12 : decode cX10_doneWorks 12 = .ok (.iload_n 2, 1) := by decide +kernel
theorem dX10_doneWorks_13 : decode cX10_doneWorks 13 = .ok (.bipush 6, 2) := by decide +kernel
theorem dX10_doneWorks_15 : decode cX10_doneWorks 15 = .ok (.if_icmp .ge 23, 3) := by decide +kernel
theorem dX10_doneWorks_18 : decode cX10_doneWorks 18 = .ok (.aload_n 0, 1) := by decide +kernel
theorem dX10_doneWorks_19 : decode cX10_doneWorks 19 = .ok (.iload_n 2, 1) := by decide +kernel
theorem dX10_doneWorks_20 : decode cX10_doneWorks 20 = .ok (.invokevirtual 162, 3) := by decide +kernel
theorem dX10_doneWorks_23 : decode cX10_doneWorks 23 = .ok (.ifCond .eq 9, 3) := by decide +kernel
theorem dX10_doneWorks_26 : decode cX10_doneWorks 26 = .ok (.iload_n 1, 1) := by decide +kernel
theorem dX10_doneWorks_27 : decode cX10_doneWorks 27 = .ok (.iconst 1, 1) := by decide +kernel
theorem dX10_doneWorks_28 : decode cX10_doneWorks 28 = .ok (.iload_n 2, 1) := by decide +kernel
theorem dX10_doneWorks_29 : decode cX10_doneWorks 29 = .ok (.ishl, 1) := by decide +kernel
theorem dX10_doneWorks_30 : decode cX10_doneWorks 30 = .ok (.ior, 1) := by decide +kernel
theorem dX10_doneWorks_31 : decode cX10_doneWorks 31 = .ok (.istore_n 1, 1) := by decide +kernel
theorem dX10_doneWorks_32 : decode cX10_doneWorks 32 = .ok (.iinc 2 1, 3) := by decide +kernel
theorem dX10_doneWorks_35 : decode cX10_doneWorks 35 = .ok (.goto (-31), 3) := by decide +kernel
theorem dX10_doneWorks_38 : decode cX10_doneWorks 38 = .ok (.iload_n 1, 1) := by decide +kernel
theorem dX10_doneWorks_39 : decode cX10_doneWorks 39 = .ok (.ireturn, 1) := by decide +kernel
theorem dX10_owedBy_0 : decode cX10_owedBy 0 = .ok (.iconst 0, 1) := by decide +kernel
theorem dX10_owedBy_1 : decode cX10_owedBy 1 = .ok (.istore_n 2, 1) := by decide +kernel
theorem dX10_owedBy_2 : decode cX10_owedBy 2 = .ok (.iconst 0, 1) := by decide +kernel
theorem dX10_owedBy_3 : decode cX10_owedBy 3 = .ok (.istore_n 3, 1) := by decide +kernel
theorem dX10_owedBy_4 : decode cX10_owedBy 4 = .ok (.iload_n 3, 1) := by decide +kernel
theorem dX10_owedBy_5 : decode cX10_owedBy 5 = .ok (.aload_n 0, 1) := by decide +kernel
theorem dX10_owedBy_6 : decode cX10_owedBy 6 = .ok (.getfield 78, 3) := by decide +kernel
theorem dX10_owedBy_9 : decode cX10_owedBy 9 = .ok (.if_icmp .ge 38, 3) := by decide +kernel
theorem dX10_owedBy_12 : decode cX10_owedBy 12 = .ok (.iload_n 3, 1) := by decide +kernel
theorem dX10_owedBy_13 : decode cX10_owedBy 13 = .ok (.bipush 12, 2) := by decide +kernel
theorem dX10_owedBy_15 : decode cX10_owedBy 15 = .ok (.if_icmp .ge 32, 3) := by decide +kernel
theorem dX10_owedBy_18 : decode cX10_owedBy 18 = .ok (.aload_n 0, 1) := by decide +kernel
theorem dX10_owedBy_19 : decode cX10_owedBy 19 = .ok (.iload_n 1, 1) := by decide +kernel
theorem dX10_owedBy_20 : decode cX10_owedBy 20 = .ok (.invokevirtual 159, 3) := by decide +kernel
theorem dX10_owedBy_23 : decode cX10_owedBy 23 = .ok (.ifCond .eq 18, 3) := by decide +kernel
theorem dX10_owedBy_26 : decode cX10_owedBy 26 = .ok (.aload_n 0, 1) := by decide +kernel
theorem dX10_owedBy_27 : decode cX10_owedBy 27 = .ok (.iload_n 1, 1) := by decide +kernel
theorem dX10_owedBy_28 : decode cX10_owedBy 28 = .ok (.iload_n 3, 1) := by decide +kernel
theorem dX10_owedBy_29 : decode cX10_owedBy 29 = .ok (.invokevirtual 178, 3) := by decide +kernel
theorem dX10_owedBy_32 : decode cX10_owedBy 32 = .ok (.ifCond .eq 9, 3) := by decide +kernel
theorem dX10_owedBy_35 : decode cX10_owedBy 35 = .ok (.iload_n 2, 1) := by decide +kernel
theorem dX10_owedBy_36 : decode cX10_owedBy 36 = .ok (.iconst 1, 1) := by decide +kernel
theorem dX10_owedBy_37 : decode cX10_owedBy 37 = .ok (.iload_n 3, 1) := by decide +kernel
theorem dX10_owedBy_38 : decode cX10_owedBy 38 = .ok (.ishl, 1) := by decide +kernel
theorem dX10_owedBy_39 : decode cX10_owedBy 39 = .ok (.ior, 1) := by decide +kernel
theorem dX10_owedBy_40 : decode cX10_owedBy 40 = .ok (.istore_n 2, 1) := by decide +kernel
theorem dX10_owedBy_41 : decode cX10_owedBy 41 = .ok (.iinc 3 1, 3) := by decide +kernel
theorem dX10_owedBy_44 : decode cX10_owedBy 44 = .ok (.goto (-40), 3) := by decide +kernel
theorem dX10_owedBy_47 : decode cX10_owedBy 47 = .ok (.iload_n 2, 1) := by decide +kernel
theorem dX10_owedBy_48 : decode cX10_owedBy 48 = .ok (.ireturn, 1) := by decide +kernel
theorem dX10_lookBack_0 : decode cX10_lookBack 0 = .ok (.iload_n 1, 1) := by decide +kernel
theorem dX10_lookBack_1 : decode cX10_lookBack 1 = .ok (.ifCond .ne 8, 3) := by decide +kernel
theorem dX10_lookBack_4 : decode cX10_lookBack 4 = .ok (.aload_n 0, 1) := by decide +kernel
theorem dX10_lookBack_5 : decode cX10_lookBack 5 = .ok (.getfield 81, 3) := by decide +kernel
theorem dX10_lookBack_8 : decode cX10_lookBack 8 = .ok (.ireturn, 1) := by decide +kernel
theorem dX10_lookBack_9 : decode cX10_lookBack 9 = .ok (.iload_n 1, 1) := by decide +kernel
theorem dX10_lookBack_10 : decode cX10_lookBack 10 = .ok (.iconst 1, 1) := by decide +kernel
theorem dX10_lookBack_11 : decode cX10_lookBack 11 = .ok (.if_icmp .ne 8, 3) := by decide +kernel
theorem dX10_lookBack_14 : decode cX10_lookBack 14 = .ok (.aload_n 0, 1) := by decide +kernel
theorem dX10_lookBack_15 : decode cX10_lookBack 15 = .ok (.invokevirtual 191, 3) := by decide +kernel
theorem dX10_lookBack_18 : decode cX10_lookBack 18 = .ok (.ireturn, 1) := by decide +kernel
theorem dX10_lookBack_19 : decode cX10_lookBack 19 = .ok (.iload_n 1, 1) := by decide +kernel
theorem dX10_lookBack_20 : decode cX10_lookBack 20 = .ok (.iconst 2, 1) := by decide +kernel
theorem dX10_lookBack_21 : decode cX10_lookBack 21 = .ok (.if_icmp .ne 8, 3) := by decide +kernel
theorem dX10_lookBack_24 : decode cX10_lookBack 24 = .ok (.aload_n 0, 1) := by decide +kernel
theorem dX10_lookBack_25 : decode cX10_lookBack 25 = .ok (.invokevirtual 194, 3) := by decide +kernel
theorem dX10_lookBack_28 : decode cX10_lookBack 28 = .ok (.ireturn, 1) := by decide +kernel
theorem dX10_lookBack_29 : decode cX10_lookBack 29 = .ok (.iload_n 1, 1) := by decide +kernel
theorem dX10_lookBack_30 : decode cX10_lookBack 30 = .ok (.bipush 10, 2) := by decide +kernel
theorem dX10_lookBack_32 : decode cX10_lookBack 32 = .ok (.if_icmp .lt 20, 3) := by decide +kernel
theorem dX10_lookBack_35 : decode cX10_lookBack 35 = .ok (.iload_n 1, 1) := by decide +kernel
theorem dX10_lookBack_36 : decode cX10_lookBack 36 = .ok (.bipush 14, 2) := by decide +kernel
theorem dX10_lookBack_38 : decode cX10_lookBack 38 = .ok (.if_icmp .gt 14, 3) := by decide +kernel
theorem dX10_lookBack_41 : decode cX10_lookBack 41 = .ok (.aload_n 0, 1) := by decide +kernel
theorem dX10_lookBack_42 : decode cX10_lookBack 42 = .ok (.iload_n 1, 1) := by decide +kernel
theorem dX10_lookBack_43 : decode cX10_lookBack 43 = .ok (.bipush 10, 2) := by decide +kernel
theorem dX10_lookBack_45 : decode cX10_lookBack 45 = .ok (.isub, 1) := by decide +kernel
theorem dX10_lookBack_46 : decode cX10_lookBack 46 = .ok (.invokevirtual 120, 3) := by decide +kernel
theorem dX10_lookBack_49 : decode cX10_lookBack 49 = .ok (.goto 5, 3) := by decide +kernel
theorem dX10_lookBack_52 : decode cX10_lookBack 52 = .ok (.bipush (-2), 2) := by decide +kernel
theorem dX10_lookBack_54 : decode cX10_lookBack 54 = .ok (.ireturn, 1) := by decide +kernel
theorem dX10_bestHand_0 : decode cX10_bestHand 0 = .ok (.iconst (-1), 1) := by decide +kernel
theorem dX10_bestHand_1 : decode cX10_bestHand 1 = .ok (.istore_n 1, 1) := by decide +kernel
theorem dX10_bestHand_2 : decode cX10_bestHand 2 = .ok (.iconst 0, 1) := by decide +kernel
theorem dX10_bestHand_3 : decode cX10_bestHand 3 = .ok (.istore_n 2, 1) := by decide +kernel
theorem dX10_bestHand_4 : decode cX10_bestHand 4 = .ok (.iconst 0, 1) := by decide +kernel
theorem dX10_bestHand_5 : decode cX10_bestHand 5 = .ok (.istore_n 3, 1) := by decide +kernel
theorem dX10_bestHand_6 : decode cX10_bestHand 6 = .ok (.iload_n 3, 1) := by decide +kernel
theorem dX10_bestHand_7 : decode cX10_bestHand 7 = .ok (.aload_n 0, 1) := by decide +kernel
theorem dX10_bestHand_8 : decode cX10_bestHand 8 = .ok (.getfield 63, 3) := by decide +kernel
theorem dX10_bestHand_11 : decode cX10_bestHand 11 = .ok (.if_icmp .ge 34, 3) := by decide +kernel
theorem dX10_bestHand_14 : decode cX10_bestHand 14 = .ok (.iload_n 3, 1) := by decide +kernel
theorem dX10_bestHand_15 : decode cX10_bestHand 15 = .ok (.bipush 10, 2) := by decide +kernel
theorem dX10_bestHand_17 : decode cX10_bestHand 17 = .ok (.if_icmp .ge 28, 3) := by decide +kernel
theorem dX10_bestHand_20 : decode cX10_bestHand 20 = .ok (.aload_n 0, 1) := by decide +kernel
theorem dX10_bestHand_21 : decode cX10_bestHand 21 = .ok (.getfield 24, 3) := by decide +kernel
theorem dX10_bestHand_24 : decode cX10_bestHand 24 = .ok (.iload_n 3, 1) := by decide +kernel
theorem dX10_bestHand_25 : decode cX10_bestHand 25 = .ok (.iaload, 1) := by decide +kernel
theorem dX10_bestHand_26 : decode cX10_bestHand 26 = .ok (.iload_n 2, 1) := by decide +kernel
theorem dX10_bestHand_27 : decode cX10_bestHand 27 = .ok (.if_icmp .le 12, 3) := by decide +kernel
theorem dX10_bestHand_30 : decode cX10_bestHand 30 = .ok (.aload_n 0, 1) := by decide +kernel
theorem dX10_bestHand_31 : decode cX10_bestHand 31 = .ok (.getfield 24, 3) := by decide +kernel
theorem dX10_bestHand_34 : decode cX10_bestHand 34 = .ok (.iload_n 3, 1) := by decide +kernel
theorem dX10_bestHand_35 : decode cX10_bestHand 35 = .ok (.iaload, 1) := by decide +kernel
theorem dX10_bestHand_36 : decode cX10_bestHand 36 = .ok (.istore_n 2, 1) := by decide +kernel
theorem dX10_bestHand_37 : decode cX10_bestHand 37 = .ok (.iload_n 3, 1) := by decide +kernel
theorem dX10_bestHand_38 : decode cX10_bestHand 38 = .ok (.istore_n 1, 1) := by decide +kernel
theorem dX10_bestHand_39 : decode cX10_bestHand 39 = .ok (.iinc 3 1, 3) := by decide +kernel
theorem dX10_bestHand_42 : decode cX10_bestHand 42 = .ok (.goto (-36), 3) := by decide +kernel
theorem dX10_bestHand_45 : decode cX10_bestHand 45 = .ok (.iload_n 1, 1) := by decide +kernel
theorem dX10_bestHand_46 : decode cX10_bestHand 46 = .ok (.ireturn, 1) := by decide +kernel
theorem dX10_bestTalker_0 : decode cX10_bestTalker 0 = .ok (.iconst (-1), 1) := by decide +kernel
theorem dX10_bestTalker_1 : decode cX10_bestTalker 1 = .ok (.istore_n 1, 1) := by decide +kernel
theorem dX10_bestTalker_2 : decode cX10_bestTalker 2 = .ok (.iconst 0, 1) := by decide +kernel
theorem dX10_bestTalker_3 : decode cX10_bestTalker 3 = .ok (.istore_n 2, 1) := by decide +kernel
theorem dX10_bestTalker_4 : decode cX10_bestTalker 4 = .ok (.iconst 0, 1) := by decide +kernel
theorem dX10_bestTalker_5 : decode cX10_bestTalker 5 = .ok (.istore_n 3, 1) := by decide +kernel
theorem dX10_bestTalker_6 : decode cX10_bestTalker 6 = .ok (.iload_n 3, 1) := by decide +kernel
theorem dX10_bestTalker_7 : decode cX10_bestTalker 7 = .ok (.aload_n 0, 1) := by decide +kernel
theorem dX10_bestTalker_8 : decode cX10_bestTalker 8 = .ok (.getfield 63, 3) := by decide +kernel
theorem dX10_bestTalker_11 : decode cX10_bestTalker 11 = .ok (.if_icmp .ge 68, 3) := by decide +kernel
theorem dX10_bestTalker_14 : decode cX10_bestTalker 14 = .ok (.iload_n 3, 1) := by decide +kernel
theorem dX10_bestTalker_15 : decode cX10_bestTalker 15 = .ok (.bipush 10, 2) := by decide +kernel
theorem dX10_bestTalker_17 : decode cX10_bestTalker 17 = .ok (.if_icmp .ge 62, 3) := by decide +kernel
theorem dX10_bestTalker_20 : decode cX10_bestTalker 20 = .ok (.iconst 0, 1) := by decide +kernel
theorem dX10_bestTalker_21 : decode cX10_bestTalker 21 = .ok (.istore 4, 2) := by decide +kernel
theorem dX10_bestTalker_23 : decode cX10_bestTalker 23 = .ok (.iconst 0, 1) := by decide +kernel
theorem dX10_bestTalker_24 : decode cX10_bestTalker 24 = .ok (.istore 5, 2) := by decide +kernel
theorem dX10_bestTalker_26 : decode cX10_bestTalker 26 = .ok (.iload 5, 2) := by decide +kernel
theorem dX10_bestTalker_28 : decode cX10_bestTalker 28 = .ok (.aload_n 0, 1) := by decide +kernel
theorem dX10_bestTalker_29 : decode cX10_bestTalker 29 = .ok (.getfield 78, 3) := by decide +kernel
theorem dX10_bestTalker_32 : decode cX10_bestTalker 32 = .ok (.if_icmp .ge 30, 3) := by decide +kernel
theorem dX10_bestTalker_35 : decode cX10_bestTalker 35 = .ok (.iload 5, 2) := by decide +kernel
theorem dX10_bestTalker_37 : decode cX10_bestTalker 37 = .ok (.bipush 12, 2) := by decide +kernel
theorem dX10_bestTalker_39 : decode cX10_bestTalker 39 = .ok (.if_icmp .ge 23, 3) := by decide +kernel
theorem dX10_bestTalker_42 : decode cX10_bestTalker 42 = .ok (.aload_n 0, 1) := by decide +kernel
theorem dX10_bestTalker_43 : decode cX10_bestTalker 43 = .ok (.getfield 33, 3) := by decide +kernel
theorem dX10_bestTalker_46 : decode cX10_bestTalker 46 = .ok (.iload 5, 2) := by decide +kernel
theorem dX10_bestTalker_48 : decode cX10_bestTalker 48 = .ok (.iaload, 1) := by decide +kernel
theorem dX10_bestTalker_49 : decode cX10_bestTalker 49 = .ok (.iload_n 3, 1) := by decide +kernel
theorem dX10_bestTalker_50 : decode cX10_bestTalker 50 = .ok (.if_icmp .ne 6, 3) := by decide +kernel
theorem dX10_bestTalker_53 : decode cX10_bestTalker 53 = .ok (.iinc 4 1, 3) := by decide +kernel
theorem dX10_bestTalker_56 : decode cX10_bestTalker 56 = .ok (.iinc 5 1, 3) := by decide +kernel
theorem dX10_bestTalker_59 : decode cX10_bestTalker 59 = .ok (.goto (-33), 3) := by decide +kernel
theorem dX10_bestTalker_62 : decode cX10_bestTalker 62 = .ok (.iload 4, 2) := by decide +kernel
theorem dX10_bestTalker_64 : decode cX10_bestTalker 64 = .ok (.iload_n 2, 1) := by decide +kernel
theorem dX10_bestTalker_65 : decode cX10_bestTalker 65 = .ok (.if_icmp .le 8, 3) := by decide +kernel
theorem dX10_bestTalker_68 : decode cX10_bestTalker 68 = .ok (.iload 4, 2) := by decide +kernel
theorem dX10_bestTalker_70 : decode cX10_bestTalker 70 = .ok (.istore_n 2, 1) := by decide +kernel
theorem dX10_bestTalker_71 : decode cX10_bestTalker 71 = .ok (.iload_n 3, 1) := by decide +kernel
theorem dX10_bestTalker_72 : decode cX10_bestTalker 72 = .ok (.istore_n 1, 1) := by decide +kernel
theorem dX10_bestTalker_73 : decode cX10_bestTalker 73 = .ok (.iinc 3 1, 3) := by decide +kernel
theorem dX10_bestTalker_76 : decode cX10_bestTalker 76 = .ok (.goto (-70), 3) := by decide +kernel
theorem dX10_bestTalker_79 : decode cX10_bestTalker 79 = .ok (.iload_n 1, 1) := by decide +kernel
theorem dX10_bestTalker_80 : decode cX10_bestTalker 80 = .ok (.ireturn, 1) := by decide +kernel
theorem dX10_manyOfFate_0 : decode cX10_manyOfFate 0 = .ok (.iconst 0, 1) := by decide +kernel
theorem dX10_manyOfFate_1 : decode cX10_manyOfFate 1 = .ok (.istore_n 2, 1) := by decide +kernel
theorem dX10_manyOfFate_2 : decode cX10_manyOfFate 2 = .ok (.iconst 0, 1) := by decide +kernel
theorem dX10_manyOfFate_3 : decode cX10_manyOfFate 3 = .ok (.istore_n 3, 1) := by decide +kernel
theorem dX10_manyOfFate_4 : decode cX10_manyOfFate 4 = .ok (.iload_n 3, 1) := by decide +kernel
theorem dX10_manyOfFate_5 : decode cX10_manyOfFate 5 = .ok (.aload_n 0, 1) := by decide +kernel
theorem dX10_manyOfFate_6 : decode cX10_manyOfFate 6 = .ok (.getfield 78, 3) := by decide +kernel
theorem dX10_manyOfFate_9 : decode cX10_manyOfFate 9 = .ok (.if_icmp .ge 28, 3) := by decide +kernel
theorem dX10_manyOfFate_12 : decode cX10_manyOfFate 12 = .ok (.iload_n 3, 1) := by decide +kernel
theorem dX10_manyOfFate_13 : decode cX10_manyOfFate 13 = .ok (.bipush 12, 2) := by decide +kernel
theorem dX10_manyOfFate_15 : decode cX10_manyOfFate 15 = .ok (.if_icmp .ge 22, 3) := by decide +kernel
theorem dX10_manyOfFate_18 : decode cX10_manyOfFate 18 = .ok (.aload_n 0, 1) := by decide +kernel
theorem dX10_manyOfFate_19 : decode cX10_manyOfFate 19 = .ok (.getfield 42, 3) := by decide +kernel
theorem dX10_manyOfFate_22 : decode cX10_manyOfFate 22 = .ok (.iload_n 3, 1) := by decide +kernel
theorem dX10_manyOfFate_23 : decode cX10_manyOfFate 23 = .ok (.iaload, 1) := by decide +kernel
theorem dX10_manyOfFate_24 : decode cX10_manyOfFate 24 = .ok (.iload_n 1, 1) := by decide +kernel
theorem dX10_manyOfFate_25 : decode cX10_manyOfFate 25 = .ok (.if_icmp .ne 6, 3) := by decide +kernel
theorem dX10_manyOfFate_28 : decode cX10_manyOfFate 28 = .ok (.iinc 2 1, 3) := by decide +kernel
theorem dX10_manyOfFate_31 : decode cX10_manyOfFate 31 = .ok (.iinc 3 1, 3) := by decide +kernel
theorem dX10_manyOfFate_34 : decode cX10_manyOfFate 34 = .ok (.goto (-30), 3) := by decide +kernel
theorem dX10_manyOfFate_37 : decode cX10_manyOfFate 37 = .ok (.iload_n 2, 1) := by decide +kernel
theorem dX10_manyOfFate_38 : decode cX10_manyOfFate 38 = .ok (.ireturn, 1) := by decide +kernel
theorem dX11_init_0 : decode cX11_init 0 = .ok (.aload_n 0, 1) := by decide +kernel
theorem dX11_init_1 : decode cX11_init 1 = .ok (.invokespecial 3, 3) := by decide +kernel
theorem dX11_init_4 : decode cX11_init 4 = .ok (.aload_n 0, 1) := by decide +kernel
theorem dX11_init_5 : decode cX11_init 5 = .ok (.new 9, 3) := by decide +kernel
theorem dX11_init_8 : decode cX11_init 8 = .ok (.dup, 1) := by decide +kernel
theorem dX11_init_9 : decode cX11_init 9 = .ok (.invokespecial 11, 3) := by decide +kernel
theorem dX11_init_12 : decode cX11_init 12 = .ok (.putfield 12, 3) := by decide +kernel
theorem dX11_init_15 : decode cX11_init 15 = .ok (.aload_n 0, 1) := by decide +kernel
theorem dX11_init_16 : decode cX11_init 16 = .ok (.iconst 3, 1) := by decide +kernel
theorem dX11_init_17 : decode cX11_init 17 = .ok (.anewarray 9, 3) := by decide +kernel
theorem dX11_init_20 : decode cX11_init 20 = .ok (.putfield 16, 3) := by decide +kernel
theorem dX11_init_23 : decode cX11_init 23 = .ok (.iconst 0, 1) := by decide +kernel
theorem dX11_init_24 : decode cX11_init 24 = .ok (.istore_n 1, 1) := by decide +kernel
theorem dX11_init_25 : decode cX11_init 25 = .ok (.iload_n 1, 1) := by decide +kernel
theorem dX11_init_26 : decode cX11_init 26 = .ok (.iconst 3, 1) := by decide +kernel
theorem dX11_init_27 : decode cX11_init 27 = .ok (.if_icmp .ge 22, 3) := by decide +kernel
theorem dX11_init_30 : decode cX11_init 30 = .ok (.aload_n 0, 1) := by decide +kernel
theorem dX11_init_31 : decode cX11_init 31 = .ok (.getfield 16, 3) := by decide +kernel
theorem dX11_init_34 : decode cX11_init 34 = .ok (.iload_n 1, 1) := by decide +kernel
theorem dX11_init_35 : decode cX11_init 35 = .ok (.new 9, 3) := by decide +kernel
theorem dX11_init_38 : decode cX11_init 38 = .ok (.dup, 1) := by decide +kernel
theorem dX11_init_39 : decode cX11_init 39 = .ok (.invokespecial 11, 3) := by decide +kernel
theorem dX11_init_42 : decode cX11_init 42 = .ok (.aastore, 1) := by decide +kernel
theorem dX11_init_43 : decode cX11_init 43 = .ok (.iinc 1 1, 3) := by decide +kernel
theorem dX11_init_46 : decode cX11_init 46 = .ok (.goto (-21), 3) := by decide +kernel
theorem dX11_init_49 : decode cX11_init 49 = .ok (.aload_n 0, 1) := by decide +kernel
theorem dX11_init_50 : decode cX11_init 50 = .ok (.iconst 3, 1) := by decide +kernel
theorem dX11_init_51 : decode cX11_init 51 = .ok (.newarray .boolean, 2) := by decide +kernel
theorem dX11_init_53 : decode cX11_init 53 = .ok (.putfield 20, 3) := by decide +kernel
theorem dX11_init_56 : decode cX11_init 56 = .ok (.aload_n 0, 1) := by decide +kernel
theorem dX11_init_57 : decode cX11_init 57 = .ok (.new 24, 3) := by decide +kernel
theorem dX11_init_60 : decode cX11_init 60 = .ok (.dup, 1) := by decide +kernel
theorem dX11_init_61 : decode cX11_init 61 = .ok (.invokespecial 26, 3) := by decide +kernel
theorem dX11_init_64 : decode cX11_init 64 = .ok (.putfield 27, 3) := by decide +kernel
theorem dX11_init_67 : decode cX11_init 67 = .ok (.aload_n 0, 1) := by decide +kernel
theorem dX11_init_68 : decode cX11_init 68 = .ok (.new 31, 3) := by decide +kernel
theorem dX11_init_71 : decode cX11_init 71 = .ok (.dup, 1) := by decide +kernel
theorem dX11_init_72 : decode cX11_init 72 = .ok (.invokespecial 33, 3) := by decide +kernel
theorem dX11_init_75 : decode cX11_init 75 = .ok (.putfield 34, 3) := by decide +kernel
theorem dX11_init_78 : decode cX11_init 78 = .ok (.aload_n 0, 1) := by decide +kernel
theorem dX11_init_79 : decode cX11_init 79 = .ok (.new 38, 3) := by decide +kernel
theorem dX11_init_82 : decode cX11_init 82 = .ok (.dup, 1) := by decide +kernel
theorem dX11_init_83 : decode cX11_init 83 = .ok (.invokespecial 40, 3) := by decide +kernel
theorem dX11_init_86 : decode cX11_init 86 = .ok (.putfield 41, 3) := by decide +kernel
theorem dX11_init_89 : decode cX11_init 89 = .ok (.aload_n 0, 1) := by decide +kernel
theorem dX11_init_90 : decode cX11_init 90 = .ok (.new 45, 3) := by decide +kernel
theorem dX11_init_93 : decode cX11_init 93 = .ok (.dup, 1) := by decide +kernel
theorem dX11_init_94 : decode cX11_init 94 = .ok (.invokespecial 47, 3) := by decide +kernel
theorem dX11_init_97 : decode cX11_init 97 = .ok (.putfield 48, 3) := by decide +kernel
theorem dX11_init_100 : decode cX11_init 100 = .ok (.aload_n 0, 1) := by decide +kernel
theorem dX11_init_101 : decode cX11_init 101 = .ok (.new 52, 3) := by decide +kernel
theorem dX11_init_104 : decode cX11_init 104 = .ok (.dup, 1) := by decide +kernel
theorem dX11_init_105 : decode cX11_init 105 = .ok (.invokespecial 54, 3) := by decide +kernel
theorem dX11_init_108 : decode cX11_init 108 = .ok (.putfield 55, 3) := by decide +kernel
theorem dX11_init_111 : decode cX11_init 111 = .ok (.aload_n 0, 1) := by decide +kernel
theorem dX11_init_112 : decode cX11_init 112 = .ok (.new 59, 3) := by decide +kernel
theorem dX11_init_115 : decode cX11_init 115 = .ok (.dup, 1) := by decide +kernel
theorem dX11_init_116 : decode cX11_init 116 = .ok (.invokespecial 61, 3) := by decide +kernel
theorem dX11_init_119 : decode cX11_init 119 = .ok (.putfield 62, 3) := by decide +kernel
theorem dX11_init_122 : decode cX11_init 122 = .ok (.aload_n 0, 1) := by decide +kernel
theorem dX11_init_123 : decode cX11_init 123 = .ok (.new 66, 3) := by decide +kernel
theorem dX11_init_126 : decode cX11_init 126 = .ok (.dup, 1) := by decide +kernel
theorem dX11_init_127 : decode cX11_init 127 = .ok (.invokespecial 68, 3) := by decide +kernel
theorem dX11_init_130 : decode cX11_init 130 = .ok (.putfield 69, 3) := by decide +kernel
theorem dX11_init_133 : decode cX11_init 133 = .ok (.return_, 1) := by decide +kernel
theorem dX11_feed_0 : decode cX11_feed 0 = .ok (.aload_n 0, 1) := by decide +kernel
theorem dX11_feed_1 : decode cX11_feed 1 = .ok (.getfield 12, 3) := by decide +kernel
theorem dX11_feed_4 : decode cX11_feed 4 = .ok (.getfield 73, 3) := by decide +kernel
theorem dX11_feed_7 : decode cX11_feed 7 = .ok (.bipush 20, 2) := by decide +kernel
theorem dX11_feed_9 : decode cX11_feed 9 = .ok (.iadd, 1) := by decide +kernel
theorem dX11_feed_10 : decode cX11_feed 10 = .ok (.sipush 600, 3) := by decide +kernel
theorem dX11_feed_13 : decode cX11_feed 13 = .ok (.if_icmp .le 5, 3) := by decide +kernel
theorem dX11_feed_16 : decode cX11_feed 16 = .ok (.iconst (-1), 1) := by decide +kernel
theorem dX11_feed_17 : decode cX11_feed 17 = .ok (.ireturn, 1) := by decide +kernel
theorem dX11_feed_18 : decode cX11_feed 18 = .ok (.aload_n 0, 1) := by decide +kernel
theorem dX11_feed_19 : decode cX11_feed 19 = .ok (.getfield 12, 3) := by decide +kernel
theorem dX11_feed_22 : decode cX11_feed 22 = .ok (.iload_n 1, 1) := by decide +kernel
theorem dX11_feed_23 : decode cX11_feed 23 = .ok (.invokevirtual 77, 3) := by decide +kernel
theorem dX11_feed_26 : decode cX11_feed 26 = .ok (.aload_n 0, 1) := by decide +kernel
theorem dX11_feed_27 : decode cX11_feed 27 = .ok (.getfield 12, 3) := by decide +kernel
theorem dX11_feed_30 : decode cX11_feed 30 = .ok (.iload_n 2, 1) := by decide +kernel
theorem dX11_feed_31 : decode cX11_feed 31 = .ok (.invokevirtual 77, 3) := by decide +kernel
theorem dX11_feed_34 : decode cX11_feed 34 = .ok (.aload_n 0, 1) := by decide +kernel
theorem dX11_feed_35 : decode cX11_feed 35 = .ok (.getfield 12, 3) := by decide +kernel
theorem dX11_feed_38 : decode cX11_feed 38 = .ok (.iload_n 3, 1) := by decide +kernel
theorem dX11_feed_39 : decode cX11_feed 39 = .ok (.invokevirtual 77, 3) := by decide +kernel
theorem dX11_feed_42 : decode cX11_feed 42 = .ok (.aload_n 0, 1) := by decide +kernel
theorem dX11_feed_43 : decode cX11_feed 43 = .ok (.getfield 12, 3) := by decide +kernel
theorem dX11_feed_46 : decode cX11_feed 46 = .ok (.iload 4, 2) := by decide +kernel
theorem dX11_feed_48 : decode cX11_feed 48 = .ok (.invokevirtual 77, 3) := by decide +kernel
theorem dX11_feed_51 : decode cX11_feed 51 = .ok (.aload_n 0, 1) := by decide +kernel
theorem dX11_feed_52 : decode cX11_feed 52 = .ok (.getfield 12, 3) := by decide +kernel
theorem dX11_feed_55 : decode cX11_feed 55 = .ok (.iload 5, 2) := by decide +kernel
theorem dX11_feed_57 : decode cX11_feed 57 = .ok (.invokevirtual 77, 3) := by decide +kernel
theorem dX11_feed_60 : decode cX11_feed 60 = .ok (.aload_n 0, 1) := by decide +kernel
theorem dX11_feed_61 : decode cX11_feed 61 = .ok (.getfield 12, 3) := by decide +kernel
theorem dX11_feed_64 : decode cX11_feed 64 = .ok (.getfield 73, 3) := by decide +kernel
theorem dX11_feed_67 : decode cX11_feed 67 = .ok (.ireturn, 1) := by decide +kernel
theorem dX11_end_0 : decode cX11_end 0 = .ok (.iload_n 1, 1) := by decide +kernel
theorem dX11_end_1 : decode cX11_end 1 = .ok (.ifCond .lt 14, 3) := by decide +kernel
theorem dX11_end_4 : decode cX11_end 4 = .ok (.iload_n 1, 1) := by decide +kernel
theorem dX11_end_5 : decode cX11_end 5 = .ok (.aload_n 0, 1) := by decide +kernel
theorem dX11_end_6 : decode cX11_end 6 = .ok (.getfield 12, 3) := by decide +kernel
theorem dX11_end_9 : decode cX11_end 9 = .ok (.getfield 73, 3) := by decide +kernel
theorem dX11_end_12 : decode cX11_end 12 = .ok (.if_icmp .le 5, 3) := by decide +kernel
theorem dX11_end_15 : decode cX11_end 15 = .ok (.iconst (-1), 1) := by decide +kernel
theorem dX11_end_16 : decode cX11_end 16 = .ok (.ireturn, 1) := by decide +kernel
theorem dX11_end_17 : decode cX11_end 17 = .ok (.aload_n 0, 1) := by decide +kernel
theorem dX11_end_18 : decode cX11_end 18 = .ok (.getfield 12, 3) := by decide +kernel
theorem dX11_end_21 : decode cX11_end 21 = .ok (.iload_n 1, 1) := by decide +kernel
theorem dX11_end_22 : decode cX11_end 22 = .ok (.putfield 73, 3) := by decide +kernel
theorem dX11_end_25 : decode cX11_end 25 = .ok (.iload_n 1, 1) := by decide +kernel
theorem dX11_end_26 : decode cX11_end 26 = .ok (.ireturn, 1) := by decide +kernel
theorem dX11_text_0 : decode cX11_text 0 = .ok (.aload_n 0, 1) := by decide +kernel
theorem dX11_text_1 : decode cX11_text 1 = .ok (.getfield 12, 3) := by decide +kernel
theorem dX11_text_4 : decode cX11_text 4 = .ok (.getfield 73, 3) := by decide +kernel
theorem dX11_text_7 : decode cX11_text 7 = .ok (.istore_n 3, 1) := by decide +kernel
theorem dX11_text_8 : decode cX11_text 8 = .ok (.aload_n 0, 1) := by decide +kernel
theorem dX11_text_9 : decode cX11_text 9 = .ok (.getfield 12, 3) := by decide +kernel
theorem dX11_text_12 : decode cX11_text 12 = .ok (.iconst 0, 1) := by decide +kernel
theorem dX11_text_13 : decode cX11_text 13 = .ok (.putfield 73, 3) := by decide +kernel
theorem dX11_text_16 : decode cX11_text 16 = .ok (.aload_n 0, 1) := by decide +kernel
theorem dX11_text_17 : decode cX11_text 17 = .ok (.getfield 12, 3) := by decide +kernel
theorem dX11_text_20 : decode cX11_text 20 = .ok (.iconst 0, 1) := by decide +kernel
theorem dX11_text_21 : decode cX11_text 21 = .ok (.putfield 81, 3) := by decide +kernel
theorem dX11_text_24 : decode cX11_text 24 = .ok (.aload_n 0, 1) := by decide +kernel
theorem dX11_text_25 : decode cX11_text 25 = .ok (.getfield 12, 3) := by decide +kernel
theorem dX11_text_28 : decode cX11_text 28 = .ok (.iconst (-1), 1) := by decide +kernel
theorem dX11_text_29 : decode cX11_text 29 = .ok (.putfield 84, 3) := by decide +kernel
theorem dX11_text_32 : decode cX11_text 32 = .ok (.aload_n 0, 1) := by decide +kernel
theorem dX11_text_33 : decode cX11_text 33 = .ok (.getfield 12, 3) := by decide +kernel
theorem dX11_text_36 : decode cX11_text 36 = .ok (.iload_n 1, 1) := by decide +kernel
theorem dX11_text_37 : decode cX11_text 37 = .ok (.invokevirtual 87, 3) := by decide +kernel
theorem dX11_text_40 : decode cX11_text 40 = .ok (.istore 4, 2) := by decide +kernel
theorem dX11_text_42 : decode cX11_text 42 = .ok (.iload_n 2, 1) := by decide +kernel
theorem dX11_text_43 : decode cX11_text 43 = .ok (.iconst (-1), 1) := by decide +kernel
theorem dX11_text_44 : decode cX11_text 44 = .ok (.if_icmp .ne 7, 3) := by decide +kernel
theorem dX11_text_47 : decode cX11_text 47 = .ok (.iconst 1, 1) := by decide +kernel
theorem dX11_text_48 : decode cX11_text 48 = .ok (.goto 4, 3) := by decide +kernel
theorem dX11_text_51 : decode cX11_text 51 = .ok (.iconst 0, 1) := by decide +kernel
theorem dX11_text_52 : decode cX11_text 52 = .ok (.istore 5, 2) := by decide +kernel
theorem dX11_text_54 : decode cX11_text 54 = .ok (.iload 4, 2) := by decide +kernel
theorem dX11_text_56 : decode cX11_text 56 = .ok (.bipush (-2), 2) := by decide +kernel
theorem dX11_text_58 : decode cX11_text 58 = .ok (.if_icmp .eq 14, 3) := by decide +kernel
theorem dX11_text_61 : decode cX11_text 61 = .ok (.iload 5, 2) := by decide +kernel
theorem dX11_text_63 : decode cX11_text 63 = .ok (.ifCond .eq 12, 3) := by decide +kernel
theorem dX11_text_66 : decode cX11_text 66 = .ok (.iload 4, 2) := by decide +kernel
theorem dX11_text_68 : decode cX11_text 68 = .ok (.iconst 2, 1) := by decide +kernel
theorem dX11_text_69 : decode cX11_text 69 = .ok (.if_icmp .lt 6, 3) := by decide +kernel
theorem dX11_text_72 : decode cX11_text 72 = .ok (.bipush (-2), 2) := by decide +kernel
theorem dX11_text_74 : decode cX11_text 74 = .ok (.ireturn, 1) := by decide +kernel
theorem dX11_text_75 : decode cX11_text 75 = .ok (.iload 5, 2) := by decide +kernel
theorem dX11_text_77 : decode cX11_text 77 = .ok (.ifCond .ne 16, 3) := by decide +kernel
theorem dX11_text_80 : decode cX11_text 80 = .ok (.iload_n 2, 1) := by decide +kernel
theorem dX11_text_81 : decode cX11_text 81 = .ok (.ifCond .lt 9, 3) := by decide +kernel
theorem dX11_text_84 : decode cX11_text 84 = .ok (.iload_n 2, 1) := by decide +kernel
theorem dX11_text_85 : decode cX11_text 85 = .ok (.iload 4, 2) := by decide +kernel
theorem dX11_text_87 : decode cX11_text 87 = .ok (.if_icmp .lt 6, 3) := by decide +kernel
theorem dX11_text_90 : decode cX11_text 90 = .ok (.bipush (-2), 2) := by decide +kernel
theorem dX11_text_92 : decode cX11_text 92 = .ok (.ireturn, 1) := by decide +kernel
theorem dX11_text_93 : decode cX11_text 93 = .ok (.aload_n 0, 1) := by decide +kernel
theorem dX11_text_94 : decode cX11_text 94 = .ok (.getfield 27, 3) := by decide +kernel
theorem dX11_text_97 : decode cX11_text 97 = .ok (.aload_n 0, 1) := by decide +kernel
theorem dX11_text_98 : decode cX11_text 98 = .ok (.getfield 12, 3) := by decide +kernel
theorem dX11_text_101 : decode cX11_text 101 = .ok (.getfield 91, 3) := by decide +kernel
theorem dX11_text_104 : decode cX11_text 104 = .ok (.iload_n 3, 1) := by decide +kernel
theorem dX11_text_105 : decode cX11_text 105 = .ok (.iload_n 1, 1) := by decide +kernel
theorem dX11_text_106 : decode cX11_text 106 = .ok (.invokevirtual 95, 3) := by decide +kernel
theorem dX11_text_109 : decode cX11_text 109 = .ok (.aload_n 0, 1) := by decide +kernel
theorem dX11_text_110 : decode cX11_text 110 = .ok (.getfield 12, 3) := by decide +kernel
theorem dX11_text_113 : decode cX11_text 113 = .ok (.aload_n 0, 1) := by decide +kernel
theorem dX11_text_114 : decode cX11_text 114 = .ok (.getfield 27, 3) := by decide +kernel
theorem dX11_text_117 : decode cX11_text 117 = .ok (.getfield 99, 3) := by decide +kernel
theorem dX11_text_120 : decode cX11_text 120 = .ok (.putfield 81, 3) := by decide +kernel
theorem dX11_text_123 : decode cX11_text 123 = .ok (.aload_n 0, 1) := by decide +kernel
theorem dX11_text_124 : decode cX11_text 124 = .ok (.getfield 12, 3) := by decide +kernel
theorem dX11_text_127 : decode cX11_text 127 = .ok (.aload_n 0, 1) := by decide +kernel
theorem dX11_text_128 : decode cX11_text 128 = .ok (.getfield 27, 3) := by decide +kernel
theorem dX11_text_131 : decode cX11_text 131 = .ok (.getfield 100, 3) := by decide +kernel
theorem dX11_text_134 : decode cX11_text 134 = .ok (.putfield 84, 3) := by decide +kernel
theorem dX11_text_137 : decode cX11_text 137 = .ok (.aload_n 0, 1) := by decide +kernel
theorem dX11_text_138 : decode cX11_text 138 = .ok (.getfield 27, 3) := by decide +kernel
theorem dX11_text_141 : decode cX11_text 141 = .ok (.getfield 99, 3) := by decide +kernel
theorem dX11_text_144 : decode cX11_text 144 = .ok (.ifCond .eq 5, 3) := by decide +kernel
theorem dX11_text_147 : decode cX11_text 147 = .ok (.iconst (-1), 1) := by decide +kernel
theorem dX11_text_148 : decode cX11_text 148 = .ok (.ireturn, 1) := by decide +kernel
theorem dX11_text_149 : decode cX11_text 149 = .ok (.iload 5, 2) := by decide +kernel
theorem dX11_text_151 : decode cX11_text 151 = .ok (.ifCond .eq 8, 3) := by decide +kernel
theorem dX11_text_154 : decode cX11_text 154 = .ok (.iload 4, 2) := by decide +kernel
theorem dX11_text_156 : decode cX11_text 156 = .ok (.goto 4, 3) := by decide +kernel
theorem dX11_text_159 : decode cX11_text 159 = .ok (.iload_n 2, 1) := by decide +kernel
theorem dX11_text_160 : decode cX11_text 160 = .ok (.istore 6, 2) := by decide +kernel
theorem dX11_text_162 : decode cX11_text 162 = .ok (.aload_n 0, 1) := by decide +kernel
theorem dX11_text_163 : decode cX11_text 163 = .ok (.getfield 12, 3) := by decide +kernel
theorem dX11_text_166 : decode cX11_text 166 = .ok (.iload_n 1, 1) := by decide +kernel
theorem dX11_text_167 : decode cX11_text 167 = .ok (.iload 6, 2) := by decide +kernel
theorem dX11_text_169 : decode cX11_text 169 = .ok (.aload_n 0, 1) := by decide +kernel
theorem dX11_text_170 : decode cX11_text 170 = .ok (.getfield 27, 3) := by decide +kernel
theorem dX11_text_173 : decode cX11_text 173 = .ok (.invokevirtual 101, 3) := by decide +kernel
theorem dX11_text_176 : decode cX11_text 176 = .ok (.iload 6, 2) := by decide +kernel
theorem dX11_text_178 : decode cX11_text 178 = .ok (.ireturn, 1) := by decide +kernel
theorem dX11_fault_0 : decode cX11_fault 0 = .ok (.iload_n 1, 1) := by decide +kernel
theorem dX11_fault_1 : decode cX11_fault 1 = .ok (.ifCond .ne 11, 3) := by decide +kernel
theorem dX11_fault_4 : decode cX11_fault 4 = .ok (.aload_n 0, 1) := by decide +kernel
theorem dX11_fault_5 : decode cX11_fault 5 = .ok (.getfield 12, 3) := by decide +kernel
theorem dX11_fault_8 : decode cX11_fault 8 = .ok (.getfield 81, 3) := by decide +kernel
theorem dX11_fault_11 : decode cX11_fault 11 = .ok (.ireturn, 1) := by decide +kernel
theorem dX11_fault_12 : decode cX11_fault 12 = .ok (.iload_n 1, 1) := by decide +kernel
theorem dX11_fault_13 : decode cX11_fault 13 = .ok (.iconst 1, 1) := by decide +kernel
theorem dX11_fault_14 : decode cX11_fault 14 = .ok (.if_icmp .ne 13, 3) := by decide +kernel
theorem dX11_fault_17 : decode cX11_fault 17 = .ok (.aload_n 0, 1) := by decide +kernel
theorem dX11_fault_18 : decode cX11_fault 18 = .ok (.getfield 12, 3) := by decide +kernel
theorem dX11_fault_21 : decode cX11_fault 21 = .ok (.getfield 84, 3) := by decide +kernel
theorem dX11_fault_24 : decode cX11_fault 24 = .ok (.goto 4, 3) := by decide +kernel
theorem dX11_fault_27 : decode cX11_fault 27 = .ok (.iconst (-1), 1) := by decide +kernel
theorem dX11_fault_28 : decode cX11_fault 28 = .ok (.ireturn, 1) := by decide +kernel
theorem dX11_valley_0 : decode cX11_valley 0 = .ok (.aload_n 0, 1) := by decide +kernel
theorem dX11_valley_1 : decode cX11_valley 1 = .ok (.getfield 12, 3) := by decide +kernel
theorem dX11_valley_4 : decode cX11_valley 4 = .ok (.iload_n 1, 1) := by decide +kernel
theorem dX11_valley_5 : decode cX11_valley 5 = .ok (.invokevirtual 105, 3) := by decide +kernel
theorem dX11_valley_8 : decode cX11_valley 8 = .ok (.astore_n 3, 1) := by decide +kernel
theorem dX11_valley_9 : decode cX11_valley 9 = .ok (.aload_n 3, 1) := by decide +kernel
theorem dX11_valley_10 : decode cX11_valley 10 = .ok (.ifnonnull 7, 3) := by decide +kernel
theorem dX11_valley_13 : decode cX11_valley 13 = .ok (.iconst (-1), 1) := by decide +kernel
theorem dX11_valley_14 : decode cX11_valley 14 = .ok (.goto 8, 3) := by decide +kernel
theorem dX11_valley_17 : decode cX11_valley 17 = .ok (.aload_n 3, 1) := by decide +kernel
theorem dX11_valley_18 : decode cX11_valley 18 = .ok (.iload_n 2, 1) := by decide +kernel
theorem dX11_valley_19 : decode cX11_valley 19 = .ok (.invokevirtual 109, 3) := by decide +kernel
theorem dX11_valley_22 : decode cX11_valley 22 = .ok (.ireturn, 1) := by decide +kernel
theorem dX11_deed_0 : decode cX11_deed 0 = .ok (.aload_n 0, 1) := by decide +kernel
theorem dX11_deed_1 : decode cX11_deed 1 = .ok (.getfield 12, 3) := by decide +kernel
theorem dX11_deed_4 : decode cX11_deed 4 = .ok (.iload_n 1, 1) := by decide +kernel
theorem dX11_deed_5 : decode cX11_deed 5 = .ok (.invokevirtual 114, 3) := by decide +kernel
theorem dX11_deed_8 : decode cX11_deed 8 = .ok (.astore 4, 2) := by decide +kernel
theorem dX11_deed_10 : decode cX11_deed 10 = .ok (.aload 4, 2) := by decide +kernel
theorem dX11_deed_12 : decode cX11_deed 12 = .ok (.ifnonnull 8, 3) := by decide +kernel
theorem dX11_deed_15 : decode cX11_deed 15 = .ok (.bipush (-2), 2) := by decide +kernel
theorem dX11_deed_17 : decode cX11_deed 17 = .ok (.goto 10, 3) := by decide +kernel
theorem dX11_deed_20 : decode cX11_deed 20 = .ok (.aload 4, 2) := by decide +kernel
theorem dX11_deed_22 : decode cX11_deed 22 = .ok (.iload_n 2, 1) := by decide +kernel
theorem dX11_deed_23 : decode cX11_deed 23 = .ok (.iload_n 3, 1) := by decide +kernel
theorem dX11_deed_24 : decode cX11_deed 24 = .ok (.invokevirtual 118, 3) := by decide +kernel
theorem dX11_deed_27 : decode cX11_deed 27 = .ok (.ireturn, 1) := by decide +kernel
theorem dX11_stop_0 : decode cX11_stop 0 = .ok (.aload_n 0, 1) := by decide +kernel
theorem dX11_stop_1 : decode cX11_stop 1 = .ok (.getfield 12, 3) := by decide +kernel
theorem dX11_stop_4 : decode cX11_stop 4 = .ok (.iload_n 1, 1) := by decide +kernel
theorem dX11_stop_5 : decode cX11_stop 5 = .ok (.invokevirtual 105, 3) := by decide +kernel
theorem dX11_stop_8 : decode cX11_stop 8 = .ok (.astore_n 3, 1) := by decide +kernel
theorem dX11_stop_9 : decode cX11_stop 9 = .ok (.aload_n 0, 1) := by decide +kernel
theorem dX11_stop_10 : decode cX11_stop 10 = .ok (.getfield 12, 3) := by decide +kernel
theorem dX11_stop_13 : decode cX11_stop 13 = .ok (.iload_n 2, 1) := by decide +kernel
theorem dX11_stop_14 : decode cX11_stop 14 = .ok (.invokevirtual 114, 3) := by decide +kernel
theorem dX11_stop_17 : decode cX11_stop 17 = .ok (.astore 4, 2) := by decide +kernel
theorem dX11_stop_19 : decode cX11_stop 19 = .ok (.aload_n 3, 1) := by decide +kernel
theorem dX11_stop_20 : decode cX11_stop 20 = .ok (.ifnull 8, 3) := by decide +kernel
theorem dX11_stop_23 : decode cX11_stop 23 = .ok (.aload 4, 2) := by decide +kernel
theorem dX11_stop_25 : decode cX11_stop 25 = .ok (.ifnonnull 5, 3) := by decide +kernel
theorem dX11_stop_28 : decode cX11_stop 28 = .ok (.iconst (-1), 1) := by decide +kernel
theorem dX11_stop_29 : decode cX11_stop 29 = .ok (.ireturn, 1) := by decide +kernel
theorem dX11_stop_30 : decode cX11_stop 30 = .ok (.aload_n 0, 1) := by decide +kernel
theorem dX11_stop_31 : decode cX11_stop 31 = .ok (.getfield 34, 3) := by decide +kernel
theorem dX11_stop_34 : decode cX11_stop 34 = .ok (.aload_n 3, 1) := by decide +kernel
theorem dX11_stop_35 : decode cX11_stop 35 = .ok (.aload 4, 2) := by decide +kernel
theorem dX11_stop_37 : decode cX11_stop 37 = .ok (.aload 4, 2) := by decide +kernel
theorem dX11_stop_39 : decode cX11_stop 39 = .ok (.getfield 123, 3) := by decide +kernel
theorem dX11_stop_42 : decode cX11_stop 42 = .ok (.invokevirtual 126, 3) := by decide +kernel
theorem dX11_stop_45 : decode cX11_stop 45 = .ok (.ireturn, 1) := by decide +kernel
theorem dX11_state_0 : decode cX11_state 0 = .ok (.aload_n 0, 1) := by decide +kernel
theorem dX11_state_1 : decode cX11_state 1 = .ok (.getfield 12, 3) := by decide +kernel
theorem dX11_state_4 : decode cX11_state 4 = .ok (.iload_n 1, 1) := by decide +kernel
theorem dX11_state_5 : decode cX11_state 5 = .ok (.invokevirtual 105, 3) := by decide +kernel
theorem dX11_state_8 : decode cX11_state 8 = .ok (.astore 5, 2) := by decide +kernel
theorem dX11_state_10 : decode cX11_state 10 = .ok (.aload_n 0, 1) := by decide +kernel
theorem dX11_state_11 : decode cX11_state 11 = .ok (.getfield 12, 3) := by decide +kernel
theorem dX11_state_14 : decode cX11_state 14 = .ok (.iload_n 2, 1) := by decide +kernel
theorem dX11_state_15 : decode cX11_state 15 = .ok (.invokevirtual 114, 3) := by decide +kernel
theorem dX11_state_18 : decode cX11_state 18 = .ok (.astore 6, 2) := by decide +kernel
theorem dX11_state_20 : decode cX11_state 20 = .ok (.aload 5, 2) := by decide +kernel
theorem dX11_state_22 : decode cX11_state 22 = .ok (.ifnull 21, 3) := by decide +kernel
theorem dX11_state_25 : decode cX11_state 25 = .ok (.aload 6, 2) := by decide +kernel
theorem dX11_state_27 : decode cX11_state 27 = .ok (.ifnull 16, 3) := by decide +kernel
theorem dX11_state_30 : decode cX11_state 30 = .ok (.iload_n 3, 1) := by decide +kernel
theorem dX11_state_31 : decode cX11_state 31 = .ok (.ifCond .lt 12, 3) := by decide +kernel
theorem dX11_state_34 : decode cX11_state 34 = .ok (.iload_n 3, 1) := by decide +kernel
theorem dX11_state_35 : decode cX11_state 35 = .ok (.aload 6, 2) := by decide +kernel
theorem dX11_state_37 : decode cX11_state 37 = .ok (.getfield 123, 3) := by decide +kernel
theorem dX11_state_40 : decode cX11_state 40 = .ok (.if_icmp .le 6, 3) := by decide +kernel
theorem dX11_state_43 : decode cX11_state 43 = .ok (.bipush (-2), 2) := by decide +kernel
theorem dX11_state_45 : decode cX11_state 45 = .ok (.ireturn, 1) := by decide +kernel
theorem dX11_state_46 : decode cX11_state 46 = .ok (.aload_n 0, 1) := by decide +kernel
theorem dX11_state_47 : decode cX11_state 47 = .ok (.getfield 34, 3) := by decide +kernel
theorem dX11_state_50 : decode cX11_state 50 = .ok (.aload 5, 2) := by decide +kernel
theorem dX11_state_52 : decode cX11_state 52 = .ok (.aload 6, 2) := by decide +kernel
theorem dX11_state_54 : decode cX11_state 54 = .ok (.iload_n 3, 1) := by decide +kernel
theorem dX11_state_55 : decode cX11_state 55 = .ok (.invokevirtual 126, 3) := by decide +kernel
theorem dX11_state_58 : decode cX11_state 58 = .ok (.iload_n 3, 1) := by decide +kernel
theorem dX11_state_59 : decode cX11_state 59 = .ok (.if_icmp .ge 6, 3) := by decide +kernel
theorem dX11_state_62 : decode cX11_state 62 = .ok (.bipush (-2), 2) := by decide +kernel
theorem dX11_state_64 : decode cX11_state 64 = .ok (.ireturn, 1) := by decide +kernel
theorem dX11_state_65 : decode cX11_state 65 = .ok (.aload_n 0, 1) := by decide +kernel
theorem dX11_state_66 : decode cX11_state 66 = .ok (.getfield 34, 3) := by decide +kernel
theorem dX11_state_69 : decode cX11_state 69 = .ok (.iload 4, 2) := by decide +kernel
theorem dX11_state_71 : decode cX11_state 71 = .ok (.invokevirtual 130, 3) := by decide +kernel
theorem dX11_state_74 : decode cX11_state 74 = .ok (.ireturn, 1) := by decide +kernel
theorem dX11_keep_0 : decode cX11_keep 0 = .ok (.aload_n 0, 1) := by decide +kernel
theorem dX11_keep_1 : decode cX11_keep 1 = .ok (.getfield 12, 3) := by decide +kernel
theorem dX11_keep_4 : decode cX11_keep 4 = .ok (.iload_n 1, 1) := by decide +kernel
theorem dX11_keep_5 : decode cX11_keep 5 = .ok (.invokevirtual 105, 3) := by decide +kernel
theorem dX11_keep_8 : decode cX11_keep 8 = .ok (.astore 5, 2) := by decide +kernel
theorem dX11_keep_10 : decode cX11_keep 10 = .ok (.aload 5, 2) := by decide +kernel
theorem dX11_keep_12 : decode cX11_keep 12 = .ok (.ifnull 15, 3) := by decide +kernel
theorem dX11_keep_15 : decode cX11_keep 15 = .ok (.aload 5, 2) := by decide +kernel
theorem dX11_keep_17 : decode cX11_keep 17 = .ok (.iload_n 2, 1) := by decide +kernel
theorem dX11_keep_18 : decode cX11_keep 18 = .ok (.iload_n 3, 1) := by decide +kernel
theorem dX11_keep_19 : decode cX11_keep 19 = .ok (.iload 4, 2) := by decide +kernel
theorem dX11_keep_21 : decode cX11_keep 21 = .ok (.invokevirtual 131, 3) := by decide +kernel
theorem dX11_keep_24 : decode cX11_keep 24 = .ok (.ifCond .ne 5, 3) := by decide +kernel
theorem dX11_keep_27 : decode cX11_keep 27 = .ok (.iconst (-1), 1) := by decide +kernel
theorem dX11_keep_28 : decode cX11_keep 28 = .ok (.ireturn, 1) := by decide +kernel
theorem dX11_keep_29 : decode cX11_keep 29 = .ok (.aload 5, 2) := by decide +kernel
theorem dX11_keep_31 : decode cX11_keep 31 = .ok (.iload_n 2, 1) := by decide +kernel
theorem dX11_keep_32 : decode cX11_keep 32 = .ok (.iload_n 3, 1) := by decide +kernel
theorem dX11_keep_33 : decode cX11_keep 33 = .ok (.iload 4, 2) := by decide +kernel
theorem dX11_keep_35 : decode cX11_keep 35 = .ok (.invokevirtual 135, 3) := by decide +kernel
theorem dX11_keep_38 : decode cX11_keep 38 = .ok (.ifCond .eq 7, 3) := by decide +kernel
theorem dX11_keep_41 : decode cX11_keep 41 = .ok (.iconst 1, 1) := by decide +kernel
theorem dX11_keep_42 : decode cX11_keep 42 = .ok (.goto 4, 3) := by decide +kernel
theorem dX11_keep_45 : decode cX11_keep 45 = .ok (.iconst 0, 1) := by decide +kernel
theorem dX11_keep_46 : decode cX11_keep 46 = .ok (.ireturn, 1) := by decide +kernel
theorem dX11_say_0 : decode cX11_say 0 = .ok (.aload_n 0, 1) := by decide +kernel
theorem dX11_say_1 : decode cX11_say 1 = .ok (.getfield 12, 3) := by decide +kernel
theorem dX11_say_4 : decode cX11_say 4 = .ok (.iload_n 1, 1) := by decide +kernel
theorem dX11_say_5 : decode cX11_say 5 = .ok (.invokevirtual 105, 3) := by decide +kernel
theorem dX11_say_8 : decode cX11_say 8 = .ok (.astore 5, 2) := by decide +kernel
theorem dX11_say_10 : decode cX11_say 10 = .ok (.aload 5, 2) := by decide +kernel
theorem dX11_say_12 : decode cX11_say 12 = .ok (.ifnull 22, 3) := by decide +kernel
theorem dX11_say_15 : decode cX11_say 15 = .ok (.iload_n 3, 1) := by decide +kernel
theorem dX11_say_16 : decode cX11_say 16 = .ok (.invokestatic 138, 3) := by decide +kernel
theorem dX11_say_19 : decode cX11_say 19 = .ok (.ifCond .eq 15, 3) := by decide +kernel
theorem dX11_say_22 : decode cX11_say 22 = .ok (.iload_n 2, 1) := by decide +kernel
theorem dX11_say_23 : decode cX11_say 23 = .ok (.aload 5, 2) := by decide +kernel
theorem dX11_say_25 : decode cX11_say 25 = .ok (.invokevirtual 142, 3) := by decide +kernel
theorem dX11_say_28 : decode cX11_say 28 = .ok (.iconst (-1), 1) := by decide +kernel
theorem dX11_say_29 : decode cX11_say 29 = .ok (.ixor, 1) := by decide +kernel
theorem dX11_say_30 : decode cX11_say 30 = .ok (.iand, 1) := by decide +kernel
theorem dX11_say_31 : decode cX11_say 31 = .ok (.ifCond .eq 5, 3) := by decide +kernel
theorem dX11_say_34 : decode cX11_say 34 = .ok (.iconst (-1), 1) := by decide +kernel
theorem dX11_say_35 : decode cX11_say 35 = .ok (.ireturn, 1) := by decide +kernel
theorem dX11_say_36 : decode cX11_say 36 = .ok (.aload_n 0, 1) := by decide +kernel
theorem dX11_say_37 : decode cX11_say 37 = .ok (.getfield 48, 3) := by decide +kernel
theorem dX11_say_40 : decode cX11_say 40 = .ok (.aload 5, 2) := by decide +kernel
theorem dX11_say_42 : decode cX11_say 42 = .ok (.iload_n 3, 1) := by decide +kernel
theorem dX11_say_43 : decode cX11_say 43 = .ok (.invokevirtual 146, 3) := by decide +kernel
theorem dX11_say_46 : decode cX11_say 46 = .ok (.aload_n 0, 1) := by decide +kernel
theorem dX11_say_47 : decode cX11_say 47 = .ok (.getfield 48, 3) := by decide +kernel
theorem dX11_say_50 : decode cX11_say 50 = .ok (.iload_n 2, 1) := by decide +kernel
theorem dX11_say_51 : decode cX11_say 51 = .ok (.sipush 1023, 3) := by decide +kernel
theorem dX11_say_54 : decode cX11_say 54 = .ok (.invokevirtual 150, 3) := by decide +kernel
theorem dX11_say_57 : decode cX11_say 57 = .ok (.ifCond .ne 5, 3) := by decide +kernel
theorem dX11_say_60 : decode cX11_say 60 = .ok (.iconst (-1), 1) := by decide +kernel
theorem dX11_say_61 : decode cX11_say 61 = .ok (.ireturn, 1) := by decide +kernel
theorem dX11_say_62 : decode cX11_say 62 = .ok (.iload 4, 2) := by decide +kernel
theorem dX11_say_64 : decode cX11_say 64 = .ok (.iconst (-1), 1) := by decide +kernel
theorem dX11_say_65 : decode cX11_say 65 = .ok (.if_icmp .ne 10, 3) := by decide +kernel
theorem dX11_say_68 : decode cX11_say 68 = .ok (.iload_n 2, 1) := by decide +kernel
theorem dX11_say_69 : decode cX11_say 69 = .ok (.invokestatic 154, 3) := by decide +kernel
theorem dX11_say_72 : decode cX11_say 72 = .ok (.goto 13, 3) := by decide +kernel
theorem dX11_say_75 : decode cX11_say 75 = .ok (.aload_n 0, 1) := by decide +kernel
theorem dX11_say_76 : decode cX11_say 76 = .ok (.getfield 48, 3) := by decide +kernel
theorem dX11_say_79 : decode cX11_say 79 = .ok (.iload_n 2, 1) := by decide +kernel
theorem dX11_say_80 : decode cX11_say 80 = .ok (.iload 4, 2) := by decide +kernel
theorem dX11_say_82 : decode cX11_say 82 = .ok (.invokevirtual 159, 3) := by decide +kernel
theorem dX11_say_85 : decode cX11_say 85 = .ok (.ireturn, 1) := by decide +kernel
theorem dX11_dare_0 : decode cX11_dare 0 = .ok (.aload_n 0, 1) := by decide +kernel
theorem dX11_dare_1 : decode cX11_dare 1 = .ok (.getfield 12, 3) := by decide +kernel
theorem dX11_dare_4 : decode cX11_dare 4 = .ok (.iload_n 1, 1) := by decide +kernel
theorem dX11_dare_5 : decode cX11_dare 5 = .ok (.invokevirtual 105, 3) := by decide +kernel
theorem dX11_dare_8 : decode cX11_dare 8 = .ok (.astore 4, 2) := by decide +kernel
theorem dX11_dare_10 : decode cX11_dare 10 = .ok (.aload 4, 2) := by decide +kernel
theorem dX11_dare_12 : decode cX11_dare 12 = .ok (.ifnull 12, 3) := by decide +kernel
theorem dX11_dare_15 : decode cX11_dare 15 = .ok (.iload_n 2, 1) := by decide +kernel
theorem dX11_dare_16 : decode cX11_dare 16 = .ok (.ifCond .lt 8, 3) := by decide +kernel
theorem dX11_dare_19 : decode cX11_dare 19 = .ok (.iload_n 2, 1) := by decide +kernel
theorem dX11_dare_20 : decode cX11_dare 20 = .ok (.iconst 4, 1) := by decide +kernel
theorem dX11_dare_21 : decode cX11_dare 21 = .ok (.if_icmp .le 7, 3) := by decide +kernel
theorem dX11_dare_24 : decode cX11_dare 24 = .ok (.sipush (-999), 3) := by decide +kernel
theorem dX11_dare_27 : decode cX11_dare 27 = .ok (.ireturn, 1) := by decide +kernel
theorem dX11_dare_28 : decode cX11_dare 28 = .ok (.aload_n 0, 1) := by decide +kernel
theorem dX11_dare_29 : decode cX11_dare 29 = .ok (.getfield 48, 3) := by decide +kernel
theorem dX11_dare_32 : decode cX11_dare 32 = .ok (.aload 4, 2) := by decide +kernel
theorem dX11_dare_34 : decode cX11_dare 34 = .ok (.bipush 9, 2) := by decide +kernel
theorem dX11_dare_36 : decode cX11_dare 36 = .ok (.invokevirtual 146, 3) := by decide +kernel
theorem dX11_dare_39 : decode cX11_dare 39 = .ok (.iload_n 3, 1) := by decide +kernel
theorem dX11_dare_40 : decode cX11_dare 40 = .ok (.ifCond .eq 16, 3) := by decide +kernel
theorem dX11_dare_43 : decode cX11_dare 43 = .ok (.aload_n 0, 1) := by decide +kernel
theorem dX11_dare_44 : decode cX11_dare 44 = .ok (.getfield 48, 3) := by decide +kernel
theorem dX11_dare_47 : decode cX11_dare 47 = .ok (.aload 4, 2) := by decide +kernel
theorem dX11_dare_49 : decode cX11_dare 49 = .ok (.iload_n 2, 1) := by decide +kernel
theorem dX11_dare_50 : decode cX11_dare 50 = .ok (.invokevirtual 162, 3) := by decide +kernel
theorem dX11_dare_53 : decode cX11_dare 53 = .ok (.goto 13, 3) := by decide +kernel
theorem dX11_dare_56 : decode cX11_dare 56 = .ok (.aload_n 0, 1) := by decide +kernel
theorem dX11_dare_57 : decode cX11_dare 57 = .ok (.getfield 48, 3) := by decide +kernel
theorem dX11_dare_60 : decode cX11_dare 60 = .ok (.aload 4, 2) := by decide +kernel
theorem dX11_dare_62 : decode cX11_dare 62 = .ok (.iload_n 2, 1) := by decide +kernel
theorem dX11_dare_63 : decode cX11_dare 63 = .ok (.invokevirtual 166, 3) := by decide +kernel
theorem dX11_dare_66 : decode cX11_dare 66 = .ok (.ireturn, 1) := by decide +kernel
theorem dX11_plan_0 : decode cX11_plan 0 = .ok (.aload_n 0, 1) := by decide +kernel
theorem dX11_plan_1 : decode cX11_plan 1 = .ok (.getfield 12, 3) := by decide +kernel
theorem dX11_plan_4 : decode cX11_plan 4 = .ok (.iload_n 1, 1) := by decide +kernel
theorem dX11_plan_5 : decode cX11_plan 5 = .ok (.invokevirtual 105, 3) := by decide +kernel
theorem dX11_plan_8 : decode cX11_plan 8 = .ok (.astore 4, 2) := by decide +kernel
theorem dX11_plan_10 : decode cX11_plan 10 = .ok (.aload 4, 2) := by decide +kernel
theorem dX11_plan_12 : decode cX11_plan 12 = .ok (.ifnull 19, 3) := by decide +kernel
theorem dX11_plan_15 : decode cX11_plan 15 = .ok (.iload_n 2, 1) := by decide +kernel
theorem dX11_plan_16 : decode cX11_plan 16 = .ok (.invokestatic 138, 3) := by decide +kernel
theorem dX11_plan_19 : decode cX11_plan 19 = .ok (.ifCond .eq 12, 3) := by decide +kernel
theorem dX11_plan_22 : decode cX11_plan 22 = .ok (.iload_n 3, 1) := by decide +kernel
theorem dX11_plan_23 : decode cX11_plan 23 = .ok (.ifCond .lt 8, 3) := by decide +kernel
theorem dX11_plan_26 : decode cX11_plan 26 = .ok (.iload_n 3, 1) := by decide +kernel
theorem dX11_plan_27 : decode cX11_plan 27 = .ok (.iconst 2, 1) := by decide +kernel
theorem dX11_plan_28 : decode cX11_plan 28 = .ok (.if_icmp .le 5, 3) := by decide +kernel
theorem dX11_plan_31 : decode cX11_plan 31 = .ok (.iconst (-1), 1) := by decide +kernel
theorem dX11_plan_32 : decode cX11_plan 32 = .ok (.ireturn, 1) := by decide +kernel
theorem dX11_plan_33 : decode cX11_plan 33 = .ok (.aload_n 0, 1) := by decide +kernel
theorem dX11_plan_34 : decode cX11_plan 34 = .ok (.getfield 55, 3) := by decide +kernel
theorem dX11_plan_37 : decode cX11_plan 37 = .ok (.aload 4, 2) := by decide +kernel
theorem dX11_plan_39 : decode cX11_plan 39 = .ok (.iload_n 2, 1) := by decide +kernel
theorem dX11_plan_40 : decode cX11_plan 40 = .ok (.invokevirtual 169, 3) := by decide +kernel
theorem dX11_plan_43 : decode cX11_plan 43 = .ok (.iload_n 3, 1) := by decide +kernel
theorem dX11_plan_44 : decode cX11_plan 44 = .ok (.ifCond .ne 11, 3) := by decide +kernel
theorem dX11_plan_47 : decode cX11_plan 47 = .ok (.aload_n 0, 1) := by decide +kernel
theorem dX11_plan_48 : decode cX11_plan 48 = .ok (.getfield 55, 3) := by decide +kernel
theorem dX11_plan_51 : decode cX11_plan 51 = .ok (.getfield 172, 3) := by decide +kernel
theorem dX11_plan_54 : decode cX11_plan 54 = .ok (.ireturn, 1) := by decide +kernel
theorem dX11_plan_55 : decode cX11_plan 55 = .ok (.iload_n 3, 1) := by decide +kernel
theorem dX11_plan_56 : decode cX11_plan 56 = .ok (.iconst 1, 1) := by decide +kernel
theorem dX11_plan_57 : decode cX11_plan 57 = .ok (.if_icmp .ne 13, 3) := by decide +kernel
theorem dX11_plan_60 : decode cX11_plan 60 = .ok (.aload_n 0, 1) := by decide +kernel
theorem dX11_plan_61 : decode cX11_plan 61 = .ok (.getfield 55, 3) := by decide +kernel
theorem dX11_plan_64 : decode cX11_plan 64 = .ok (.getfield 175, 3) := by decide +kernel
theorem dX11_plan_67 : decode cX11_plan 67 = .ok (.goto 10, 3) := by decide +kernel
theorem dX11_plan_70 : decode cX11_plan 70 = .ok (.aload_n 0, 1) := by decide +kernel
theorem dX11_plan_71 : decode cX11_plan 71 = .ok (.getfield 55, 3) := by decide +kernel
theorem dX11_plan_74 : decode cX11_plan 74 = .ok (.getfield 178, 3) := by decide +kernel
theorem dX11_plan_77 : decode cX11_plan 77 = .ok (.ireturn, 1) := by decide +kernel
theorem dX11_odds_0 : decode cX11_odds 0 = .ok (.aload_n 0, 1) := by decide +kernel
theorem dX11_odds_1 : decode cX11_odds 1 = .ok (.getfield 12, 3) := by decide +kernel
theorem dX11_odds_4 : decode cX11_odds 4 = .ok (.iload_n 1, 1) := by decide +kernel
theorem dX11_odds_5 : decode cX11_odds 5 = .ok (.invokevirtual 105, 3) := by decide +kernel
theorem dX11_odds_8 : decode cX11_odds 8 = .ok (.astore 6, 2) := by decide +kernel
theorem dX11_odds_10 : decode cX11_odds 10 = .ok (.aload 6, 2) := by decide +kernel
theorem dX11_odds_12 : decode cX11_odds 12 = .ok (.ifnull 15, 3) := by decide +kernel
theorem dX11_odds_15 : decode cX11_odds 15 = .ok (.aload 6, 2) := by decide +kernel
theorem dX11_odds_17 : decode cX11_odds 17 = .ok (.iload_n 2, 1) := by decide +kernel
theorem dX11_odds_18 : decode cX11_odds 18 = .ok (.iload_n 3, 1) := by decide +kernel
theorem dX11_odds_19 : decode cX11_odds 19 = .ok (.iload 4, 2) := by decide +kernel
theorem dX11_odds_21 : decode cX11_odds 21 = .ok (.invokevirtual 131, 3) := by decide +kernel
theorem dX11_odds_24 : decode cX11_odds 24 = .ok (.ifCond .ne 7, 3) := by decide +kernel
theorem dX11_odds_27 : decode cX11_odds 27 = .ok (.ldc2_w 181, 3) := by decide +kernel
theorem dX11_odds_30 : decode cX11_odds 30 = .ok (.lreturn, 1) := by decide +kernel
theorem dX11_odds_31 : decode cX11_odds 31 = .ok (.aload_n 0, 1) := by decide +kernel
theorem dX11_odds_32 : decode cX11_odds 32 = .ok (.getfield 69, 3) := by decide +kernel
theorem dX11_odds_35 : decode cX11_odds 35 = .ok (.aload 6, 2) := by decide +kernel
theorem dX11_odds_37 : decode cX11_odds 37 = .ok (.iload_n 2, 1) := by decide +kernel
theorem dX11_odds_38 : decode cX11_odds 38 = .ok (.iload_n 3, 1) := by decide +kernel
theorem dX11_odds_39 : decode cX11_odds 39 = .ok (.iload 4, 2) := by decide +kernel
theorem dX11_odds_41 : decode cX11_odds 41 = .ok (.invokevirtual 183, 3) := by decide +kernel
theorem dX11_odds_44 : decode cX11_odds 44 = .ok (.aload_n 0, 1) := by decide +kernel
theorem dX11_odds_45 : decode cX11_odds 45 = .ok (.getfield 69, 3) := by decide +kernel
theorem dX11_odds_48 : decode cX11_odds 48 = .ok (.iload 5, 2) := by decide +kernel
theorem dX11_odds_50 : decode cX11_odds 50 = .ok (.invokevirtual 187, 3) := by decide +kernel
theorem dX11_odds_53 : decode cX11_odds 53 = .ok (.lreturn, 1) := by decide +kernel
theorem dX11_power_0 : decode cX11_power 0 = .ok (.aload_n 0, 1) := by decide +kernel
theorem dX11_power_1 : decode cX11_power 1 = .ok (.getfield 12, 3) := by decide +kernel
theorem dX11_power_4 : decode cX11_power 4 = .ok (.iload_n 1, 1) := by decide +kernel
theorem dX11_power_5 : decode cX11_power 5 = .ok (.invokevirtual 105, 3) := by decide +kernel
theorem dX11_power_8 : decode cX11_power 8 = .ok (.astore 7, 2) := by decide +kernel
theorem dX11_power_10 : decode cX11_power 10 = .ok (.aload 7, 2) := by decide +kernel
theorem dX11_power_12 : decode cX11_power 12 = .ok (.ifnull 26, 3) := by decide +kernel
theorem dX11_power_15 : decode cX11_power 15 = .ok (.aload 7, 2) := by decide +kernel
theorem dX11_power_17 : decode cX11_power 17 = .ok (.iload_n 2, 1) := by decide +kernel
theorem dX11_power_18 : decode cX11_power 18 = .ok (.iload_n 3, 1) := by decide +kernel
theorem dX11_power_19 : decode cX11_power 19 = .ok (.iload 4, 2) := by decide +kernel
theorem dX11_power_21 : decode cX11_power 21 = .ok (.invokevirtual 131, 3) := by decide +kernel
theorem dX11_power_24 : decode cX11_power 24 = .ok (.ifCond .eq 14, 3) := by decide +kernel
theorem dX11_power_27 : decode cX11_power 27 = .ok (.aload 7, 2) := by decide +kernel
theorem dX11_power_29 : decode cX11_power 29 = .ok (.iload 5, 2) := by decide +kernel
theorem dX11_power_31 : decode cX11_power 31 = .ok (.iload_n 2, 1) := by decide +kernel
theorem dX11_power_32 : decode cX11_power 32 = .ok (.invokevirtual 191, 3) := by decide +kernel
theorem dX11_power_35 : decode cX11_power 35 = .ok (.ifCond .ne 7, 3) := by decide +kernel
theorem dX11_power_38 : decode cX11_power 38 = .ok (.ldc2_w 181, 3) := by decide +kernel
theorem dX11_power_41 : decode cX11_power 41 = .ok (.lreturn, 1) := by decide +kernel
theorem dX11_power_42 : decode cX11_power 42 = .ok (.aload_n 0, 1) := by decide +kernel
theorem dX11_power_43 : decode cX11_power 43 = .ok (.getfield 69, 3) := by decide +kernel
theorem dX11_power_46 : decode cX11_power 46 = .ok (.aload 7, 2) := by decide +kernel
theorem dX11_power_48 : decode cX11_power 48 = .ok (.iload_n 2, 1) := by decide +kernel
theorem dX11_power_49 : decode cX11_power 49 = .ok (.iload_n 3, 1) := by decide +kernel
theorem dX11_power_50 : decode cX11_power 50 = .ok (.iload 4, 2) := by decide +kernel
theorem dX11_power_52 : decode cX11_power 52 = .ok (.iload 5, 2) := by decide +kernel
theorem dX11_power_54 : decode cX11_power 54 = .ok (.invokevirtual 194, 3) := by decide +kernel
theorem dX11_power_57 : decode cX11_power 57 = .ok (.aload_n 0, 1) := by decide +kernel
theorem dX11_power_58 : decode cX11_power 58 = .ok (.getfield 69, 3) := by decide +kernel
theorem dX11_power_61 : decode cX11_power 61 = .ok (.iload 6, 2) := by decide +kernel
theorem dX11_power_63 : decode cX11_power 63 = .ok (.invokevirtual 187, 3) := by decide +kernel
theorem dX11_power_66 : decode cX11_power 66 = .ok (.lreturn, 1) := by decide +kernel
theorem dX11_kinship_0 : decode cX11_kinship 0 = .ok (.aload_n 0, 1) := by decide +kernel
theorem dX11_kinship_1 : decode cX11_kinship 1 = .ok (.getfield 12, 3) := by decide +kernel
theorem dX11_kinship_4 : decode cX11_kinship 4 = .ok (.iload_n 1, 1) := by decide +kernel
theorem dX11_kinship_5 : decode cX11_kinship 5 = .ok (.invokevirtual 105, 3) := by decide +kernel
theorem dX11_kinship_8 : decode cX11_kinship 8 = .ok (.astore 5, 2) := by decide +kernel
theorem dX11_kinship_10 : decode cX11_kinship 10 = .ok (.aload 5, 2) := by decide +kernel
theorem dX11_kinship_12 : decode cX11_kinship 12 = .ok (.ifnull 21, 3) := by decide +kernel
theorem dX11_kinship_15 : decode cX11_kinship 15 = .ok (.aload 5, 2) := by decide +kernel
theorem dX11_kinship_17 : decode cX11_kinship 17 = .ok (.iload_n 2, 1) := by decide +kernel
theorem dX11_kinship_18 : decode cX11_kinship 18 = .ok (.invokevirtual 198, 3) := by decide +kernel
theorem dX11_kinship_21 : decode cX11_kinship 21 = .ok (.ifCond .eq 12, 3) := by decide +kernel
theorem dX11_kinship_24 : decode cX11_kinship 24 = .ok (.aload 5, 2) := by decide +kernel
theorem dX11_kinship_26 : decode cX11_kinship 26 = .ok (.iload_n 3, 1) := by decide +kernel
theorem dX11_kinship_27 : decode cX11_kinship 27 = .ok (.invokevirtual 198, 3) := by decide +kernel
theorem dX11_kinship_30 : decode cX11_kinship 30 = .ok (.ifCond .ne 7, 3) := by decide +kernel
theorem dX11_kinship_33 : decode cX11_kinship 33 = .ok (.ldc2_w 181, 3) := by decide +kernel
theorem dX11_kinship_36 : decode cX11_kinship 36 = .ok (.lreturn, 1) := by decide +kernel
theorem dX11_kinship_37 : decode cX11_kinship 37 = .ok (.aload_n 0, 1) := by decide +kernel
theorem dX11_kinship_38 : decode cX11_kinship 38 = .ok (.getfield 69, 3) := by decide +kernel
theorem dX11_kinship_41 : decode cX11_kinship 41 = .ok (.aload_n 0, 1) := by decide +kernel
theorem dX11_kinship_42 : decode cX11_kinship 42 = .ok (.getfield 62, 3) := by decide +kernel
theorem dX11_kinship_45 : decode cX11_kinship 45 = .ok (.aload 5, 2) := by decide +kernel
theorem dX11_kinship_47 : decode cX11_kinship 47 = .ok (.iload_n 2, 1) := by decide +kernel
theorem dX11_kinship_48 : decode cX11_kinship 48 = .ok (.iload_n 3, 1) := by decide +kernel
theorem dX11_kinship_49 : decode cX11_kinship 49 = .ok (.invokevirtual 201, 3) := by decide +kernel
theorem dX11_kinship_52 : decode cX11_kinship 52 = .ok (.ldc2_w 205, 3) := by decide +kernel
theorem dX11_kinship_55 : decode cX11_kinship 55 = .ok (.invokevirtual 207, 3) := by decide +kernel
theorem dX11_kinship_58 : decode cX11_kinship 58 = .ok (.aload_n 0, 1) := by decide +kernel
theorem dX11_kinship_59 : decode cX11_kinship 59 = .ok (.getfield 69, 3) := by decide +kernel
theorem dX11_kinship_62 : decode cX11_kinship 62 = .ok (.iload 4, 2) := by decide +kernel
theorem dX11_kinship_64 : decode cX11_kinship 64 = .ok (.invokevirtual 187, 3) := by decide +kernel
theorem dX11_kinship_67 : decode cX11_kinship 67 = .ok (.lreturn, 1) := by decide +kernel
theorem dX11_line_0 : decode cX11_line 0 = .ok (.aload_n 0, 1) := by decide +kernel
theorem dX11_line_1 : decode cX11_line 1 = .ok (.getfield 12, 3) := by decide +kernel
theorem dX11_line_4 : decode cX11_line 4 = .ok (.iload_n 1, 1) := by decide +kernel
theorem dX11_line_5 : decode cX11_line 5 = .ok (.invokevirtual 105, 3) := by decide +kernel
theorem dX11_line_8 : decode cX11_line 8 = .ok (.astore_n 3, 1) := by decide +kernel
theorem dX11_line_9 : decode cX11_line 9 = .ok (.aload_n 3, 1) := by decide +kernel
theorem dX11_line_10 : decode cX11_line 10 = .ok (.ifnonnull 5, 3) := by decide +kernel
theorem dX11_line_13 : decode cX11_line 13 = .ok (.iconst (-1), 1) := by decide +kernel
theorem dX11_line_14 : decode cX11_line 14 = .ok (.ireturn, 1) := by decide +kernel
theorem dX11_line_15 : decode cX11_line 15 = .ok (.aload_n 0, 1) := by decide +kernel
theorem dX11_line_16 : decode cX11_line 16 = .ok (.getfield 62, 3) := by decide +kernel
theorem dX11_line_19 : decode cX11_line 19 = .ok (.aload_n 3, 1) := by decide +kernel
theorem dX11_line_20 : decode cX11_line 20 = .ok (.invokevirtual 211, 3) := by decide +kernel
theorem dX11_line_23 : decode cX11_line 23 = .ok (.iload_n 2, 1) := by decide +kernel
theorem dX11_line_24 : decode cX11_line 24 = .ok (.iconst (-1), 1) := by decide +kernel
theorem dX11_line_25 : decode cX11_line 25 = .ok (.if_icmp .ne 11, 3) := by decide +kernel
theorem dX11_line_28 : decode cX11_line 28 = .ok (.aload_n 0, 1) := by decide +kernel
theorem dX11_line_29 : decode cX11_line 29 = .ok (.getfield 62, 3) := by decide +kernel
theorem dX11_line_32 : decode cX11_line 32 = .ok (.getfield 215, 3) := by decide +kernel
theorem dX11_line_35 : decode cX11_line 35 = .ok (.ireturn, 1) := by decide +kernel
theorem dX11_line_36 : decode cX11_line 36 = .ok (.iload_n 2, 1) := by decide +kernel
theorem dX11_line_37 : decode cX11_line 37 = .ok (.ifCond .lt 32, 3) := by decide +kernel
theorem dX11_line_40 : decode cX11_line 40 = .ok (.iload_n 2, 1) := by decide +kernel
theorem dX11_line_41 : decode cX11_line 41 = .ok (.aload_n 0, 1) := by decide +kernel
theorem dX11_line_42 : decode cX11_line 42 = .ok (.getfield 62, 3) := by decide +kernel
theorem dX11_line_45 : decode cX11_line 45 = .ok (.getfield 215, 3) := by decide +kernel
theorem dX11_line_48 : decode cX11_line 48 = .ok (.if_icmp .ge 21, 3) := by decide +kernel
theorem dX11_line_51 : decode cX11_line 51 = .ok (.iload_n 2, 1) := by decide +kernel
theorem dX11_line_52 : decode cX11_line 52 = .ok (.bipush 10, 2) := by decide +kernel
theorem dX11_line_54 : decode cX11_line 54 = .ok (.if_icmp .ge 15, 3) := by decide +kernel
theorem dX11_line_57 : decode cX11_line 57 = .ok (.aload_n 0, 1) := by decide +kernel
theorem dX11_line_58 : decode cX11_line 58 = .ok (.getfield 62, 3) := by decide +kernel
theorem dX11_line_61 : decode cX11_line 61 = .ok (.getfield 218, 3) := by decide +kernel
theorem dX11_line_64 : decode cX11_line 64 = .ok (.iload_n 2, 1) := by decide +kernel
theorem dX11_line_65 : decode cX11_line 65 = .ok (.iaload, 1) := by decide +kernel
theorem dX11_line_66 : decode cX11_line 66 = .ok (.goto 4, 3) := by decide +kernel
theorem dX11_line_69 : decode cX11_line 69 = .ok (.iconst (-1), 1) := by decide +kernel
theorem dX11_line_70 : decode cX11_line 70 = .ok (.ireturn, 1) := by decide +kernel
theorem dX11_sight_0 : decode cX11_sight 0 = .ok (.aload_n 0, 1) := by decide +kernel
theorem dX11_sight_1 : decode cX11_sight 1 = .ok (.getfield 12, 3) := by decide +kernel
theorem dX11_sight_4 : decode cX11_sight 4 = .ok (.iload_n 1, 1) := by decide +kernel
theorem dX11_sight_5 : decode cX11_sight 5 = .ok (.invokevirtual 221, 3) := by decide +kernel
theorem dX11_sight_8 : decode cX11_sight 8 = .ok (.astore_n 3, 1) := by decide +kernel
theorem dX11_sight_9 : decode cX11_sight 9 = .ok (.aload_n 3, 1) := by decide +kernel
theorem dX11_sight_10 : decode cX11_sight 10 = .ok (.ifnonnull 7, 3) := by decide +kernel
theorem dX11_sight_13 : decode cX11_sight 13 = .ok (.iconst (-1), 1) := by decide +kernel
theorem dX11_sight_14 : decode cX11_sight 14 = .ok (.goto 8, 3) := by decide +kernel
theorem dX11_sight_17 : decode cX11_sight 17 = .ok (.aload_n 3, 1) := by decide +kernel
theorem dX11_sight_18 : decode cX11_sight 18 = .ok (.iload_n 2, 1) := by decide +kernel
theorem dX11_sight_19 : decode cX11_sight 19 = .ok (.invokevirtual 225, 3) := by decide +kernel
theorem dX11_sight_22 : decode cX11_sight 22 = .ok (.ireturn, 1) := by decide +kernel
theorem dX11_fits_0 : decode cX11_fits 0 = .ok (.aload_n 0, 1) := by decide +kernel
theorem dX11_fits_1 : decode cX11_fits 1 = .ok (.iload_n 1, 1) := by decide +kernel
theorem dX11_fits_2 : decode cX11_fits 2 = .ok (.iload_n 2, 1) := by decide +kernel
theorem dX11_fits_3 : decode cX11_fits 3 = .ok (.invokevirtual 228, 3) := by decide +kernel
theorem dX11_fits_6 : decode cX11_fits 6 = .ok (.ifCond .ne 6, 3) := by decide +kernel
theorem dX11_fits_9 : decode cX11_fits 9 = .ok (.bipush (-2), 2) := by decide +kernel
theorem dX11_fits_11 : decode cX11_fits 11 = .ok (.ireturn, 1) := by decide +kernel
theorem dX11_fits_12 : decode cX11_fits 12 = .ok (.aload_n 0, 1) := by decide +kernel
theorem dX11_fits_13 : decode cX11_fits 13 = .ok (.getfield 41, 3) := by decide +kernel
theorem dX11_fits_16 : decode cX11_fits 16 = .ok (.iload_n 3, 1) := by decide +kernel
theorem dX11_fits_17 : decode cX11_fits 17 = .ok (.invokevirtual 231, 3) := by decide +kernel
theorem dX11_fits_20 : decode cX11_fits 20 = .ok (.ireturn, 1) := by decide +kernel
theorem dX11_drawn_0 : decode cX11_drawn 0 = .ok (.aload_n 0, 1) := by decide +kernel
theorem dX11_drawn_1 : decode cX11_drawn 1 = .ok (.getfield 12, 3) := by decide +kernel
theorem dX11_drawn_4 : decode cX11_drawn 4 = .ok (.iload_n 1, 1) := by decide +kernel
theorem dX11_drawn_5 : decode cX11_drawn 5 = .ok (.invokevirtual 105, 3) := by decide +kernel
theorem dX11_drawn_8 : decode cX11_drawn 8 = .ok (.astore 5, 2) := by decide +kernel
theorem dX11_drawn_10 : decode cX11_drawn 10 = .ok (.aload 5, 2) := by decide +kernel
theorem dX11_drawn_12 : decode cX11_drawn 12 = .ok (.ifnull 13, 3) := by decide +kernel
theorem dX11_drawn_15 : decode cX11_drawn 15 = .ok (.iload_n 3, 1) := by decide +kernel
theorem dX11_drawn_16 : decode cX11_drawn 16 = .ok (.ifCond .lt 9, 3) := by decide +kernel
theorem dX11_drawn_19 : decode cX11_drawn 19 = .ok (.iload_n 3, 1) := by decide +kernel
theorem dX11_drawn_20 : decode cX11_drawn 20 = .ok (.bipush 60, 2) := by decide +kernel
theorem dX11_drawn_22 : decode cX11_drawn 22 = .ok (.if_icmp .le 6, 3) := by decide +kernel
theorem dX11_drawn_25 : decode cX11_drawn 25 = .ok (.bipush (-2), 2) := by decide +kernel
theorem dX11_drawn_27 : decode cX11_drawn 27 = .ok (.ireturn, 1) := by decide +kernel
theorem dX11_drawn_28 : decode cX11_drawn 28 = .ok (.aload_n 0, 1) := by decide +kernel
theorem dX11_drawn_29 : decode cX11_drawn 29 = .ok (.getfield 34, 3) := by decide +kernel
theorem dX11_drawn_32 : decode cX11_drawn 32 = .ok (.aload 5, 2) := by decide +kernel
theorem dX11_drawn_34 : decode cX11_drawn 34 = .ok (.iload_n 2, 1) := by decide +kernel
theorem dX11_drawn_35 : decode cX11_drawn 35 = .ok (.iload_n 3, 1) := by decide +kernel
theorem dX11_drawn_36 : decode cX11_drawn 36 = .ok (.invokevirtual 232, 3) := by decide +kernel
theorem dX11_drawn_39 : decode cX11_drawn 39 = .ok (.aload_n 0, 1) := by decide +kernel
theorem dX11_drawn_40 : decode cX11_drawn 40 = .ok (.getfield 34, 3) := by decide +kernel
theorem dX11_drawn_43 : decode cX11_drawn 43 = .ok (.iload 4, 2) := by decide +kernel
theorem dX11_drawn_45 : decode cX11_drawn 45 = .ok (.invokevirtual 130, 3) := by decide +kernel
theorem dX11_drawn_48 : decode cX11_drawn 48 = .ok (.ireturn, 1) := by decide +kernel
theorem dX11_elders_0 : decode cX11_elders 0 = .ok (.aload_n 0, 1) := by decide +kernel
theorem dX11_elders_1 : decode cX11_elders 1 = .ok (.getfield 12, 3) := by decide +kernel
theorem dX11_elders_4 : decode cX11_elders 4 = .ok (.iload_n 1, 1) := by decide +kernel
theorem dX11_elders_5 : decode cX11_elders 5 = .ok (.invokevirtual 105, 3) := by decide +kernel
theorem dX11_elders_8 : decode cX11_elders 8 = .ok (.astore 4, 2) := by decide +kernel
theorem dX11_elders_10 : decode cX11_elders 10 = .ok (.aload 4, 2) := by decide +kernel
theorem dX11_elders_12 : decode cX11_elders 12 = .ok (.ifnull 12, 3) := by decide +kernel
theorem dX11_elders_15 : decode cX11_elders 15 = .ok (.aload 4, 2) := by decide +kernel
theorem dX11_elders_17 : decode cX11_elders 17 = .ok (.iload_n 2, 1) := by decide +kernel
theorem dX11_elders_18 : decode cX11_elders 18 = .ok (.invokevirtual 198, 3) := by decide +kernel
theorem dX11_elders_21 : decode cX11_elders 21 = .ok (.ifCond .ne 5, 3) := by decide +kernel
theorem dX11_elders_24 : decode cX11_elders 24 = .ok (.iconst (-1), 1) := by decide +kernel
theorem dX11_elders_25 : decode cX11_elders 25 = .ok (.ireturn, 1) := by decide +kernel
theorem dX11_elders_26 : decode cX11_elders 26 = .ok (.iload_n 3, 1) := by decide +kernel
theorem dX11_elders_27 : decode cX11_elders 27 = .ok (.ifCond .eq 16, 3) := by decide +kernel
theorem dX11_elders_30 : decode cX11_elders 30 = .ok (.aload_n 0, 1) := by decide +kernel
theorem dX11_elders_31 : decode cX11_elders 31 = .ok (.getfield 62, 3) := by decide +kernel
theorem dX11_elders_34 : decode cX11_elders 34 = .ok (.aload 4, 2) := by decide +kernel
theorem dX11_elders_36 : decode cX11_elders 36 = .ok (.iload_n 2, 1) := by decide +kernel
theorem dX11_elders_37 : decode cX11_elders 37 = .ok (.invokevirtual 236, 3) := by decide +kernel
theorem dX11_elders_40 : decode cX11_elders 40 = .ok (.goto 13, 3) := by decide +kernel
theorem dX11_elders_43 : decode cX11_elders 43 = .ok (.aload_n 0, 1) := by decide +kernel
theorem dX11_elders_44 : decode cX11_elders 44 = .ok (.getfield 62, 3) := by decide +kernel
theorem dX11_elders_47 : decode cX11_elders 47 = .ok (.aload 4, 2) := by decide +kernel
theorem dX11_elders_49 : decode cX11_elders 49 = .ok (.iload_n 2, 1) := by decide +kernel
theorem dX11_elders_50 : decode cX11_elders 50 = .ok (.invokevirtual 239, 3) := by decide +kernel
theorem dX11_elders_53 : decode cX11_elders 53 = .ok (.ireturn, 1) := by decide +kernel
theorem dX11_apart_0 : decode cX11_apart 0 = .ok (.aload_n 0, 1) := by decide +kernel
theorem dX11_apart_1 : decode cX11_apart 1 = .ok (.getfield 12, 3) := by decide +kernel
theorem dX11_apart_4 : decode cX11_apart 4 = .ok (.iload_n 1, 1) := by decide +kernel
theorem dX11_apart_5 : decode cX11_apart 5 = .ok (.invokevirtual 105, 3) := by decide +kernel
theorem dX11_apart_8 : decode cX11_apart 8 = .ok (.astore 4, 2) := by decide +kernel
theorem dX11_apart_10 : decode cX11_apart 10 = .ok (.aload 4, 2) := by decide +kernel
theorem dX11_apart_12 : decode cX11_apart 12 = .ok (.ifnull 21, 3) := by decide +kernel
theorem dX11_apart_15 : decode cX11_apart 15 = .ok (.aload 4, 2) := by decide +kernel
theorem dX11_apart_17 : decode cX11_apart 17 = .ok (.iload_n 2, 1) := by decide +kernel
theorem dX11_apart_18 : decode cX11_apart 18 = .ok (.invokevirtual 198, 3) := by decide +kernel
theorem dX11_apart_21 : decode cX11_apart 21 = .ok (.ifCond .eq 12, 3) := by decide +kernel
theorem dX11_apart_24 : decode cX11_apart 24 = .ok (.aload 4, 2) := by decide +kernel
theorem dX11_apart_26 : decode cX11_apart 26 = .ok (.iload_n 3, 1) := by decide +kernel
theorem dX11_apart_27 : decode cX11_apart 27 = .ok (.invokevirtual 198, 3) := by decide +kernel
theorem dX11_apart_30 : decode cX11_apart 30 = .ok (.ifCond .ne 5, 3) := by decide +kernel
theorem dX11_apart_33 : decode cX11_apart 33 = .ok (.iconst (-1), 1) := by decide +kernel
theorem dX11_apart_34 : decode cX11_apart 34 = .ok (.ireturn, 1) := by decide +kernel
theorem dX11_apart_35 : decode cX11_apart 35 = .ok (.aload_n 0, 1) := by decide +kernel
theorem dX11_apart_36 : decode cX11_apart 36 = .ok (.getfield 62, 3) := by decide +kernel
theorem dX11_apart_39 : decode cX11_apart 39 = .ok (.aload 4, 2) := by decide +kernel
theorem dX11_apart_41 : decode cX11_apart 41 = .ok (.iload_n 2, 1) := by decide +kernel
theorem dX11_apart_42 : decode cX11_apart 42 = .ok (.iload_n 3, 1) := by decide +kernel
theorem dX11_apart_43 : decode cX11_apart 43 = .ok (.invokevirtual 242, 3) := by decide +kernel
theorem dX11_apart_46 : decode cX11_apart 46 = .ok (.ireturn, 1) := by decide +kernel
theorem dX11_houses_0 : decode cX11_houses 0 = .ok (.aload_n 0, 1) := by decide +kernel
theorem dX11_houses_1 : decode cX11_houses 1 = .ok (.getfield 12, 3) := by decide +kernel
theorem dX11_houses_4 : decode cX11_houses 4 = .ok (.iload_n 1, 1) := by decide +kernel
theorem dX11_houses_5 : decode cX11_houses 5 = .ok (.invokevirtual 105, 3) := by decide +kernel
theorem dX11_houses_8 : decode cX11_houses 8 = .ok (.astore_n 3, 1) := by decide +kernel
theorem dX11_houses_9 : decode cX11_houses 9 = .ok (.aload_n 3, 1) := by decide +kernel
theorem dX11_houses_10 : decode cX11_houses 10 = .ok (.ifnonnull 8, 3) := by decide +kernel
theorem dX11_houses_13 : decode cX11_houses 13 = .ok (.bipush (-2), 2) := by decide +kernel
theorem dX11_houses_15 : decode cX11_houses 15 = .ok (.goto 12, 3) := by decide +kernel
theorem dX11_houses_18 : decode cX11_houses 18 = .ok (.aload_n 0, 1) := by decide +kernel
theorem dX11_houses_19 : decode cX11_houses 19 = .ok (.getfield 62, 3) := by decide +kernel
theorem dX11_houses_22 : decode cX11_houses 22 = .ok (.aload_n 3, 1) := by decide +kernel
theorem dX11_houses_23 : decode cX11_houses 23 = .ok (.iload_n 2, 1) := by decide +kernel
theorem dX11_houses_24 : decode cX11_houses 24 = .ok (.invokevirtual 246, 3) := by decide +kernel
theorem dX11_houses_27 : decode cX11_houses 27 = .ok (.ireturn, 1) := by decide +kernel
theorem dX11_soon_0 : decode cX11_soon 0 = .ok (.aload_n 0, 1) := by decide +kernel
theorem dX11_soon_1 : decode cX11_soon 1 = .ok (.getfield 12, 3) := by decide +kernel
theorem dX11_soon_4 : decode cX11_soon 4 = .ok (.iload_n 1, 1) := by decide +kernel
theorem dX11_soon_5 : decode cX11_soon 5 = .ok (.invokevirtual 105, 3) := by decide +kernel
theorem dX11_soon_8 : decode cX11_soon 8 = .ok (.astore 4, 2) := by decide +kernel
theorem dX11_soon_10 : decode cX11_soon 10 = .ok (.aload 4, 2) := by decide +kernel
theorem dX11_soon_12 : decode cX11_soon 12 = .ok (.ifnull 14, 3) := by decide +kernel
theorem dX11_soon_15 : decode cX11_soon 15 = .ok (.aload 4, 2) := by decide +kernel
theorem dX11_soon_17 : decode cX11_soon 17 = .ok (.iload_n 2, 1) := by decide +kernel
theorem dX11_soon_18 : decode cX11_soon 18 = .ok (.iload_n 3, 1) := by decide +kernel
theorem dX11_soon_19 : decode cX11_soon 19 = .ok (.iconst 1, 1) := by decide +kernel
theorem dX11_soon_20 : decode cX11_soon 20 = .ok (.invokevirtual 131, 3) := by decide +kernel
theorem dX11_soon_23 : decode cX11_soon 23 = .ok (.ifCond .ne 5, 3) := by decide +kernel
theorem dX11_soon_26 : decode cX11_soon 26 = .ok (.iconst (-1), 1) := by decide +kernel
theorem dX11_soon_27 : decode cX11_soon 27 = .ok (.ireturn, 1) := by decide +kernel
theorem dX11_soon_28 : decode cX11_soon 28 = .ok (.iconst 1, 1) := by decide +kernel
theorem dX11_soon_29 : decode cX11_soon 29 = .ok (.istore 5, 2) := by decide +kernel
theorem dX11_soon_31 : decode cX11_soon 31 = .ok (.iload 5, 2) := by decide +kernel
theorem dX11_soon_33 : decode cX11_soon 33 = .ok (.bipush 9, 2) := by decide +kernel
theorem dX11_soon_35 : decode cX11_soon 35 = .ok (.if_icmp .gt 24, 3) := by decide +kernel
theorem dX11_soon_38 : decode cX11_soon 38 = .ok (.aload 4, 2) := by decide +kernel
theorem dX11_soon_40 : decode cX11_soon 40 = .ok (.iload_n 2, 1) := by decide +kernel
theorem dX11_soon_41 : decode cX11_soon 41 = .ok (.iload_n 3, 1) := by decide +kernel
theorem dX11_soon_42 : decode cX11_soon 42 = .ok (.iload 5, 2) := by decide +kernel
theorem dX11_soon_44 : decode cX11_soon 44 = .ok (.invokevirtual 135, 3) := by decide +kernel
theorem dX11_soon_47 : decode cX11_soon 47 = .ok (.ifCond .eq 6, 3) := by decide +kernel
theorem dX11_soon_50 : decode cX11_soon 50 = .ok (.iload 5, 2) := by decide +kernel
theorem dX11_soon_52 : decode cX11_soon 52 = .ok (.ireturn, 1) := by decide +kernel
theorem dX11_soon_53 : decode cX11_soon 53 = .ok (.iinc 5 1, 3) := by decide +kernel
theorem dX11_soon_56 : decode cX11_soon 56 = .ok (.goto (-25), 3) := by decide +kernel
theorem dX11_soon_59 : decode cX11_soon 59 = .ok (.iconst (-1), 1) := by decide +kernel
theorem dX11_soon_60 : decode cX11_soon 60 = .ok (.ireturn, 1) := by decide +kernel
theorem dX11_most_0 : decode cX11_most 0 = .ok (.aload_n 0, 1) := by decide +kernel
theorem dX11_most_1 : decode cX11_most 1 = .ok (.getfield 12, 3) := by decide +kernel
theorem dX11_most_4 : decode cX11_most 4 = .ok (.iload_n 1, 1) := by decide +kernel
theorem dX11_most_5 : decode cX11_most 5 = .ok (.invokevirtual 105, 3) := by decide +kernel
theorem dX11_most_8 : decode cX11_most 8 = .ok (.astore 4, 2) := by decide +kernel
theorem dX11_most_10 : decode cX11_most 10 = .ok (.aload 4, 2) := by decide +kernel
theorem dX11_most_12 : decode cX11_most 12 = .ok (.ifnull 19, 3) := by decide +kernel
theorem dX11_most_15 : decode cX11_most 15 = .ok (.iload_n 2, 1) := by decide +kernel
theorem dX11_most_16 : decode cX11_most 16 = .ok (.invokestatic 138, 3) := by decide +kernel
theorem dX11_most_19 : decode cX11_most 19 = .ok (.ifCond .eq 12, 3) := by decide +kernel
theorem dX11_most_22 : decode cX11_most 22 = .ok (.iload_n 3, 1) := by decide +kernel
theorem dX11_most_23 : decode cX11_most 23 = .ok (.ifCond .lt 8, 3) := by decide +kernel
theorem dX11_most_26 : decode cX11_most 26 = .ok (.iload_n 3, 1) := by decide +kernel
theorem dX11_most_27 : decode cX11_most 27 = .ok (.iconst 2, 1) := by decide +kernel
theorem dX11_most_28 : decode cX11_most 28 = .ok (.if_icmp .le 5, 3) := by decide +kernel
theorem dX11_most_31 : decode cX11_most 31 = .ok (.iconst (-1), 1) := by decide +kernel
theorem dX11_most_32 : decode cX11_most 32 = .ok (.ireturn, 1) := by decide +kernel
theorem dX11_most_33 : decode cX11_most 33 = .ok (.aload_n 0, 1) := by decide +kernel
theorem dX11_most_34 : decode cX11_most 34 = .ok (.getfield 48, 3) := by decide +kernel
theorem dX11_most_37 : decode cX11_most 37 = .ok (.aload 4, 2) := by decide +kernel
theorem dX11_most_39 : decode cX11_most 39 = .ok (.iload_n 2, 1) := by decide +kernel
theorem dX11_most_40 : decode cX11_most 40 = .ok (.invokevirtual 146, 3) := by decide +kernel
theorem dX11_most_43 : decode cX11_most 43 = .ok (.iload_n 3, 1) := by decide +kernel
theorem dX11_most_44 : decode cX11_most 44 = .ok (.ifCond .ne 13, 3) := by decide +kernel
theorem dX11_most_47 : decode cX11_most 47 = .ok (.aload_n 0, 1) := by decide +kernel
theorem dX11_most_48 : decode cX11_most 48 = .ok (.getfield 48, 3) := by decide +kernel
theorem dX11_most_51 : decode cX11_most 51 = .ok (.aload 4, 2) := by decide +kernel
theorem dX11_most_53 : decode cX11_most 53 = .ok (.invokevirtual 248, 3) := by decide +kernel
theorem dX11_most_56 : decode cX11_most 56 = .ok (.ireturn, 1) := by decide +kernel
theorem dX11_most_57 : decode cX11_most 57 = .ok (.iload_n 3, 1) := by decide +kernel
theorem dX11_most_58 : decode cX11_most 58 = .ok (.iconst 1, 1) := by decide +kernel
theorem dX11_most_59 : decode cX11_most 59 = .ok (.if_icmp .ne 15, 3) := by decide +kernel
theorem dX11_most_62 : decode cX11_most 62 = .ok (.aload_n 0, 1) := by decide +kernel
theorem dX11_most_63 : decode cX11_most 63 = .ok (.getfield 48, 3) := by decide +kernel
theorem dX11_most_66 : decode cX11_most 66 = .ok (.aload 4, 2) := by decide +kernel
theorem dX11_most_68 : decode cX11_most 68 = .ok (.invokevirtual 252, 3) := by decide +kernel
theorem dX11_most_71 : decode cX11_most 71 = .ok (.goto 12, 3) := by decide +kernel
theorem dX11_most_74 : decode cX11_most 74 = .ok (.aload_n 0, 1) := by decide +kernel
theorem dX11_most_75 : decode cX11_most 75 = .ok (.getfield 48, 3) := by decide +kernel
theorem dX11_most_78 : decode cX11_most 78 = .ok (.aload 4, 2) := by decide +kernel
theorem dX11_most_80 : decode cX11_most 80 = .ok (.invokevirtual 255, 3) := by decide +kernel
theorem dX11_most_83 : decode cX11_most 83 = .ok (.ireturn, 1) := by decide +kernel
theorem dX11_lot_0 : decode cX11_lot 0 = .ok (.aload_n 0, 1) := by decide +kernel
theorem dX11_lot_1 : decode cX11_lot 1 = .ok (.getfield 12, 3) := by decide +kernel
theorem dX11_lot_4 : decode cX11_lot 4 = .ok (.iload_n 1, 1) := by decide +kernel
theorem dX11_lot_5 : decode cX11_lot 5 = .ok (.invokevirtual 105, 3) := by decide +kernel
theorem dX11_lot_8 : decode cX11_lot 8 = .ok (.astore 4, 2) := by decide +kernel
theorem dX11_lot_10 : decode cX11_lot 10 = .ok (.aload 4, 2) := by decide +kernel
theorem dX11_lot_12 : decode cX11_lot 12 = .ok (.ifnull 13, 3) := by decide +kernel
theorem dX11_lot_15 : decode cX11_lot 15 = .ok (.iload_n 2, 1) := by decide +kernel
theorem dX11_lot_16 : decode cX11_lot 16 = .ok (.ifCond .lt 9, 3) := by decide +kernel
theorem dX11_lot_19 : decode cX11_lot 19 = .ok (.iload_n 2, 1) := by decide +kernel
theorem dX11_lot_20 : decode cX11_lot 20 = .ok (.bipush 99, 2) := by decide +kernel
theorem dX11_lot_22 : decode cX11_lot 22 = .ok (.if_icmp .le 5, 3) := by decide +kernel
theorem dX11_lot_25 : decode cX11_lot 25 = .ok (.iconst (-1), 1) := by decide +kernel
theorem dX11_lot_26 : decode cX11_lot 26 = .ok (.ireturn, 1) := by decide +kernel
theorem dX11_lot_27 : decode cX11_lot 27 = .ok (.aload_n 0, 1) := by decide +kernel
theorem dX11_lot_28 : decode cX11_lot 28 = .ok (.getfield 55, 3) := by decide +kernel
theorem dX11_lot_31 : decode cX11_lot 31 = .ok (.aload 4, 2) := by decide +kernel
theorem dX11_lot_33 : decode cX11_lot 33 = .ok (.iload_n 2, 1) := by decide +kernel
theorem dX11_lot_34 : decode cX11_lot 34 = .ok (.iload_n 3, 1) := by decide +kernel
theorem dX11_lot_35 : decode cX11_lot 35 = .ok (.invokevirtual 258, 3) := by decide +kernel
theorem dX11_lot_38 : decode cX11_lot 38 = .ok (.ireturn, 1) := by decide +kernel
theorem dX11_heaps_0 : decode cX11_heaps 0 = .ok (.aload_n 0, 1) := by decide +kernel
theorem dX11_heaps_1 : decode cX11_heaps 1 = .ok (.getfield 12, 3) := by decide +kernel
theorem dX11_heaps_4 : decode cX11_heaps 4 = .ok (.iload_n 1, 1) := by decide +kernel
theorem dX11_heaps_5 : decode cX11_heaps 5 = .ok (.invokevirtual 105, 3) := by decide +kernel
theorem dX11_heaps_8 : decode cX11_heaps 8 = .ok (.astore_n 3, 1) := by decide +kernel
theorem dX11_heaps_9 : decode cX11_heaps 9 = .ok (.aload_n 3, 1) := by decide +kernel
theorem dX11_heaps_10 : decode cX11_heaps 10 = .ok (.ifnonnull 6, 3) := by decide +kernel
theorem dX11_heaps_13 : decode cX11_heaps 13 = .ok (.bipush (-2), 2) := by decide +kernel
theorem dX11_heaps_15 : decode cX11_heaps 15 = .ok (.ireturn, 1) := by decide +kernel
theorem dX11_heaps_16 : decode cX11_heaps 16 = .ok (.iload_n 2, 1) := by decide +kernel
theorem dX11_heaps_17 : decode cX11_heaps 17 = .ok (.ifCond .eq 14, 3) := by decide +kernel
theorem dX11_heaps_20 : decode cX11_heaps 20 = .ok (.aload_n 0, 1) := by decide +kernel
theorem dX11_heaps_21 : decode cX11_heaps 21 = .ok (.getfield 55, 3) := by decide +kernel
theorem dX11_heaps_24 : decode cX11_heaps 24 = .ok (.aload_n 3, 1) := by decide +kernel
theorem dX11_heaps_25 : decode cX11_heaps 25 = .ok (.invokevirtual 262, 3) := by decide +kernel
theorem dX11_heaps_28 : decode cX11_heaps 28 = .ok (.goto 11, 3) := by decide +kernel
theorem dX11_heaps_31 : decode cX11_heaps 31 = .ok (.aload_n 0, 1) := by decide +kernel
theorem dX11_heaps_32 : decode cX11_heaps 32 = .ok (.getfield 55, 3) := by decide +kernel
theorem dX11_heaps_35 : decode cX11_heaps 35 = .ok (.aload_n 3, 1) := by decide +kernel
theorem dX11_heaps_36 : decode cX11_heaps 36 = .ok (.invokevirtual 265, 3) := by decide +kernel
theorem dX11_heaps_39 : decode cX11_heaps 39 = .ok (.ireturn, 1) := by decide +kernel
theorem dX11_loss_0 : decode cX11_loss 0 = .ok (.aload_n 0, 1) := by decide +kernel
theorem dX11_loss_1 : decode cX11_loss 1 = .ok (.getfield 12, 3) := by decide +kernel
theorem dX11_loss_4 : decode cX11_loss 4 = .ok (.iload_n 1, 1) := by decide +kernel
theorem dX11_loss_5 : decode cX11_loss 5 = .ok (.invokevirtual 105, 3) := by decide +kernel
theorem dX11_loss_8 : decode cX11_loss 8 = .ok (.astore 4, 2) := by decide +kernel
theorem dX11_loss_10 : decode cX11_loss 10 = .ok (.aload 4, 2) := by decide +kernel
theorem dX11_loss_12 : decode cX11_loss 12 = .ok (.ifnull 19, 3) := by decide +kernel
theorem dX11_loss_15 : decode cX11_loss 15 = .ok (.aload 4, 2) := by decide +kernel
theorem dX11_loss_17 : decode cX11_loss 17 = .ok (.iload_n 2, 1) := by decide +kernel
theorem dX11_loss_18 : decode cX11_loss 18 = .ok (.invokevirtual 198, 3) := by decide +kernel
theorem dX11_loss_21 : decode cX11_loss 21 = .ok (.ifCond .eq 10, 3) := by decide +kernel
theorem dX11_loss_24 : decode cX11_loss 24 = .ok (.iload_n 3, 1) := by decide +kernel
theorem dX11_loss_25 : decode cX11_loss 25 = .ok (.invokestatic 138, 3) := by decide +kernel
theorem dX11_loss_28 : decode cX11_loss 28 = .ok (.ifCond .ne 5, 3) := by decide +kernel
theorem dX11_loss_31 : decode cX11_loss 31 = .ok (.iconst (-1), 1) := by decide +kernel
theorem dX11_loss_32 : decode cX11_loss 32 = .ok (.ireturn, 1) := by decide +kernel
theorem dX11_loss_33 : decode cX11_loss 33 = .ok (.aload 4, 2) := by decide +kernel
theorem dX11_loss_35 : decode cX11_loss 35 = .ok (.iload_n 2, 1) := by decide +kernel
theorem dX11_loss_36 : decode cX11_loss 36 = .ok (.iload_n 3, 1) := by decide +kernel
theorem dX11_loss_37 : decode cX11_loss 37 = .ok (.invokevirtual 268, 3) := by decide +kernel
theorem dX11_loss_40 : decode cX11_loss 40 = .ok (.ireturn, 1) := by decide +kernel
theorem dX11_wedding_0 : decode cX11_wedding 0 = .ok (.aload_n 0, 1) := by decide +kernel
theorem dX11_wedding_1 : decode cX11_wedding 1 = .ok (.getfield 12, 3) := by decide +kernel
theorem dX11_wedding_4 : decode cX11_wedding 4 = .ok (.iload_n 1, 1) := by decide +kernel
theorem dX11_wedding_5 : decode cX11_wedding 5 = .ok (.invokevirtual 105, 3) := by decide +kernel
theorem dX11_wedding_8 : decode cX11_wedding 8 = .ok (.astore 4, 2) := by decide +kernel
theorem dX11_wedding_10 : decode cX11_wedding 10 = .ok (.aload 4, 2) := by decide +kernel
theorem dX11_wedding_12 : decode cX11_wedding 12 = .ok (.ifnull 26, 3) := by decide +kernel
theorem dX11_wedding_15 : decode cX11_wedding 15 = .ok (.iload_n 2, 1) := by decide +kernel
theorem dX11_wedding_16 : decode cX11_wedding 16 = .ok (.iload_n 3, 1) := by decide +kernel
theorem dX11_wedding_17 : decode cX11_wedding 17 = .ok (.if_icmp .eq 21, 3) := by decide +kernel
theorem dX11_wedding_20 : decode cX11_wedding 20 = .ok (.aload 4, 2) := by decide +kernel
theorem dX11_wedding_22 : decode cX11_wedding 22 = .ok (.iload_n 2, 1) := by decide +kernel
theorem dX11_wedding_23 : decode cX11_wedding 23 = .ok (.invokevirtual 198, 3) := by decide +kernel
theorem dX11_wedding_26 : decode cX11_wedding 26 = .ok (.ifCond .eq 12, 3) := by decide +kernel
theorem dX11_wedding_29 : decode cX11_wedding 29 = .ok (.aload 4, 2) := by decide +kernel
theorem dX11_wedding_31 : decode cX11_wedding 31 = .ok (.iload_n 3, 1) := by decide +kernel
theorem dX11_wedding_32 : decode cX11_wedding 32 = .ok (.invokevirtual 198, 3) := by decide +kernel
theorem dX11_wedding_35 : decode cX11_wedding 35 = .ok (.ifCond .ne 5, 3) := by decide +kernel
theorem dX11_wedding_38 : decode cX11_wedding 38 = .ok (.iconst (-1), 1) := by decide +kernel
theorem dX11_wedding_39 : decode cX11_wedding 39 = .ok (.ireturn, 1) := by decide +kernel
theorem dX11_wedding_40 : decode cX11_wedding 40 = .ok (.aload 4, 2) := by decide +kernel
theorem dX11_wedding_42 : decode cX11_wedding 42 = .ok (.getfield 271, 3) := by decide +kernel
theorem dX11_wedding_45 : decode cX11_wedding 45 = .ok (.iload_n 2, 1) := by decide +kernel
theorem dX11_wedding_46 : decode cX11_wedding 46 = .ok (.iaload, 1) := by decide +kernel
theorem dX11_wedding_47 : decode cX11_wedding 47 = .ok (.bipush 16, 2) := by decide +kernel
theorem dX11_wedding_49 : decode cX11_wedding 49 = .ok (.if_icmp .lt 19, 3) := by decide +kernel
theorem dX11_wedding_52 : decode cX11_wedding 52 = .ok (.aload 4, 2) := by decide +kernel
theorem dX11_wedding_54 : decode cX11_wedding 54 = .ok (.getfield 271, 3) := by decide +kernel
theorem dX11_wedding_57 : decode cX11_wedding 57 = .ok (.iload_n 3, 1) := by decide +kernel
theorem dX11_wedding_58 : decode cX11_wedding 58 = .ok (.iaload, 1) := by decide +kernel
theorem dX11_wedding_59 : decode cX11_wedding 59 = .ok (.bipush 16, 2) := by decide +kernel
theorem dX11_wedding_61 : decode cX11_wedding 61 = .ok (.if_icmp .lt 7, 3) := by decide +kernel
theorem dX11_wedding_64 : decode cX11_wedding 64 = .ok (.iconst 1, 1) := by decide +kernel
theorem dX11_wedding_65 : decode cX11_wedding 65 = .ok (.goto 4, 3) := by decide +kernel
theorem dX11_wedding_68 : decode cX11_wedding 68 = .ok (.iconst 0, 1) := by decide +kernel
theorem dX11_wedding_69 : decode cX11_wedding 69 = .ok (.istore 5, 2) := by decide +kernel
theorem dX11_wedding_71 : decode cX11_wedding 71 = .ok (.iload 5, 2) := by decide +kernel
theorem dX11_wedding_73 : decode cX11_wedding 73 = .ok (.ifCond .eq 25, 3) := by decide +kernel
theorem dX11_wedding_76 : decode cX11_wedding 76 = .ok (.aload_n 0, 1) := by decide +kernel
theorem dX11_wedding_77 : decode cX11_wedding 77 = .ok (.getfield 62, 3) := by decide +kernel
theorem dX11_wedding_80 : decode cX11_wedding 80 = .ok (.aload 4, 2) := by decide +kernel
theorem dX11_wedding_82 : decode cX11_wedding 82 = .ok (.iload_n 2, 1) := by decide +kernel
theorem dX11_wedding_83 : decode cX11_wedding 83 = .ok (.iload_n 3, 1) := by decide +kernel
theorem dX11_wedding_84 : decode cX11_wedding 84 = .ok (.invokevirtual 201, 3) := by decide +kernel
theorem dX11_wedding_87 : decode cX11_wedding 87 = .ok (.ldc2_w 274, 3) := by decide +kernel
theorem dX11_wedding_90 : decode cX11_wedding 90 = .ok (.lcmp, 1) := by decide +kernel
theorem dX11_wedding_91 : decode cX11_wedding 91 = .ok (.ifCond .ge 7, 3) := by decide +kernel
theorem dX11_wedding_94 : decode cX11_wedding 94 = .ok (.iconst 1, 1) := by decide +kernel
theorem dX11_wedding_95 : decode cX11_wedding 95 = .ok (.goto 4, 3) := by decide +kernel
theorem dX11_wedding_98 : decode cX11_wedding 98 = .ok (.iconst 0, 1) := by decide +kernel
theorem dX11_wedding_99 : decode cX11_wedding 99 = .ok (.ireturn, 1) := by decide +kernel
theorem dX11_after_0 : decode cX11_after 0 = .ok (.aload_n 0, 1) := by decide +kernel
theorem dX11_after_1 : decode cX11_after 1 = .ok (.getfield 12, 3) := by decide +kernel
theorem dX11_after_4 : decode cX11_after 4 = .ok (.iload_n 1, 1) := by decide +kernel
theorem dX11_after_5 : decode cX11_after 5 = .ok (.invokevirtual 105, 3) := by decide +kernel
theorem dX11_after_8 : decode cX11_after 8 = .ok (.astore 4, 2) := by decide +kernel
theorem dX11_after_10 : decode cX11_after 10 = .ok (.aload_n 0, 1) := by decide +kernel
theorem dX11_after_11 : decode cX11_after 11 = .ok (.getfield 12, 3) := by decide +kernel
theorem dX11_after_14 : decode cX11_after 14 = .ok (.iload_n 2, 1) := by decide +kernel
theorem dX11_after_15 : decode cX11_after 15 = .ok (.invokevirtual 114, 3) := by decide +kernel
theorem dX11_after_18 : decode cX11_after 18 = .ok (.astore 5, 2) := by decide +kernel
theorem dX11_after_20 : decode cX11_after 20 = .ok (.aload 4, 2) := by decide +kernel
theorem dX11_after_22 : decode cX11_after 22 = .ok (.ifnull 8, 3) := by decide +kernel
theorem dX11_after_25 : decode cX11_after 25 = .ok (.aload 5, 2) := by decide +kernel
theorem dX11_after_27 : decode cX11_after 27 = .ok (.ifnonnull 6, 3) := by decide +kernel
theorem dX11_after_30 : decode cX11_after 30 = .ok (.bipush (-2), 2) := by decide +kernel
theorem dX11_after_32 : decode cX11_after 32 = .ok (.ireturn, 1) := by decide +kernel
theorem dX11_after_33 : decode cX11_after 33 = .ok (.aload_n 0, 1) := by decide +kernel
theorem dX11_after_34 : decode cX11_after 34 = .ok (.getfield 34, 3) := by decide +kernel
theorem dX11_after_37 : decode cX11_after 37 = .ok (.aload 4, 2) := by decide +kernel
theorem dX11_after_39 : decode cX11_after 39 = .ok (.aload 5, 2) := by decide +kernel
theorem dX11_after_41 : decode cX11_after 41 = .ok (.aload 5, 2) := by decide +kernel
theorem dX11_after_43 : decode cX11_after 43 = .ok (.getfield 123, 3) := by decide +kernel
theorem dX11_after_46 : decode cX11_after 46 = .ok (.invokevirtual 126, 3) := by decide +kernel
theorem dX11_after_49 : decode cX11_after 49 = .ok (.pop, 1) := by decide +kernel
theorem dX11_after_50 : decode cX11_after 50 = .ok (.aload_n 0, 1) := by decide +kernel
theorem dX11_after_51 : decode cX11_after 51 = .ok (.getfield 34, 3) := by decide +kernel
theorem dX11_after_54 : decode cX11_after 54 = .ok (.iload_n 3, 1) := by decide +kernel
theorem dX11_after_55 : decode cX11_after 55 = .ok (.invokevirtual 276, 3) := by decide +kernel
theorem dX11_after_58 : decode cX11_after 58 = .ok (.ireturn, 1) := by decide +kernel
theorem dX11_share_0 : decode cX11_share 0 = .ok (.aload_n 0, 1) := by decide +kernel
theorem dX11_share_1 : decode cX11_share 1 = .ok (.getfield 12, 3) := by decide +kernel
theorem dX11_share_4 : decode cX11_share 4 = .ok (.iload_n 1, 1) := by decide +kernel
theorem dX11_share_5 : decode cX11_share 5 = .ok (.invokevirtual 105, 3) := by decide +kernel
theorem dX11_share_8 : decode cX11_share 8 = .ok (.astore 5, 2) := by decide +kernel
theorem dX11_share_10 : decode cX11_share 10 = .ok (.aload 5, 2) := by decide +kernel
theorem dX11_share_12 : decode cX11_share 12 = .ok (.ifnull 31, 3) := by decide +kernel
theorem dX11_share_15 : decode cX11_share 15 = .ok (.aload 5, 2) := by decide +kernel
theorem dX11_share_17 : decode cX11_share 17 = .ok (.iload_n 3, 1) := by decide +kernel
theorem dX11_share_18 : decode cX11_share 18 = .ok (.invokevirtual 198, 3) := by decide +kernel
theorem dX11_share_21 : decode cX11_share 21 = .ok (.ifCond .eq 22, 3) := by decide +kernel
theorem dX11_share_24 : decode cX11_share 24 = .ok (.aload_n 0, 1) := by decide +kernel
theorem dX11_share_25 : decode cX11_share 25 = .ok (.iload_n 1, 1) := by decide +kernel
theorem dX11_share_26 : decode cX11_share 26 = .ok (.iload_n 2, 1) := by decide +kernel
theorem dX11_share_27 : decode cX11_share 27 = .ok (.invokevirtual 228, 3) := by decide +kernel
theorem dX11_share_30 : decode cX11_share 30 = .ok (.ifCond .eq 13, 3) := by decide +kernel
theorem dX11_share_33 : decode cX11_share 33 = .ok (.aload_n 0, 1) := by decide +kernel
theorem dX11_share_34 : decode cX11_share 34 = .ok (.getfield 41, 3) := by decide +kernel
theorem dX11_share_37 : decode cX11_share 37 = .ok (.getfield 279, 3) := by decide +kernel
theorem dX11_share_40 : decode cX11_share 40 = .ok (.ifCond .ne 7, 3) := by decide +kernel
theorem dX11_share_43 : decode cX11_share 43 = .ok (.ldc2_w 181, 3) := by decide +kernel
theorem dX11_share_46 : decode cX11_share 46 = .ok (.lreturn, 1) := by decide +kernel
theorem dX11_share_47 : decode cX11_share 47 = .ok (.aload_n 0, 1) := by decide +kernel
theorem dX11_share_48 : decode cX11_share 48 = .ok (.getfield 69, 3) := by decide +kernel
theorem dX11_share_51 : decode cX11_share 51 = .ok (.aload_n 0, 1) := by decide +kernel
theorem dX11_share_52 : decode cX11_share 52 = .ok (.getfield 41, 3) := by decide +kernel
theorem dX11_share_55 : decode cX11_share 55 = .ok (.iload_n 3, 1) := by decide +kernel
theorem dX11_share_56 : decode cX11_share 56 = .ok (.invokevirtual 282, 3) := by decide +kernel
theorem dX11_share_59 : decode cX11_share 59 = .ok (.i2l, 1) := by decide +kernel
theorem dX11_share_60 : decode cX11_share 60 = .ok (.aload_n 0, 1) := by decide +kernel
theorem dX11_share_61 : decode cX11_share 61 = .ok (.getfield 41, 3) := by decide +kernel
theorem dX11_share_64 : decode cX11_share 64 = .ok (.getfield 279, 3) := by decide +kernel
theorem dX11_share_67 : decode cX11_share 67 = .ok (.i2l, 1) := by decide +kernel
theorem dX11_share_68 : decode cX11_share 68 = .ok (.invokevirtual 207, 3) := by decide +kernel
theorem dX11_share_71 : decode cX11_share 71 = .ok (.aload_n 0, 1) := by decide +kernel
theorem dX11_share_72 : decode cX11_share 72 = .ok (.getfield 69, 3) := by decide +kernel
theorem dX11_share_75 : decode cX11_share 75 = .ok (.iload 4, 2) := by decide +kernel
theorem dX11_share_77 : decode cX11_share 77 = .ok (.invokevirtual 187, 3) := by decide +kernel
theorem dX11_share_80 : decode cX11_share 80 = .ok (.lreturn, 1) := by decide +kernel
theorem dX11_later_0 : decode cX11_later 0 = .ok (.aload_n 0, 1) := by decide +kernel
theorem dX11_later_1 : decode cX11_later 1 = .ok (.iload_n 1, 1) := by decide +kernel
theorem dX11_later_2 : decode cX11_later 2 = .ok (.iload_n 2, 1) := by decide +kernel
theorem dX11_later_3 : decode cX11_later 3 = .ok (.invokevirtual 228, 3) := by decide +kernel
theorem dX11_later_6 : decode cX11_later 6 = .ok (.ifCond .eq 13, 3) := by decide +kernel
theorem dX11_later_9 : decode cX11_later 9 = .ok (.aload_n 0, 1) := by decide +kernel
theorem dX11_later_10 : decode cX11_later 10 = .ok (.getfield 41, 3) := by decide +kernel
theorem dX11_later_13 : decode cX11_later 13 = .ok (.getfield 285, 3) := by decide +kernel
theorem dX11_later_16 : decode cX11_later 16 = .ok (.goto 5, 3) := by decide +kernel
theorem dX11_later_19 : decode cX11_later 19 = .ok (.bipush (-2), 2) := by decide +kernel
theorem dX11_later_21 : decode cX11_later 21 = .ok (.ireturn, 1) := by decide +kernel
theorem dX11_count_0 : decode cX11_count 0 = .ok (.aload_n 0, 1) := by decide +kernel
theorem dX11_count_1 : decode cX11_count 1 = .ok (.getfield 12, 3) := by decide +kernel
theorem dX11_count_4 : decode cX11_count 4 = .ok (.iload_n 1, 1) := by decide +kernel
theorem dX11_count_5 : decode cX11_count 5 = .ok (.invokevirtual 87, 3) := by decide +kernel
theorem dX11_count_8 : decode cX11_count 8 = .ok (.ireturn, 1) := by decide +kernel
theorem dX11_image_0 : decode cX11_image 0 = .ok (.iload_n 1, 1) := by decide +kernel
theorem dX11_image_1 : decode cX11_image 1 = .ok (.ifCond .lt 8, 3) := by decide +kernel
theorem dX11_image_4 : decode cX11_image 4 = .ok (.iload_n 1, 1) := by decide +kernel
theorem dX11_image_5 : decode cX11_image 5 = .ok (.iconst 3, 1) := by decide +kernel
theorem dX11_image_6 : decode cX11_image 6 = .ok (.if_icmp .lt 5, 3) := by decide +kernel
theorem dX11_image_9 : decode cX11_image 9 = .ok (.iconst 0, 1) := by decide +kernel
theorem dX11_image_10 : decode cX11_image 10 = .ok (.ireturn, 1) := by decide +kernel
theorem dX11_image_11 : decode cX11_image 11 = .ok (.aload_n 0, 1) := by decide +kernel
theorem dX11_image_12 : decode cX11_image 12 = .ok (.getfield 16, 3) := by decide +kernel
theorem dX11_image_15 : decode cX11_image 15 = .ok (.iload_n 1, 1) := by decide +kernel
theorem dX11_image_16 : decode cX11_image 16 = .ok (.aaload, 1) := by decide +kernel
theorem dX11_image_17 : decode cX11_image 17 = .ok (.aload_n 0, 1) := by decide +kernel
theorem dX11_image_18 : decode cX11_image 18 = .ok (.getfield 12, 3) := by decide +kernel
theorem dX11_image_21 : decode cX11_image 21 = .ok (.invokevirtual 288, 3) := by decide +kernel
theorem dX11_image_24 : decode cX11_image 24 = .ok (.aload_n 0, 1) := by decide +kernel
theorem dX11_image_25 : decode cX11_image 25 = .ok (.getfield 20, 3) := by decide +kernel
theorem dX11_image_28 : decode cX11_image 28 = .ok (.iload_n 1, 1) := by decide +kernel
theorem dX11_image_29 : decode cX11_image 29 = .ok (.iconst 1, 1) := by decide +kernel
theorem dX11_image_30 : decode cX11_image 30 = .ok (.bastore, 1) := by decide +kernel
theorem dX11_image_31 : decode cX11_image 31 = .ok (.iconst 1, 1) := by decide +kernel
theorem dX11_image_32 : decode cX11_image 32 = .ok (.ireturn, 1) := by decide +kernel
theorem dX11_again_0 : decode cX11_again 0 = .ok (.iload_n 1, 1) := by decide +kernel
theorem dX11_again_1 : decode cX11_again 1 = .ok (.ifCond .lt 17, 3) := by decide +kernel
theorem dX11_again_4 : decode cX11_again 4 = .ok (.iload_n 1, 1) := by decide +kernel
theorem dX11_again_5 : decode cX11_again 5 = .ok (.iconst 3, 1) := by decide +kernel
theorem dX11_again_6 : decode cX11_again 6 = .ok (.if_icmp .ge 12, 3) := by decide +kernel
theorem dX11_again_9 : decode cX11_again 9 = .ok (.aload_n 0, 1) := by decide +kernel
theorem dX11_again_10 : decode cX11_again 10 = .ok (.getfield 20, 3) := by decide +kernel
theorem dX11_again_13 : decode cX11_again 13 = .ok (.iload_n 1, 1) := by decide +kernel
theorem dX11_again_14 : decode cX11_again 14 = .ok (.baload, 1) := by decide +kernel
theorem dX11_again_15 : decode cX11_again 15 = .ok (.ifCond .ne 5, 3) := by decide +kernel
theorem dX11_again_18 : decode cX11_again 18 = .ok (.iconst 0, 1) := by decide +kernel
theorem dX11_again_19 : decode cX11_again 19 = .ok (.ireturn, 1) := by decide +kernel
theorem dX11_again_20 : decode cX11_again 20 = .ok (.aload_n 0, 1) := by decide +kernel
theorem dX11_again_21 : decode cX11_again 21 = .ok (.getfield 12, 3) := by decide +kernel
theorem dX11_again_24 : decode cX11_again 24 = .ok (.aload_n 0, 1) := by decide +kernel
theorem dX11_again_25 : decode cX11_again 25 = .ok (.getfield 16, 3) := by decide +kernel
theorem dX11_again_28 : decode cX11_again 28 = .ok (.iload_n 1, 1) := by decide +kernel
theorem dX11_again_29 : decode cX11_again 29 = .ok (.aaload, 1) := by decide +kernel
theorem dX11_again_30 : decode cX11_again 30 = .ok (.invokevirtual 288, 3) := by decide +kernel
theorem dX11_again_33 : decode cX11_again 33 = .ok (.iconst 1, 1) := by decide +kernel
theorem dX11_again_34 : decode cX11_again 34 = .ok (.ireturn, 1) := by decide +kernel
theorem dX11_isSpan_0 : decode cX11_isSpan 0 = .ok (.iload_n 0, 1) := by decide +kernel
theorem dX11_isSpan_1 : decode cX11_isSpan 1 = .ok (.iconst 1, 1) := by decide +kernel
theorem dX11_isSpan_2 : decode cX11_isSpan 2 = .ok (.if_icmp .lt 13, 3) := by decide +kernel
theorem dX11_isSpan_5 : decode cX11_isSpan 5 = .ok (.iload_n 0, 1) := by decide +kernel
theorem dX11_isSpan_6 : decode cX11_isSpan 6 = .ok (.bipush 9, 2) := by decide +kernel
theorem dX11_isSpan_8 : decode cX11_isSpan 8 = .ok (.if_icmp .gt 7, 3) := by decide +kernel
theorem dX11_isSpan_11 : decode cX11_isSpan 11 = .ok (.iconst 1, 1) := by decide +kernel
theorem dX11_isSpan_12 : decode cX11_isSpan 12 = .ok (.goto 4, 3) := by decide +kernel
theorem dX11_isSpan_15 : decode cX11_isSpan 15 = .ok (.iconst 0, 1) := by decide +kernel
theorem dX11_isSpan_16 : decode cX11_isSpan 16 = .ok (.ireturn, 1) := by decide +kernel
theorem dX11_findFits_0 : decode cX11_findFits 0 = .ok (.aload_n 0, 1) := by decide +kernel
theorem dX11_findFits_1 : decode cX11_findFits 1 = .ok (.getfield 12, 3) := by decide +kernel
theorem dX11_findFits_4 : decode cX11_findFits 4 = .ok (.iload_n 1, 1) := by decide +kernel
theorem dX11_findFits_5 : decode cX11_findFits 5 = .ok (.invokevirtual 105, 3) := by decide +kernel
theorem dX11_findFits_8 : decode cX11_findFits 8 = .ok (.astore_n 3, 1) := by decide +kernel
theorem dX11_findFits_9 : decode cX11_findFits 9 = .ok (.aload_n 0, 1) := by decide +kernel
theorem dX11_findFits_10 : decode cX11_findFits 10 = .ok (.getfield 12, 3) := by decide +kernel
theorem dX11_findFits_13 : decode cX11_findFits 13 = .ok (.iload_n 2, 1) := by decide +kernel
theorem dX11_findFits_14 : decode cX11_findFits 14 = .ok (.invokevirtual 221, 3) := by decide +kernel
theorem dX11_findFits_17 : decode cX11_findFits 17 = .ok (.astore 4, 2) := by decide +kernel
theorem dX11_findFits_19 : decode cX11_findFits 19 = .ok (.aload_n 3, 1) := by decide +kernel
theorem dX11_findFits_20 : decode cX11_findFits 20 = .ok (.ifnull 29, 3) := by decide +kernel
theorem dX11_findFits_23 : decode cX11_findFits 23 = .ok (.aload 4, 2) := by decide +kernel
theorem dX11_findFits_25 : decode cX11_findFits 25 = .ok (.ifnull 24, 3) := by decide +kernel
theorem dX11_findFits_28 : decode cX11_findFits 28 = .ok (.aload_n 0, 1) := by decide +kernel
theorem dX11_findFits_29 : decode cX11_findFits 29 = .ok (.getfield 41, 3) := by decide +kernel
theorem dX11_findFits_32 : decode cX11_findFits 32 = .ok (.aload_n 3, 1) := by decide +kernel
theorem dX11_findFits_33 : decode cX11_findFits 33 = .ok (.aload 4, 2) := by decide +kernel
theorem dX11_findFits_35 : decode cX11_findFits 35 = .ok (.aload_n 0, 1) := by decide +kernel
theorem dX11_findFits_36 : decode cX11_findFits 36 = .ok (.getfield 34, 3) := by decide +kernel
theorem dX11_findFits_39 : decode cX11_findFits 39 = .ok (.invokevirtual 292, 3) := by decide +kernel
theorem dX11_findFits_42 : decode cX11_findFits 42 = .ok (.ifCond .eq 7, 3) := by decide +kernel
theorem dX11_findFits_45 : decode cX11_findFits 45 = .ok (.iconst 1, 1) := by decide +kernel
theorem dX11_findFits_46 : decode cX11_findFits 46 = .ok (.goto 4, 3) := by decide +kernel
theorem dX11_findFits_49 : decode cX11_findFits 49 = .ok (.iconst 0, 1) := by decide +kernel
theorem dX11_findFits_50 : decode cX11_findFits 50 = .ok (.ireturn, 1) := by decide +kernel
theorem dX12_init_0 : decode cX12_init 0 = .ok (.aload_n 0, 1) := by decide +kernel
theorem dX12_init_1 : decode cX12_init 1 = .ok (.invokespecial 1, 3) := by decide +kernel
theorem dX12_init_4 : decode cX12_init 4 = .ok (.aload_n 0, 1) := by decide +kernel
theorem dX12_init_5 : decode cX12_init 5 = .ok (.sipush 4312, 3) := by decide +kernel
theorem dX12_init_8 : decode cX12_init 8 = .ok (.newarray .int, 2) := by decide +kernel
theorem dX12_init_10 : decode cX12_init 10 = .ok (.putfield 7, 3) := by decide +kernel
theorem dX12_init_13 : decode cX12_init 13 = .ok (.aload_n 0, 1) := by decide +kernel
theorem dX12_init_14 : decode cX12_init 14 = .ok (.iconst 3, 1) := by decide +kernel
theorem dX12_init_15 : decode cX12_init 15 = .ok (.newarray .boolean, 2) := by decide +kernel
theorem dX12_init_17 : decode cX12_init 17 = .ok (.putfield 13, 3) := by decide +kernel
theorem dX12_init_20 : decode cX12_init 20 = .ok (.aload_n 0, 1) := by decide +kernel
theorem dX12_init_21 : decode cX12_init 21 = .ok (.sipush 161, 3) := by decide +kernel
theorem dX12_init_24 : decode cX12_init 24 = .ok (.newarray .int, 2) := by decide +kernel
theorem dX12_init_26 : decode cX12_init 26 = .ok (.putfield 17, 3) := by decide +kernel
theorem dX12_init_29 : decode cX12_init 29 = .ok (.aload_n 0, 1) := by decide +kernel
theorem dX12_init_30 : decode cX12_init 30 = .ok (.bipush 6, 2) := by decide +kernel
theorem dX12_init_32 : decode cX12_init 32 = .ok (.newarray .int, 2) := by decide +kernel
theorem dX12_init_34 : decode cX12_init 34 = .ok (.putfield 20, 3) := by decide +kernel
theorem dX12_init_37 : decode cX12_init 37 = .ok (.aload_n 0, 1) := by decide +kernel
theorem dX12_init_38 : decode cX12_init 38 = .ok (.bipush 6, 2) := by decide +kernel
theorem dX12_init_40 : decode cX12_init 40 = .ok (.newarray .int, 2) := by decide +kernel
theorem dX12_init_42 : decode cX12_init 42 = .ok (.putfield 23, 3) := by decide +kernel
theorem dX12_init_45 : decode cX12_init 45 = .ok (.aload_n 0, 1) := by decide +kernel
theorem dX12_init_46 : decode cX12_init 46 = .ok (.bipush 6, 2) := by decide +kernel
theorem dX12_init_48 : decode cX12_init 48 = .ok (.newarray .int, 2) := by decide +kernel
theorem dX12_init_50 : decode cX12_init 50 = .ok (.putfield 26, 3) := by decide +kernel
theorem dX12_init_53 : decode cX12_init 53 = .ok (.aload_n 0, 1) := by decide +kernel
theorem dX12_init_54 : decode cX12_init 54 = .ok (.bipush 6, 2) := by decide +kernel
theorem dX12_init_56 : decode cX12_init 56 = .ok (.newarray .int, 2) := by decide +kernel
theorem dX12_init_58 : decode cX12_init 58 = .ok (.putfield 29, 3) := by decide +kernel
theorem dX12_init_61 : decode cX12_init 61 = .ok (.aload_n 0, 1) := by decide +kernel
theorem dX12_init_62 : decode cX12_init 62 = .ok (.bipush 6, 2) := by decide +kernel
theorem dX12_init_64 : decode cX12_init 64 = .ok (.newarray .int, 2) := by decide +kernel
theorem dX12_init_66 : decode cX12_init 66 = .ok (.putfield 32, 3) := by decide +kernel
theorem dX12_init_69 : decode cX12_init 69 = .ok (.aload_n 0, 1) := by decide +kernel
theorem dX12_init_70 : decode cX12_init 70 = .ok (.bipush 6, 2) := by decide +kernel
theorem dX12_init_72 : decode cX12_init 72 = .ok (.newarray .int, 2) := by decide +kernel
theorem dX12_init_74 : decode cX12_init 74 = .ok (.putfield 35, 3) := by decide +kernel
theorem dX12_init_77 : decode cX12_init 77 = .ok (.aload_n 0, 1) := by decide +kernel
theorem dX12_init_78 : decode cX12_init 78 = .ok (.ldc 38, 2) := by decide +kernel
theorem dX12_init_80 : decode cX12_init 80 = .ok (.newarray .boolean, 2) := by decide +kernel
theorem dX12_init_82 : decode cX12_init 82 = .ok (.putfield 39, 3) := by decide +kernel
theorem dX12_init_85 : decode cX12_init 85 = .ok (.aload_n 0, 1) := by decide +kernel
theorem dX12_init_86 : decode cX12_init 86 = .ok (.sipush 1024, 3) := by decide +kernel
theorem dX12_init_89 : decode cX12_init 89 = .ok (.newarray .boolean, 2) := by decide +kernel
theorem dX12_init_91 : decode cX12_init 91 = .ok (.putfield 42, 3) := by decide +kernel
theorem dX12_init_94 : decode cX12_init 94 = .ok (.aload_n 0, 1) := by decide +kernel
theorem dX12_init_95 : decode cX12_init 95 = .ok (.bipush 100, 2) := by decide +kernel
theorem dX12_init_97 : decode cX12_init 97 = .ok (.newarray .long, 2) := by decide +kernel
theorem dX12_init_99 : decode cX12_init 99 = .ok (.putfield 45, 3) := by decide +kernel
theorem dX12_init_102 : decode cX12_init 102 = .ok (.aload_n 0, 1) := by decide +kernel
theorem dX12_init_103 : decode cX12_init 103 = .ok (.bipush 10, 2) := by decide +kernel
theorem dX12_init_105 : decode cX12_init 105 = .ok (.newarray .int, 2) := by decide +kernel
theorem dX12_init_107 : decode cX12_init 107 = .ok (.putfield 49, 3) := by decide +kernel
theorem dX12_init_110 : decode cX12_init 110 = .ok (.aload_n 0, 1) := by decide +kernel
theorem dX12_init_111 : decode cX12_init 111 = .ok (.bipush 64, 2) := by decide +kernel
theorem dX12_init_113 : decode cX12_init 113 = .ok (.newarray .boolean, 2) := by decide +kernel
theorem dX12_init_115 : decode cX12_init 115 = .ok (.putfield 52, 3) := by decide +kernel
theorem dX12_init_118 : decode cX12_init 118 = .ok (.aload_n 0, 1) := by decide +kernel
theorem dX12_init_119 : decode cX12_init 119 = .ok (.bipush 10, 2) := by decide +kernel
theorem dX12_init_121 : decode cX12_init 121 = .ok (.newarray .int, 2) := by decide +kernel
theorem dX12_init_123 : decode cX12_init 123 = .ok (.putfield 55, 3) := by decide +kernel
theorem dX12_init_126 : decode cX12_init 126 = .ok (.aload_n 0, 1) := by decide +kernel
theorem dX12_init_127 : decode cX12_init 127 = .ok (.bipush 10, 2) := by decide +kernel
theorem dX12_init_129 : decode cX12_init 129 = .ok (.newarray .int, 2) := by decide +kernel
theorem dX12_init_131 : decode cX12_init 131 = .ok (.putfield 58, 3) := by decide +kernel
theorem dX12_init_134 : decode cX12_init 134 = .ok (.aload_n 0, 1) := by decide +kernel
theorem dX12_init_135 : decode cX12_init 135 = .ok (.bipush 10, 2) := by decide +kernel
theorem dX12_init_137 : decode cX12_init 137 = .ok (.newarray .int, 2) := by decide +kernel
theorem dX12_init_139 : decode cX12_init 139 = .ok (.putfield 61, 3) := by decide +kernel
theorem dX12_init_142 : decode cX12_init 142 = .ok (.aload_n 0, 1) := by decide +kernel
theorem dX12_init_143 : decode cX12_init 143 = .ok (.bipush 10, 2) := by decide +kernel
theorem dX12_init_145 : decode cX12_init 145 = .ok (.newarray .int, 2) := by decide +kernel
theorem dX12_init_147 : decode cX12_init 147 = .ok (.putfield 64, 3) := by decide +kernel
theorem dX12_init_150 : decode cX12_init 150 = .ok (.aload_n 0, 1) := by decide +kernel
theorem dX12_init_151 : decode cX12_init 151 = .ok (.bipush 10, 2) := by decide +kernel
theorem dX12_init_153 : decode cX12_init 153 = .ok (.newarray .int, 2) := by decide +kernel
theorem dX12_init_155 : decode cX12_init 155 = .ok (.putfield 67, 3) := by decide +kernel
theorem dX12_init_158 : decode cX12_init 158 = .ok (.aload_n 0, 1) := by decide +kernel
theorem dX12_init_159 : decode cX12_init 159 = .ok (.bipush 10, 2) := by decide +kernel
theorem dX12_init_161 : decode cX12_init 161 = .ok (.newarray .int, 2) := by decide +kernel
theorem dX12_init_163 : decode cX12_init 163 = .ok (.putfield 70, 3) := by decide +kernel
theorem dX12_init_166 : decode cX12_init 166 = .ok (.aload_n 0, 1) := by decide +kernel
theorem dX12_init_167 : decode cX12_init 167 = .ok (.bipush 6, 2) := by decide +kernel
theorem dX12_init_169 : decode cX12_init 169 = .ok (.newarray .int, 2) := by decide +kernel
theorem dX12_init_171 : decode cX12_init 171 = .ok (.putfield 73, 3) := by decide +kernel
theorem dX12_init_174 : decode cX12_init 174 = .ok (.aload_n 0, 1) := by decide +kernel
theorem dX12_init_175 : decode cX12_init 175 = .ok (.bipush 12, 2) := by decide +kernel
theorem dX12_init_177 : decode cX12_init 177 = .ok (.newarray .int, 2) := by decide +kernel
theorem dX12_init_179 : decode cX12_init 179 = .ok (.putfield 76, 3) := by decide +kernel
theorem dX12_init_182 : decode cX12_init 182 = .ok (.aload_n 0, 1) := by decide +kernel
theorem dX12_init_183 : decode cX12_init 183 = .ok (.bipush 12, 2) := by decide +kernel
theorem dX12_init_185 : decode cX12_init 185 = .ok (.newarray .int, 2) := by decide +kernel
theorem dX12_init_187 : decode cX12_init 187 = .ok (.putfield 79, 3) := by decide +kernel
theorem dX12_init_190 : decode cX12_init 190 = .ok (.aload_n 0, 1) := by decide +kernel
theorem dX12_init_191 : decode cX12_init 191 = .ok (.bipush 12, 2) := by decide +kernel
theorem dX12_init_193 : decode cX12_init 193 = .ok (.newarray .int, 2) := by decide +kernel
theorem dX12_init_195 : decode cX12_init 195 = .ok (.putfield 82, 3) := by decide +kernel
theorem dX12_init_198 : decode cX12_init 198 = .ok (.aload_n 0, 1) := by decide +kernel
theorem dX12_init_199 : decode cX12_init 199 = .ok (.bipush 12, 2) := by decide +kernel
theorem dX12_init_201 : decode cX12_init 201 = .ok (.newarray .int, 2) := by decide +kernel
theorem dX12_init_203 : decode cX12_init 203 = .ok (.putfield 85, 3) := by decide +kernel
theorem dX12_init_206 : decode cX12_init 206 = .ok (.aload_n 0, 1) := by decide +kernel
theorem dX12_init_207 : decode cX12_init 207 = .ok (.bipush 31, 2) := by decide +kernel
theorem dX12_init_209 : decode cX12_init 209 = .ok (.newarray .int, 2) := by decide +kernel
theorem dX12_init_211 : decode cX12_init 211 = .ok (.putfield 88, 3) := by decide +kernel
theorem dX12_init_214 : decode cX12_init 214 = .ok (.aload_n 0, 1) := by decide +kernel
theorem dX12_init_215 : decode cX12_init 215 = .ok (.getfield 7, 3) := by decide +kernel
theorem dX12_init_218 : decode cX12_init 218 = .ok (.bipush 6, 2) := by decide +kernel
theorem dX12_init_220 : decode cX12_init 220 = .ok (.iconst (-1), 1) := by decide +kernel
theorem dX12_init_221 : decode cX12_init 221 = .ok (.iastore, 1) := by decide +kernel
theorem dX12_init_222 : decode cX12_init 222 = .ok (.return_, 1) := by decide +kernel
theorem dX12_isIn_0 : decode cX12_isIn 0 = .ok (.iload_n 0, 1) := by decide +kernel
theorem dX12_isIn_1 : decode cX12_isIn 1 = .ok (.iload_n 1, 1) := by decide +kernel
theorem dX12_isIn_2 : decode cX12_isIn 2 = .ok (.if_icmp .lt 12, 3) := by decide +kernel
theorem dX12_isIn_5 : decode cX12_isIn 5 = .ok (.iload_n 0, 1) := by decide +kernel
theorem dX12_isIn_6 : decode cX12_isIn 6 = .ok (.iload_n 2, 1) := by decide +kernel
theorem dX12_isIn_7 : decode cX12_isIn 7 = .ok (.if_icmp .gt 7, 3) := by decide +kernel
theorem dX12_isIn_10 : decode cX12_isIn 10 = .ok (.iconst 1, 1) := by decide +kernel
theorem dX12_isIn_11 : decode cX12_isIn 11 = .ok (.goto 4, 3) := by decide +kernel
theorem dX12_isIn_14 : decode cX12_isIn 14 = .ok (.iconst 0, 1) := by decide +kernel
theorem dX12_isIn_15 : decode cX12_isIn 15 = .ok (.ireturn, 1) := by decide +kernel
theorem dX12_feed_0 : decode cX12_feed 0 = .ok (.aload_n 0, 1) := by decide +kernel
theorem dX12_feed_1 : decode cX12_feed 1 = .ok (.getfield 7, 3) := by decide +kernel
theorem dX12_feed_4 : decode cX12_feed 4 = .ok (.iconst 4, 1) := by decide +kernel
theorem dX12_feed_5 : decode cX12_feed 5 = .ok (.iaload, 1) := by decide +kernel
theorem dX12_feed_6 : decode cX12_feed 6 = .ok (.bipush 20, 2) := by decide +kernel
theorem dX12_feed_8 : decode cX12_feed 8 = .ok (.iadd, 1) := by decide +kernel
theorem dX12_feed_9 : decode cX12_feed 9 = .ok (.sipush 600, 3) := by decide +kernel
theorem dX12_feed_12 : decode cX12_feed 12 = .ok (.if_icmp .le 5, 3) := by decide +kernel
theorem dX12_feed_15 : decode cX12_feed 15 = .ok (.iconst (-1), 1) := by decide +kernel
theorem dX12_feed_16 : decode cX12_feed 16 = .ok (.ireturn, 1) := by decide +kernel
theorem dX12_feed_17 : decode cX12_feed 17 = .ok (.iconst 0, 1) := by decide +kernel
theorem dX12_feed_18 : decode cX12_feed 18 = .ok (.istore 6, 2) := by decide +kernel
theorem dX12_feed_20 : decode cX12_feed 20 = .ok (.iload 6, 2) := by decide +kernel
theorem dX12_feed_22 : decode cX12_feed 22 = .ok (.bipush 20, 2) := by decide +kernel
theorem dX12_feed_24 : decode cX12_feed 24 = .ok (.if_icmp .ge 98, 3) := by decide +kernel
theorem dX12_feed_27 : decode cX12_feed 27 = .ok (.iload 6, 2) := by decide +kernel
theorem dX12_feed_29 : decode cX12_feed 29 = .ok (.iconst 4, 1) := by decide +kernel
theorem dX12_feed_30 : decode cX12_feed 30 = .ok (.if_icmp .ge 7, 3) := by decide +kernel
theorem dX12_feed_33 : decode cX12_feed 33 = .ok (.iload_n 1, 1) := by decide +kernel
theorem dX12_feed_34 : decode cX12_feed 34 = .ok (.goto 39, 3) := by decide +kernel
theorem dX12_feed_37 : decode cX12_feed 37 = .ok (.iload 6, 2) := by decide +kernel
theorem dX12_feed_39 : decode cX12_feed 39 = .ok (.bipush 8, 2) := by decide +kernel
theorem dX12_feed_41 : decode cX12_feed 41 = .ok (.if_icmp .ge 7, 3) := by decide +kernel
theorem dX12_feed_44 : decode cX12_feed 44 = .ok (.iload_n 2, 1) := by decide +kernel
theorem dX12_feed_45 : decode cX12_feed 45 = .ok (.goto 28, 3) := by decide +kernel
theorem dX12_feed_48 : decode cX12_feed 48 = .ok (.iload 6, 2) := by decide +kernel
theorem dX12_feed_50 : decode cX12_feed 50 = .ok (.bipush 12, 2) := by decide +kernel
theorem dX12_feed_52 : decode cX12_feed 52 = .ok (.if_icmp .ge 7, 3) := by decide +kernel
theorem dX12_feed_55 : decode cX12_feed 55 = .ok (.iload_n 3, 1) := by decide +kernel
theorem dX12_feed_56 : decode cX12_feed 56 = .ok (.goto 17, 3) := by decide +kernel
theorem dX12_feed_59 : decode cX12_feed 59 = .ok (.iload 6, 2) := by decide +kernel
theorem dX12_feed_61 : decode cX12_feed 61 = .ok (.bipush 16, 2) := by decide +kernel
theorem dX12_feed_63 : decode cX12_feed 63 = .ok (.if_icmp .ge 8, 3) := by decide +kernel
theorem dX12_feed_66 : decode cX12_feed 66 = .ok (.iload 4, 2) := by decide +kernel
theorem dX12_feed_68 : decode cX12_feed 68 = .ok (.goto 5, 3) := by decide +kernel
theorem dX12_feed_71 : decode cX12_feed 71 = .ok (.iload 5, 2) := by decide +kernel
theorem dX12_feed_73 : decode cX12_feed 73 = .ok (.istore 7, 2) := by decide +kernel
theorem dX12_feed_75 : decode cX12_feed 75 = .ok (.aload_n 0, 1) := by decide +kernel
theorem dX12_feed_76 : decode cX12_feed 76 = .ok (.getfield 7, 3) := by decide +kernel
theorem dX12_feed_79 : decode cX12_feed 79 = .ok (.bipush 10, 2) := by decide +kernel
theorem dX12_feed_81 : decode cX12_feed 81 = .ok (.aload_n 0, 1) := by decide +kernel
theorem dX12_feed_82 : decode cX12_feed 82 = .ok (.getfield 7, 3) := by decide +kernel
theorem dX12_feed_85 : decode cX12_feed 85 = .ok (.iconst 4, 1) := by decide +kernel
theorem dX12_feed_86 : decode cX12_feed 86 = .ok (.iaload, 1) := by decide +kernel
theorem dX12_feed_87 : decode cX12_feed 87 = .ok (.iadd, 1) := by decide +kernel
theorem dX12_feed_88 : decode cX12_feed 88 = .ok (.iload 7, 2) := by decide +kernel
theorem dX12_feed_90 : decode cX12_feed 90 = .ok (.bipush 24, 2) := by decide +kernel
theorem dX12_feed_92 : decode cX12_feed 92 = .ok (.bipush 8, 2) := by decide +kernel
theorem dX12_feed_94 : decode cX12_feed 94 = .ok (.iload 6, 2) := by decide +kernel
theorem dX12_feed_96 : decode cX12_feed 96 = .ok (.iconst 4, 1) := by decide +kernel
theorem dX12_feed_97 : decode cX12_feed 97 = .ok (.irem, 1) := by decide +kernel
theorem dX12_feed_98 : decode cX12_feed 98 = .ok (.imul, 1) := by decide +kernel
theorem dX12_feed_99 : decode cX12_feed 99 = .ok (.isub, 1) := by decide +kernel
theorem dX12_feed_100 : decode cX12_feed 100 = .ok (.ishr, 1) := by decide +kernel
theorem dX12_feed_101 : decode cX12_feed 101 = .ok (.sipush 255, 3) := by decide +kernel
theorem dX12_feed_104 : decode cX12_feed 104 = .ok (.iand, 1) := by decide +kernel
theorem dX12_feed_105 : decode cX12_feed 105 = .ok (.iastore, 1) := by decide +kernel
theorem dX12_feed_106 : decode cX12_feed 106 = .ok (.aload_n 0, 1) := by decide +kernel
theorem dX12_feed_107 : decode cX12_feed 107 = .ok (.getfield 7, 3) := by decide +kernel
theorem dX12_feed_110 : decode cX12_feed 110 = .ok (.iconst 4, 1) := by decide +kernel
theorem dX12_feed_111 : decode cX12_feed 111 = .ok (.dup2, 1) := by decide +kernel
theorem dX12_feed_112 : decode cX12_feed 112 = .ok (.iaload, 1) := by decide +kernel
theorem dX12_feed_113 : decode cX12_feed 113 = .ok (.iconst 1, 1) := by decide +kernel
theorem dX12_feed_114 : decode cX12_feed 114 = .ok (.iadd, 1) := by decide +kernel
theorem dX12_feed_115 : decode cX12_feed 115 = .ok (.iastore, 1) := by decide +kernel
theorem dX12_feed_116 : decode cX12_feed 116 = .ok (.iinc 6 1, 3) := by decide +kernel
theorem dX12_feed_119 : decode cX12_feed 119 = .ok (.goto (-99), 3) := by decide +kernel
theorem dX12_feed_122 : decode cX12_feed 122 = .ok (.aload_n 0, 1) := by decide +kernel
theorem dX12_feed_123 : decode cX12_feed 123 = .ok (.getfield 7, 3) := by decide +kernel
theorem dX12_feed_126 : decode cX12_feed 126 = .ok (.iconst 4, 1) := by decide +kernel
theorem dX12_feed_127 : decode cX12_feed 127 = .ok (.iaload, 1) := by decide +kernel
theorem dX12_feed_128 : decode cX12_feed 128 = .ok (.ireturn, 1) := by decide +kernel
theorem dX12_end_0 : decode cX12_end 0 = .ok (.iload_n 1, 1) := by decide +kernel
theorem dX12_end_1 : decode cX12_end 1 = .ok (.ifCond .lt 13, 3) := by decide +kernel
theorem dX12_end_4 : decode cX12_end 4 = .ok (.iload_n 1, 1) := by decide +kernel
theorem dX12_end_5 : decode cX12_end 5 = .ok (.aload_n 0, 1) := by decide +kernel
theorem dX12_end_6 : decode cX12_end 6 = .ok (.getfield 7, 3) := by decide +kernel
theorem dX12_end_9 : decode cX12_end 9 = .ok (.iconst 4, 1) := by decide +kernel
theorem dX12_end_10 : decode cX12_end 10 = .ok (.iaload, 1) := by decide +kernel
theorem dX12_end_11 : decode cX12_end 11 = .ok (.if_icmp .le 5, 3) := by decide +kernel
theorem dX12_end_14 : decode cX12_end 14 = .ok (.iconst (-1), 1) := by decide +kernel
theorem dX12_end_15 : decode cX12_end 15 = .ok (.ireturn, 1) := by decide +kernel
theorem dX12_end_16 : decode cX12_end 16 = .ok (.aload_n 0, 1) := by decide +kernel
theorem dX12_end_17 : decode cX12_end 17 = .ok (.getfield 7, 3) := by decide +kernel
theorem dX12_end_20 : decode cX12_end 20 = .ok (.iconst 4, 1) := by decide +kernel
theorem dX12_end_21 : decode cX12_end 21 = .ok (.iload_n 1, 1) := by decide +kernel
theorem dX12_end_22 : decode cX12_end 22 = .ok (.iastore, 1) := by decide +kernel
theorem dX12_end_23 : decode cX12_end 23 = .ok (.iload_n 1, 1) := by decide +kernel
theorem dX12_end_24 : decode cX12_end 24 = .ok (.ireturn, 1) := by decide +kernel
theorem dX12_byteAt_0 : decode cX12_byteAt 0 = .ok (.iload_n 1, 1) := by decide +kernel
theorem dX12_byteAt_1 : decode cX12_byteAt 1 = .ok (.aload_n 0, 1) := by decide +kernel
theorem dX12_byteAt_2 : decode cX12_byteAt 2 = .ok (.getfield 91, 3) := by decide +kernel
theorem dX12_byteAt_5 : decode cX12_byteAt 5 = .ok (.if_icmp .ge 15, 3) := by decide +kernel
theorem dX12_byteAt_8 : decode cX12_byteAt 8 = .ok (.aload_n 0, 1) := by decide +kernel
theorem dX12_byteAt_9 : decode cX12_byteAt 9 = .ok (.getfield 7, 3) := by decide +kernel
theorem dX12_byteAt_12 : decode cX12_byteAt 12 = .ok (.bipush 10, 2) := by decide +kernel
theorem dX12_byteAt_14 : decode cX12_byteAt 14 = .ok (.iload_n 1, 1) := by decide +kernel
theorem dX12_byteAt_15 : decode cX12_byteAt 15 = .ok (.iadd, 1) := by decide +kernel
theorem dX12_byteAt_16 : decode cX12_byteAt 16 = .ok (.iaload, 1) := by decide +kernel
theorem dX12_byteAt_17 : decode cX12_byteAt 17 = .ok (.goto 4, 3) := by decide +kernel
theorem dX12_byteAt_20 : decode cX12_byteAt 20 = .ok (.iconst (-1), 1) := by decide +kernel
theorem dX12_byteAt_21 : decode cX12_byteAt 21 = .ok (.ireturn, 1) := by decide +kernel
theorem dX12_isLetter_0 : decode cX12_isLetter 0 = .ok (.iload_n 0, 1) := by decide +kernel
theorem dX12_isLetter_1 : decode cX12_isLetter 1 = .ok (.bipush 97, 2) := by decide +kernel
theorem dX12_isLetter_3 : decode cX12_isLetter 3 = .ok (.if_icmp .lt 13, 3) := by decide +kernel
theorem dX12_isLetter_6 : decode cX12_isLetter 6 = .ok (.iload_n 0, 1) := by decide +kernel
theorem dX12_isLetter_7 : decode cX12_isLetter 7 = .ok (.bipush 122, 2) := by decide +kernel
theorem dX12_isLetter_9 : decode cX12_isLetter 9 = .ok (.if_icmp .gt 7, 3) := by decide +kernel
theorem dX12_isLetter_12 : decode cX12_isLetter 12 = .ok (.iconst 1, 1) := by decide +kernel
theorem dX12_isLetter_13 : decode cX12_isLetter 13 = .ok (.goto 4, 3) := by decide +kernel
theorem dX12_isLetter_16 : decode cX12_isLetter 16 = .ok (.iconst 0, 1) := by decide +kernel
theorem dX12_isLetter_17 : decode cX12_isLetter 17 = .ok (.ireturn, 1) := by decide +kernel
theorem dX12_isDigit_0 : decode cX12_isDigit 0 = .ok (.iload_n 0, 1) := by decide +kernel
theorem dX12_isDigit_1 : decode cX12_isDigit 1 = .ok (.bipush 48, 2) := by decide +kernel
theorem dX12_isDigit_3 : decode cX12_isDigit 3 = .ok (.if_icmp .lt 13, 3) := by decide +kernel
theorem dX12_isDigit_6 : decode cX12_isDigit 6 = .ok (.iload_n 0, 1) := by decide +kernel
theorem dX12_isDigit_7 : decode cX12_isDigit 7 = .ok (.bipush 57, 2) := by decide +kernel
theorem dX12_isDigit_9 : decode cX12_isDigit 9 = .ok (.if_icmp .gt 7, 3) := by decide +kernel
theorem dX12_isDigit_12 : decode cX12_isDigit 12 = .ok (.iconst 1, 1) := by decide +kernel
theorem dX12_isDigit_13 : decode cX12_isDigit 13 = .ok (.goto 4, 3) := by decide +kernel
theorem dX12_isDigit_16 : decode cX12_isDigit 16 = .ok (.iconst 0, 1) := by decide +kernel
theorem dX12_isDigit_17 : decode cX12_isDigit 17 = .ok (.ireturn, 1) := by decide +kernel
theorem dX12_four_0 : decode cX12_four 0 = .ok (.iload_n 0, 1) := by decide +kernel
theorem dX12_four_1 : decode cX12_four 1 = .ok (.bipush 32, 2) := by decide +kernel
theorem dX12_four_3 : decode cX12_four 3 = .ok (.imul, 1) := by decide +kernel
theorem dX12_four_4 : decode cX12_four 4 = .ok (.iload_n 1, 1) := by decide +kernel
theorem dX12_four_5 : decode cX12_four 5 = .ok (.iadd, 1) := by decide +kernel
theorem dX12_four_6 : decode cX12_four 6 = .ok (.bipush 32, 2) := by decide +kernel
theorem dX12_four_8 : decode cX12_four 8 = .ok (.imul, 1) := by decide +kernel
theorem dX12_four_9 : decode cX12_four 9 = .ok (.iload_n 2, 1) := by decide +kernel
theorem dX12_four_10 : decode cX12_four 10 = .ok (.iadd, 1) := by decide +kernel
theorem dX12_four_11 : decode cX12_four 11 = .ok (.bipush 32, 2) := by decide +kernel
theorem dX12_four_13 : decode cX12_four 13 = .ok (.imul, 1) := by decide +kernel
theorem dX12_four_14 : decode cX12_four 14 = .ok (.iload_n 3, 1) := by decide +kernel
theorem dX12_four_15 : decode cX12_four 15 = .ok (.iadd, 1) := by decide +kernel
theorem dX12_four_16 : decode cX12_four 16 = .ok (.i2l, 1) := by decide +kernel
theorem dX12_four_17 : decode cX12_four 17 = .ok (.lreturn, 1) := by decide +kernel
theorem dX12_eight_0 : decode cX12_eight 0 = .ok (.iload_n 0, 1) := by decide +kernel
theorem dX12_eight_1 : decode cX12_eight 1 = .ok (.iload_n 1, 1) := by decide +kernel
theorem dX12_eight_2 : decode cX12_eight 2 = .ok (.iload_n 2, 1) := by decide +kernel
theorem dX12_eight_3 : decode cX12_eight 3 = .ok (.iload_n 3, 1) := by decide +kernel
theorem dX12_eight_4 : decode cX12_eight 4 = .ok (.invokestatic 95, 3) := by decide +kernel
theorem dX12_eight_7 : decode cX12_eight 7 = .ok (.ldc2_w 99, 3) := by decide +kernel
theorem dX12_eight_10 : decode cX12_eight 10 = .ok (.lmul, 1) := by decide +kernel
theorem dX12_eight_11 : decode cX12_eight 11 = .ok (.iload 4, 2) := by decide +kernel
theorem dX12_eight_13 : decode cX12_eight 13 = .ok (.iload 5, 2) := by decide +kernel
theorem dX12_eight_15 : decode cX12_eight 15 = .ok (.iload 6, 2) := by decide +kernel
theorem dX12_eight_17 : decode cX12_eight 17 = .ok (.iload 7, 2) := by decide +kernel
theorem dX12_eight_19 : decode cX12_eight 19 = .ok (.invokestatic 95, 3) := by decide +kernel
theorem dX12_eight_22 : decode cX12_eight 22 = .ok (.ladd, 1) := by decide +kernel
theorem dX12_eight_23 : decode cX12_eight 23 = .ok (.lreturn, 1) := by decide +kernel
theorem dX12_wordOf_0 : decode cX12_wordOf 0 = .ok (.lload_n 0, 1) := by decide +kernel
theorem dX12_wordOf_1 : decode cX12_wordOf 1 = .ok (.bipush 6, 2) := by decide +kernel
theorem dX12_wordOf_3 : decode cX12_wordOf 3 = .ok (.bipush 15, 2) := by decide +kernel
theorem dX12_wordOf_5 : decode cX12_wordOf 5 = .ok (.bipush 12, 2) := by decide +kernel
theorem dX12_wordOf_7 : decode cX12_wordOf 7 = .ok (.bipush 11, 2) := by decide +kernel
theorem dX12_wordOf_9 : decode cX12_wordOf 9 = .ok (.invokestatic 95, 3) := by decide +kernel
theorem dX12_wordOf_12 : decode cX12_wordOf 12 = .ok (.lcmp, 1) := by decide +kernel
theorem dX12_wordOf_13 : decode cX12_wordOf 13 = .ok (.ifCond .ne 5, 3) := by decide +kernel
theorem dX12_wordOf_16 : decode cX12_wordOf 16 = .ok (.iconst 1, 1) := by decide +kernel
theorem dX12_wordOf_17 : decode cX12_wordOf 17 = .ok (.ireturn, 1) := by decide +kernel
theorem dX12_wordOf_18 : decode cX12_wordOf 18 = .ok (.lload_n 0, 1) := by decide +kernel
theorem dX12_wordOf_19 : decode cX12_wordOf 19 = .ok (.iconst 0, 1) := by decide +kernel
theorem dX12_wordOf_20 : decode cX12_wordOf 20 = .ok (.iconst 0, 1) := by decide +kernel
theorem dX12_wordOf_21 : decode cX12_wordOf 21 = .ok (.iconst 0, 1) := by decide +kernel
theorem dX12_wordOf_22 : decode cX12_wordOf 22 = .ok (.iconst 3, 1) := by decide +kernel
theorem dX12_wordOf_23 : decode cX12_wordOf 23 = .ok (.bipush 8, 2) := by decide +kernel
theorem dX12_wordOf_25 : decode cX12_wordOf 25 = .ok (.bipush 9, 2) := by decide +kernel
theorem dX12_wordOf_27 : decode cX12_wordOf 27 = .ok (.bipush 12, 2) := by decide +kernel
theorem dX12_wordOf_29 : decode cX12_wordOf 29 = .ok (.iconst 4, 1) := by decide +kernel
theorem dX12_wordOf_30 : decode cX12_wordOf 30 = .ok (.invokestatic 101, 3) := by decide +kernel
theorem dX12_wordOf_33 : decode cX12_wordOf 33 = .ok (.lcmp, 1) := by decide +kernel
theorem dX12_wordOf_34 : decode cX12_wordOf 34 = .ok (.ifCond .ne 5, 3) := by decide +kernel
theorem dX12_wordOf_37 : decode cX12_wordOf 37 = .ok (.iconst 2, 1) := by decide +kernel
theorem dX12_wordOf_38 : decode cX12_wordOf 38 = .ok (.ireturn, 1) := by decide +kernel
theorem dX12_wordOf_39 : decode cX12_wordOf 39 = .ok (.lload_n 0, 1) := by decide +kernel
theorem dX12_wordOf_40 : decode cX12_wordOf 40 = .ok (.bipush 23, 2) := by decide +kernel
theorem dX12_wordOf_42 : decode cX12_wordOf 42 = .ok (.bipush 15, 2) := by decide +kernel
theorem dX12_wordOf_44 : decode cX12_wordOf 44 = .ok (.bipush 18, 2) := by decide +kernel
theorem dX12_wordOf_46 : decode cX12_wordOf 46 = .ok (.bipush 11, 2) := by decide +kernel
theorem dX12_wordOf_48 : decode cX12_wordOf 48 = .ok (.invokestatic 95, 3) := by decide +kernel
theorem dX12_wordOf_51 : decode cX12_wordOf 51 = .ok (.lcmp, 1) := by decide +kernel
theorem dX12_wordOf_52 : decode cX12_wordOf 52 = .ok (.ifCond .ne 5, 3) := by decide +kernel
theorem dX12_wordOf_55 : decode cX12_wordOf 55 = .ok (.iconst 3, 1) := by decide +kernel
theorem dX12_wordOf_56 : decode cX12_wordOf 56 = .ok (.ireturn, 1) := by decide +kernel
theorem dX12_wordOf_57 : decode cX12_wordOf 57 = .ok (.lload_n 0, 1) := by decide +kernel
theorem dX12_wordOf_58 : decode cX12_wordOf 58 = .ok (.iconst 0, 1) := by decide +kernel
theorem dX12_wordOf_59 : decode cX12_wordOf 59 = .ok (.iconst 0, 1) := by decide +kernel
theorem dX12_wordOf_60 : decode cX12_wordOf 60 = .ok (.iconst 0, 1) := by decide +kernel
theorem dX12_wordOf_61 : decode cX12_wordOf 61 = .ok (.iconst 2, 1) := by decide +kernel
theorem dX12_wordOf_62 : decode cX12_wordOf 62 = .ok (.bipush 15, 2) := by decide +kernel
theorem dX12_wordOf_64 : decode cX12_wordOf 64 = .ok (.bipush 21, 2) := by decide +kernel
theorem dX12_wordOf_66 : decode cX12_wordOf 66 = .ok (.bipush 14, 2) := by decide +kernel
theorem dX12_wordOf_68 : decode cX12_wordOf 68 = .ok (.iconst 4, 1) := by decide +kernel
theorem dX12_wordOf_69 : decode cX12_wordOf 69 = .ok (.invokestatic 101, 3) := by decide +kernel
theorem dX12_wordOf_72 : decode cX12_wordOf 72 = .ok (.lcmp, 1) := by decide +kernel
theorem dX12_wordOf_73 : decode cX12_wordOf 73 = .ok (.ifCond .ne 5, 3) := by decide +kernel
theorem dX12_wordOf_76 : decode cX12_wordOf 76 = .ok (.iconst 4, 1) := by decide +kernel
theorem dX12_wordOf_77 : decode cX12_wordOf 77 = .ok (.ireturn, 1) := by decide +kernel
theorem dX12_wordOf_78 : decode cX12_wordOf 78 = .ok (.lload_n 0, 1) := by decide +kernel
theorem dX12_wordOf_79 : decode cX12_wordOf 79 = .ok (.iconst 0, 1) := by decide +kernel
theorem dX12_wordOf_80 : decode cX12_wordOf 80 = .ok (.bipush 16, 2) := by decide +kernel
theorem dX12_wordOf_82 : decode cX12_wordOf 82 = .ok (.bipush 18, 2) := by decide +kernel
theorem dX12_wordOf_84 : decode cX12_wordOf 84 = .ok (.bipush 15, 2) := by decide +kernel
theorem dX12_wordOf_86 : decode cX12_wordOf 86 = .ok (.bipush 13, 2) := by decide +kernel
theorem dX12_wordOf_88 : decode cX12_wordOf 88 = .ok (.bipush 9, 2) := by decide +kernel
theorem dX12_wordOf_90 : decode cX12_wordOf 90 = .ok (.bipush 19, 2) := by decide +kernel
theorem dX12_wordOf_92 : decode cX12_wordOf 92 = .ok (.iconst 5, 1) := by decide +kernel
theorem dX12_wordOf_93 : decode cX12_wordOf 93 = .ok (.invokestatic 101, 3) := by decide +kernel
theorem dX12_wordOf_96 : decode cX12_wordOf 96 = .ok (.lcmp, 1) := by decide +kernel
theorem dX12_wordOf_97 : decode cX12_wordOf 97 = .ok (.ifCond .ne 5, 3) := by decide +kernel
theorem dX12_wordOf_100 : decode cX12_wordOf 100 = .ok (.iconst 5, 1) := by decide +kernel
theorem dX12_wordOf_101 : decode cX12_wordOf 101 = .ok (.ireturn, 1) := by decide +kernel
theorem dX12_wordOf_102 : decode cX12_wordOf 102 = .ok (.lload_n 0, 1) := by decide +kernel
theorem dX12_wordOf_103 : decode cX12_wordOf 103 = .ok (.iconst 2, 1) := by decide +kernel
theorem dX12_wordOf_104 : decode cX12_wordOf 104 = .ok (.bipush 15, 2) := by decide +kernel
theorem dX12_wordOf_106 : decode cX12_wordOf 106 = .ok (.bipush 18, 2) := by decide +kernel
theorem dX12_wordOf_108 : decode cX12_wordOf 108 = .ok (.bipush 14, 2) := by decide +kernel
theorem dX12_wordOf_110 : decode cX12_wordOf 110 = .ok (.invokestatic 95, 3) := by decide +kernel
theorem dX12_wordOf_113 : decode cX12_wordOf 113 = .ok (.lcmp, 1) := by decide +kernel
theorem dX12_wordOf_114 : decode cX12_wordOf 114 = .ok (.ifCond .ne 6, 3) := by decide +kernel
theorem dX12_wordOf_117 : decode cX12_wordOf 117 = .ok (.bipush 6, 2) := by decide +kernel
theorem dX12_wordOf_119 : decode cX12_wordOf 119 = .ok (.ireturn, 1) := by decide +kernel
theorem dX12_wordOf_120 : decode cX12_wordOf 120 = .ok (.lload_n 0, 1) := by decide +kernel
theorem dX12_wordOf_121 : decode cX12_wordOf 121 = .ok (.iconst 0, 1) := by decide +kernel
theorem dX12_wordOf_122 : decode cX12_wordOf 122 = .ok (.iconst 0, 1) := by decide +kernel
theorem dX12_wordOf_123 : decode cX12_wordOf 123 = .ok (.iconst 0, 1) := by decide +kernel
theorem dX12_wordOf_124 : decode cX12_wordOf 124 = .ok (.iconst 3, 1) := by decide +kernel
theorem dX12_wordOf_125 : decode cX12_wordOf 125 = .ok (.bipush 15, 2) := by decide +kernel
theorem dX12_wordOf_127 : decode cX12_wordOf 127 = .ok (.bipush 22, 2) := by decide +kernel
theorem dX12_wordOf_129 : decode cX12_wordOf 129 = .ok (.iconst 5, 1) := by decide +kernel
theorem dX12_wordOf_130 : decode cX12_wordOf 130 = .ok (.bipush 18, 2) := by decide +kernel
theorem dX12_wordOf_132 : decode cX12_wordOf 132 = .ok (.invokestatic 101, 3) := by decide +kernel
theorem dX12_wordOf_135 : decode cX12_wordOf 135 = .ok (.lcmp, 1) := by decide +kernel
theorem dX12_wordOf_136 : decode cX12_wordOf 136 = .ok (.ifCond .ne 6, 3) := by decide +kernel
theorem dX12_wordOf_139 : decode cX12_wordOf 139 = .ok (.bipush 7, 2) := by decide +kernel
theorem dX12_wordOf_141 : decode cX12_wordOf 141 = .ok (.ireturn, 1) := by decide +kernel
theorem dX12_wordOf_142 : decode cX12_wordOf 142 = .ok (.lload_n 0, 1) := by decide +kernel
theorem dX12_wordOf_143 : decode cX12_wordOf 143 = .ok (.iconst 0, 1) := by decide +kernel
theorem dX12_wordOf_144 : decode cX12_wordOf 144 = .ok (.iconst 4, 1) := by decide +kernel
theorem dX12_wordOf_145 : decode cX12_wordOf 145 = .ok (.bipush 9, 2) := by decide +kernel
theorem dX12_wordOf_147 : decode cX12_wordOf 147 = .ok (.iconst 5, 1) := by decide +kernel
theorem dX12_wordOf_148 : decode cX12_wordOf 148 = .ok (.invokestatic 95, 3) := by decide +kernel
theorem dX12_wordOf_151 : decode cX12_wordOf 151 = .ok (.lcmp, 1) := by decide +kernel
theorem dX12_wordOf_152 : decode cX12_wordOf 152 = .ok (.ifCond .ne 6, 3) := by decide +kernel
theorem dX12_wordOf_155 : decode cX12_wordOf 155 = .ok (.bipush 8, 2) := by decide +kernel
theorem dX12_wordOf_157 : decode cX12_wordOf 157 = .ok (.ireturn, 1) := by decide +kernel
theorem dX12_wordOf_158 : decode cX12_wordOf 158 = .ok (.lload_n 0, 1) := by decide +kernel
theorem dX12_wordOf_159 : decode cX12_wordOf 159 = .ok (.bipush 25, 2) := by decide +kernel
theorem dX12_wordOf_161 : decode cX12_wordOf 161 = .ok (.iconst 5, 1) := by decide +kernel
theorem dX12_wordOf_162 : decode cX12_wordOf 162 = .ok (.iconst 1, 1) := by decide +kernel
theorem dX12_wordOf_163 : decode cX12_wordOf 163 = .ok (.bipush 18, 2) := by decide +kernel
theorem dX12_wordOf_165 : decode cX12_wordOf 165 = .ok (.invokestatic 95, 3) := by decide +kernel
theorem dX12_wordOf_168 : decode cX12_wordOf 168 = .ok (.lcmp, 1) := by decide +kernel
theorem dX12_wordOf_169 : decode cX12_wordOf 169 = .ok (.ifCond .ne 6, 3) := by decide +kernel
theorem dX12_wordOf_172 : decode cX12_wordOf 172 = .ok (.bipush 9, 2) := by decide +kernel
theorem dX12_wordOf_174 : decode cX12_wordOf 174 = .ok (.ireturn, 1) := by decide +kernel
theorem dX12_wordOf_175 : decode cX12_wordOf 175 = .ok (.lload_n 0, 1) := by decide +kernel
theorem dX12_wordOf_176 : decode cX12_wordOf 176 = .ok (.iconst 0, 1) := by decide +kernel
theorem dX12_wordOf_177 : decode cX12_wordOf 177 = .ok (.iconst 0, 1) := by decide +kernel
theorem dX12_wordOf_178 : decode cX12_wordOf 178 = .ok (.iconst 0, 1) := by decide +kernel
theorem dX12_wordOf_179 : decode cX12_wordOf 179 = .ok (.bipush 25, 2) := by decide +kernel
theorem dX12_wordOf_181 : decode cX12_wordOf 181 = .ok (.iconst 5, 1) := by decide +kernel
theorem dX12_wordOf_182 : decode cX12_wordOf 182 = .ok (.iconst 1, 1) := by decide +kernel
theorem dX12_wordOf_183 : decode cX12_wordOf 183 = .ok (.bipush 18, 2) := by decide +kernel
theorem dX12_wordOf_185 : decode cX12_wordOf 185 = .ok (.bipush 19, 2) := by decide +kernel
theorem dX12_wordOf_187 : decode cX12_wordOf 187 = .ok (.invokestatic 101, 3) := by decide +kernel
theorem dX12_wordOf_190 : decode cX12_wordOf 190 = .ok (.lcmp, 1) := by decide +kernel
theorem dX12_wordOf_191 : decode cX12_wordOf 191 = .ok (.ifCond .ne 6, 3) := by decide +kernel
theorem dX12_wordOf_194 : decode cX12_wordOf 194 = .ok (.bipush 10, 2) := by decide +kernel
theorem dX12_wordOf_196 : decode cX12_wordOf 196 = .ok (.ireturn, 1) := by decide +kernel
theorem dX12_wordOf_197 : decode cX12_wordOf 197 = .ok (.lload_n 0, 1) := by decide +kernel
theorem dX12_wordOf_198 : decode cX12_wordOf 198 = .ok (.iconst 0, 1) := by decide +kernel
theorem dX12_wordOf_199 : decode cX12_wordOf 199 = .ok (.iconst 4, 1) := by decide +kernel
theorem dX12_wordOf_200 : decode cX12_wordOf 200 = .ok (.bipush 21, 2) := by decide +kernel
theorem dX12_wordOf_202 : decode cX12_wordOf 202 = .ok (.bipush 7, 2) := by decide +kernel
theorem dX12_wordOf_204 : decode cX12_wordOf 204 = .ok (.invokestatic 95, 3) := by decide +kernel
theorem dX12_wordOf_207 : decode cX12_wordOf 207 = .ok (.lcmp, 1) := by decide +kernel
theorem dX12_wordOf_208 : decode cX12_wordOf 208 = .ok (.ifCond .ne 8, 3) := by decide +kernel
theorem dX12_wordOf_211 : decode cX12_wordOf 211 = .ok (.bipush 11, 2) := by decide +kernel
theorem dX12_wordOf_213 : decode cX12_wordOf 213 = .ok (.goto 5, 3) := by decide +kernel
theorem dX12_wordOf_216 : decode cX12_wordOf 216 = .ok (.bipush 99, 2) := by decide +kernel
theorem dX12_wordOf_218 : decode cX12_wordOf 218 = .ok (.ireturn, 1) := by decide +kernel
theorem dX12_advance_0 : decode cX12_advance 0 = .ok (.aload_n 0, 1) := by decide +kernel
theorem dX12_advance_1 : decode cX12_advance 1 = .ok (.aload_n 0, 1) := by decide +kernel
theorem dX12_advance_2 : decode cX12_advance 2 = .ok (.getfield 105, 3) := by decide +kernel
theorem dX12_advance_5 : decode cX12_advance 5 = .ok (.invokevirtual 108, 3) := by decide +kernel
theorem dX12_advance_8 : decode cX12_advance 8 = .ok (.bipush 10, 2) := by decide +kernel
theorem dX12_advance_10 : decode cX12_advance 10 = .ok (.if_icmp .eq 16, 3) := by decide +kernel
theorem dX12_advance_13 : decode cX12_advance 13 = .ok (.aload_n 0, 1) := by decide +kernel
theorem dX12_advance_14 : decode cX12_advance 14 = .ok (.aload_n 0, 1) := by decide +kernel
theorem dX12_advance_15 : decode cX12_advance 15 = .ok (.getfield 105, 3) := by decide +kernel
theorem dX12_advance_18 : decode cX12_advance 18 = .ok (.invokevirtual 108, 3) := by decide +kernel
theorem dX12_advance_21 : decode cX12_advance 21 = .ok (.bipush 32, 2) := by decide +kernel
theorem dX12_advance_23 : decode cX12_advance 23 = .ok (.if_icmp .ne 16, 3) := by decide +kernel
theorem dX12_advance_26 : decode cX12_advance 26 = .ok (.aload_n 0, 1) := by decide +kernel
theorem dX12_advance_27 : decode cX12_advance 27 = .ok (.dup, 1) := by decide +kernel
theorem dX12_advance_28 : decode cX12_advance 28 = .ok (.getfield 105, 3) := by decide +kernel
theorem dX12_advance_31 : decode cX12_advance 31 = .ok (.iconst 1, 1) := by decide +kernel
theorem dX12_advance_32 : decode cX12_advance 32 = .ok (.iadd, 1) := by decide +kernel
theorem dX12_advance_33 : decode cX12_advance 33 = .ok (.putfield 105, 3) := by decide +kernel
theorem dX12_advance_36 : decode cX12_advance 36 = .ok (.goto (-36), 3) := by decide +kernel
theorem dX12_advance_39 : decode cX12_advance 39 = .ok (.aload_n 0, 1) := by decide +kernel
theorem dX12_advance_40 : decode cX12_advance 40 = .ok (.aload_n 0, 1) := by decide +kernel
theorem dX12_advance_41 : decode cX12_advance 41 = .ok (.getfield 105, 3) := by decide +kernel
theorem dX12_advance_44 : decode cX12_advance 44 = .ok (.putfield 112, 3) := by decide +kernel
theorem dX12_advance_47 : decode cX12_advance 47 = .ok (.aload_n 0, 1) := by decide +kernel
theorem dX12_advance_48 : decode cX12_advance 48 = .ok (.aload_n 0, 1) := by decide +kernel
theorem dX12_advance_49 : decode cX12_advance 49 = .ok (.getfield 105, 3) := by decide +kernel
theorem dX12_advance_52 : decode cX12_advance 52 = .ok (.invokevirtual 108, 3) := by decide +kernel
theorem dX12_advance_55 : decode cX12_advance 55 = .ok (.istore_n 1, 1) := by decide +kernel
theorem dX12_advance_56 : decode cX12_advance 56 = .ok (.iload_n 1, 1) := by decide +kernel
theorem dX12_advance_57 : decode cX12_advance 57 = .ok (.ifCond .ge 11, 3) := by decide +kernel
theorem dX12_advance_60 : decode cX12_advance 60 = .ok (.aload_n 0, 1) := by decide +kernel
theorem dX12_advance_61 : decode cX12_advance 61 = .ok (.iconst 0, 1) := by decide +kernel
theorem dX12_advance_62 : decode cX12_advance 62 = .ok (.putfield 115, 3) := by decide +kernel
theorem dX12_advance_65 : decode cX12_advance 65 = .ok (.goto 246, 3) := by decide +kernel
theorem dX12_advance_68 : decode cX12_advance 68 = .ok (.iload_n 1, 1) := by decide +kernel
theorem dX12_advance_69 : decode cX12_advance 69 = .ok (.invokestatic 118, 3) := by decide +kernel
theorem dX12_advance_72 : decode cX12_advance 72 = .ok (.ifCond .eq 114, 3) := by decide +kernel
theorem dX12_advance_75 : decode cX12_advance 75 = .ok (.lconst 0, 1) := by decide +kernel
theorem dX12_advance_76 : decode cX12_advance 76 = .ok (.lstore_n 2, 1) := by decide +kernel
theorem dX12_advance_77 : decode cX12_advance 77 = .ok (.aload_n 0, 1) := by decide +kernel
theorem dX12_advance_78 : decode cX12_advance 78 = .ok (.aload_n 0, 1) := by decide +kernel
theorem dX12_advance_79 : decode cX12_advance 79 = .ok (.getfield 105, 3) := by decide +kernel
theorem dX12_advance_82 : decode cX12_advance 82 = .ok (.invokevirtual 108, 3) := by decide +kernel
theorem dX12_advance_85 : decode cX12_advance 85 = .ok (.invokestatic 118, 3) := by decide +kernel
theorem dX12_advance_88 : decode cX12_advance 88 = .ok (.ifCond .eq 50, 3) := by decide +kernel
theorem dX12_advance_91 : decode cX12_advance 91 = .ok (.aload_n 0, 1) := by decide +kernel
theorem dX12_advance_92 : decode cX12_advance 92 = .ok (.getfield 105, 3) := by decide +kernel
theorem dX12_advance_95 : decode cX12_advance 95 = .ok (.aload_n 0, 1) := by decide +kernel
theorem dX12_advance_96 : decode cX12_advance 96 = .ok (.getfield 112, 3) := by decide +kernel
theorem dX12_advance_99 : decode cX12_advance 99 = .ok (.isub, 1) := by decide +kernel
theorem dX12_advance_100 : decode cX12_advance 100 = .ok (.bipush 8, 2) := by decide +kernel
theorem dX12_advance_102 : decode cX12_advance 102 = .ok (.if_icmp .ge 23, 3) := by decide +kernel
theorem dX12_advance_105 : decode cX12_advance 105 = .ok (.ldc2_w 122, 3) := by decide +kernel
theorem dX12_advance_108 : decode cX12_advance 108 = .ok (.lload_n 2, 1) := by decide +kernel
theorem dX12_advance_109 : decode cX12_advance 109 = .ok (.lmul, 1) := by decide +kernel
theorem dX12_advance_110 : decode cX12_advance 110 = .ok (.aload_n 0, 1) := by decide +kernel
theorem dX12_advance_111 : decode cX12_advance 111 = .ok (.aload_n 0, 1) := by decide +kernel
theorem dX12_advance_112 : decode cX12_advance 112 = .ok (.getfield 105, 3) := by decide +kernel
theorem dX12_advance_115 : decode cX12_advance 115 = .ok (.invokevirtual 108, 3) := by decide +kernel
theorem dX12_advance_118 : decode cX12_advance 118 = .ok (.i2l, 1) := by decide +kernel
theorem dX12_advance_119 : decode cX12_advance 119 = .ok (.ladd, 1) := by decide +kernel
theorem dX12_advance_120 : decode cX12_advance 120 = .ok (.ldc2_w 124, 3) := by decide +kernel
theorem dX12_advance_123 : decode cX12_advance 123 = .ok (.lsub, 1) := by decide +kernel
theorem dX12_advance_124 : decode cX12_advance 124 = .ok (.lstore_n 2, 1) := by decide +kernel
theorem dX12_advance_125 : decode cX12_advance 125 = .ok (.aload_n 0, 1) := by decide +kernel
theorem dX12_advance_126 : decode cX12_advance 126 = .ok (.dup, 1) := by decide +kernel
theorem dX12_advance_127 : decode cX12_advance 127 = .ok (.getfield 105, 3) := by decide +kernel
theorem dX12_advance_130 : decode cX12_advance 130 = .ok (.iconst 1, 1) := by decide +kernel
theorem dX12_advance_131 : decode cX12_advance 131 = .ok (.iadd, 1) := by decide +kernel
theorem dX12_advance_132 : decode cX12_advance 132 = .ok (.putfield 105, 3) := by decide +kernel
theorem dX12_advance_135 : decode cX12_advance 135 = .ok (.goto (-58), 3) := by decide +kernel
theorem dX12_advance_138 : decode cX12_advance 138 = .ok (.aload_n 0, 1) := by decide +kernel
theorem dX12_advance_139 : decode cX12_advance 139 = .ok (.aload_n 0, 1) := by decide +kernel
theorem dX12_advance_140 : decode cX12_advance 140 = .ok (.getfield 105, 3) := by decide +kernel
theorem dX12_advance_143 : decode cX12_advance 143 = .ok (.aload_n 0, 1) := by decide +kernel
theorem dX12_advance_144 : decode cX12_advance 144 = .ok (.getfield 112, 3) := by decide +kernel
theorem dX12_advance_147 : decode cX12_advance 147 = .ok (.isub, 1) := by decide +kernel
theorem dX12_advance_148 : decode cX12_advance 148 = .ok (.bipush 8, 2) := by decide +kernel
theorem dX12_advance_150 : decode cX12_advance 150 = .ok (.if_icmp .le 8, 3) := by decide +kernel
theorem dX12_advance_153 : decode cX12_advance 153 = .ok (.bipush 99, 2) := by decide +kernel
theorem dX12_advance_155 : decode cX12_advance 155 = .ok (.goto 7, 3) := by decide +kernel
theorem dX12_advance_158 : decode cX12_advance 158 = .ok (.lload_n 2, 1) := by decide +kernel
theorem dX12_advance_159 : decode cX12_advance 159 = .ok (.invokestatic 126, 3) := by decide +kernel
theorem dX12_advance_162 : decode cX12_advance 162 = .ok (.putfield 130, 3) := by decide +kernel
theorem dX12_advance_165 : decode cX12_advance 165 = .ok (.aload_n 0, 1) := by decide +kernel
theorem dX12_advance_166 : decode cX12_advance 166 = .ok (.aload_n 0, 1) := by decide +kernel
theorem dX12_advance_167 : decode cX12_advance 167 = .ok (.getfield 130, 3) := by decide +kernel
theorem dX12_advance_170 : decode cX12_advance 170 = .ok (.bipush 99, 2) := by decide +kernel
theorem dX12_advance_172 : decode cX12_advance 172 = .ok (.if_icmp .ne 7, 3) := by decide +kernel
theorem dX12_advance_175 : decode cX12_advance 175 = .ok (.iconst 4, 1) := by decide +kernel
theorem dX12_advance_176 : decode cX12_advance 176 = .ok (.goto 4, 3) := by decide +kernel
theorem dX12_advance_179 : decode cX12_advance 179 = .ok (.iconst 3, 1) := by decide +kernel
theorem dX12_advance_180 : decode cX12_advance 180 = .ok (.putfield 115, 3) := by decide +kernel
theorem dX12_advance_183 : decode cX12_advance 183 = .ok (.goto 128, 3) := by decide +kernel
theorem dX12_advance_186 : decode cX12_advance 186 = .ok (.iload_n 1, 1) := by decide +kernel
theorem dX12_advance_187 : decode cX12_advance 187 = .ok (.invokestatic 133, 3) := by decide +kernel
theorem dX12_advance_190 : decode cX12_advance 190 = .ok (.ifCond .eq 96, 3) := by decide +kernel
theorem dX12_advance_193 : decode cX12_advance 193 = .ok (.aload_n 0, 1) := by decide +kernel
theorem dX12_advance_194 : decode cX12_advance 194 = .ok (.iconst 0, 1) := by decide +kernel
theorem dX12_advance_195 : decode cX12_advance 195 = .ok (.putfield 136, 3) := by decide +kernel
theorem dX12_advance_198 : decode cX12_advance 198 = .ok (.aload_n 0, 1) := by decide +kernel
theorem dX12_advance_199 : decode cX12_advance 199 = .ok (.aload_n 0, 1) := by decide +kernel
theorem dX12_advance_200 : decode cX12_advance 200 = .ok (.getfield 105, 3) := by decide +kernel
theorem dX12_advance_203 : decode cX12_advance 203 = .ok (.invokevirtual 108, 3) := by decide +kernel
theorem dX12_advance_206 : decode cX12_advance 206 = .ok (.invokestatic 133, 3) := by decide +kernel
theorem dX12_advance_209 : decode cX12_advance 209 = .ok (.ifCond .eq 52, 3) := by decide +kernel
theorem dX12_advance_212 : decode cX12_advance 212 = .ok (.aload_n 0, 1) := by decide +kernel
theorem dX12_advance_213 : decode cX12_advance 213 = .ok (.getfield 105, 3) := by decide +kernel
theorem dX12_advance_216 : decode cX12_advance 216 = .ok (.aload_n 0, 1) := by decide +kernel
theorem dX12_advance_217 : decode cX12_advance 217 = .ok (.getfield 112, 3) := by decide +kernel
theorem dX12_advance_220 : decode cX12_advance 220 = .ok (.isub, 1) := by decide +kernel
theorem dX12_advance_221 : decode cX12_advance 221 = .ok (.iconst 2, 1) := by decide +kernel
theorem dX12_advance_222 : decode cX12_advance 222 = .ok (.if_icmp .ge 26, 3) := by decide +kernel
theorem dX12_advance_225 : decode cX12_advance 225 = .ok (.aload_n 0, 1) := by decide +kernel
theorem dX12_advance_226 : decode cX12_advance 226 = .ok (.bipush 10, 2) := by decide +kernel
theorem dX12_advance_228 : decode cX12_advance 228 = .ok (.aload_n 0, 1) := by decide +kernel
theorem dX12_advance_229 : decode cX12_advance 229 = .ok (.getfield 136, 3) := by decide +kernel
theorem dX12_advance_232 : decode cX12_advance 232 = .ok (.imul, 1) := by decide +kernel
theorem dX12_advance_233 : decode cX12_advance 233 = .ok (.aload_n 0, 1) := by decide +kernel
theorem dX12_advance_234 : decode cX12_advance 234 = .ok (.aload_n 0, 1) := by decide +kernel
theorem dX12_advance_235 : decode cX12_advance 235 = .ok (.getfield 105, 3) := by decide +kernel
theorem dX12_advance_238 : decode cX12_advance 238 = .ok (.invokevirtual 108, 3) := by decide +kernel
theorem dX12_advance_241 : decode cX12_advance 241 = .ok (.iadd, 1) := by decide +kernel
theorem dX12_advance_242 : decode cX12_advance 242 = .ok (.bipush 48, 2) := by decide +kernel
theorem dX12_advance_244 : decode cX12_advance 244 = .ok (.isub, 1) := by decide +kernel
theorem dX12_advance_245 : decode cX12_advance 245 = .ok (.putfield 136, 3) := by decide +kernel
theorem dX12_advance_248 : decode cX12_advance 248 = .ok (.aload_n 0, 1) := by decide +kernel
theorem dX12_advance_249 : decode cX12_advance 249 = .ok (.dup, 1) := by decide +kernel
theorem dX12_advance_250 : decode cX12_advance 250 = .ok (.getfield 105, 3) := by decide +kernel
theorem dX12_advance_253 : decode cX12_advance 253 = .ok (.iconst 1, 1) := by decide +kernel
theorem dX12_advance_254 : decode cX12_advance 254 = .ok (.iadd, 1) := by decide +kernel
theorem dX12_advance_255 : decode cX12_advance 255 = .ok (.putfield 105, 3) := by decide +kernel
theorem dX12_advance_258 : decode cX12_advance 258 = .ok (.goto (-60), 3) := by decide +kernel
theorem dX12_advance_261 : decode cX12_advance 261 = .ok (.aload_n 0, 1) := by decide +kernel
theorem dX12_advance_262 : decode cX12_advance 262 = .ok (.aload_n 0, 1) := by decide +kernel
theorem dX12_advance_263 : decode cX12_advance 263 = .ok (.getfield 105, 3) := by decide +kernel
theorem dX12_advance_266 : decode cX12_advance 266 = .ok (.aload_n 0, 1) := by decide +kernel
theorem dX12_advance_267 : decode cX12_advance 267 = .ok (.getfield 112, 3) := by decide +kernel
theorem dX12_advance_270 : decode cX12_advance 270 = .ok (.isub, 1) := by decide +kernel
theorem dX12_advance_271 : decode cX12_advance 271 = .ok (.iconst 2, 1) := by decide +kernel
theorem dX12_advance_272 : decode cX12_advance 272 = .ok (.if_icmp .le 7, 3) := by decide +kernel
theorem dX12_advance_275 : decode cX12_advance 275 = .ok (.iconst 4, 1) := by decide +kernel
theorem dX12_advance_276 : decode cX12_advance 276 = .ok (.goto 4, 3) := by decide +kernel
theorem dX12_advance_279 : decode cX12_advance 279 = .ok (.iconst 1, 1) := by decide +kernel
theorem dX12_advance_280 : decode cX12_advance 280 = .ok (.putfield 115, 3) := by decide +kernel
theorem dX12_advance_283 : decode cX12_advance 283 = .ok (.goto 28, 3) := by decide +kernel
theorem dX12_advance_286 : decode cX12_advance 286 = .ok (.aload_n 0, 1) := by decide +kernel
theorem dX12_advance_287 : decode cX12_advance 287 = .ok (.dup, 1) := by decide +kernel
theorem dX12_advance_288 : decode cX12_advance 288 = .ok (.getfield 105, 3) := by decide +kernel
theorem dX12_advance_291 : decode cX12_advance 291 = .ok (.iconst 1, 1) := by decide +kernel
theorem dX12_advance_292 : decode cX12_advance 292 = .ok (.iadd, 1) := by decide +kernel
theorem dX12_advance_293 : decode cX12_advance 293 = .ok (.putfield 105, 3) := by decide +kernel
theorem dX12_advance_296 : decode cX12_advance 296 = .ok (.aload_n 0, 1) := by decide +kernel
theorem dX12_advance_297 : decode cX12_advance 297 = .ok (.iload_n 1, 1) := by decide +kernel
theorem dX12_advance_298 : decode cX12_advance 298 = .ok (.bipush 59, 2) := by decide +kernel
theorem dX12_advance_300 : decode cX12_advance 300 = .ok (.if_icmp .ne 7, 3) := by decide +kernel
theorem dX12_advance_303 : decode cX12_advance 303 = .ok (.iconst 2, 1) := by decide +kernel
theorem dX12_advance_304 : decode cX12_advance 304 = .ok (.goto 4, 3) := by decide +kernel
theorem dX12_advance_307 : decode cX12_advance 307 = .ok (.iconst 4, 1) := by decide +kernel
theorem dX12_advance_308 : decode cX12_advance 308 = .ok (.putfield 115, 3) := by decide +kernel
theorem dX12_advance_311 : decode cX12_advance 311 = .ok (.return_, 1) := by decide +kernel
theorem dX12_ends_0 : decode cX12_ends 0 = .ok (.aload_n 0, 1) := by decide +kernel
theorem dX12_ends_1 : decode cX12_ends 1 = .ok (.getfield 139, 3) := by decide +kernel
theorem dX12_ends_4 : decode cX12_ends 4 = .ok (.ifCond .eq 4, 3) := by decide +kernel
theorem dX12_ends_7 : decode cX12_ends 7 = .ok (.return_, 1) := by decide +kernel
theorem dX12_ends_8 : decode cX12_ends 8 = .ok (.aload_n 0, 1) := by decide +kernel
theorem dX12_ends_9 : decode cX12_ends 9 = .ok (.iconst 1, 1) := by decide +kernel
theorem dX12_ends_10 : decode cX12_ends 10 = .ok (.putfield 139, 3) := by decide +kernel
theorem dX12_ends_13 : decode cX12_ends 13 = .ok (.aload_n 0, 1) := by decide +kernel
theorem dX12_ends_14 : decode cX12_ends 14 = .ok (.getfield 7, 3) := by decide +kernel
theorem dX12_ends_17 : decode cX12_ends 17 = .ok (.iconst 5, 1) := by decide +kernel
theorem dX12_ends_18 : decode cX12_ends 18 = .ok (.iconst 1, 1) := by decide +kernel
theorem dX12_ends_19 : decode cX12_ends 19 = .ok (.iastore, 1) := by decide +kernel
theorem dX12_ends_20 : decode cX12_ends 20 = .ok (.aload_n 0, 1) := by decide +kernel
theorem dX12_ends_21 : decode cX12_ends 21 = .ok (.getfield 7, 3) := by decide +kernel
theorem dX12_ends_24 : decode cX12_ends 24 = .ok (.bipush 6, 2) := by decide +kernel
theorem dX12_ends_26 : decode cX12_ends 26 = .ok (.aload_n 0, 1) := by decide +kernel
theorem dX12_ends_27 : decode cX12_ends 27 = .ok (.getfield 112, 3) := by decide +kernel
theorem dX12_ends_30 : decode cX12_ends 30 = .ok (.iastore, 1) := by decide +kernel
theorem dX12_ends_31 : decode cX12_ends 31 = .ok (.return_, 1) := by decide +kernel
theorem dX12_also_0 : decode cX12_also 0 = .ok (.aload_n 0, 1) := by decide +kernel
theorem dX12_also_1 : decode cX12_also 1 = .ok (.getfield 139, 3) := by decide +kernel
theorem dX12_also_4 : decode cX12_also 4 = .ok (.ifCond .ne 44, 3) := by decide +kernel
theorem dX12_also_7 : decode cX12_also 7 = .ok (.aload_n 0, 1) := by decide +kernel
theorem dX12_also_8 : decode cX12_also 8 = .ok (.getfield 7, 3) := by decide +kernel
theorem dX12_also_11 : decode cX12_also 11 = .ok (.iconst 5, 1) := by decide +kernel
theorem dX12_also_12 : decode cX12_also 12 = .ok (.iaload, 1) := by decide +kernel
theorem dX12_also_13 : decode cX12_also 13 = .ok (.ifCond .eq 36, 3) := by decide +kernel
theorem dX12_also_16 : decode cX12_also 16 = .ok (.aload_n 0, 1) := by decide +kernel
theorem dX12_also_17 : decode cX12_also 17 = .ok (.getfield 7, 3) := by decide +kernel
theorem dX12_also_20 : decode cX12_also 20 = .ok (.bipush 6, 2) := by decide +kernel
theorem dX12_also_22 : decode cX12_also 22 = .ok (.iaload, 1) := by decide +kernel
theorem dX12_also_23 : decode cX12_also 23 = .ok (.iload_n 2, 1) := by decide +kernel
theorem dX12_also_24 : decode cX12_also 24 = .ok (.if_icmp .lt 24, 3) := by decide +kernel
theorem dX12_also_27 : decode cX12_also 27 = .ok (.aload_n 0, 1) := by decide +kernel
theorem dX12_also_28 : decode cX12_also 28 = .ok (.getfield 7, 3) := by decide +kernel
theorem dX12_also_31 : decode cX12_also 31 = .ok (.bipush 6, 2) := by decide +kernel
theorem dX12_also_33 : decode cX12_also 33 = .ok (.iaload, 1) := by decide +kernel
theorem dX12_also_34 : decode cX12_also 34 = .ok (.iload_n 2, 1) := by decide +kernel
theorem dX12_also_35 : decode cX12_also 35 = .ok (.if_icmp .ne 14, 3) := by decide +kernel
theorem dX12_also_38 : decode cX12_also 38 = .ok (.aload_n 0, 1) := by decide +kernel
theorem dX12_also_39 : decode cX12_also 39 = .ok (.getfield 7, 3) := by decide +kernel
theorem dX12_also_42 : decode cX12_also 42 = .ok (.iconst 5, 1) := by decide +kernel
theorem dX12_also_43 : decode cX12_also 43 = .ok (.iaload, 1) := by decide +kernel
theorem dX12_also_44 : decode cX12_also 44 = .ok (.iload_n 1, 1) := by decide +kernel
theorem dX12_also_45 : decode cX12_also 45 = .ok (.if_icmp .gt 4, 3) := by decide +kernel
theorem dX12_also_48 : decode cX12_also 48 = .ok (.return_, 1) := by decide +kernel
theorem dX12_also_49 : decode cX12_also 49 = .ok (.aload_n 0, 1) := by decide +kernel
theorem dX12_also_50 : decode cX12_also 50 = .ok (.getfield 7, 3) := by decide +kernel
theorem dX12_also_53 : decode cX12_also 53 = .ok (.iconst 5, 1) := by decide +kernel
theorem dX12_also_54 : decode cX12_also 54 = .ok (.iload_n 1, 1) := by decide +kernel
theorem dX12_also_55 : decode cX12_also 55 = .ok (.iastore, 1) := by decide +kernel
theorem dX12_also_56 : decode cX12_also 56 = .ok (.aload_n 0, 1) := by decide +kernel
theorem dX12_also_57 : decode cX12_also 57 = .ok (.getfield 7, 3) := by decide +kernel
theorem dX12_also_60 : decode cX12_also 60 = .ok (.bipush 6, 2) := by decide +kernel
theorem dX12_also_62 : decode cX12_also 62 = .ok (.iload_n 2, 1) := by decide +kernel
theorem dX12_also_63 : decode cX12_also 63 = .ok (.iastore, 1) := by decide +kernel
theorem dX12_also_64 : decode cX12_also 64 = .ok (.return_, 1) := by decide +kernel
theorem dX12_numbered_0 : decode cX12_numbered 0 = .ok (.aload_n 0, 1) := by decide +kernel
theorem dX12_numbered_1 : decode cX12_numbered 1 = .ok (.getfield 139, 3) := by decide +kernel
theorem dX12_numbered_4 : decode cX12_numbered 4 = .ok (.ifCond .ne 11, 3) := by decide +kernel
theorem dX12_numbered_7 : decode cX12_numbered 7 = .ok (.aload_n 0, 1) := by decide +kernel
theorem dX12_numbered_8 : decode cX12_numbered 8 = .ok (.getfield 115, 3) := by decide +kernel
theorem dX12_numbered_11 : decode cX12_numbered 11 = .ok (.iconst 1, 1) := by decide +kernel
theorem dX12_numbered_12 : decode cX12_numbered 12 = .ok (.if_icmp .eq 9, 3) := by decide +kernel
theorem dX12_numbered_15 : decode cX12_numbered 15 = .ok (.aload_n 0, 1) := by decide +kernel
theorem dX12_numbered_16 : decode cX12_numbered 16 = .ok (.invokevirtual 143, 3) := by decide +kernel
theorem dX12_numbered_19 : decode cX12_numbered 19 = .ok (.iload_n 1, 1) := by decide +kernel
theorem dX12_numbered_20 : decode cX12_numbered 20 = .ok (.ireturn, 1) := by decide +kernel
theorem dX12_numbered_21 : decode cX12_numbered 21 = .ok (.aload_n 0, 1) := by decide +kernel
theorem dX12_numbered_22 : decode cX12_numbered 22 = .ok (.getfield 136, 3) := by decide +kernel
theorem dX12_numbered_25 : decode cX12_numbered 25 = .ok (.istore_n 3, 1) := by decide +kernel
theorem dX12_numbered_26 : decode cX12_numbered 26 = .ok (.iload_n 3, 1) := by decide +kernel
theorem dX12_numbered_27 : decode cX12_numbered 27 = .ok (.iload_n 1, 1) := by decide +kernel
theorem dX12_numbered_28 : decode cX12_numbered 28 = .ok (.iload_n 2, 1) := by decide +kernel
theorem dX12_numbered_29 : decode cX12_numbered 29 = .ok (.invokestatic 146, 3) := by decide +kernel
theorem dX12_numbered_32 : decode cX12_numbered 32 = .ok (.ifCond .ne 12, 3) := by decide +kernel
theorem dX12_numbered_35 : decode cX12_numbered 35 = .ok (.aload_n 0, 1) := by decide +kernel
theorem dX12_numbered_36 : decode cX12_numbered 36 = .ok (.iconst 2, 1) := by decide +kernel
theorem dX12_numbered_37 : decode cX12_numbered 37 = .ok (.aload_n 0, 1) := by decide +kernel
theorem dX12_numbered_38 : decode cX12_numbered 38 = .ok (.getfield 112, 3) := by decide +kernel
theorem dX12_numbered_41 : decode cX12_numbered 41 = .ok (.invokevirtual 150, 3) := by decide +kernel
theorem dX12_numbered_44 : decode cX12_numbered 44 = .ok (.aload_n 0, 1) := by decide +kernel
theorem dX12_numbered_45 : decode cX12_numbered 45 = .ok (.invokevirtual 154, 3) := by decide +kernel
theorem dX12_numbered_48 : decode cX12_numbered 48 = .ok (.iload_n 3, 1) := by decide +kernel
theorem dX12_numbered_49 : decode cX12_numbered 49 = .ok (.iload_n 1, 1) := by decide +kernel
theorem dX12_numbered_50 : decode cX12_numbered 50 = .ok (.iload_n 2, 1) := by decide +kernel
theorem dX12_numbered_51 : decode cX12_numbered 51 = .ok (.invokestatic 146, 3) := by decide +kernel
theorem dX12_numbered_54 : decode cX12_numbered 54 = .ok (.ifCond .eq 7, 3) := by decide +kernel
theorem dX12_numbered_57 : decode cX12_numbered 57 = .ok (.iload_n 3, 1) := by decide +kernel
theorem dX12_numbered_58 : decode cX12_numbered 58 = .ok (.goto 4, 3) := by decide +kernel
theorem dX12_numbered_61 : decode cX12_numbered 61 = .ok (.iload_n 1, 1) := by decide +kernel
theorem dX12_numbered_62 : decode cX12_numbered 62 = .ok (.ireturn, 1) := by decide +kernel
theorem dX12_wordIn_0 : decode cX12_wordIn 0 = .ok (.aload_n 0, 1) := by decide +kernel
theorem dX12_wordIn_1 : decode cX12_wordIn 1 = .ok (.getfield 139, 3) := by decide +kernel
theorem dX12_wordIn_4 : decode cX12_wordIn 4 = .ok (.ifCond .ne 23, 3) := by decide +kernel
theorem dX12_wordIn_7 : decode cX12_wordIn 7 = .ok (.aload_n 0, 1) := by decide +kernel
theorem dX12_wordIn_8 : decode cX12_wordIn 8 = .ok (.getfield 115, 3) := by decide +kernel
theorem dX12_wordIn_11 : decode cX12_wordIn 11 = .ok (.iconst 3, 1) := by decide +kernel
theorem dX12_wordIn_12 : decode cX12_wordIn 12 = .ok (.if_icmp .ne 15, 3) := by decide +kernel
theorem dX12_wordIn_15 : decode cX12_wordIn 15 = .ok (.aload_n 0, 1) := by decide +kernel
theorem dX12_wordIn_16 : decode cX12_wordIn 16 = .ok (.getfield 130, 3) := by decide +kernel
theorem dX12_wordIn_19 : decode cX12_wordIn 19 = .ok (.iload_n 1, 1) := by decide +kernel
theorem dX12_wordIn_20 : decode cX12_wordIn 20 = .ok (.iload_n 2, 1) := by decide +kernel
theorem dX12_wordIn_21 : decode cX12_wordIn 21 = .ok (.invokestatic 146, 3) := by decide +kernel
theorem dX12_wordIn_24 : decode cX12_wordIn 24 = .ok (.ifCond .ne 9, 3) := by decide +kernel
theorem dX12_wordIn_27 : decode cX12_wordIn 27 = .ok (.aload_n 0, 1) := by decide +kernel
theorem dX12_wordIn_28 : decode cX12_wordIn 28 = .ok (.invokevirtual 143, 3) := by decide +kernel
theorem dX12_wordIn_31 : decode cX12_wordIn 31 = .ok (.iconst 0, 1) := by decide +kernel
theorem dX12_wordIn_32 : decode cX12_wordIn 32 = .ok (.ireturn, 1) := by decide +kernel
theorem dX12_wordIn_33 : decode cX12_wordIn 33 = .ok (.aload_n 0, 1) := by decide +kernel
theorem dX12_wordIn_34 : decode cX12_wordIn 34 = .ok (.getfield 130, 3) := by decide +kernel
theorem dX12_wordIn_37 : decode cX12_wordIn 37 = .ok (.istore_n 3, 1) := by decide +kernel
theorem dX12_wordIn_38 : decode cX12_wordIn 38 = .ok (.aload_n 0, 1) := by decide +kernel
theorem dX12_wordIn_39 : decode cX12_wordIn 39 = .ok (.invokevirtual 154, 3) := by decide +kernel
theorem dX12_wordIn_42 : decode cX12_wordIn 42 = .ok (.iload_n 3, 1) := by decide +kernel
theorem dX12_wordIn_43 : decode cX12_wordIn 43 = .ok (.ireturn, 1) := by decide +kernel
theorem dX12_endsLine_0 : decode cX12_endsLine 0 = .ok (.aload_n 0, 1) := by decide +kernel
theorem dX12_endsLine_1 : decode cX12_endsLine 1 = .ok (.getfield 139, 3) := by decide +kernel
theorem dX12_endsLine_4 : decode cX12_endsLine 4 = .ok (.ifCond .ne 18, 3) := by decide +kernel
theorem dX12_endsLine_7 : decode cX12_endsLine 7 = .ok (.aload_n 0, 1) := by decide +kernel
theorem dX12_endsLine_8 : decode cX12_endsLine 8 = .ok (.getfield 115, 3) := by decide +kernel
theorem dX12_endsLine_11 : decode cX12_endsLine 11 = .ok (.iconst 2, 1) := by decide +kernel
theorem dX12_endsLine_12 : decode cX12_endsLine 12 = .ok (.if_icmp .ne 10, 3) := by decide +kernel
theorem dX12_endsLine_15 : decode cX12_endsLine 15 = .ok (.aload_n 0, 1) := by decide +kernel
theorem dX12_endsLine_16 : decode cX12_endsLine 16 = .ok (.invokevirtual 154, 3) := by decide +kernel
theorem dX12_endsLine_19 : decode cX12_endsLine 19 = .ok (.goto 7, 3) := by decide +kernel
theorem dX12_endsLine_22 : decode cX12_endsLine 22 = .ok (.aload_n 0, 1) := by decide +kernel
theorem dX12_endsLine_23 : decode cX12_endsLine 23 = .ok (.invokevirtual 143, 3) := by decide +kernel
theorem dX12_endsLine_26 : decode cX12_endsLine 26 = .ok (.return_, 1) := by decide +kernel
theorem dX12_below0_0 : decode cX12_below0 0 = .ok (.aload_n 0, 1) := by decide +kernel
theorem dX12_below0_1 : decode cX12_below0 1 = .ok (.getfield 112, 3) := by decide +kernel
theorem dX12_below0_4 : decode cX12_below0 4 = .ok (.istore_n 3, 1) := by decide +kernel
theorem dX12_below0_5 : decode cX12_below0 5 = .ok (.aload_n 0, 1) := by decide +kernel
theorem dX12_below0_6 : decode cX12_below0 6 = .ok (.getfield 139, 3) := by decide +kernel
theorem dX12_below0_9 : decode cX12_below0 9 = .ok (.ifCond .ne 23, 3) := by decide +kernel
theorem dX12_below0_12 : decode cX12_below0 12 = .ok (.aload_n 0, 1) := by decide +kernel
theorem dX12_below0_13 : decode cX12_below0 13 = .ok (.getfield 115, 3) := by decide +kernel
theorem dX12_below0_16 : decode cX12_below0 16 = .ok (.iconst 1, 1) := by decide +kernel
theorem dX12_below0_17 : decode cX12_below0 17 = .ok (.if_icmp .ne 15, 3) := by decide +kernel
theorem dX12_below0_20 : decode cX12_below0 20 = .ok (.aload_n 0, 1) := by decide +kernel
theorem dX12_below0_21 : decode cX12_below0 21 = .ok (.getfield 136, 3) := by decide +kernel
theorem dX12_below0_24 : decode cX12_below0 24 = .ok (.iload_n 1, 1) := by decide +kernel
theorem dX12_below0_25 : decode cX12_below0 25 = .ok (.if_icmp .lt 7, 3) := by decide +kernel
theorem dX12_below0_28 : decode cX12_below0 28 = .ok (.iconst 1, 1) := by decide +kernel
theorem dX12_below0_29 : decode cX12_below0 29 = .ok (.goto 4, 3) := by decide +kernel
theorem dX12_below0_32 : decode cX12_below0 32 = .ok (.iconst 0, 1) := by decide +kernel
theorem dX12_below0_33 : decode cX12_below0 33 = .ok (.istore 4, 2) := by decide +kernel
theorem dX12_below0_35 : decode cX12_below0 35 = .ok (.aload_n 0, 1) := by decide +kernel
theorem dX12_below0_36 : decode cX12_below0 36 = .ok (.iconst 0, 1) := by decide +kernel
theorem dX12_below0_37 : decode cX12_below0 37 = .ok (.iload_n 2, 1) := by decide +kernel
theorem dX12_below0_38 : decode cX12_below0 38 = .ok (.invokevirtual 157, 3) := by decide +kernel
theorem dX12_below0_41 : decode cX12_below0 41 = .ok (.istore 5, 2) := by decide +kernel
theorem dX12_below0_43 : decode cX12_below0 43 = .ok (.iload 4, 2) := by decide +kernel
theorem dX12_below0_45 : decode cX12_below0 45 = .ok (.ifCond .eq 9, 3) := by decide +kernel
theorem dX12_below0_48 : decode cX12_below0 48 = .ok (.aload_n 0, 1) := by decide +kernel
theorem dX12_below0_49 : decode cX12_below0 49 = .ok (.iconst 2, 1) := by decide +kernel
theorem dX12_below0_50 : decode cX12_below0 50 = .ok (.iload_n 3, 1) := by decide +kernel
theorem dX12_below0_51 : decode cX12_below0 51 = .ok (.invokevirtual 150, 3) := by decide +kernel
theorem dX12_below0_54 : decode cX12_below0 54 = .ok (.iload 5, 2) := by decide +kernel
theorem dX12_below0_56 : decode cX12_below0 56 = .ok (.ireturn, 1) := by decide +kernel
theorem dX12_folkTold_0 : decode cX12_folkTold 0 = .ok (.aload_n 0, 1) := by decide +kernel
theorem dX12_folkTold_1 : decode cX12_folkTold 1 = .ok (.getfield 17, 3) := by decide +kernel
theorem dX12_folkTold_4 : decode cX12_folkTold 4 = .ok (.iconst 0, 1) := by decide +kernel
theorem dX12_folkTold_5 : decode cX12_folkTold 5 = .ok (.iaload, 1) := by decide +kernel
theorem dX12_folkTold_6 : decode cX12_folkTold 6 = .ok (.bipush 10, 2) := by decide +kernel
theorem dX12_folkTold_8 : decode cX12_folkTold 8 = .ok (.if_icmp .lt 9, 3) := by decide +kernel
theorem dX12_folkTold_11 : decode cX12_folkTold 11 = .ok (.aload_n 0, 1) := by decide +kernel
theorem dX12_folkTold_12 : decode cX12_folkTold 12 = .ok (.iconst 3, 1) := by decide +kernel
theorem dX12_folkTold_13 : decode cX12_folkTold 13 = .ok (.iload_n 1, 1) := by decide +kernel
theorem dX12_folkTold_14 : decode cX12_folkTold 14 = .ok (.invokevirtual 150, 3) := by decide +kernel
theorem dX12_folkTold_17 : decode cX12_folkTold 17 = .ok (.aload_n 0, 1) := by decide +kernel
theorem dX12_folkTold_18 : decode cX12_folkTold 18 = .ok (.iconst 0, 1) := by decide +kernel
theorem dX12_folkTold_19 : decode cX12_folkTold 19 = .ok (.bipush 99, 2) := by decide +kernel
theorem dX12_folkTold_21 : decode cX12_folkTold 21 = .ok (.invokevirtual 157, 3) := by decide +kernel
theorem dX12_folkTold_24 : decode cX12_folkTold 24 = .ok (.istore_n 2, 1) := by decide +kernel
theorem dX12_folkTold_25 : decode cX12_folkTold 25 = .ok (.aload_n 0, 1) := by decide +kernel
theorem dX12_folkTold_26 : decode cX12_folkTold 26 = .ok (.iconst 0, 1) := by decide +kernel
theorem dX12_folkTold_27 : decode cX12_folkTold 27 = .ok (.bipush 9, 2) := by decide +kernel
theorem dX12_folkTold_29 : decode cX12_folkTold 29 = .ok (.invokevirtual 157, 3) := by decide +kernel
theorem dX12_folkTold_32 : decode cX12_folkTold 32 = .ok (.istore_n 3, 1) := by decide +kernel
theorem dX12_folkTold_33 : decode cX12_folkTold 33 = .ok (.aload_n 0, 1) := by decide +kernel
theorem dX12_folkTold_34 : decode cX12_folkTold 34 = .ok (.getfield 17, 3) := by decide +kernel
theorem dX12_folkTold_37 : decode cX12_folkTold 37 = .ok (.iconst 0, 1) := by decide +kernel
theorem dX12_folkTold_38 : decode cX12_folkTold 38 = .ok (.iaload, 1) := by decide +kernel
theorem dX12_folkTold_39 : decode cX12_folkTold 39 = .ok (.bipush 10, 2) := by decide +kernel
theorem dX12_folkTold_41 : decode cX12_folkTold 41 = .ok (.if_icmp .lt 4, 3) := by decide +kernel
theorem dX12_folkTold_44 : decode cX12_folkTold 44 = .ok (.return_, 1) := by decide +kernel
theorem dX12_folkTold_45 : decode cX12_folkTold 45 = .ok (.aload_n 0, 1) := by decide +kernel
theorem dX12_folkTold_46 : decode cX12_folkTold 46 = .ok (.getfield 17, 3) := by decide +kernel
theorem dX12_folkTold_49 : decode cX12_folkTold 49 = .ok (.iconst 3, 1) := by decide +kernel
theorem dX12_folkTold_50 : decode cX12_folkTold 50 = .ok (.iconst 4, 1) := by decide +kernel
theorem dX12_folkTold_51 : decode cX12_folkTold 51 = .ok (.aload_n 0, 1) := by decide +kernel
theorem dX12_folkTold_52 : decode cX12_folkTold 52 = .ok (.getfield 17, 3) := by decide +kernel
theorem dX12_folkTold_55 : decode cX12_folkTold 55 = .ok (.iconst 0, 1) := by decide +kernel
theorem dX12_folkTold_56 : decode cX12_folkTold 56 = .ok (.iaload, 1) := by decide +kernel
theorem dX12_folkTold_57 : decode cX12_folkTold 57 = .ok (.imul, 1) := by decide +kernel
theorem dX12_folkTold_58 : decode cX12_folkTold 58 = .ok (.iadd, 1) := by decide +kernel
theorem dX12_folkTold_59 : decode cX12_folkTold 59 = .ok (.iload_n 2, 1) := by decide +kernel
