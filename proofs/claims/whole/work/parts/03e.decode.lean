theorem dX12_cousinsOf_64 : decode cX12_cousinsOf 64 = .ok (.goto (-60), 3) := by decide +kernel
theorem dX12_cousinsOf_67 : decode cX12_cousinsOf 67 = .ok (.iload_n 1, 1) := by decide +kernel
theorem dX12_cousinsOf_68 : decode cX12_cousinsOf 68 = .ok (.ireturn, 1) := by decide +kernel
theorem dX12_weighsOn_0 : decode cX12_weighsOn 0 = .ok (.iconst 0, 1) := by decide +kernel
theorem dX12_weighsOn_1 : decode cX12_weighsOn 1 = .ok (.istore_n 2, 1) := by decide +kernel
theorem dX12_weighsOn_2 : decode cX12_weighsOn 2 = .ok (.iconst 0, 1) := by decide +kernel
theorem dX12_weighsOn_3 : decode cX12_weighsOn 3 = .ok (.istore_n 3, 1) := by decide +kernel
theorem dX12_weighsOn_4 : decode cX12_weighsOn 4 = .ok (.iload_n 3, 1) := by decide +kernel
theorem dX12_weighsOn_5 : decode cX12_weighsOn 5 = .ok (.aload_n 0, 1) := by decide +kernel
theorem dX12_weighsOn_6 : decode cX12_weighsOn 6 = .ok (.getfield 211, 3) := by decide +kernel
theorem dX12_weighsOn_9 : decode cX12_weighsOn 9 = .ok (.if_icmp .ge 37, 3) := by decide +kernel
theorem dX12_weighsOn_12 : decode cX12_weighsOn 12 = .ok (.iload_n 2, 1) := by decide +kernel
theorem dX12_weighsOn_13 : decode cX12_weighsOn 13 = .ok (.aload_n 0, 1) := by decide +kernel
theorem dX12_weighsOn_14 : decode cX12_weighsOn 14 = .ok (.iload_n 3, 1) := by decide +kernel
theorem dX12_weighsOn_15 : decode cX12_weighsOn 15 = .ok (.invokevirtual 241, 3) := by decide +kernel
theorem dX12_weighsOn_18 : decode cX12_weighsOn 18 = .ok (.ifCond .eq 19, 3) := by decide +kernel
theorem dX12_weighsOn_21 : decode cX12_weighsOn 21 = .ok (.aload_n 0, 1) := by decide +kernel
theorem dX12_weighsOn_22 : decode cX12_weighsOn 22 = .ok (.iload_n 3, 1) := by decide +kernel
theorem dX12_weighsOn_23 : decode cX12_weighsOn 23 = .ok (.invokevirtual 244, 3) := by decide +kernel
theorem dX12_weighsOn_26 : decode cX12_weighsOn 26 = .ok (.iload_n 1, 1) := by decide +kernel
theorem dX12_weighsOn_27 : decode cX12_weighsOn 27 = .ok (.invokestatic 235, 3) := by decide +kernel
theorem dX12_weighsOn_30 : decode cX12_weighsOn 30 = .ok (.ifCond .eq 7, 3) := by decide +kernel
theorem dX12_weighsOn_33 : decode cX12_weighsOn 33 = .ok (.iconst 1, 1) := by decide +kernel
theorem dX12_weighsOn_34 : decode cX12_weighsOn 34 = .ok (.goto 4, 3) := by decide +kernel
theorem dX12_weighsOn_37 : decode cX12_weighsOn 37 = .ok (.iconst 0, 1) := by decide +kernel
theorem dX12_weighsOn_38 : decode cX12_weighsOn 38 = .ok (.iadd, 1) := by decide +kernel
theorem dX12_weighsOn_39 : decode cX12_weighsOn 39 = .ok (.istore_n 2, 1) := by decide +kernel
theorem dX12_weighsOn_40 : decode cX12_weighsOn 40 = .ok (.iinc 3 1, 3) := by decide +kernel
theorem dX12_weighsOn_43 : decode cX12_weighsOn 43 = .ok (.goto (-39), 3) := by decide +kernel
theorem dX12_weighsOn_46 : decode cX12_weighsOn 46 = .ok (.iload_n 2, 1) := by decide +kernel
theorem dX12_weighsOn_47 : decode cX12_weighsOn 47 = .ok (.ireturn, 1) := by decide +kernel
theorem dX12_burdenOf_0 : decode cX12_burdenOf 0 = .ok (.iconst (-1), 1) := by decide +kernel
theorem dX12_burdenOf_1 : decode cX12_burdenOf 1 = .ok (.istore_n 1, 1) := by decide +kernel
theorem dX12_burdenOf_2 : decode cX12_burdenOf 2 = .ok (.iconst 0, 1) := by decide +kernel
theorem dX12_burdenOf_3 : decode cX12_burdenOf 3 = .ok (.istore_n 2, 1) := by decide +kernel
theorem dX12_burdenOf_4 : decode cX12_burdenOf 4 = .ok (.iconst 0, 1) := by decide +kernel
theorem dX12_burdenOf_5 : decode cX12_burdenOf 5 = .ok (.istore_n 3, 1) := by decide +kernel
theorem dX12_burdenOf_6 : decode cX12_burdenOf 6 = .ok (.iload_n 3, 1) := by decide +kernel
theorem dX12_burdenOf_7 : decode cX12_burdenOf 7 = .ok (.aload_n 0, 1) := by decide +kernel
theorem dX12_burdenOf_8 : decode cX12_burdenOf 8 = .ok (.getfield 211, 3) := by decide +kernel
theorem dX12_burdenOf_11 : decode cX12_burdenOf 11 = .ok (.if_icmp .ge 29, 3) := by decide +kernel
theorem dX12_burdenOf_14 : decode cX12_burdenOf 14 = .ok (.aload_n 0, 1) := by decide +kernel
theorem dX12_burdenOf_15 : decode cX12_burdenOf 15 = .ok (.iload_n 3, 1) := by decide +kernel
theorem dX12_burdenOf_16 : decode cX12_burdenOf 16 = .ok (.invokevirtual 346, 3) := by decide +kernel
theorem dX12_burdenOf_19 : decode cX12_burdenOf 19 = .ok (.iload_n 2, 1) := by decide +kernel
theorem dX12_burdenOf_20 : decode cX12_burdenOf 20 = .ok (.if_icmp .gt 6, 3) := by decide +kernel
theorem dX12_burdenOf_23 : decode cX12_burdenOf 23 = .ok (.goto 11, 3) := by decide +kernel
theorem dX12_burdenOf_26 : decode cX12_burdenOf 26 = .ok (.iload_n 3, 1) := by decide +kernel
theorem dX12_burdenOf_27 : decode cX12_burdenOf 27 = .ok (.istore_n 1, 1) := by decide +kernel
theorem dX12_burdenOf_28 : decode cX12_burdenOf 28 = .ok (.aload_n 0, 1) := by decide +kernel
theorem dX12_burdenOf_29 : decode cX12_burdenOf 29 = .ok (.iload_n 3, 1) := by decide +kernel
theorem dX12_burdenOf_30 : decode cX12_burdenOf 30 = .ok (.invokevirtual 346, 3) := by decide +kernel
theorem dX12_burdenOf_33 : decode cX12_burdenOf 33 = .ok (.istore_n 2, 1) := by decide +kernel
theorem dX12_burdenOf_34 : decode cX12_burdenOf 34 = .ok (.iinc 3 1, 3) := by decide +kernel
theorem dX12_burdenOf_37 : decode cX12_burdenOf 37 = .ok (.goto (-31), 3) := by decide +kernel
theorem dX12_burdenOf_40 : decode cX12_burdenOf 40 = .ok (.iload_n 1, 1) := by decide +kernel
theorem dX12_burdenOf_41 : decode cX12_burdenOf 41 = .ok (.ireturn, 1) := by decide +kernel
theorem dX12_watched_0 : decode cX12_watched 0 = .ok (.iconst 0, 1) := by decide +kernel
theorem dX12_watched_1 : decode cX12_watched 1 = .ok (.istore_n 2, 1) := by decide +kernel
theorem dX12_watched_2 : decode cX12_watched 2 = .ok (.iconst 0, 1) := by decide +kernel
theorem dX12_watched_3 : decode cX12_watched 3 = .ok (.istore_n 3, 1) := by decide +kernel
theorem dX12_watched_4 : decode cX12_watched 4 = .ok (.iload_n 3, 1) := by decide +kernel
theorem dX12_watched_5 : decode cX12_watched 5 = .ok (.aload_n 0, 1) := by decide +kernel
theorem dX12_watched_6 : decode cX12_watched 6 = .ok (.getfield 211, 3) := by decide +kernel
theorem dX12_watched_9 : decode cX12_watched 9 = .ok (.if_icmp .ge 37, 3) := by decide +kernel
theorem dX12_watched_12 : decode cX12_watched 12 = .ok (.iload_n 2, 1) := by decide +kernel
theorem dX12_watched_13 : decode cX12_watched 13 = .ok (.iload_n 1, 1) := by decide +kernel
theorem dX12_watched_14 : decode cX12_watched 14 = .ok (.iload_n 3, 1) := by decide +kernel
theorem dX12_watched_15 : decode cX12_watched 15 = .ok (.invokestatic 235, 3) := by decide +kernel
theorem dX12_watched_18 : decode cX12_watched 18 = .ok (.ifCond .eq 19, 3) := by decide +kernel
theorem dX12_watched_21 : decode cX12_watched 21 = .ok (.aload_n 0, 1) := by decide +kernel
theorem dX12_watched_22 : decode cX12_watched 22 = .ok (.iload_n 3, 1) := by decide +kernel
theorem dX12_watched_23 : decode cX12_watched 23 = .ok (.invokevirtual 241, 3) := by decide +kernel
theorem dX12_watched_26 : decode cX12_watched 26 = .ok (.ifCond .eq 11, 3) := by decide +kernel
theorem dX12_watched_29 : decode cX12_watched 29 = .ok (.aload_n 0, 1) := by decide +kernel
theorem dX12_watched_30 : decode cX12_watched 30 = .ok (.iload_n 3, 1) := by decide +kernel
theorem dX12_watched_31 : decode cX12_watched 31 = .ok (.invokevirtual 244, 3) := by decide +kernel
theorem dX12_watched_34 : decode cX12_watched 34 = .ok (.goto 4, 3) := by decide +kernel
theorem dX12_watched_37 : decode cX12_watched 37 = .ok (.iconst 0, 1) := by decide +kernel
theorem dX12_watched_38 : decode cX12_watched 38 = .ok (.ior, 1) := by decide +kernel
theorem dX12_watched_39 : decode cX12_watched 39 = .ok (.istore_n 2, 1) := by decide +kernel
theorem dX12_watched_40 : decode cX12_watched 40 = .ok (.iinc 3 1, 3) := by decide +kernel
theorem dX12_watched_43 : decode cX12_watched 43 = .ok (.goto (-39), 3) := by decide +kernel
theorem dX12_watched_46 : decode cX12_watched 46 = .ok (.iload_n 2, 1) := by decide +kernel
theorem dX12_watched_47 : decode cX12_watched 47 = .ok (.ireturn, 1) := by decide +kernel
theorem dX12_watchOf_0 : decode cX12_watchOf 0 = .ok (.iconst 0, 1) := by decide +kernel
theorem dX12_watchOf_1 : decode cX12_watchOf 1 = .ok (.istore_n 1, 1) := by decide +kernel
theorem dX12_watchOf_2 : decode cX12_watchOf 2 = .ok (.iconst 0, 1) := by decide +kernel
theorem dX12_watchOf_3 : decode cX12_watchOf 3 = .ok (.istore_n 2, 1) := by decide +kernel
theorem dX12_watchOf_4 : decode cX12_watchOf 4 = .ok (.iload_n 2, 1) := by decide +kernel
theorem dX12_watchOf_5 : decode cX12_watchOf 5 = .ok (.aload_n 0, 1) := by decide +kernel
theorem dX12_watchOf_6 : decode cX12_watchOf 6 = .ok (.getfield 211, 3) := by decide +kernel
theorem dX12_watchOf_9 : decode cX12_watchOf 9 = .ok (.if_icmp .ge 27, 3) := by decide +kernel
theorem dX12_watchOf_12 : decode cX12_watchOf 12 = .ok (.iload_n 1, 1) := by decide +kernel
theorem dX12_watchOf_13 : decode cX12_watchOf 13 = .ok (.aload_n 0, 1) := by decide +kernel
theorem dX12_watchOf_14 : decode cX12_watchOf 14 = .ok (.iload_n 2, 1) := by decide +kernel
theorem dX12_watchOf_15 : decode cX12_watchOf 15 = .ok (.invokevirtual 241, 3) := by decide +kernel
theorem dX12_watchOf_18 : decode cX12_watchOf 18 = .ok (.ifCond .eq 9, 3) := by decide +kernel
theorem dX12_watchOf_21 : decode cX12_watchOf 21 = .ok (.iconst 1, 1) := by decide +kernel
theorem dX12_watchOf_22 : decode cX12_watchOf 22 = .ok (.iload_n 2, 1) := by decide +kernel
theorem dX12_watchOf_23 : decode cX12_watchOf 23 = .ok (.ishl, 1) := by decide +kernel
theorem dX12_watchOf_24 : decode cX12_watchOf 24 = .ok (.goto 4, 3) := by decide +kernel
theorem dX12_watchOf_27 : decode cX12_watchOf 27 = .ok (.iconst 0, 1) := by decide +kernel
theorem dX12_watchOf_28 : decode cX12_watchOf 28 = .ok (.ior, 1) := by decide +kernel
theorem dX12_watchOf_29 : decode cX12_watchOf 29 = .ok (.istore_n 1, 1) := by decide +kernel
theorem dX12_watchOf_30 : decode cX12_watchOf 30 = .ok (.iinc 2 1, 3) := by decide +kernel
theorem dX12_watchOf_33 : decode cX12_watchOf 33 = .ok (.goto (-29), 3) := by decide +kernel
theorem dX12_watchOf_36 : decode cX12_watchOf 36 = .ok (.iload_n 1, 1) := by decide +kernel
theorem dX12_watchOf_37 : decode cX12_watchOf 37 = .ok (.istore_n 2, 1) := by decide +kernel
theorem dX12_watchOf_38 : decode cX12_watchOf 38 = .ok (.iload_n 1, 1) := by decide +kernel
theorem dX12_watchOf_39 : decode cX12_watchOf 39 = .ok (.istore_n 3, 1) := by decide +kernel
theorem dX12_watchOf_40 : decode cX12_watchOf 40 = .ok (.iload_n 3, 1) := by decide +kernel
theorem dX12_watchOf_41 : decode cX12_watchOf 41 = .ok (.ifCond .lt 43, 3) := by decide +kernel
theorem dX12_watchOf_44 : decode cX12_watchOf 44 = .ok (.iload_n 3, 1) := by decide +kernel
theorem dX12_watchOf_45 : decode cX12_watchOf 45 = .ok (.iload_n 1, 1) := by decide +kernel
theorem dX12_watchOf_46 : decode cX12_watchOf 46 = .ok (.iconst (-1), 1) := by decide +kernel
theorem dX12_watchOf_47 : decode cX12_watchOf 47 = .ok (.ixor, 1) := by decide +kernel
theorem dX12_watchOf_48 : decode cX12_watchOf 48 = .ok (.iand, 1) := by decide +kernel
theorem dX12_watchOf_49 : decode cX12_watchOf 49 = .ok (.ifCond .ne 29, 3) := by decide +kernel
theorem dX12_watchOf_52 : decode cX12_watchOf 52 = .ok (.iload_n 3, 1) := by decide +kernel
theorem dX12_watchOf_53 : decode cX12_watchOf 53 = .ok (.invokestatic 183, 3) := by decide +kernel
theorem dX12_watchOf_56 : decode cX12_watchOf 56 = .ok (.iload_n 2, 1) := by decide +kernel
theorem dX12_watchOf_57 : decode cX12_watchOf 57 = .ok (.invokestatic 183, 3) := by decide +kernel
theorem dX12_watchOf_60 : decode cX12_watchOf 60 = .ok (.if_icmp .gt 18, 3) := by decide +kernel
theorem dX12_watchOf_63 : decode cX12_watchOf 63 = .ok (.aload_n 0, 1) := by decide +kernel
theorem dX12_watchOf_64 : decode cX12_watchOf 64 = .ok (.iload_n 3, 1) := by decide +kernel
theorem dX12_watchOf_65 : decode cX12_watchOf 65 = .ok (.invokevirtual 349, 3) := by decide +kernel
theorem dX12_watchOf_68 : decode cX12_watchOf 68 = .ok (.aload_n 0, 1) := by decide +kernel
theorem dX12_watchOf_69 : decode cX12_watchOf 69 = .ok (.iload_n 1, 1) := by decide +kernel
theorem dX12_watchOf_70 : decode cX12_watchOf 70 = .ok (.invokevirtual 349, 3) := by decide +kernel
theorem dX12_watchOf_73 : decode cX12_watchOf 73 = .ok (.if_icmp .ne 5, 3) := by decide +kernel
theorem dX12_watchOf_76 : decode cX12_watchOf 76 = .ok (.iload_n 3, 1) := by decide +kernel
theorem dX12_watchOf_77 : decode cX12_watchOf 77 = .ok (.istore_n 2, 1) := by decide +kernel
theorem dX12_watchOf_78 : decode cX12_watchOf 78 = .ok (.iinc 3 (-1), 3) := by decide +kernel
theorem dX12_watchOf_81 : decode cX12_watchOf 81 = .ok (.goto (-41), 3) := by decide +kernel
theorem dX12_watchOf_84 : decode cX12_watchOf 84 = .ok (.iload_n 2, 1) := by decide +kernel
theorem dX12_watchOf_85 : decode cX12_watchOf 85 = .ok (.ireturn, 1) := by decide +kernel
theorem dX12_houses_0 : decode cX12_houses 0 = .ok (.aload_n 0, 1) := by decide +kernel
theorem dX12_houses_1 : decode cX12_houses 1 = .ok (.iload_n 1, 1) := by decide +kernel
theorem dX12_houses_2 : decode cX12_houses 2 = .ok (.invokevirtual 220, 3) := by decide +kernel
theorem dX12_houses_5 : decode cX12_houses 5 = .ok (.ifCond .ne 6, 3) := by decide +kernel
theorem dX12_houses_8 : decode cX12_houses 8 = .ok (.bipush (-2), 2) := by decide +kernel
theorem dX12_houses_10 : decode cX12_houses 10 = .ok (.ireturn, 1) := by decide +kernel
theorem dX12_houses_11 : decode cX12_houses 11 = .ok (.iload_n 2, 1) := by decide +kernel
theorem dX12_houses_12 : decode cX12_houses 12 = .ok (.tableswitch 126 0 8 #[52, 52, 67, 67, 82, 87, 92, 113, 121], 52) := by decide +kernel
theorem dX12_houses_64 : decode cX12_houses 64 = .ok (.aload_n 0, 1) := by decide +kernel
theorem dX12_houses_65 : decode cX12_houses 65 = .ok (.iload_n 2, 1) := by decide +kernel
theorem dX12_houses_66 : decode cX12_houses 66 = .ok (.iconst 1, 1) := by decide +kernel
theorem dX12_houses_67 : decode cX12_houses 67 = .ok (.if_icmp .ne 7, 3) := by decide +kernel
theorem dX12_houses_70 : decode cX12_houses 70 = .ok (.iconst 1, 1) := by decide +kernel
theorem dX12_houses_71 : decode cX12_houses 71 = .ok (.goto 4, 3) := by decide +kernel
theorem dX12_houses_74 : decode cX12_houses 74 = .ok (.iconst 0, 1) := by decide +kernel
theorem dX12_houses_75 : decode cX12_houses 75 = .ok (.invokevirtual 352, 3) := by decide +kernel
theorem dX12_houses_78 : decode cX12_houses 78 = .ok (.ireturn, 1) := by decide +kernel
theorem dX12_houses_79 : decode cX12_houses 79 = .ok (.aload_n 0, 1) := by decide +kernel
theorem dX12_houses_80 : decode cX12_houses 80 = .ok (.iload_n 2, 1) := by decide +kernel
theorem dX12_houses_81 : decode cX12_houses 81 = .ok (.iconst 3, 1) := by decide +kernel
theorem dX12_houses_82 : decode cX12_houses 82 = .ok (.if_icmp .ne 7, 3) := by decide +kernel
theorem dX12_houses_85 : decode cX12_houses 85 = .ok (.iconst 1, 1) := by decide +kernel
theorem dX12_houses_86 : decode cX12_houses 86 = .ok (.goto 4, 3) := by decide +kernel
theorem dX12_houses_89 : decode cX12_houses 89 = .ok (.iconst 0, 1) := by decide +kernel
theorem dX12_houses_90 : decode cX12_houses 90 = .ok (.invokevirtual 356, 3) := by decide +kernel
theorem dX12_houses_93 : decode cX12_houses 93 = .ok (.ireturn, 1) := by decide +kernel
theorem dX12_houses_94 : decode cX12_houses 94 = .ok (.aload_n 0, 1) := by decide +kernel
theorem dX12_houses_95 : decode cX12_houses 95 = .ok (.invokevirtual 359, 3) := by decide +kernel
theorem dX12_houses_98 : decode cX12_houses 98 = .ok (.ireturn, 1) := by decide +kernel
theorem dX12_houses_99 : decode cX12_houses 99 = .ok (.aload_n 0, 1) := by decide +kernel
theorem dX12_houses_100 : decode cX12_houses 100 = .ok (.invokevirtual 362, 3) := by decide +kernel
theorem dX12_houses_103 : decode cX12_houses 103 = .ok (.ireturn, 1) := by decide +kernel
theorem dX12_houses_104 : decode cX12_houses 104 = .ok (.aload_n 0, 1) := by decide +kernel
theorem dX12_houses_105 : decode cX12_houses 105 = .ok (.invokevirtual 362, 3) := by decide +kernel
theorem dX12_houses_108 : decode cX12_houses 108 = .ok (.iconst (-1), 1) := by decide +kernel
theorem dX12_houses_109 : decode cX12_houses 109 = .ok (.if_icmp .ne 7, 3) := by decide +kernel
theorem dX12_houses_112 : decode cX12_houses 112 = .ok (.iconst 0, 1) := by decide +kernel
theorem dX12_houses_113 : decode cX12_houses 113 = .ok (.goto 11, 3) := by decide +kernel
theorem dX12_houses_116 : decode cX12_houses 116 = .ok (.aload_n 0, 1) := by decide +kernel
theorem dX12_houses_117 : decode cX12_houses 117 = .ok (.aload_n 0, 1) := by decide +kernel
theorem dX12_houses_118 : decode cX12_houses 118 = .ok (.invokevirtual 362, 3) := by decide +kernel
theorem dX12_houses_121 : decode cX12_houses 121 = .ok (.invokevirtual 346, 3) := by decide +kernel
theorem dX12_houses_124 : decode cX12_houses 124 = .ok (.ireturn, 1) := by decide +kernel
theorem dX12_houses_125 : decode cX12_houses 125 = .ok (.aload_n 0, 1) := by decide +kernel
theorem dX12_houses_126 : decode cX12_houses 126 = .ok (.invokevirtual 365, 3) := by decide +kernel
theorem dX12_houses_129 : decode cX12_houses 129 = .ok (.invokestatic 183, 3) := by decide +kernel
theorem dX12_houses_132 : decode cX12_houses 132 = .ok (.ireturn, 1) := by decide +kernel
theorem dX12_houses_133 : decode cX12_houses 133 = .ok (.aload_n 0, 1) := by decide +kernel
theorem dX12_houses_134 : decode cX12_houses 134 = .ok (.invokevirtual 365, 3) := by decide +kernel
theorem dX12_houses_137 : decode cX12_houses 137 = .ok (.ireturn, 1) := by decide +kernel
theorem dX12_houses_138 : decode cX12_houses 138 = .ok (.bipush (-2), 2) := by decide +kernel
theorem dX12_houses_140 : decode cX12_houses 140 = .ok (.ireturn, 1) := by decide +kernel
theorem dX12_neverOf_0 : decode cX12_neverOf 0 = .ok (.iconst 0, 1) := by decide +kernel
theorem dX12_neverOf_1 : decode cX12_neverOf 1 = .ok (.istore_n 2, 1) := by decide +kernel
theorem dX12_neverOf_2 : decode cX12_neverOf 2 = .ok (.iconst 0, 1) := by decide +kernel
theorem dX12_neverOf_3 : decode cX12_neverOf 3 = .ok (.istore_n 3, 1) := by decide +kernel
theorem dX12_neverOf_4 : decode cX12_neverOf 4 = .ok (.iload_n 3, 1) := by decide +kernel
theorem dX12_neverOf_5 : decode cX12_neverOf 5 = .ok (.aload_n 0, 1) := by decide +kernel
theorem dX12_neverOf_6 : decode cX12_neverOf 6 = .ok (.getfield 214, 3) := by decide +kernel
theorem dX12_neverOf_9 : decode cX12_neverOf 9 = .ok (.if_icmp .ge 68, 3) := by decide +kernel
theorem dX12_neverOf_12 : decode cX12_neverOf 12 = .ok (.iconst 0, 1) := by decide +kernel
theorem dX12_neverOf_13 : decode cX12_neverOf 13 = .ok (.istore 4, 2) := by decide +kernel
theorem dX12_neverOf_15 : decode cX12_neverOf 15 = .ok (.iconst 0, 1) := by decide +kernel
theorem dX12_neverOf_16 : decode cX12_neverOf 16 = .ok (.istore 5, 2) := by decide +kernel
theorem dX12_neverOf_18 : decode cX12_neverOf 18 = .ok (.iload 5, 2) := by decide +kernel
theorem dX12_neverOf_20 : decode cX12_neverOf 20 = .ok (.aload_n 0, 1) := by decide +kernel
theorem dX12_neverOf_21 : decode cX12_neverOf 21 = .ok (.getfield 211, 3) := by decide +kernel
theorem dX12_neverOf_24 : decode cX12_neverOf 24 = .ok (.if_icmp .ge 32, 3) := by decide +kernel
theorem dX12_neverOf_27 : decode cX12_neverOf 27 = .ok (.iload 4, 2) := by decide +kernel
theorem dX12_neverOf_29 : decode cX12_neverOf 29 = .ok (.ifCond .ne 14, 3) := by decide +kernel
theorem dX12_neverOf_32 : decode cX12_neverOf 32 = .ok (.aload_n 0, 1) := by decide +kernel
theorem dX12_neverOf_33 : decode cX12_neverOf 33 = .ok (.iload 5, 2) := by decide +kernel
theorem dX12_neverOf_35 : decode cX12_neverOf 35 = .ok (.iload_n 3, 1) := by decide +kernel
theorem dX12_neverOf_36 : decode cX12_neverOf 36 = .ok (.iload_n 1, 1) := by decide +kernel
theorem dX12_neverOf_37 : decode cX12_neverOf 37 = .ok (.invokevirtual 254, 3) := by decide +kernel
theorem dX12_neverOf_40 : decode cX12_neverOf 40 = .ok (.ifCond .eq 7, 3) := by decide +kernel
theorem dX12_neverOf_43 : decode cX12_neverOf 43 = .ok (.iconst 1, 1) := by decide +kernel
theorem dX12_neverOf_44 : decode cX12_neverOf 44 = .ok (.goto 4, 3) := by decide +kernel
theorem dX12_neverOf_47 : decode cX12_neverOf 47 = .ok (.iconst 0, 1) := by decide +kernel
theorem dX12_neverOf_48 : decode cX12_neverOf 48 = .ok (.istore 4, 2) := by decide +kernel
theorem dX12_neverOf_50 : decode cX12_neverOf 50 = .ok (.iinc 5 1, 3) := by decide +kernel
theorem dX12_neverOf_53 : decode cX12_neverOf 53 = .ok (.goto (-35), 3) := by decide +kernel
theorem dX12_neverOf_56 : decode cX12_neverOf 56 = .ok (.iload_n 2, 1) := by decide +kernel
theorem dX12_neverOf_57 : decode cX12_neverOf 57 = .ok (.iload 4, 2) := by decide +kernel
theorem dX12_neverOf_59 : decode cX12_neverOf 59 = .ok (.ifCond .eq 7, 3) := by decide +kernel
theorem dX12_neverOf_62 : decode cX12_neverOf 62 = .ok (.iconst 0, 1) := by decide +kernel
theorem dX12_neverOf_63 : decode cX12_neverOf 63 = .ok (.goto 6, 3) := by decide +kernel
theorem dX12_neverOf_66 : decode cX12_neverOf 66 = .ok (.iconst 1, 1) := by decide +kernel
theorem dX12_neverOf_67 : decode cX12_neverOf 67 = .ok (.iload_n 3, 1) := by decide +kernel
theorem dX12_neverOf_68 : decode cX12_neverOf 68 = .ok (.ishl, 1) := by decide +kernel
theorem dX12_neverOf_69 : decode cX12_neverOf 69 = .ok (.ior, 1) := by decide +kernel
theorem dX12_neverOf_70 : decode cX12_neverOf 70 = .ok (.istore_n 2, 1) := by decide +kernel
theorem dX12_neverOf_71 : decode cX12_neverOf 71 = .ok (.iinc 3 1, 3) := by decide +kernel
theorem dX12_neverOf_74 : decode cX12_neverOf 74 = .ok (.goto (-70), 3) := by decide +kernel
theorem dX12_neverOf_77 : decode cX12_neverOf 77 = .ok (.iload_n 2, 1) := by decide +kernel
theorem dX12_neverOf_78 : decode cX12_neverOf 78 = .ok (.ireturn, 1) := by decide +kernel
theorem dX12_laysKept_0 : decode cX12_laysKept 0 = .ok (.iconst 0, 1) := by decide +kernel
theorem dX12_laysKept_1 : decode cX12_laysKept 1 = .ok (.istore_n 2, 1) := by decide +kernel
theorem dX12_laysKept_2 : decode cX12_laysKept 2 = .ok (.iload_n 2, 1) := by decide +kernel
theorem dX12_laysKept_3 : decode cX12_laysKept 3 = .ok (.bipush 64, 2) := by decide +kernel
theorem dX12_laysKept_5 : decode cX12_laysKept 5 = .ok (.if_icmp .ge 24, 3) := by decide +kernel
theorem dX12_laysKept_8 : decode cX12_laysKept 8 = .ok (.aload_n 0, 1) := by decide +kernel
theorem dX12_laysKept_9 : decode cX12_laysKept 9 = .ok (.getfield 52, 3) := by decide +kernel
theorem dX12_laysKept_12 : decode cX12_laysKept 12 = .ok (.iload_n 2, 1) := by decide +kernel
theorem dX12_laysKept_13 : decode cX12_laysKept 13 = .ok (.iload_n 2, 1) := by decide +kernel
theorem dX12_laysKept_14 : decode cX12_laysKept 14 = .ok (.ifCond .ne 7, 3) := by decide +kernel
theorem dX12_laysKept_17 : decode cX12_laysKept 17 = .ok (.iconst 1, 1) := by decide +kernel
theorem dX12_laysKept_18 : decode cX12_laysKept 18 = .ok (.goto 4, 3) := by decide +kernel
theorem dX12_laysKept_21 : decode cX12_laysKept 21 = .ok (.iconst 0, 1) := by decide +kernel
theorem dX12_laysKept_22 : decode cX12_laysKept 22 = .ok (.bastore, 1) := by decide +kernel
theorem dX12_laysKept_23 : decode cX12_laysKept 23 = .ok (.iinc 2 1, 3) := by decide +kernel
theorem dX12_laysKept_26 : decode cX12_laysKept 26 = .ok (.goto (-24), 3) := by decide +kernel
theorem dX12_laysKept_29 : decode cX12_laysKept 29 = .ok (.iconst 0, 1) := by decide +kernel
theorem dX12_laysKept_30 : decode cX12_laysKept 30 = .ok (.istore_n 2, 1) := by decide +kernel
theorem dX12_laysKept_31 : decode cX12_laysKept 31 = .ok (.iload_n 2, 1) := by decide +kernel
theorem dX12_laysKept_32 : decode cX12_laysKept 32 = .ok (.aload_n 0, 1) := by decide +kernel
theorem dX12_laysKept_33 : decode cX12_laysKept 33 = .ok (.getfield 211, 3) := by decide +kernel
theorem dX12_laysKept_36 : decode cX12_laysKept 36 = .ok (.if_icmp .ge 96, 3) := by decide +kernel
theorem dX12_laysKept_39 : decode cX12_laysKept 39 = .ok (.bipush 63, 2) := by decide +kernel
theorem dX12_laysKept_41 : decode cX12_laysKept 41 = .ok (.istore_n 3, 1) := by decide +kernel
theorem dX12_laysKept_42 : decode cX12_laysKept 42 = .ok (.iload_n 3, 1) := by decide +kernel
theorem dX12_laysKept_43 : decode cX12_laysKept 43 = .ok (.ifCond .le 83, 3) := by decide +kernel
theorem dX12_laysKept_46 : decode cX12_laysKept 46 = .ok (.iconst 0, 1) := by decide +kernel
theorem dX12_laysKept_47 : decode cX12_laysKept 47 = .ok (.istore 4, 2) := by decide +kernel
theorem dX12_laysKept_49 : decode cX12_laysKept 49 = .ok (.iload 4, 2) := by decide +kernel
theorem dX12_laysKept_51 : decode cX12_laysKept 51 = .ok (.aload_n 0, 1) := by decide +kernel
theorem dX12_laysKept_52 : decode cX12_laysKept 52 = .ok (.getfield 214, 3) := by decide +kernel
theorem dX12_laysKept_55 : decode cX12_laysKept 55 = .ok (.if_icmp .ge 65, 3) := by decide +kernel
theorem dX12_laysKept_58 : decode cX12_laysKept 58 = .ok (.aload_n 0, 1) := by decide +kernel
theorem dX12_laysKept_59 : decode cX12_laysKept 59 = .ok (.getfield 52, 3) := by decide +kernel
theorem dX12_laysKept_62 : decode cX12_laysKept 62 = .ok (.iload_n 3, 1) := by decide +kernel
theorem dX12_laysKept_63 : decode cX12_laysKept 63 = .ok (.aload_n 0, 1) := by decide +kernel
theorem dX12_laysKept_64 : decode cX12_laysKept 64 = .ok (.getfield 52, 3) := by decide +kernel
theorem dX12_laysKept_67 : decode cX12_laysKept 67 = .ok (.iload_n 3, 1) := by decide +kernel
theorem dX12_laysKept_68 : decode cX12_laysKept 68 = .ok (.baload, 1) := by decide +kernel
theorem dX12_laysKept_69 : decode cX12_laysKept 69 = .ok (.ifCond .ne 39, 3) := by decide +kernel
theorem dX12_laysKept_72 : decode cX12_laysKept 72 = .ok (.iload_n 3, 1) := by decide +kernel
theorem dX12_laysKept_73 : decode cX12_laysKept 73 = .ok (.iload 4, 2) := by decide +kernel
theorem dX12_laysKept_75 : decode cX12_laysKept 75 = .ok (.invokestatic 235, 3) := by decide +kernel
theorem dX12_laysKept_78 : decode cX12_laysKept 78 = .ok (.ifCond .eq 34, 3) := by decide +kernel
theorem dX12_laysKept_81 : decode cX12_laysKept 81 = .ok (.aload_n 0, 1) := by decide +kernel
theorem dX12_laysKept_82 : decode cX12_laysKept 82 = .ok (.getfield 52, 3) := by decide +kernel
theorem dX12_laysKept_85 : decode cX12_laysKept 85 = .ok (.iload_n 3, 1) := by decide +kernel
theorem dX12_laysKept_86 : decode cX12_laysKept 86 = .ok (.iconst 1, 1) := by decide +kernel
theorem dX12_laysKept_87 : decode cX12_laysKept 87 = .ok (.iload 4, 2) := by decide +kernel
theorem dX12_laysKept_89 : decode cX12_laysKept 89 = .ok (.ishl, 1) := by decide +kernel
theorem dX12_laysKept_90 : decode cX12_laysKept 90 = .ok (.iconst (-1), 1) := by decide +kernel
theorem dX12_laysKept_91 : decode cX12_laysKept 91 = .ok (.ixor, 1) := by decide +kernel
theorem dX12_laysKept_92 : decode cX12_laysKept 92 = .ok (.iand, 1) := by decide +kernel
theorem dX12_laysKept_93 : decode cX12_laysKept 93 = .ok (.baload, 1) := by decide +kernel
theorem dX12_laysKept_94 : decode cX12_laysKept 94 = .ok (.ifCond .eq 18, 3) := by decide +kernel
theorem dX12_laysKept_97 : decode cX12_laysKept 97 = .ok (.aload_n 0, 1) := by decide +kernel
theorem dX12_laysKept_98 : decode cX12_laysKept 98 = .ok (.iload_n 2, 1) := by decide +kernel
theorem dX12_laysKept_99 : decode cX12_laysKept 99 = .ok (.iload 4, 2) := by decide +kernel
theorem dX12_laysKept_101 : decode cX12_laysKept 101 = .ok (.iload_n 1, 1) := by decide +kernel
theorem dX12_laysKept_102 : decode cX12_laysKept 102 = .ok (.invokevirtual 254, 3) := by decide +kernel
theorem dX12_laysKept_105 : decode cX12_laysKept 105 = .ok (.ifCond .eq 7, 3) := by decide +kernel
theorem dX12_laysKept_108 : decode cX12_laysKept 108 = .ok (.iconst 1, 1) := by decide +kernel
theorem dX12_laysKept_109 : decode cX12_laysKept 109 = .ok (.goto 4, 3) := by decide +kernel
theorem dX12_laysKept_112 : decode cX12_laysKept 112 = .ok (.iconst 0, 1) := by decide +kernel
theorem dX12_laysKept_113 : decode cX12_laysKept 113 = .ok (.bastore, 1) := by decide +kernel
theorem dX12_laysKept_114 : decode cX12_laysKept 114 = .ok (.iinc 4 1, 3) := by decide +kernel
theorem dX12_laysKept_117 : decode cX12_laysKept 117 = .ok (.goto (-68), 3) := by decide +kernel
theorem dX12_laysKept_120 : decode cX12_laysKept 120 = .ok (.iinc 3 (-1), 3) := by decide +kernel
theorem dX12_laysKept_123 : decode cX12_laysKept 123 = .ok (.goto (-81), 3) := by decide +kernel
theorem dX12_laysKept_126 : decode cX12_laysKept 126 = .ok (.iinc 2 1, 3) := by decide +kernel
theorem dX12_laysKept_129 : decode cX12_laysKept 129 = .ok (.goto (-98), 3) := by decide +kernel
theorem dX12_laysKept_132 : decode cX12_laysKept 132 = .ok (.return_, 1) := by decide +kernel
theorem dX12_most_0 : decode cX12_most 0 = .ok (.aload_n 0, 1) := by decide +kernel
theorem dX12_most_1 : decode cX12_most 1 = .ok (.iload_n 1, 1) := by decide +kernel
theorem dX12_most_2 : decode cX12_most 2 = .ok (.invokevirtual 220, 3) := by decide +kernel
theorem dX12_most_5 : decode cX12_most 5 = .ok (.ifCond .eq 22, 3) := by decide +kernel
theorem dX12_most_8 : decode cX12_most 8 = .ok (.iload_n 2, 1) := by decide +kernel
theorem dX12_most_9 : decode cX12_most 9 = .ok (.iconst 1, 1) := by decide +kernel
theorem dX12_most_10 : decode cX12_most 10 = .ok (.bipush 9, 2) := by decide +kernel
theorem dX12_most_12 : decode cX12_most 12 = .ok (.invokestatic 146, 3) := by decide +kernel
theorem dX12_most_15 : decode cX12_most 15 = .ok (.ifCond .eq 12, 3) := by decide +kernel
theorem dX12_most_18 : decode cX12_most 18 = .ok (.iload_n 3, 1) := by decide +kernel
theorem dX12_most_19 : decode cX12_most 19 = .ok (.iconst 0, 1) := by decide +kernel
theorem dX12_most_20 : decode cX12_most 20 = .ok (.iconst 2, 1) := by decide +kernel
theorem dX12_most_21 : decode cX12_most 21 = .ok (.invokestatic 146, 3) := by decide +kernel
theorem dX12_most_24 : decode cX12_most 24 = .ok (.ifCond .ne 5, 3) := by decide +kernel
theorem dX12_most_27 : decode cX12_most 27 = .ok (.iconst (-1), 1) := by decide +kernel
theorem dX12_most_28 : decode cX12_most 28 = .ok (.ireturn, 1) := by decide +kernel
theorem dX12_most_29 : decode cX12_most 29 = .ok (.iload_n 3, 1) := by decide +kernel
theorem dX12_most_30 : decode cX12_most 30 = .ok (.ifCond .ne 9, 3) := by decide +kernel
theorem dX12_most_33 : decode cX12_most 33 = .ok (.aload_n 0, 1) := by decide +kernel
theorem dX12_most_34 : decode cX12_most 34 = .ok (.iload_n 2, 1) := by decide +kernel
theorem dX12_most_35 : decode cX12_most 35 = .ok (.invokevirtual 368, 3) := by decide +kernel
theorem dX12_most_38 : decode cX12_most 38 = .ok (.ireturn, 1) := by decide +kernel
theorem dX12_most_39 : decode cX12_most 39 = .ok (.aload_n 0, 1) := by decide +kernel
theorem dX12_most_40 : decode cX12_most 40 = .ok (.iload_n 2, 1) := by decide +kernel
theorem dX12_most_41 : decode cX12_most 41 = .ok (.invokevirtual 371, 3) := by decide +kernel
theorem dX12_most_44 : decode cX12_most 44 = .ok (.iconst 0, 1) := by decide +kernel
theorem dX12_most_45 : decode cX12_most 45 = .ok (.istore 4, 2) := by decide +kernel
theorem dX12_most_47 : decode cX12_most 47 = .ok (.iconst 0, 1) := by decide +kernel
theorem dX12_most_48 : decode cX12_most 48 = .ok (.istore 5, 2) := by decide +kernel
theorem dX12_most_50 : decode cX12_most 50 = .ok (.iload 5, 2) := by decide +kernel
theorem dX12_most_52 : decode cX12_most 52 = .ok (.iconst 1, 1) := by decide +kernel
theorem dX12_most_53 : decode cX12_most 53 = .ok (.aload_n 0, 1) := by decide +kernel
theorem dX12_most_54 : decode cX12_most 54 = .ok (.getfield 214, 3) := by decide +kernel
theorem dX12_most_57 : decode cX12_most 57 = .ok (.ishl, 1) := by decide +kernel
theorem dX12_most_58 : decode cX12_most 58 = .ok (.if_icmp .ge 56, 3) := by decide +kernel
theorem dX12_most_61 : decode cX12_most 61 = .ok (.iload_n 3, 1) := by decide +kernel
theorem dX12_most_62 : decode cX12_most 62 = .ok (.iconst 1, 1) := by decide +kernel
theorem dX12_most_63 : decode cX12_most 63 = .ok (.if_icmp .ne 11, 3) := by decide +kernel
theorem dX12_most_66 : decode cX12_most 66 = .ok (.iload 5, 2) := by decide +kernel
theorem dX12_most_68 : decode cX12_most 68 = .ok (.invokestatic 183, 3) := by decide +kernel
theorem dX12_most_71 : decode cX12_most 71 = .ok (.goto 9, 3) := by decide +kernel
theorem dX12_most_74 : decode cX12_most 74 = .ok (.aload_n 0, 1) := by decide +kernel
theorem dX12_most_75 : decode cX12_most 75 = .ok (.iload 5, 2) := by decide +kernel
theorem dX12_most_77 : decode cX12_most 77 = .ok (.invokevirtual 294, 3) := by decide +kernel
theorem dX12_most_80 : decode cX12_most 80 = .ok (.istore 6, 2) := by decide +kernel
theorem dX12_most_82 : decode cX12_most 82 = .ok (.aload_n 0, 1) := by decide +kernel
theorem dX12_most_83 : decode cX12_most 83 = .ok (.getfield 52, 3) := by decide +kernel
theorem dX12_most_86 : decode cX12_most 86 = .ok (.iload 5, 2) := by decide +kernel
theorem dX12_most_88 : decode cX12_most 88 = .ok (.baload, 1) := by decide +kernel
theorem dX12_most_89 : decode cX12_most 89 = .ok (.ifCond .eq 15, 3) := by decide +kernel
theorem dX12_most_92 : decode cX12_most 92 = .ok (.iload 6, 2) := by decide +kernel
theorem dX12_most_94 : decode cX12_most 94 = .ok (.iload 4, 2) := by decide +kernel
theorem dX12_most_96 : decode cX12_most 96 = .ok (.if_icmp .le 8, 3) := by decide +kernel
theorem dX12_most_99 : decode cX12_most 99 = .ok (.iload 6, 2) := by decide +kernel
theorem dX12_most_101 : decode cX12_most 101 = .ok (.goto 5, 3) := by decide +kernel
theorem dX12_most_104 : decode cX12_most 104 = .ok (.iload 4, 2) := by decide +kernel
theorem dX12_most_106 : decode cX12_most 106 = .ok (.istore 4, 2) := by decide +kernel
theorem dX12_most_108 : decode cX12_most 108 = .ok (.iinc 5 1, 3) := by decide +kernel
theorem dX12_most_111 : decode cX12_most 111 = .ok (.goto (-61), 3) := by decide +kernel
theorem dX12_most_114 : decode cX12_most 114 = .ok (.iload 4, 2) := by decide +kernel
theorem dX12_most_116 : decode cX12_most 116 = .ok (.ireturn, 1) := by decide +kernel
theorem dX12_sizesOf_0 : decode cX12_sizesOf 0 = .ok (.iconst 0, 1) := by decide +kernel
theorem dX12_sizesOf_1 : decode cX12_sizesOf 1 = .ok (.istore_n 2, 1) := by decide +kernel
theorem dX12_sizesOf_2 : decode cX12_sizesOf 2 = .ok (.iconst 0, 1) := by decide +kernel
theorem dX12_sizesOf_3 : decode cX12_sizesOf 3 = .ok (.istore_n 3, 1) := by decide +kernel
theorem dX12_sizesOf_4 : decode cX12_sizesOf 4 = .ok (.iload_n 3, 1) := by decide +kernel
theorem dX12_sizesOf_5 : decode cX12_sizesOf 5 = .ok (.aload_n 0, 1) := by decide +kernel
theorem dX12_sizesOf_6 : decode cX12_sizesOf 6 = .ok (.getfield 214, 3) := by decide +kernel
theorem dX12_sizesOf_9 : decode cX12_sizesOf 9 = .ok (.if_icmp .ge 29, 3) := by decide +kernel
theorem dX12_sizesOf_12 : decode cX12_sizesOf 12 = .ok (.iload_n 2, 1) := by decide +kernel
theorem dX12_sizesOf_13 : decode cX12_sizesOf 13 = .ok (.iload_n 1, 1) := by decide +kernel
theorem dX12_sizesOf_14 : decode cX12_sizesOf 14 = .ok (.iload_n 3, 1) := by decide +kernel
theorem dX12_sizesOf_15 : decode cX12_sizesOf 15 = .ok (.invokestatic 235, 3) := by decide +kernel
theorem dX12_sizesOf_18 : decode cX12_sizesOf 18 = .ok (.ifCond .eq 11, 3) := by decide +kernel
theorem dX12_sizesOf_21 : decode cX12_sizesOf 21 = .ok (.aload_n 0, 1) := by decide +kernel
theorem dX12_sizesOf_22 : decode cX12_sizesOf 22 = .ok (.iload_n 3, 1) := by decide +kernel
theorem dX12_sizesOf_23 : decode cX12_sizesOf 23 = .ok (.invokevirtual 229, 3) := by decide +kernel
theorem dX12_sizesOf_26 : decode cX12_sizesOf 26 = .ok (.goto 4, 3) := by decide +kernel
theorem dX12_sizesOf_29 : decode cX12_sizesOf 29 = .ok (.iconst 0, 1) := by decide +kernel
theorem dX12_sizesOf_30 : decode cX12_sizesOf 30 = .ok (.iadd, 1) := by decide +kernel
theorem dX12_sizesOf_31 : decode cX12_sizesOf 31 = .ok (.istore_n 2, 1) := by decide +kernel
theorem dX12_sizesOf_32 : decode cX12_sizesOf 32 = .ok (.iinc 3 1, 3) := by decide +kernel
theorem dX12_sizesOf_35 : decode cX12_sizesOf 35 = .ok (.goto (-31), 3) := by decide +kernel
theorem dX12_sizesOf_38 : decode cX12_sizesOf 38 = .ok (.iload_n 2, 1) := by decide +kernel
theorem dX12_sizesOf_39 : decode cX12_sizesOf 39 = .ok (.ireturn, 1) := by decide +kernel
theorem dX12_lot_0 : decode cX12_lot 0 = .ok (.aload_n 0, 1) := by decide +kernel
theorem dX12_lot_1 : decode cX12_lot 1 = .ok (.iload_n 1, 1) := by decide +kernel
theorem dX12_lot_2 : decode cX12_lot 2 = .ok (.invokevirtual 220, 3) := by decide +kernel
theorem dX12_lot_5 : decode cX12_lot 5 = .ok (.ifCond .eq 13, 3) := by decide +kernel
theorem dX12_lot_8 : decode cX12_lot 8 = .ok (.iload_n 2, 1) := by decide +kernel
theorem dX12_lot_9 : decode cX12_lot 9 = .ok (.iconst 0, 1) := by decide +kernel
theorem dX12_lot_10 : decode cX12_lot 10 = .ok (.bipush 99, 2) := by decide +kernel
theorem dX12_lot_12 : decode cX12_lot 12 = .ok (.invokestatic 146, 3) := by decide +kernel
theorem dX12_lot_15 : decode cX12_lot 15 = .ok (.ifCond .ne 5, 3) := by decide +kernel
theorem dX12_lot_18 : decode cX12_lot 18 = .ok (.iconst (-1), 1) := by decide +kernel
theorem dX12_lot_19 : decode cX12_lot 19 = .ok (.ireturn, 1) := by decide +kernel
theorem dX12_lot_20 : decode cX12_lot 20 = .ok (.iconst 0, 1) := by decide +kernel
theorem dX12_lot_21 : decode cX12_lot 21 = .ok (.istore 4, 2) := by decide +kernel
theorem dX12_lot_23 : decode cX12_lot 23 = .ok (.iconst 1, 1) := by decide +kernel
theorem dX12_lot_24 : decode cX12_lot 24 = .ok (.istore 5, 2) := by decide +kernel
theorem dX12_lot_26 : decode cX12_lot 26 = .ok (.iload 5, 2) := by decide +kernel
theorem dX12_lot_28 : decode cX12_lot 28 = .ok (.iconst 1, 1) := by decide +kernel
theorem dX12_lot_29 : decode cX12_lot 29 = .ok (.aload_n 0, 1) := by decide +kernel
theorem dX12_lot_30 : decode cX12_lot 30 = .ok (.getfield 214, 3) := by decide +kernel
theorem dX12_lot_33 : decode cX12_lot 33 = .ok (.ishl, 1) := by decide +kernel
theorem dX12_lot_34 : decode cX12_lot 34 = .ok (.if_icmp .ge 38, 3) := by decide +kernel
theorem dX12_lot_37 : decode cX12_lot 37 = .ok (.aload_n 0, 1) := by decide +kernel
theorem dX12_lot_38 : decode cX12_lot 38 = .ok (.iload 5, 2) := by decide +kernel
theorem dX12_lot_40 : decode cX12_lot 40 = .ok (.invokevirtual 374, 3) := by decide +kernel
theorem dX12_lot_43 : decode cX12_lot 43 = .ok (.iload_n 2, 1) := by decide +kernel
theorem dX12_lot_44 : decode cX12_lot 44 = .ok (.if_icmp .gt 22, 3) := by decide +kernel
theorem dX12_lot_47 : decode cX12_lot 47 = .ok (.aload_n 0, 1) := by decide +kernel
theorem dX12_lot_48 : decode cX12_lot 48 = .ok (.iload 5, 2) := by decide +kernel
theorem dX12_lot_50 : decode cX12_lot 50 = .ok (.invokevirtual 294, 3) := by decide +kernel
theorem dX12_lot_53 : decode cX12_lot 53 = .ok (.aload_n 0, 1) := by decide +kernel
theorem dX12_lot_54 : decode cX12_lot 54 = .ok (.iload 4, 2) := by decide +kernel
theorem dX12_lot_56 : decode cX12_lot 56 = .ok (.invokevirtual 294, 3) := by decide +kernel
theorem dX12_lot_59 : decode cX12_lot 59 = .ok (.if_icmp .le 7, 3) := by decide +kernel
theorem dX12_lot_62 : decode cX12_lot 62 = .ok (.iload 5, 2) := by decide +kernel
theorem dX12_lot_64 : decode cX12_lot 64 = .ok (.istore 4, 2) := by decide +kernel
theorem dX12_lot_66 : decode cX12_lot 66 = .ok (.iinc 5 1, 3) := by decide +kernel
theorem dX12_lot_69 : decode cX12_lot 69 = .ok (.goto (-43), 3) := by decide +kernel
theorem dX12_lot_72 : decode cX12_lot 72 = .ok (.iload_n 3, 1) := by decide +kernel
theorem dX12_lot_73 : decode cX12_lot 73 = .ok (.ifCond .eq 8, 3) := by decide +kernel
theorem dX12_lot_76 : decode cX12_lot 76 = .ok (.iload 4, 2) := by decide +kernel
theorem dX12_lot_78 : decode cX12_lot 78 = .ok (.goto 9, 3) := by decide +kernel
theorem dX12_lot_81 : decode cX12_lot 81 = .ok (.aload_n 0, 1) := by decide +kernel
theorem dX12_lot_82 : decode cX12_lot 82 = .ok (.iload 4, 2) := by decide +kernel
theorem dX12_lot_84 : decode cX12_lot 84 = .ok (.invokevirtual 294, 3) := by decide +kernel
theorem dX12_lot_87 : decode cX12_lot 87 = .ok (.ireturn, 1) := by decide +kernel
theorem dX12_heaps_0 : decode cX12_heaps 0 = .ok (.aload_n 0, 1) := by decide +kernel
theorem dX12_heaps_1 : decode cX12_heaps 1 = .ok (.iload_n 1, 1) := by decide +kernel
theorem dX12_heaps_2 : decode cX12_heaps 2 = .ok (.invokevirtual 220, 3) := by decide +kernel
theorem dX12_heaps_5 : decode cX12_heaps 5 = .ok (.ifCond .ne 6, 3) := by decide +kernel
theorem dX12_heaps_8 : decode cX12_heaps 8 = .ok (.bipush (-2), 2) := by decide +kernel
theorem dX12_heaps_10 : decode cX12_heaps 10 = .ok (.ireturn, 1) := by decide +kernel
theorem dX12_heaps_11 : decode cX12_heaps 11 = .ok (.aload_n 0, 1) := by decide +kernel
theorem dX12_heaps_12 : decode cX12_heaps 12 = .ok (.iconst (-1), 1) := by decide +kernel
theorem dX12_heaps_13 : decode cX12_heaps 13 = .ok (.invokevirtual 374, 3) := by decide +kernel
theorem dX12_heaps_16 : decode cX12_heaps 16 = .ok (.istore_n 3, 1) := by decide +kernel
theorem dX12_heaps_17 : decode cX12_heaps 17 = .ok (.iload_n 3, 1) := by decide +kernel
theorem dX12_heaps_18 : decode cX12_heaps 18 = .ok (.istore 4, 2) := by decide +kernel
theorem dX12_heaps_20 : decode cX12_heaps 20 = .ok (.iconst 0, 1) := by decide +kernel
theorem dX12_heaps_21 : decode cX12_heaps 21 = .ok (.istore 5, 2) := by decide +kernel
theorem dX12_heaps_23 : decode cX12_heaps 23 = .ok (.iload 5, 2) := by decide +kernel
theorem dX12_heaps_25 : decode cX12_heaps 25 = .ok (.iconst 1, 1) := by decide +kernel
theorem dX12_heaps_26 : decode cX12_heaps 26 = .ok (.aload_n 0, 1) := by decide +kernel
theorem dX12_heaps_27 : decode cX12_heaps 27 = .ok (.getfield 214, 3) := by decide +kernel
theorem dX12_heaps_30 : decode cX12_heaps 30 = .ok (.ishl, 1) := by decide +kernel
theorem dX12_heaps_31 : decode cX12_heaps 31 = .ok (.if_icmp .ge 42, 3) := by decide +kernel
theorem dX12_heaps_34 : decode cX12_heaps 34 = .ok (.iconst 2, 1) := by decide +kernel
theorem dX12_heaps_35 : decode cX12_heaps 35 = .ok (.aload_n 0, 1) := by decide +kernel
theorem dX12_heaps_36 : decode cX12_heaps 36 = .ok (.iload 5, 2) := by decide +kernel
theorem dX12_heaps_38 : decode cX12_heaps 38 = .ok (.invokevirtual 374, 3) := by decide +kernel
theorem dX12_heaps_41 : decode cX12_heaps 41 = .ok (.imul, 1) := by decide +kernel
theorem dX12_heaps_42 : decode cX12_heaps 42 = .ok (.iload_n 3, 1) := by decide +kernel
theorem dX12_heaps_43 : decode cX12_heaps 43 = .ok (.isub, 1) := by decide +kernel
theorem dX12_heaps_44 : decode cX12_heaps 44 = .ok (.istore 6, 2) := by decide +kernel
theorem dX12_heaps_46 : decode cX12_heaps 46 = .ok (.iload 6, 2) := by decide +kernel
theorem dX12_heaps_48 : decode cX12_heaps 48 = .ok (.ifCond .lt 15, 3) := by decide +kernel
theorem dX12_heaps_51 : decode cX12_heaps 51 = .ok (.iload 6, 2) := by decide +kernel
theorem dX12_heaps_53 : decode cX12_heaps 53 = .ok (.iload 4, 2) := by decide +kernel
theorem dX12_heaps_55 : decode cX12_heaps 55 = .ok (.if_icmp .ge 8, 3) := by decide +kernel
theorem dX12_heaps_58 : decode cX12_heaps 58 = .ok (.iload 6, 2) := by decide +kernel
theorem dX12_heaps_60 : decode cX12_heaps 60 = .ok (.goto 5, 3) := by decide +kernel
theorem dX12_heaps_63 : decode cX12_heaps 63 = .ok (.iload 4, 2) := by decide +kernel
theorem dX12_heaps_65 : decode cX12_heaps 65 = .ok (.istore 4, 2) := by decide +kernel
theorem dX12_heaps_67 : decode cX12_heaps 67 = .ok (.iinc 5 1, 3) := by decide +kernel
theorem dX12_heaps_70 : decode cX12_heaps 70 = .ok (.goto (-47), 3) := by decide +kernel
theorem dX12_heaps_73 : decode cX12_heaps 73 = .ok (.iload_n 2, 1) := by decide +kernel
theorem dX12_heaps_74 : decode cX12_heaps 74 = .ok (.ifCond .eq 6, 3) := by decide +kernel
theorem dX12_heaps_77 : decode cX12_heaps 77 = .ok (.iload 4, 2) := by decide +kernel
theorem dX12_heaps_79 : decode cX12_heaps 79 = .ok (.ireturn, 1) := by decide +kernel
theorem dX12_heaps_80 : decode cX12_heaps 80 = .ok (.iconst 0, 1) := by decide +kernel
theorem dX12_heaps_81 : decode cX12_heaps 81 = .ok (.istore 5, 2) := by decide +kernel
theorem dX12_heaps_83 : decode cX12_heaps 83 = .ok (.iload 5, 2) := by decide +kernel
theorem dX12_heaps_85 : decode cX12_heaps 85 = .ok (.bipush 100, 2) := by decide +kernel
theorem dX12_heaps_87 : decode cX12_heaps 87 = .ok (.if_icmp .ge 22, 3) := by decide +kernel
theorem dX12_heaps_90 : decode cX12_heaps 90 = .ok (.iload 5, 2) := by decide +kernel
theorem dX12_heaps_92 : decode cX12_heaps 92 = .ok (.aload_n 0, 1) := by decide +kernel
theorem dX12_heaps_93 : decode cX12_heaps 93 = .ok (.iconst (-1), 1) := by decide +kernel
theorem dX12_heaps_94 : decode cX12_heaps 94 = .ok (.iconst (-1), 1) := by decide +kernel
theorem dX12_heaps_95 : decode cX12_heaps 95 = .ok (.invokevirtual 247, 3) := by decide +kernel
theorem dX12_heaps_98 : decode cX12_heaps 98 = .ok (.imul, 1) := by decide +kernel
theorem dX12_heaps_99 : decode cX12_heaps 99 = .ok (.iload_n 3, 1) := by decide +kernel
theorem dX12_heaps_100 : decode cX12_heaps 100 = .ok (.if_icmp .ge 9, 3) := by decide +kernel
theorem dX12_heaps_103 : decode cX12_heaps 103 = .ok (.iinc 5 1, 3) := by decide +kernel
theorem dX12_heaps_106 : decode cX12_heaps 106 = .ok (.goto (-23), 3) := by decide +kernel
theorem dX12_heaps_109 : decode cX12_heaps 109 = .ok (.iload 5, 2) := by decide +kernel
theorem dX12_heaps_111 : decode cX12_heaps 111 = .ok (.bipush 100, 2) := by decide +kernel
theorem dX12_heaps_113 : decode cX12_heaps 113 = .ok (.if_icmp .ge 8, 3) := by decide +kernel
theorem dX12_heaps_116 : decode cX12_heaps 116 = .ok (.iload 5, 2) := by decide +kernel
theorem dX12_heaps_118 : decode cX12_heaps 118 = .ok (.goto 4, 3) := by decide +kernel
theorem dX12_heaps_121 : decode cX12_heaps 121 = .ok (.iconst (-1), 1) := by decide +kernel
theorem dX12_heaps_122 : decode cX12_heaps 122 = .ok (.ireturn, 1) := by decide +kernel
theorem dX12_loss_0 : decode cX12_loss 0 = .ok (.aload_n 0, 1) := by decide +kernel
theorem dX12_loss_1 : decode cX12_loss 1 = .ok (.iload_n 1, 1) := by decide +kernel
theorem dX12_loss_2 : decode cX12_loss 2 = .ok (.invokevirtual 220, 3) := by decide +kernel
theorem dX12_loss_5 : decode cX12_loss 5 = .ok (.ifCond .eq 21, 3) := by decide +kernel
theorem dX12_loss_8 : decode cX12_loss 8 = .ok (.aload_n 0, 1) := by decide +kernel
theorem dX12_loss_9 : decode cX12_loss 9 = .ok (.iload_n 2, 1) := by decide +kernel
theorem dX12_loss_10 : decode cX12_loss 10 = .ok (.invokevirtual 223, 3) := by decide +kernel
theorem dX12_loss_13 : decode cX12_loss 13 = .ok (.ifCond .eq 13, 3) := by decide +kernel
theorem dX12_loss_16 : decode cX12_loss 16 = .ok (.iload_n 3, 1) := by decide +kernel
theorem dX12_loss_17 : decode cX12_loss 17 = .ok (.iconst 1, 1) := by decide +kernel
theorem dX12_loss_18 : decode cX12_loss 18 = .ok (.bipush 9, 2) := by decide +kernel
theorem dX12_loss_20 : decode cX12_loss 20 = .ok (.invokestatic 146, 3) := by decide +kernel
theorem dX12_loss_23 : decode cX12_loss 23 = .ok (.ifCond .ne 5, 3) := by decide +kernel
theorem dX12_loss_26 : decode cX12_loss 26 = .ok (.iconst (-1), 1) := by decide +kernel
theorem dX12_loss_27 : decode cX12_loss 27 = .ok (.ireturn, 1) := by decide +kernel
theorem dX12_loss_28 : decode cX12_loss 28 = .ok (.iconst 0, 1) := by decide +kernel
theorem dX12_loss_29 : decode cX12_loss 29 = .ok (.istore 4, 2) := by decide +kernel
theorem dX12_loss_31 : decode cX12_loss 31 = .ok (.iconst 0, 1) := by decide +kernel
theorem dX12_loss_32 : decode cX12_loss 32 = .ok (.istore 5, 2) := by decide +kernel
theorem dX12_loss_34 : decode cX12_loss 34 = .ok (.iload 5, 2) := by decide +kernel
theorem dX12_loss_36 : decode cX12_loss 36 = .ok (.aload_n 0, 1) := by decide +kernel
theorem dX12_loss_37 : decode cX12_loss 37 = .ok (.getfield 211, 3) := by decide +kernel
theorem dX12_loss_40 : decode cX12_loss 40 = .ok (.if_icmp .ge 71, 3) := by decide +kernel
theorem dX12_loss_43 : decode cX12_loss 43 = .ok (.iconst 0, 1) := by decide +kernel
theorem dX12_loss_44 : decode cX12_loss 44 = .ok (.istore 6, 2) := by decide +kernel
theorem dX12_loss_46 : decode cX12_loss 46 = .ok (.iload 6, 2) := by decide +kernel
theorem dX12_loss_48 : decode cX12_loss 48 = .ok (.aload_n 0, 1) := by decide +kernel
theorem dX12_loss_49 : decode cX12_loss 49 = .ok (.getfield 214, 3) := by decide +kernel
theorem dX12_loss_52 : decode cX12_loss 52 = .ok (.if_icmp .ge 53, 3) := by decide +kernel
theorem dX12_loss_55 : decode cX12_loss 55 = .ok (.iload 4, 2) := by decide +kernel
theorem dX12_loss_57 : decode cX12_loss 57 = .ok (.aload_n 0, 1) := by decide +kernel
theorem dX12_loss_58 : decode cX12_loss 58 = .ok (.iload 5, 2) := by decide +kernel
theorem dX12_loss_60 : decode cX12_loss 60 = .ok (.iload 6, 2) := by decide +kernel
theorem dX12_loss_62 : decode cX12_loss 62 = .ok (.iload_n 3, 1) := by decide +kernel
theorem dX12_loss_63 : decode cX12_loss 63 = .ok (.invokevirtual 254, 3) := by decide +kernel
theorem dX12_loss_66 : decode cX12_loss 66 = .ok (.ifCond .eq 29, 3) := by decide +kernel
theorem dX12_loss_69 : decode cX12_loss 69 = .ok (.iload_n 3, 1) := by decide +kernel
theorem dX12_loss_70 : decode cX12_loss 70 = .ok (.aload_n 0, 1) := by decide +kernel
theorem dX12_loss_71 : decode cX12_loss 71 = .ok (.aload_n 0, 1) := by decide +kernel
theorem dX12_loss_72 : decode cX12_loss 72 = .ok (.iload 5, 2) := by decide +kernel
theorem dX12_loss_74 : decode cX12_loss 74 = .ok (.invokevirtual 244, 3) := by decide +kernel
theorem dX12_loss_77 : decode cX12_loss 77 = .ok (.iload_n 2, 1) := by decide +kernel
theorem dX12_loss_78 : decode cX12_loss 78 = .ok (.invokevirtual 247, 3) := by decide +kernel
theorem dX12_loss_81 : decode cX12_loss 81 = .ok (.imul, 1) := by decide +kernel
theorem dX12_loss_82 : decode cX12_loss 82 = .ok (.aload_n 0, 1) := by decide +kernel
theorem dX12_loss_83 : decode cX12_loss 83 = .ok (.iload 6, 2) := by decide +kernel
theorem dX12_loss_85 : decode cX12_loss 85 = .ok (.invokevirtual 229, 3) := by decide +kernel
theorem dX12_loss_88 : decode cX12_loss 88 = .ok (.if_icmp .ge 7, 3) := by decide +kernel
theorem dX12_loss_91 : decode cX12_loss 91 = .ok (.iconst 1, 1) := by decide +kernel
theorem dX12_loss_92 : decode cX12_loss 92 = .ok (.goto 4, 3) := by decide +kernel
theorem dX12_loss_95 : decode cX12_loss 95 = .ok (.iconst 0, 1) := by decide +kernel
theorem dX12_loss_96 : decode cX12_loss 96 = .ok (.iadd, 1) := by decide +kernel
theorem dX12_loss_97 : decode cX12_loss 97 = .ok (.istore 4, 2) := by decide +kernel
theorem dX12_loss_99 : decode cX12_loss 99 = .ok (.iinc 6 1, 3) := by decide +kernel
theorem dX12_loss_102 : decode cX12_loss 102 = .ok (.goto (-56), 3) := by decide +kernel
theorem dX12_loss_105 : decode cX12_loss 105 = .ok (.iinc 5 1, 3) := by decide +kernel
theorem dX12_loss_108 : decode cX12_loss 108 = .ok (.goto (-74), 3) := by decide +kernel
theorem dX12_loss_111 : decode cX12_loss 111 = .ok (.iload 4, 2) := by decide +kernel
theorem dX12_loss_113 : decode cX12_loss 113 = .ok (.ireturn, 1) := by decide +kernel
theorem dX12_isLife_0 : decode cX12_isLife 0 = .ok (.aload_n 0, 1) := by decide +kernel
theorem dX12_isLife_1 : decode cX12_isLife 1 = .ok (.iconst 1, 1) := by decide +kernel
theorem dX12_isLife_2 : decode cX12_isLife 2 = .ok (.iload_n 1, 1) := by decide +kernel
theorem dX12_isLife_3 : decode cX12_isLife 3 = .ok (.invokevirtual 186, 3) := by decide +kernel
theorem dX12_isLife_6 : decode cX12_isLife 6 = .ok (.ifCond .ne 5, 3) := by decide +kernel
theorem dX12_isLife_9 : decode cX12_isLife 9 = .ok (.iconst 0, 1) := by decide +kernel
theorem dX12_isLife_10 : decode cX12_isLife 10 = .ok (.ireturn, 1) := by decide +kernel
theorem dX12_isLife_11 : decode cX12_isLife 11 = .ok (.aload_n 0, 1) := by decide +kernel
theorem dX12_isLife_12 : decode cX12_isLife 12 = .ok (.iconst 1, 1) := by decide +kernel
theorem dX12_isLife_13 : decode cX12_isLife 13 = .ok (.iload_n 1, 1) := by decide +kernel
theorem dX12_isLife_14 : decode cX12_isLife 14 = .ok (.invokestatic 205, 3) := by decide +kernel
theorem dX12_isLife_17 : decode cX12_isLife 17 = .ok (.putfield 377, 3) := by decide +kernel
theorem dX12_isLife_20 : decode cX12_isLife 20 = .ok (.iconst 1, 1) := by decide +kernel
theorem dX12_isLife_21 : decode cX12_isLife 21 = .ok (.ireturn, 1) := by decide +kernel
theorem dX12_deed_0 : decode cX12_deed 0 = .ok (.aload_n 0, 1) := by decide +kernel
theorem dX12_deed_1 : decode cX12_deed 1 = .ok (.iload_n 1, 1) := by decide +kernel
theorem dX12_deed_2 : decode cX12_deed 2 = .ok (.invokevirtual 380, 3) := by decide +kernel
theorem dX12_deed_5 : decode cX12_deed 5 = .ok (.ifCond .ne 6, 3) := by decide +kernel
theorem dX12_deed_8 : decode cX12_deed 8 = .ok (.bipush (-2), 2) := by decide +kernel
theorem dX12_deed_10 : decode cX12_deed 10 = .ok (.ireturn, 1) := by decide +kernel
theorem dX12_deed_11 : decode cX12_deed 11 = .ok (.iload_n 2, 1) := by decide +kernel
theorem dX12_deed_12 : decode cX12_deed 12 = .ok (.iconst (-1), 1) := by decide +kernel
theorem dX12_deed_13 : decode cX12_deed 13 = .ok (.if_icmp .ne 22, 3) := by decide +kernel
theorem dX12_deed_16 : decode cX12_deed 16 = .ok (.iload_n 3, 1) := by decide +kernel
theorem dX12_deed_17 : decode cX12_deed 17 = .ok (.ifCond .ne 15, 3) := by decide +kernel
theorem dX12_deed_20 : decode cX12_deed 20 = .ok (.aload_n 0, 1) := by decide +kernel
theorem dX12_deed_21 : decode cX12_deed 21 = .ok (.getfield 7, 3) := by decide +kernel
theorem dX12_deed_24 : decode cX12_deed 24 = .ok (.aload_n 0, 1) := by decide +kernel
theorem dX12_deed_25 : decode cX12_deed 25 = .ok (.getfield 377, 3) := by decide +kernel
theorem dX12_deed_28 : decode cX12_deed 28 = .ok (.iaload, 1) := by decide +kernel
theorem dX12_deed_29 : decode cX12_deed 29 = .ok (.goto 5, 3) := by decide +kernel
theorem dX12_deed_32 : decode cX12_deed 32 = .ok (.bipush (-2), 2) := by decide +kernel
theorem dX12_deed_34 : decode cX12_deed 34 = .ok (.ireturn, 1) := by decide +kernel
theorem dX12_deed_35 : decode cX12_deed 35 = .ok (.iload_n 2, 1) := by decide +kernel
theorem dX12_deed_36 : decode cX12_deed 36 = .ok (.iconst 0, 1) := by decide +kernel
theorem dX12_deed_37 : decode cX12_deed 37 = .ok (.aload_n 0, 1) := by decide +kernel
theorem dX12_deed_38 : decode cX12_deed 38 = .ok (.getfield 7, 3) := by decide +kernel
theorem dX12_deed_41 : decode cX12_deed 41 = .ok (.aload_n 0, 1) := by decide +kernel
theorem dX12_deed_42 : decode cX12_deed 42 = .ok (.getfield 377, 3) := by decide +kernel
theorem dX12_deed_45 : decode cX12_deed 45 = .ok (.iaload, 1) := by decide +kernel
theorem dX12_deed_46 : decode cX12_deed 46 = .ok (.iconst 1, 1) := by decide +kernel
theorem dX12_deed_47 : decode cX12_deed 47 = .ok (.isub, 1) := by decide +kernel
theorem dX12_deed_48 : decode cX12_deed 48 = .ok (.invokestatic 146, 3) := by decide +kernel
theorem dX12_deed_51 : decode cX12_deed 51 = .ok (.ifCond .eq 32, 3) := by decide +kernel
theorem dX12_deed_54 : decode cX12_deed 54 = .ok (.iload_n 3, 1) := by decide +kernel
theorem dX12_deed_55 : decode cX12_deed 55 = .ok (.iconst 0, 1) := by decide +kernel
theorem dX12_deed_56 : decode cX12_deed 56 = .ok (.iconst 3, 1) := by decide +kernel
theorem dX12_deed_57 : decode cX12_deed 57 = .ok (.invokestatic 146, 3) := by decide +kernel
theorem dX12_deed_60 : decode cX12_deed 60 = .ok (.ifCond .eq 23, 3) := by decide +kernel
theorem dX12_deed_63 : decode cX12_deed 63 = .ok (.aload_n 0, 1) := by decide +kernel
theorem dX12_deed_64 : decode cX12_deed 64 = .ok (.getfield 7, 3) := by decide +kernel
theorem dX12_deed_67 : decode cX12_deed 67 = .ok (.aload_n 0, 1) := by decide +kernel
theorem dX12_deed_68 : decode cX12_deed 68 = .ok (.getfield 377, 3) := by decide +kernel
theorem dX12_deed_71 : decode cX12_deed 71 = .ok (.iconst 1, 1) := by decide +kernel
theorem dX12_deed_72 : decode cX12_deed 72 = .ok (.iadd, 1) := by decide +kernel
theorem dX12_deed_73 : decode cX12_deed 73 = .ok (.iconst 4, 1) := by decide +kernel
theorem dX12_deed_74 : decode cX12_deed 74 = .ok (.iload_n 2, 1) := by decide +kernel
theorem dX12_deed_75 : decode cX12_deed 75 = .ok (.imul, 1) := by decide +kernel
theorem dX12_deed_76 : decode cX12_deed 76 = .ok (.iadd, 1) := by decide +kernel
theorem dX12_deed_77 : decode cX12_deed 77 = .ok (.iload_n 3, 1) := by decide +kernel
theorem dX12_deed_78 : decode cX12_deed 78 = .ok (.iadd, 1) := by decide +kernel
theorem dX12_deed_79 : decode cX12_deed 79 = .ok (.iaload, 1) := by decide +kernel
theorem dX12_deed_80 : decode cX12_deed 80 = .ok (.goto 5, 3) := by decide +kernel
theorem dX12_deed_83 : decode cX12_deed 83 = .ok (.bipush (-2), 2) := by decide +kernel
theorem dX12_deed_85 : decode cX12_deed 85 = .ok (.ireturn, 1) := by decide +kernel
theorem dX12_begins_0 : decode cX12_begins 0 = .ok (.aload_n 0, 1) := by decide +kernel
theorem dX12_begins_1 : decode cX12_begins 1 = .ok (.iconst 0, 1) := by decide +kernel
theorem dX12_begins_2 : decode cX12_begins 2 = .ok (.putfield 383, 3) := by decide +kernel
theorem dX12_begins_5 : decode cX12_begins 5 = .ok (.aload_n 0, 1) := by decide +kernel
theorem dX12_begins_6 : decode cX12_begins 6 = .ok (.aload_n 0, 1) := by decide +kernel
theorem dX12_begins_7 : decode cX12_begins 7 = .ok (.getfield 211, 3) := by decide +kernel
theorem dX12_begins_10 : decode cX12_begins 10 = .ok (.putfield 386, 3) := by decide +kernel
theorem dX12_begins_13 : decode cX12_begins 13 = .ok (.aload_n 0, 1) := by decide +kernel
theorem dX12_begins_14 : decode cX12_begins 14 = .ok (.iconst 1, 1) := by decide +kernel
theorem dX12_begins_15 : decode cX12_begins 15 = .ok (.aload_n 0, 1) := by decide +kernel
theorem dX12_begins_16 : decode cX12_begins 16 = .ok (.getfield 211, 3) := by decide +kernel
theorem dX12_begins_19 : decode cX12_begins 19 = .ok (.ishl, 1) := by decide +kernel
theorem dX12_begins_20 : decode cX12_begins 20 = .ok (.iconst 1, 1) := by decide +kernel
theorem dX12_begins_21 : decode cX12_begins 21 = .ok (.isub, 1) := by decide +kernel
theorem dX12_begins_22 : decode cX12_begins 22 = .ok (.putfield 389, 3) := by decide +kernel
theorem dX12_begins_25 : decode cX12_begins 25 = .ok (.aload_n 0, 1) := by decide +kernel
theorem dX12_begins_26 : decode cX12_begins 26 = .ok (.iconst 0, 1) := by decide +kernel
theorem dX12_begins_27 : decode cX12_begins 27 = .ok (.putfield 392, 3) := by decide +kernel
theorem dX12_begins_30 : decode cX12_begins 30 = .ok (.aload_n 0, 1) := by decide +kernel
theorem dX12_begins_31 : decode cX12_begins 31 = .ok (.iconst 0, 1) := by decide +kernel
theorem dX12_begins_32 : decode cX12_begins 32 = .ok (.putfield 395, 3) := by decide +kernel
theorem dX12_begins_35 : decode cX12_begins 35 = .ok (.aload_n 0, 1) := by decide +kernel
theorem dX12_begins_36 : decode cX12_begins 36 = .ok (.iconst 0, 1) := by decide +kernel
theorem dX12_begins_37 : decode cX12_begins 37 = .ok (.putfield 398, 3) := by decide +kernel
theorem dX12_begins_40 : decode cX12_begins 40 = .ok (.aload_n 0, 1) := by decide +kernel
theorem dX12_begins_41 : decode cX12_begins 41 = .ok (.iconst 0, 1) := by decide +kernel
theorem dX12_begins_42 : decode cX12_begins 42 = .ok (.putfield 401, 3) := by decide +kernel
theorem dX12_begins_45 : decode cX12_begins 45 = .ok (.iconst 0, 1) := by decide +kernel
theorem dX12_begins_46 : decode cX12_begins 46 = .ok (.istore_n 1, 1) := by decide +kernel
theorem dX12_begins_47 : decode cX12_begins 47 = .ok (.iload_n 1, 1) := by decide +kernel
theorem dX12_begins_48 : decode cX12_begins 48 = .ok (.bipush 10, 2) := by decide +kernel
theorem dX12_begins_50 : decode cX12_begins 50 = .ok (.if_icmp .ge 115, 3) := by decide +kernel
theorem dX12_begins_53 : decode cX12_begins 53 = .ok (.aload_n 0, 1) := by decide +kernel
theorem dX12_begins_54 : decode cX12_begins 54 = .ok (.getfield 55, 3) := by decide +kernel
theorem dX12_begins_57 : decode cX12_begins 57 = .ok (.iload_n 1, 1) := by decide +kernel
theorem dX12_begins_58 : decode cX12_begins 58 = .ok (.iload_n 1, 1) := by decide +kernel
theorem dX12_begins_59 : decode cX12_begins 59 = .ok (.aload_n 0, 1) := by decide +kernel
theorem dX12_begins_60 : decode cX12_begins 60 = .ok (.getfield 211, 3) := by decide +kernel
theorem dX12_begins_63 : decode cX12_begins 63 = .ok (.if_icmp .ge 11, 3) := by decide +kernel
theorem dX12_begins_66 : decode cX12_begins 66 = .ok (.aload_n 0, 1) := by decide +kernel
theorem dX12_begins_67 : decode cX12_begins 67 = .ok (.iload_n 1, 1) := by decide +kernel
theorem dX12_begins_68 : decode cX12_begins 68 = .ok (.invokevirtual 217, 3) := by decide +kernel
theorem dX12_begins_71 : decode cX12_begins 71 = .ok (.goto 4, 3) := by decide +kernel
theorem dX12_begins_74 : decode cX12_begins 74 = .ok (.iconst 0, 1) := by decide +kernel
theorem dX12_begins_75 : decode cX12_begins 75 = .ok (.iastore, 1) := by decide +kernel
theorem dX12_begins_76 : decode cX12_begins 76 = .ok (.aload_n 0, 1) := by decide +kernel
theorem dX12_begins_77 : decode cX12_begins 77 = .ok (.getfield 58, 3) := by decide +kernel
theorem dX12_begins_80 : decode cX12_begins 80 = .ok (.iload_n 1, 1) := by decide +kernel
theorem dX12_begins_81 : decode cX12_begins 81 = .ok (.iload_n 1, 1) := by decide +kernel
theorem dX12_begins_82 : decode cX12_begins 82 = .ok (.aload_n 0, 1) := by decide +kernel
theorem dX12_begins_83 : decode cX12_begins 83 = .ok (.getfield 211, 3) := by decide +kernel
theorem dX12_begins_86 : decode cX12_begins 86 = .ok (.if_icmp .ge 11, 3) := by decide +kernel
theorem dX12_begins_89 : decode cX12_begins 89 = .ok (.aload_n 0, 1) := by decide +kernel
theorem dX12_begins_90 : decode cX12_begins 90 = .ok (.iload_n 1, 1) := by decide +kernel
theorem dX12_begins_91 : decode cX12_begins 91 = .ok (.invokevirtual 238, 3) := by decide +kernel
theorem dX12_begins_94 : decode cX12_begins 94 = .ok (.goto 4, 3) := by decide +kernel
theorem dX12_begins_97 : decode cX12_begins 97 = .ok (.iconst 0, 1) := by decide +kernel
theorem dX12_begins_98 : decode cX12_begins 98 = .ok (.iastore, 1) := by decide +kernel
theorem dX12_begins_99 : decode cX12_begins 99 = .ok (.aload_n 0, 1) := by decide +kernel
theorem dX12_begins_100 : decode cX12_begins 100 = .ok (.getfield 61, 3) := by decide +kernel
theorem dX12_begins_103 : decode cX12_begins 103 = .ok (.iload_n 1, 1) := by decide +kernel
theorem dX12_begins_104 : decode cX12_begins 104 = .ok (.iload_n 1, 1) := by decide +kernel
theorem dX12_begins_105 : decode cX12_begins 105 = .ok (.aload_n 0, 1) := by decide +kernel
theorem dX12_begins_106 : decode cX12_begins 106 = .ok (.getfield 211, 3) := by decide +kernel
theorem dX12_begins_109 : decode cX12_begins 109 = .ok (.if_icmp .ge 11, 3) := by decide +kernel
theorem dX12_begins_112 : decode cX12_begins 112 = .ok (.aload_n 0, 1) := by decide +kernel
theorem dX12_begins_113 : decode cX12_begins 113 = .ok (.iload_n 1, 1) := by decide +kernel
theorem dX12_begins_114 : decode cX12_begins 114 = .ok (.invokevirtual 319, 3) := by decide +kernel
theorem dX12_begins_117 : decode cX12_begins 117 = .ok (.goto 4, 3) := by decide +kernel
theorem dX12_begins_120 : decode cX12_begins 120 = .ok (.iconst 0, 1) := by decide +kernel
theorem dX12_begins_121 : decode cX12_begins 121 = .ok (.iastore, 1) := by decide +kernel
theorem dX12_begins_122 : decode cX12_begins 122 = .ok (.aload_n 0, 1) := by decide +kernel
theorem dX12_begins_123 : decode cX12_begins 123 = .ok (.getfield 64, 3) := by decide +kernel
theorem dX12_begins_126 : decode cX12_begins 126 = .ok (.iload_n 1, 1) := by decide +kernel
theorem dX12_begins_127 : decode cX12_begins 127 = .ok (.iload_n 1, 1) := by decide +kernel
theorem dX12_begins_128 : decode cX12_begins 128 = .ok (.aload_n 0, 1) := by decide +kernel
theorem dX12_begins_129 : decode cX12_begins 129 = .ok (.getfield 211, 3) := by decide +kernel
theorem dX12_begins_132 : decode cX12_begins 132 = .ok (.if_icmp .ge 11, 3) := by decide +kernel
theorem dX12_begins_135 : decode cX12_begins 135 = .ok (.aload_n 0, 1) := by decide +kernel
theorem dX12_begins_136 : decode cX12_begins 136 = .ok (.iload_n 1, 1) := by decide +kernel
theorem dX12_begins_137 : decode cX12_begins 137 = .ok (.invokevirtual 244, 3) := by decide +kernel
theorem dX12_begins_140 : decode cX12_begins 140 = .ok (.goto 4, 3) := by decide +kernel
theorem dX12_begins_143 : decode cX12_begins 143 = .ok (.iconst 0, 1) := by decide +kernel
theorem dX12_begins_144 : decode cX12_begins 144 = .ok (.iastore, 1) := by decide +kernel
theorem dX12_begins_145 : decode cX12_begins 145 = .ok (.aload_n 0, 1) := by decide +kernel
theorem dX12_begins_146 : decode cX12_begins 146 = .ok (.getfield 67, 3) := by decide +kernel
theorem dX12_begins_149 : decode cX12_begins 149 = .ok (.iload_n 1, 1) := by decide +kernel
theorem dX12_begins_150 : decode cX12_begins 150 = .ok (.iconst 0, 1) := by decide +kernel
theorem dX12_begins_151 : decode cX12_begins 151 = .ok (.iastore, 1) := by decide +kernel
theorem dX12_begins_152 : decode cX12_begins 152 = .ok (.aload_n 0, 1) := by decide +kernel
theorem dX12_begins_153 : decode cX12_begins 153 = .ok (.getfield 70, 3) := by decide +kernel
theorem dX12_begins_156 : decode cX12_begins 156 = .ok (.iload_n 1, 1) := by decide +kernel
theorem dX12_begins_157 : decode cX12_begins 157 = .ok (.iconst 0, 1) := by decide +kernel
theorem dX12_begins_158 : decode cX12_begins 158 = .ok (.iastore, 1) := by decide +kernel
theorem dX12_begins_159 : decode cX12_begins 159 = .ok (.iinc 1 1, 3) := by decide +kernel
theorem dX12_begins_162 : decode cX12_begins 162 = .ok (.goto (-115), 3) := by decide +kernel
theorem dX12_begins_165 : decode cX12_begins 165 = .ok (.iconst 0, 1) := by decide +kernel
theorem dX12_begins_166 : decode cX12_begins 166 = .ok (.istore_n 1, 1) := by decide +kernel
theorem dX12_begins_167 : decode cX12_begins 167 = .ok (.iload_n 1, 1) := by decide +kernel
theorem dX12_begins_168 : decode cX12_begins 168 = .ok (.bipush 6, 2) := by decide +kernel
theorem dX12_begins_170 : decode cX12_begins 170 = .ok (.if_icmp .ge 16, 3) := by decide +kernel
theorem dX12_begins_173 : decode cX12_begins 173 = .ok (.aload_n 0, 1) := by decide +kernel
theorem dX12_begins_174 : decode cX12_begins 174 = .ok (.getfield 73, 3) := by decide +kernel
theorem dX12_begins_177 : decode cX12_begins 177 = .ok (.iload_n 1, 1) := by decide +kernel
theorem dX12_begins_178 : decode cX12_begins 178 = .ok (.iconst 0, 1) := by decide +kernel
theorem dX12_begins_179 : decode cX12_begins 179 = .ok (.iastore, 1) := by decide +kernel
theorem dX12_begins_180 : decode cX12_begins 180 = .ok (.iinc 1 1, 3) := by decide +kernel
theorem dX12_begins_183 : decode cX12_begins 183 = .ok (.goto (-16), 3) := by decide +kernel
theorem dX12_begins_186 : decode cX12_begins 186 = .ok (.return_, 1) := by decide +kernel
theorem dX12_lives_0 : decode cX12_lives 0 = .ok (.iload_n 1, 1) := by decide +kernel
theorem dX12_lives_1 : decode cX12_lives 1 = .ok (.iconst 0, 1) := by decide +kernel
theorem dX12_lives_2 : decode cX12_lives 2 = .ok (.aload_n 0, 1) := by decide +kernel
theorem dX12_lives_3 : decode cX12_lives 3 = .ok (.getfield 386, 3) := by decide +kernel
theorem dX12_lives_6 : decode cX12_lives 6 = .ok (.iconst 1, 1) := by decide +kernel
theorem dX12_lives_7 : decode cX12_lives 7 = .ok (.isub, 1) := by decide +kernel
theorem dX12_lives_8 : decode cX12_lives 8 = .ok (.invokestatic 146, 3) := by decide +kernel
theorem dX12_lives_11 : decode cX12_lives 11 = .ok (.ifCond .eq 18, 3) := by decide +kernel
theorem dX12_lives_14 : decode cX12_lives 14 = .ok (.aload_n 0, 1) := by decide +kernel
theorem dX12_lives_15 : decode cX12_lives 15 = .ok (.getfield 389, 3) := by decide +kernel
theorem dX12_lives_18 : decode cX12_lives 18 = .ok (.iload_n 1, 1) := by decide +kernel
theorem dX12_lives_19 : decode cX12_lives 19 = .ok (.invokestatic 235, 3) := by decide +kernel
theorem dX12_lives_22 : decode cX12_lives 22 = .ok (.ifCond .eq 7, 3) := by decide +kernel
theorem dX12_lives_25 : decode cX12_lives 25 = .ok (.iconst 1, 1) := by decide +kernel
theorem dX12_lives_26 : decode cX12_lives 26 = .ok (.goto 4, 3) := by decide +kernel
theorem dX12_lives_29 : decode cX12_lives 29 = .ok (.iconst 0, 1) := by decide +kernel
theorem dX12_lives_30 : decode cX12_lives 30 = .ok (.ireturn, 1) := by decide +kernel
theorem dX12_isDone_0 : decode cX12_isDone 0 = .ok (.aload_n 0, 1) := by decide +kernel
theorem dX12_isDone_1 : decode cX12_isDone 1 = .ok (.getfield 73, 3) := by decide +kernel
theorem dX12_isDone_4 : decode cX12_isDone 4 = .ok (.iload_n 1, 1) := by decide +kernel
theorem dX12_isDone_5 : decode cX12_isDone 5 = .ok (.iaload, 1) := by decide +kernel
theorem dX12_isDone_6 : decode cX12_isDone 6 = .ok (.aload_n 0, 1) := by decide +kernel
theorem dX12_isDone_7 : decode cX12_isDone 7 = .ok (.iload_n 1, 1) := by decide +kernel
theorem dX12_isDone_8 : decode cX12_isDone 8 = .ok (.invokevirtual 229, 3) := by decide +kernel
theorem dX12_isDone_11 : decode cX12_isDone 11 = .ok (.if_icmp .ne 7, 3) := by decide +kernel
theorem dX12_isDone_14 : decode cX12_isDone 14 = .ok (.iconst 1, 1) := by decide +kernel
theorem dX12_isDone_15 : decode cX12_isDone 15 = .ok (.goto 4, 3) := by decide +kernel
theorem dX12_isDone_18 : decode cX12_isDone 18 = .ok (.iconst 0, 1) := by decide +kernel
theorem dX12_isDone_19 : decode cX12_isDone 19 = .ok (.ireturn, 1) := by decide +kernel
theorem dX12_promises_0 : decode cX12_promises 0 = .ok (.aload_n 0, 1) := by decide +kernel
theorem dX12_promises_1 : decode cX12_promises 1 = .ok (.iload_n 1, 1) := by decide +kernel
theorem dX12_promises_2 : decode cX12_promises 2 = .ok (.invokevirtual 404, 3) := by decide +kernel
theorem dX12_promises_5 : decode cX12_promises 5 = .ok (.ifCond .eq 50, 3) := by decide +kernel
theorem dX12_promises_8 : decode cX12_promises 8 = .ok (.aload_n 0, 1) := by decide +kernel
theorem dX12_promises_9 : decode cX12_promises 9 = .ok (.getfield 55, 3) := by decide +kernel
theorem dX12_promises_12 : decode cX12_promises 12 = .ok (.iload_n 1, 1) := by decide +kernel
theorem dX12_promises_13 : decode cX12_promises 13 = .ok (.iaload, 1) := by decide +kernel
theorem dX12_promises_14 : decode cX12_promises 14 = .ok (.bipush 10, 2) := by decide +kernel
theorem dX12_promises_16 : decode cX12_promises 16 = .ok (.if_icmp .ge 39, 3) := by decide +kernel
theorem dX12_promises_19 : decode cX12_promises 19 = .ok (.aload_n 0, 1) := by decide +kernel
theorem dX12_promises_20 : decode cX12_promises 20 = .ok (.getfield 392, 3) := by decide +kernel
theorem dX12_promises_23 : decode cX12_promises 23 = .ok (.iload_n 1, 1) := by decide +kernel
theorem dX12_promises_24 : decode cX12_promises 24 = .ok (.invokestatic 235, 3) := by decide +kernel
theorem dX12_promises_27 : decode cX12_promises 27 = .ok (.ifCond .ne 28, 3) := by decide +kernel
theorem dX12_promises_30 : decode cX12_promises 30 = .ok (.aload_n 0, 1) := by decide +kernel
theorem dX12_promises_31 : decode cX12_promises 31 = .ok (.iload_n 2, 1) := by decide +kernel
theorem dX12_promises_32 : decode cX12_promises 32 = .ok (.invokevirtual 226, 3) := by decide +kernel
theorem dX12_promises_35 : decode cX12_promises 35 = .ok (.ifCond .eq 20, 3) := by decide +kernel
theorem dX12_promises_38 : decode cX12_promises 38 = .ok (.aload_n 0, 1) := by decide +kernel
theorem dX12_promises_39 : decode cX12_promises 39 = .ok (.iload_n 2, 1) := by decide +kernel
theorem dX12_promises_40 : decode cX12_promises 40 = .ok (.invokevirtual 407, 3) := by decide +kernel
theorem dX12_promises_43 : decode cX12_promises 43 = .ok (.ifCond .ne 12, 3) := by decide +kernel
theorem dX12_promises_46 : decode cX12_promises 46 = .ok (.aload_n 0, 1) := by decide +kernel
theorem dX12_promises_47 : decode cX12_promises 47 = .ok (.getfield 398, 3) := by decide +kernel
theorem dX12_promises_50 : decode cX12_promises 50 = .ok (.bipush 12, 2) := by decide +kernel
theorem dX12_promises_52 : decode cX12_promises 52 = .ok (.if_icmp .ne 5, 3) := by decide +kernel
theorem dX12_promises_55 : decode cX12_promises 55 = .ok (.iconst 0, 1) := by decide +kernel
theorem dX12_promises_56 : decode cX12_promises 56 = .ok (.ireturn, 1) := by decide +kernel
theorem dX12_promises_57 : decode cX12_promises 57 = .ok (.aload_n 0, 1) := by decide +kernel
theorem dX12_promises_58 : decode cX12_promises 58 = .ok (.getfield 76, 3) := by decide +kernel
theorem dX12_promises_61 : decode cX12_promises 61 = .ok (.aload_n 0, 1) := by decide +kernel
theorem dX12_promises_62 : decode cX12_promises 62 = .ok (.getfield 398, 3) := by decide +kernel
theorem dX12_promises_65 : decode cX12_promises 65 = .ok (.iload_n 1, 1) := by decide +kernel
theorem dX12_promises_66 : decode cX12_promises 66 = .ok (.iastore, 1) := by decide +kernel
theorem dX12_promises_67 : decode cX12_promises 67 = .ok (.aload_n 0, 1) := by decide +kernel
theorem dX12_promises_68 : decode cX12_promises 68 = .ok (.getfield 79, 3) := by decide +kernel
theorem dX12_promises_71 : decode cX12_promises 71 = .ok (.aload_n 0, 1) := by decide +kernel
theorem dX12_promises_72 : decode cX12_promises 72 = .ok (.getfield 398, 3) := by decide +kernel
theorem dX12_promises_75 : decode cX12_promises 75 = .ok (.iload_n 2, 1) := by decide +kernel
theorem dX12_promises_76 : decode cX12_promises 76 = .ok (.iastore, 1) := by decide +kernel
theorem dX12_promises_77 : decode cX12_promises 77 = .ok (.aload_n 0, 1) := by decide +kernel
theorem dX12_promises_78 : decode cX12_promises 78 = .ok (.getfield 82, 3) := by decide +kernel
theorem dX12_promises_81 : decode cX12_promises 81 = .ok (.aload_n 0, 1) := by decide +kernel
theorem dX12_promises_82 : decode cX12_promises 82 = .ok (.getfield 398, 3) := by decide +kernel
theorem dX12_promises_85 : decode cX12_promises 85 = .ok (.aload_n 0, 1) := by decide +kernel
theorem dX12_promises_86 : decode cX12_promises 86 = .ok (.getfield 383, 3) := by decide +kernel
theorem dX12_promises_89 : decode cX12_promises 89 = .ok (.iload_n 3, 1) := by decide +kernel
theorem dX12_promises_90 : decode cX12_promises 90 = .ok (.iadd, 1) := by decide +kernel
theorem dX12_promises_91 : decode cX12_promises 91 = .ok (.iastore, 1) := by decide +kernel
theorem dX12_promises_92 : decode cX12_promises 92 = .ok (.aload_n 0, 1) := by decide +kernel
theorem dX12_promises_93 : decode cX12_promises 93 = .ok (.getfield 85, 3) := by decide +kernel
theorem dX12_promises_96 : decode cX12_promises 96 = .ok (.aload_n 0, 1) := by decide +kernel
theorem dX12_promises_97 : decode cX12_promises 97 = .ok (.getfield 398, 3) := by decide +kernel
theorem dX12_promises_100 : decode cX12_promises 100 = .ok (.aload_n 0, 1) := by decide +kernel
theorem dX12_promises_101 : decode cX12_promises 101 = .ok (.getfield 64, 3) := by decide +kernel
theorem dX12_promises_104 : decode cX12_promises 104 = .ok (.iload_n 1, 1) := by decide +kernel
theorem dX12_promises_105 : decode cX12_promises 105 = .ok (.iaload, 1) := by decide +kernel
theorem dX12_promises_106 : decode cX12_promises 106 = .ok (.aload_n 0, 1) := by decide +kernel
theorem dX12_promises_107 : decode cX12_promises 107 = .ok (.getfield 389, 3) := by decide +kernel
theorem dX12_promises_110 : decode cX12_promises 110 = .ok (.iand, 1) := by decide +kernel
theorem dX12_promises_111 : decode cX12_promises 111 = .ok (.ifCond .ne 7, 3) := by decide +kernel
theorem dX12_promises_114 : decode cX12_promises 114 = .ok (.iconst 4, 1) := by decide +kernel
theorem dX12_promises_115 : decode cX12_promises 115 = .ok (.goto 4, 3) := by decide +kernel
theorem dX12_promises_118 : decode cX12_promises 118 = .ok (.iconst 0, 1) := by decide +kernel
theorem dX12_promises_119 : decode cX12_promises 119 = .ok (.iastore, 1) := by decide +kernel
theorem dX12_promises_120 : decode cX12_promises 120 = .ok (.aload_n 0, 1) := by decide +kernel
theorem dX12_promises_121 : decode cX12_promises 121 = .ok (.dup, 1) := by decide +kernel
theorem dX12_promises_122 : decode cX12_promises 122 = .ok (.getfield 398, 3) := by decide +kernel
theorem dX12_promises_125 : decode cX12_promises 125 = .ok (.iconst 1, 1) := by decide +kernel
theorem dX12_promises_126 : decode cX12_promises 126 = .ok (.iadd, 1) := by decide +kernel
theorem dX12_promises_127 : decode cX12_promises 127 = .ok (.putfield 398, 3) := by decide +kernel
theorem dX12_promises_130 : decode cX12_promises 130 = .ok (.aload_n 0, 1) := by decide +kernel
theorem dX12_promises_131 : decode cX12_promises 131 = .ok (.getfield 70, 3) := by decide +kernel
theorem dX12_promises_134 : decode cX12_promises 134 = .ok (.iload_n 1, 1) := by decide +kernel
theorem dX12_promises_135 : decode cX12_promises 135 = .ok (.dup2, 1) := by decide +kernel
theorem dX12_promises_136 : decode cX12_promises 136 = .ok (.iaload, 1) := by decide +kernel
theorem dX12_promises_137 : decode cX12_promises 137 = .ok (.iconst 1, 1) := by decide +kernel
theorem dX12_promises_138 : decode cX12_promises 138 = .ok (.iadd, 1) := by decide +kernel
theorem dX12_promises_139 : decode cX12_promises 139 = .ok (.iastore, 1) := by decide +kernel
theorem dX12_promises_140 : decode cX12_promises 140 = .ok (.iconst 1, 1) := by decide +kernel
theorem dX12_promises_141 : decode cX12_promises 141 = .ok (.ireturn, 1) := by decide +kernel
theorem dX12_isBorn_0 : decode cX12_isBorn 0 = .ok (.aload_n 0, 1) := by decide +kernel
theorem dX12_isBorn_1 : decode cX12_isBorn 1 = .ok (.iload_n 1, 1) := by decide +kernel
theorem dX12_isBorn_2 : decode cX12_isBorn 2 = .ok (.invokevirtual 404, 3) := by decide +kernel
theorem dX12_isBorn_5 : decode cX12_isBorn 5 = .ok (.ifCond .eq 23, 3) := by decide +kernel
theorem dX12_isBorn_8 : decode cX12_isBorn 8 = .ok (.aload_n 0, 1) := by decide +kernel
theorem dX12_isBorn_9 : decode cX12_isBorn 9 = .ok (.getfield 55, 3) := by decide +kernel
theorem dX12_isBorn_12 : decode cX12_isBorn 12 = .ok (.iload_n 1, 1) := by decide +kernel
theorem dX12_isBorn_13 : decode cX12_isBorn 13 = .ok (.iaload, 1) := by decide +kernel
theorem dX12_isBorn_14 : decode cX12_isBorn 14 = .ok (.bipush 16, 2) := by decide +kernel
theorem dX12_isBorn_16 : decode cX12_isBorn 16 = .ok (.if_icmp .lt 12, 3) := by decide +kernel
theorem dX12_isBorn_19 : decode cX12_isBorn 19 = .ok (.aload_n 0, 1) := by decide +kernel
theorem dX12_isBorn_20 : decode cX12_isBorn 20 = .ok (.getfield 386, 3) := by decide +kernel
theorem dX12_isBorn_23 : decode cX12_isBorn 23 = .ok (.bipush 10, 2) := by decide +kernel
theorem dX12_isBorn_25 : decode cX12_isBorn 25 = .ok (.if_icmp .ne 5, 3) := by decide +kernel
theorem dX12_isBorn_28 : decode cX12_isBorn 28 = .ok (.iconst 0, 1) := by decide +kernel
theorem dX12_isBorn_29 : decode cX12_isBorn 29 = .ok (.ireturn, 1) := by decide +kernel
theorem dX12_isBorn_30 : decode cX12_isBorn 30 = .ok (.aload_n 0, 1) := by decide +kernel
theorem dX12_isBorn_31 : decode cX12_isBorn 31 = .ok (.getfield 55, 3) := by decide +kernel
theorem dX12_isBorn_34 : decode cX12_isBorn 34 = .ok (.aload_n 0, 1) := by decide +kernel
theorem dX12_isBorn_35 : decode cX12_isBorn 35 = .ok (.getfield 386, 3) := by decide +kernel
theorem dX12_isBorn_38 : decode cX12_isBorn 38 = .ok (.iconst 0, 1) := by decide +kernel
theorem dX12_isBorn_39 : decode cX12_isBorn 39 = .ok (.iastore, 1) := by decide +kernel
theorem dX12_isBorn_40 : decode cX12_isBorn 40 = .ok (.aload_n 0, 1) := by decide +kernel
theorem dX12_isBorn_41 : decode cX12_isBorn 41 = .ok (.getfield 58, 3) := by decide +kernel
theorem dX12_isBorn_44 : decode cX12_isBorn 44 = .ok (.aload_n 0, 1) := by decide +kernel
theorem dX12_isBorn_45 : decode cX12_isBorn 45 = .ok (.getfield 386, 3) := by decide +kernel
theorem dX12_isBorn_48 : decode cX12_isBorn 48 = .ok (.iload_n 2, 1) := by decide +kernel
theorem dX12_isBorn_49 : decode cX12_isBorn 49 = .ok (.iastore, 1) := by decide +kernel
theorem dX12_isBorn_50 : decode cX12_isBorn 50 = .ok (.aload_n 0, 1) := by decide +kernel
theorem dX12_isBorn_51 : decode cX12_isBorn 51 = .ok (.getfield 61, 3) := by decide +kernel
theorem dX12_isBorn_54 : decode cX12_isBorn 54 = .ok (.aload_n 0, 1) := by decide +kernel
theorem dX12_isBorn_55 : decode cX12_isBorn 55 = .ok (.getfield 386, 3) := by decide +kernel
theorem dX12_isBorn_58 : decode cX12_isBorn 58 = .ok (.iconst 1, 1) := by decide +kernel
theorem dX12_isBorn_59 : decode cX12_isBorn 59 = .ok (.iload_n 1, 1) := by decide +kernel
theorem dX12_isBorn_60 : decode cX12_isBorn 60 = .ok (.ishl, 1) := by decide +kernel
theorem dX12_isBorn_61 : decode cX12_isBorn 61 = .ok (.iastore, 1) := by decide +kernel
theorem dX12_isBorn_62 : decode cX12_isBorn 62 = .ok (.aload_n 0, 1) := by decide +kernel
theorem dX12_isBorn_63 : decode cX12_isBorn 63 = .ok (.getfield 64, 3) := by decide +kernel
theorem dX12_isBorn_66 : decode cX12_isBorn 66 = .ok (.aload_n 0, 1) := by decide +kernel
theorem dX12_isBorn_67 : decode cX12_isBorn 67 = .ok (.getfield 386, 3) := by decide +kernel
theorem dX12_isBorn_70 : decode cX12_isBorn 70 = .ok (.aload_n 0, 1) := by decide +kernel
theorem dX12_isBorn_71 : decode cX12_isBorn 71 = .ok (.getfield 61, 3) := by decide +kernel
theorem dX12_isBorn_74 : decode cX12_isBorn 74 = .ok (.iload_n 1, 1) := by decide +kernel
theorem dX12_isBorn_75 : decode cX12_isBorn 75 = .ok (.iaload, 1) := by decide +kernel
theorem dX12_isBorn_76 : decode cX12_isBorn 76 = .ok (.iastore, 1) := by decide +kernel
theorem dX12_isBorn_77 : decode cX12_isBorn 77 = .ok (.aload_n 0, 1) := by decide +kernel
theorem dX12_isBorn_78 : decode cX12_isBorn 78 = .ok (.dup, 1) := by decide +kernel
theorem dX12_isBorn_79 : decode cX12_isBorn 79 = .ok (.getfield 389, 3) := by decide +kernel
theorem dX12_isBorn_82 : decode cX12_isBorn 82 = .ok (.iconst 1, 1) := by decide +kernel
theorem dX12_isBorn_83 : decode cX12_isBorn 83 = .ok (.aload_n 0, 1) := by decide +kernel
theorem dX12_isBorn_84 : decode cX12_isBorn 84 = .ok (.getfield 386, 3) := by decide +kernel
theorem dX12_isBorn_87 : decode cX12_isBorn 87 = .ok (.ishl, 1) := by decide +kernel
theorem dX12_isBorn_88 : decode cX12_isBorn 88 = .ok (.ior, 1) := by decide +kernel
theorem dX12_isBorn_89 : decode cX12_isBorn 89 = .ok (.putfield 389, 3) := by decide +kernel
theorem dX12_isBorn_92 : decode cX12_isBorn 92 = .ok (.aload_n 0, 1) := by decide +kernel
theorem dX12_isBorn_93 : decode cX12_isBorn 93 = .ok (.dup, 1) := by decide +kernel
theorem dX12_isBorn_94 : decode cX12_isBorn 94 = .ok (.getfield 386, 3) := by decide +kernel
theorem dX12_isBorn_97 : decode cX12_isBorn 97 = .ok (.iconst 1, 1) := by decide +kernel
theorem dX12_isBorn_98 : decode cX12_isBorn 98 = .ok (.iadd, 1) := by decide +kernel
theorem dX12_isBorn_99 : decode cX12_isBorn 99 = .ok (.putfield 386, 3) := by decide +kernel
theorem dX12_isBorn_102 : decode cX12_isBorn 102 = .ok (.iconst 1, 1) := by decide +kernel
theorem dX12_isBorn_103 : decode cX12_isBorn 103 = .ok (.ireturn, 1) := by decide +kernel
theorem dX12_covers_0 : decode cX12_covers 0 = .ok (.aload_n 0, 1) := by decide +kernel
theorem dX12_covers_1 : decode cX12_covers 1 = .ok (.iload_n 1, 1) := by decide +kernel
theorem dX12_covers_2 : decode cX12_covers 2 = .ok (.invokevirtual 404, 3) := by decide +kernel
theorem dX12_covers_5 : decode cX12_covers 5 = .ok (.ifCond .eq 14, 3) := by decide +kernel
theorem dX12_covers_8 : decode cX12_covers 8 = .ok (.aload_n 0, 1) := by decide +kernel
theorem dX12_covers_9 : decode cX12_covers 9 = .ok (.getfield 55, 3) := by decide +kernel
theorem dX12_covers_12 : decode cX12_covers 12 = .ok (.iload_n 1, 1) := by decide +kernel
theorem dX12_covers_13 : decode cX12_covers 13 = .ok (.iaload, 1) := by decide +kernel
theorem dX12_covers_14 : decode cX12_covers 14 = .ok (.bipush 10, 2) := by decide +kernel
theorem dX12_covers_16 : decode cX12_covers 16 = .ok (.if_icmp .lt 5, 3) := by decide +kernel
theorem dX12_covers_19 : decode cX12_covers 19 = .ok (.iconst 0, 1) := by decide +kernel
theorem dX12_covers_20 : decode cX12_covers 20 = .ok (.ireturn, 1) := by decide +kernel
theorem dX12_covers_21 : decode cX12_covers 21 = .ok (.aload_n 0, 1) := by decide +kernel
theorem dX12_covers_22 : decode cX12_covers 22 = .ok (.dup, 1) := by decide +kernel
theorem dX12_covers_23 : decode cX12_covers 23 = .ok (.getfield 392, 3) := by decide +kernel
theorem dX12_covers_26 : decode cX12_covers 26 = .ok (.iconst 1, 1) := by decide +kernel
theorem dX12_covers_27 : decode cX12_covers 27 = .ok (.iload_n 1, 1) := by decide +kernel
theorem dX12_covers_28 : decode cX12_covers 28 = .ok (.ishl, 1) := by decide +kernel
theorem dX12_covers_29 : decode cX12_covers 29 = .ok (.ior, 1) := by decide +kernel
theorem dX12_covers_30 : decode cX12_covers 30 = .ok (.putfield 392, 3) := by decide +kernel
theorem dX12_covers_33 : decode cX12_covers 33 = .ok (.iconst 1, 1) := by decide +kernel
theorem dX12_covers_34 : decode cX12_covers 34 = .ok (.ireturn, 1) := by decide +kernel
theorem dX12_becomes_0 : decode cX12_becomes 0 = .ok (.iconst 0, 1) := by decide +kernel
theorem dX12_becomes_1 : decode cX12_becomes 1 = .ok (.istore 4, 2) := by decide +kernel
theorem dX12_becomes_3 : decode cX12_becomes 3 = .ok (.iload 4, 2) := by decide +kernel
theorem dX12_becomes_5 : decode cX12_becomes 5 = .ok (.aload_n 0, 1) := by decide +kernel
theorem dX12_becomes_6 : decode cX12_becomes 6 = .ok (.getfield 398, 3) := by decide +kernel
theorem dX12_becomes_9 : decode cX12_becomes 9 = .ok (.if_icmp .ge 81, 3) := by decide +kernel
theorem dX12_becomes_12 : decode cX12_becomes 12 = .ok (.aload_n 0, 1) := by decide +kernel
theorem dX12_becomes_13 : decode cX12_becomes 13 = .ok (.getfield 85, 3) := by decide +kernel
theorem dX12_becomes_16 : decode cX12_becomes 16 = .ok (.iload 4, 2) := by decide +kernel
theorem dX12_becomes_18 : decode cX12_becomes 18 = .ok (.iaload, 1) := by decide +kernel
theorem dX12_becomes_19 : decode cX12_becomes 19 = .ok (.ifCond .ne 65, 3) := by decide +kernel
theorem dX12_becomes_22 : decode cX12_becomes 22 = .ok (.iload_n 1, 1) := by decide +kernel
theorem dX12_becomes_23 : decode cX12_becomes 23 = .ok (.iconst (-1), 1) := by decide +kernel
theorem dX12_becomes_24 : decode cX12_becomes 24 = .ok (.if_icmp .eq 14, 3) := by decide +kernel
theorem dX12_becomes_27 : decode cX12_becomes 27 = .ok (.aload_n 0, 1) := by decide +kernel
theorem dX12_becomes_28 : decode cX12_becomes 28 = .ok (.getfield 76, 3) := by decide +kernel
theorem dX12_becomes_31 : decode cX12_becomes 31 = .ok (.iload 4, 2) := by decide +kernel
theorem dX12_becomes_33 : decode cX12_becomes 33 = .ok (.iaload, 1) := by decide +kernel
theorem dX12_becomes_34 : decode cX12_becomes 34 = .ok (.iload_n 1, 1) := by decide +kernel
theorem dX12_becomes_35 : decode cX12_becomes 35 = .ok (.if_icmp .ne 49, 3) := by decide +kernel
theorem dX12_becomes_38 : decode cX12_becomes 38 = .ok (.iload_n 2, 1) := by decide +kernel
theorem dX12_becomes_39 : decode cX12_becomes 39 = .ok (.iconst (-1), 1) := by decide +kernel
theorem dX12_becomes_40 : decode cX12_becomes 40 = .ok (.if_icmp .eq 17, 3) := by decide +kernel
theorem dX12_becomes_43 : decode cX12_becomes 43 = .ok (.aload_n 0, 1) := by decide +kernel
theorem dX12_becomes_44 : decode cX12_becomes 44 = .ok (.getfield 79, 3) := by decide +kernel
theorem dX12_becomes_47 : decode cX12_becomes 47 = .ok (.iload 4, 2) := by decide +kernel
theorem dX12_becomes_49 : decode cX12_becomes 49 = .ok (.iaload, 1) := by decide +kernel
theorem dX12_becomes_50 : decode cX12_becomes 50 = .ok (.iload_n 2, 1) := by decide +kernel
theorem dX12_becomes_51 : decode cX12_becomes 51 = .ok (.if_icmp .eq 6, 3) := by decide +kernel
theorem dX12_becomes_54 : decode cX12_becomes 54 = .ok (.goto 30, 3) := by decide +kernel
theorem dX12_becomes_57 : decode cX12_becomes 57 = .ok (.aload_n 0, 1) := by decide +kernel
theorem dX12_becomes_58 : decode cX12_becomes 58 = .ok (.getfield 85, 3) := by decide +kernel
theorem dX12_becomes_61 : decode cX12_becomes 61 = .ok (.iload 4, 2) := by decide +kernel
theorem dX12_becomes_63 : decode cX12_becomes 63 = .ok (.iload_n 3, 1) := by decide +kernel
theorem dX12_becomes_64 : decode cX12_becomes 64 = .ok (.iastore, 1) := by decide +kernel
theorem dX12_becomes_65 : decode cX12_becomes 65 = .ok (.aload_n 0, 1) := by decide +kernel
theorem dX12_becomes_66 : decode cX12_becomes 66 = .ok (.dup, 1) := by decide +kernel
theorem dX12_becomes_67 : decode cX12_becomes 67 = .ok (.getfield 401, 3) := by decide +kernel
theorem dX12_becomes_70 : decode cX12_becomes 70 = .ok (.iload_n 3, 1) := by decide +kernel
theorem dX12_becomes_71 : decode cX12_becomes 71 = .ok (.iconst 1, 1) := by decide +kernel
theorem dX12_becomes_72 : decode cX12_becomes 72 = .ok (.if_icmp .ne 7, 3) := by decide +kernel
theorem dX12_becomes_75 : decode cX12_becomes 75 = .ok (.iconst 1, 1) := by decide +kernel
theorem dX12_becomes_76 : decode cX12_becomes 76 = .ok (.goto 4, 3) := by decide +kernel
theorem dX12_becomes_79 : decode cX12_becomes 79 = .ok (.iconst 0, 1) := by decide +kernel
theorem dX12_becomes_80 : decode cX12_becomes 80 = .ok (.iadd, 1) := by decide +kernel
theorem dX12_becomes_81 : decode cX12_becomes 81 = .ok (.putfield 401, 3) := by decide +kernel
theorem dX12_becomes_84 : decode cX12_becomes 84 = .ok (.iinc 4 1, 3) := by decide +kernel
theorem dX12_becomes_87 : decode cX12_becomes 87 = .ok (.goto (-84), 3) := by decide +kernel
theorem dX12_becomes_90 : decode cX12_becomes 90 = .ok (.return_, 1) := by decide +kernel
theorem dX12_dies_0 : decode cX12_dies 0 = .ok (.aload_n 0, 1) := by decide +kernel
theorem dX12_dies_1 : decode cX12_dies 1 = .ok (.iload_n 1, 1) := by decide +kernel
theorem dX12_dies_2 : decode cX12_dies 2 = .ok (.invokevirtual 404, 3) := by decide +kernel
theorem dX12_dies_5 : decode cX12_dies 5 = .ok (.ifCond .ne 5, 3) := by decide +kernel
theorem dX12_dies_8 : decode cX12_dies 8 = .ok (.iconst 0, 1) := by decide +kernel
theorem dX12_dies_9 : decode cX12_dies 9 = .ok (.ireturn, 1) := by decide +kernel
theorem dX12_dies_10 : decode cX12_dies 10 = .ok (.aload_n 0, 1) := by decide +kernel
theorem dX12_dies_11 : decode cX12_dies 11 = .ok (.dup, 1) := by decide +kernel
theorem dX12_dies_12 : decode cX12_dies 12 = .ok (.getfield 389, 3) := by decide +kernel
theorem dX12_dies_15 : decode cX12_dies 15 = .ok (.iconst 1, 1) := by decide +kernel
theorem dX12_dies_16 : decode cX12_dies 16 = .ok (.iload_n 1, 1) := by decide +kernel
theorem dX12_dies_17 : decode cX12_dies 17 = .ok (.ishl, 1) := by decide +kernel
theorem dX12_dies_18 : decode cX12_dies 18 = .ok (.iconst (-1), 1) := by decide +kernel
theorem dX12_dies_19 : decode cX12_dies 19 = .ok (.ixor, 1) := by decide +kernel
theorem dX12_dies_20 : decode cX12_dies 20 = .ok (.iand, 1) := by decide +kernel
theorem dX12_dies_21 : decode cX12_dies 21 = .ok (.putfield 389, 3) := by decide +kernel
theorem dX12_dies_24 : decode cX12_dies 24 = .ok (.aload_n 0, 1) := by decide +kernel
theorem dX12_dies_25 : decode cX12_dies 25 = .ok (.iload_n 1, 1) := by decide +kernel
theorem dX12_dies_26 : decode cX12_dies 26 = .ok (.iconst (-1), 1) := by decide +kernel
theorem dX12_dies_27 : decode cX12_dies 27 = .ok (.iconst 2, 1) := by decide +kernel
theorem dX12_dies_28 : decode cX12_dies 28 = .ok (.invokevirtual 410, 3) := by decide +kernel
theorem dX12_dies_31 : decode cX12_dies 31 = .ok (.iconst 1, 1) := by decide +kernel
theorem dX12_dies_32 : decode cX12_dies 32 = .ok (.ireturn, 1) := by decide +kernel
theorem dX12_owesOf_0 : decode cX12_owesOf 0 = .ok (.iconst 0, 1) := by decide +kernel
theorem dX12_owesOf_1 : decode cX12_owesOf 1 = .ok (.istore_n 2, 1) := by decide +kernel
theorem dX12_owesOf_2 : decode cX12_owesOf 2 = .ok (.iconst 0, 1) := by decide +kernel
theorem dX12_owesOf_3 : decode cX12_owesOf 3 = .ok (.istore_n 3, 1) := by decide +kernel
theorem dX12_owesOf_4 : decode cX12_owesOf 4 = .ok (.iload_n 3, 1) := by decide +kernel
theorem dX12_owesOf_5 : decode cX12_owesOf 5 = .ok (.aload_n 0, 1) := by decide +kernel
theorem dX12_owesOf_6 : decode cX12_owesOf 6 = .ok (.getfield 398, 3) := by decide +kernel
theorem dX12_owesOf_9 : decode cX12_owesOf 9 = .ok (.if_icmp .ge 54, 3) := by decide +kernel
theorem dX12_owesOf_12 : decode cX12_owesOf 12 = .ok (.iload_n 2, 1) := by decide +kernel
theorem dX12_owesOf_13 : decode cX12_owesOf 13 = .ok (.aload_n 0, 1) := by decide +kernel
theorem dX12_owesOf_14 : decode cX12_owesOf 14 = .ok (.iload_n 1, 1) := by decide +kernel
theorem dX12_owesOf_15 : decode cX12_owesOf 15 = .ok (.invokevirtual 404, 3) := by decide +kernel
theorem dX12_owesOf_18 : decode cX12_owesOf 18 = .ok (.ifCond .eq 36, 3) := by decide +kernel
theorem dX12_owesOf_21 : decode cX12_owesOf 21 = .ok (.aload_n 0, 1) := by decide +kernel
theorem dX12_owesOf_22 : decode cX12_owesOf 22 = .ok (.getfield 85, 3) := by decide +kernel
theorem dX12_owesOf_25 : decode cX12_owesOf 25 = .ok (.iload_n 3, 1) := by decide +kernel
theorem dX12_owesOf_26 : decode cX12_owesOf 26 = .ok (.iaload, 1) := by decide +kernel
theorem dX12_owesOf_27 : decode cX12_owesOf 27 = .ok (.ifCond .ne 27, 3) := by decide +kernel
theorem dX12_owesOf_30 : decode cX12_owesOf 30 = .ok (.aload_n 0, 1) := by decide +kernel
theorem dX12_owesOf_31 : decode cX12_owesOf 31 = .ok (.getfield 64, 3) := by decide +kernel
theorem dX12_owesOf_34 : decode cX12_owesOf 34 = .ok (.aload_n 0, 1) := by decide +kernel
theorem dX12_owesOf_35 : decode cX12_owesOf 35 = .ok (.getfield 76, 3) := by decide +kernel
theorem dX12_owesOf_38 : decode cX12_owesOf 38 = .ok (.iload_n 3, 1) := by decide +kernel
theorem dX12_owesOf_39 : decode cX12_owesOf 39 = .ok (.iaload, 1) := by decide +kernel
theorem dX12_owesOf_40 : decode cX12_owesOf 40 = .ok (.iaload, 1) := by decide +kernel
theorem dX12_owesOf_41 : decode cX12_owesOf 41 = .ok (.iload_n 1, 1) := by decide +kernel
theorem dX12_owesOf_42 : decode cX12_owesOf 42 = .ok (.invokestatic 235, 3) := by decide +kernel
theorem dX12_owesOf_45 : decode cX12_owesOf 45 = .ok (.ifCond .eq 9, 3) := by decide +kernel
theorem dX12_owesOf_48 : decode cX12_owesOf 48 = .ok (.iconst 1, 1) := by decide +kernel
theorem dX12_owesOf_49 : decode cX12_owesOf 49 = .ok (.iload_n 3, 1) := by decide +kernel
theorem dX12_owesOf_50 : decode cX12_owesOf 50 = .ok (.ishl, 1) := by decide +kernel
theorem dX12_owesOf_51 : decode cX12_owesOf 51 = .ok (.goto 4, 3) := by decide +kernel
theorem dX12_owesOf_54 : decode cX12_owesOf 54 = .ok (.iconst 0, 1) := by decide +kernel
theorem dX12_owesOf_55 : decode cX12_owesOf 55 = .ok (.ior, 1) := by decide +kernel
theorem dX12_owesOf_56 : decode cX12_owesOf 56 = .ok (.istore_n 2, 1) := by decide +kernel
theorem dX12_owesOf_57 : decode cX12_owesOf 57 = .ok (.iinc 3 1, 3) := by decide +kernel
theorem dX12_owesOf_60 : decode cX12_owesOf 60 = .ok (.goto (-56), 3) := by decide +kernel
theorem dX12_owesOf_63 : decode cX12_owesOf 63 = .ok (.iload_n 2, 1) := by decide +kernel
theorem dX12_owesOf_64 : decode cX12_owesOf 64 = .ok (.ireturn, 1) := by decide +kernel
theorem dX12_works0_0 : decode cX12_works0 0 = .ok (.aload_n 0, 1) := by decide +kernel
theorem dX12_works0_1 : decode cX12_works0 1 = .ok (.iload_n 1, 1) := by decide +kernel
theorem dX12_works0_2 : decode cX12_works0 2 = .ok (.invokevirtual 414, 3) := by decide +kernel
theorem dX12_works0_5 : decode cX12_works0 5 = .ok (.istore_n 2, 1) := by decide +kernel
theorem dX12_works0_6 : decode cX12_works0 6 = .ok (.iconst (-1), 1) := by decide +kernel
theorem dX12_works0_7 : decode cX12_works0 7 = .ok (.istore_n 3, 1) := by decide +kernel
theorem dX12_works0_8 : decode cX12_works0 8 = .ok (.iconst 0, 1) := by decide +kernel
theorem dX12_works0_9 : decode cX12_works0 9 = .ok (.istore 4, 2) := by decide +kernel
theorem dX12_works0_11 : decode cX12_works0 11 = .ok (.iload 4, 2) := by decide +kernel
theorem dX12_works0_13 : decode cX12_works0 13 = .ok (.aload_n 0, 1) := by decide +kernel
theorem dX12_works0_14 : decode cX12_works0 14 = .ok (.getfield 398, 3) := by decide +kernel
theorem dX12_works0_17 : decode cX12_works0 17 = .ok (.if_icmp .ge 42, 3) := by decide +kernel
theorem dX12_works0_20 : decode cX12_works0 20 = .ok (.iload_n 2, 1) := by decide +kernel
theorem dX12_works0_21 : decode cX12_works0 21 = .ok (.iload 4, 2) := by decide +kernel
theorem dX12_works0_23 : decode cX12_works0 23 = .ok (.invokestatic 235, 3) := by decide +kernel
theorem dX12_works0_26 : decode cX12_works0 26 = .ok (.ifCond .eq 27, 3) := by decide +kernel
theorem dX12_works0_29 : decode cX12_works0 29 = .ok (.iload_n 3, 1) := by decide +kernel
theorem dX12_works0_30 : decode cX12_works0 30 = .ok (.iconst (-1), 1) := by decide +kernel
theorem dX12_works0_31 : decode cX12_works0 31 = .ok (.if_icmp .eq 19, 3) := by decide +kernel
theorem dX12_works0_34 : decode cX12_works0 34 = .ok (.aload_n 0, 1) := by decide +kernel
theorem dX12_works0_35 : decode cX12_works0 35 = .ok (.getfield 82, 3) := by decide +kernel
theorem dX12_works0_38 : decode cX12_works0 38 = .ok (.iload 4, 2) := by decide +kernel
theorem dX12_works0_40 : decode cX12_works0 40 = .ok (.iaload, 1) := by decide +kernel
theorem dX12_works0_41 : decode cX12_works0 41 = .ok (.aload_n 0, 1) := by decide +kernel
theorem dX12_works0_42 : decode cX12_works0 42 = .ok (.getfield 82, 3) := by decide +kernel
theorem dX12_works0_45 : decode cX12_works0 45 = .ok (.iload_n 3, 1) := by decide +kernel
theorem dX12_works0_46 : decode cX12_works0 46 = .ok (.iaload, 1) := by decide +kernel
theorem dX12_works0_47 : decode cX12_works0 47 = .ok (.if_icmp .ge 6, 3) := by decide +kernel
theorem dX12_works0_50 : decode cX12_works0 50 = .ok (.iload 4, 2) := by decide +kernel
theorem dX12_works0_52 : decode cX12_works0 52 = .ok (.istore_n 3, 1) := by decide +kernel
theorem dX12_works0_53 : decode cX12_works0 53 = .ok (.iinc 4 1, 3) := by decide +kernel
theorem dX12_works0_56 : decode cX12_works0 56 = .ok (.goto (-45), 3) := by decide +kernel
theorem dX12_works0_59 : decode cX12_works0 59 = .ok (.iload_n 3, 1) := by decide +kernel
theorem dX12_works0_60 : decode cX12_works0 60 = .ok (.iconst (-1), 1) := by decide +kernel
theorem dX12_works0_61 : decode cX12_works0 61 = .ok (.if_icmp .ne 4, 3) := by decide +kernel
theorem dX12_works0_64 : decode cX12_works0 64 = .ok (.return_, 1) := by decide +kernel
theorem dX12_works0_65 : decode cX12_works0 65 = .ok (.aload_n 0, 1) := by decide +kernel
theorem dX12_works0_66 : decode cX12_works0 66 = .ok (.getfield 79, 3) := by decide +kernel
theorem dX12_works0_69 : decode cX12_works0 69 = .ok (.iload_n 3, 1) := by decide +kernel
theorem dX12_works0_70 : decode cX12_works0 70 = .ok (.iaload, 1) := by decide +kernel
theorem dX12_works0_71 : decode cX12_works0 71 = .ok (.istore 4, 2) := by decide +kernel
theorem dX12_works0_73 : decode cX12_works0 73 = .ok (.aload_n 0, 1) := by decide +kernel
theorem dX12_works0_74 : decode cX12_works0 74 = .ok (.iload 4, 2) := by decide +kernel
theorem dX12_works0_76 : decode cX12_works0 76 = .ok (.invokevirtual 229, 3) := by decide +kernel
theorem dX12_works0_79 : decode cX12_works0 79 = .ok (.aload_n 0, 1) := by decide +kernel
theorem dX12_works0_80 : decode cX12_works0 80 = .ok (.getfield 73, 3) := by decide +kernel
theorem dX12_works0_83 : decode cX12_works0 83 = .ok (.iload 4, 2) := by decide +kernel
theorem dX12_works0_85 : decode cX12_works0 85 = .ok (.iaload, 1) := by decide +kernel
theorem dX12_works0_86 : decode cX12_works0 86 = .ok (.isub, 1) := by decide +kernel
theorem dX12_works0_87 : decode cX12_works0 87 = .ok (.istore 5, 2) := by decide +kernel
theorem dX12_works0_89 : decode cX12_works0 89 = .ok (.aload_n 0, 1) := by decide +kernel
theorem dX12_works0_90 : decode cX12_works0 90 = .ok (.getfield 58, 3) := by decide +kernel
theorem dX12_works0_93 : decode cX12_works0 93 = .ok (.iload_n 1, 1) := by decide +kernel
theorem dX12_works0_94 : decode cX12_works0 94 = .ok (.iaload, 1) := by decide +kernel
theorem dX12_works0_95 : decode cX12_works0 95 = .ok (.iload 5, 2) := by decide +kernel
theorem dX12_works0_97 : decode cX12_works0 97 = .ok (.if_icmp .ge 12, 3) := by decide +kernel
theorem dX12_works0_100 : decode cX12_works0 100 = .ok (.aload_n 0, 1) := by decide +kernel
theorem dX12_works0_101 : decode cX12_works0 101 = .ok (.getfield 58, 3) := by decide +kernel
theorem dX12_works0_104 : decode cX12_works0 104 = .ok (.iload_n 1, 1) := by decide +kernel
theorem dX12_works0_105 : decode cX12_works0 105 = .ok (.iaload, 1) := by decide +kernel
theorem dX12_works0_106 : decode cX12_works0 106 = .ok (.goto 5, 3) := by decide +kernel
theorem dX12_works0_109 : decode cX12_works0 109 = .ok (.iload 5, 2) := by decide +kernel
theorem dX12_works0_111 : decode cX12_works0 111 = .ok (.istore 5, 2) := by decide +kernel
theorem dX12_works0_113 : decode cX12_works0 113 = .ok (.aload_n 0, 1) := by decide +kernel
theorem dX12_works0_114 : decode cX12_works0 114 = .ok (.getfield 73, 3) := by decide +kernel
theorem dX12_works0_117 : decode cX12_works0 117 = .ok (.iload 4, 2) := by decide +kernel
theorem dX12_works0_119 : decode cX12_works0 119 = .ok (.dup2, 1) := by decide +kernel
theorem dX12_works0_120 : decode cX12_works0 120 = .ok (.iaload, 1) := by decide +kernel
theorem dX12_works0_121 : decode cX12_works0 121 = .ok (.iload 5, 2) := by decide +kernel
theorem dX12_works0_123 : decode cX12_works0 123 = .ok (.iadd, 1) := by decide +kernel
theorem dX12_works0_124 : decode cX12_works0 124 = .ok (.iastore, 1) := by decide +kernel
theorem dX12_works0_125 : decode cX12_works0 125 = .ok (.aload_n 0, 1) := by decide +kernel
theorem dX12_works0_126 : decode cX12_works0 126 = .ok (.getfield 67, 3) := by decide +kernel
theorem dX12_works0_129 : decode cX12_works0 129 = .ok (.iload_n 1, 1) := by decide +kernel
theorem dX12_works0_130 : decode cX12_works0 130 = .ok (.dup2, 1) := by decide +kernel
theorem dX12_works0_131 : decode cX12_works0 131 = .ok (.iaload, 1) := by decide +kernel
theorem dX12_works0_132 : decode cX12_works0 132 = .ok (.iload 5, 2) := by decide +kernel
theorem dX12_works0_134 : decode cX12_works0 134 = .ok (.iadd, 1) := by decide +kernel
theorem dX12_works0_135 : decode cX12_works0 135 = .ok (.iastore, 1) := by decide +kernel
theorem dX12_works0_136 : decode cX12_works0 136 = .ok (.aload_n 0, 1) := by decide +kernel
theorem dX12_works0_137 : decode cX12_works0 137 = .ok (.iload 4, 2) := by decide +kernel
theorem dX12_works0_139 : decode cX12_works0 139 = .ok (.invokevirtual 407, 3) := by decide +kernel
theorem dX12_works0_142 : decode cX12_works0 142 = .ok (.ifCond .eq 11, 3) := by decide +kernel
theorem dX12_works0_145 : decode cX12_works0 145 = .ok (.aload_n 0, 1) := by decide +kernel
theorem dX12_works0_146 : decode cX12_works0 146 = .ok (.iconst (-1), 1) := by decide +kernel
theorem dX12_works0_147 : decode cX12_works0 147 = .ok (.iload 4, 2) := by decide +kernel
theorem dX12_works0_149 : decode cX12_works0 149 = .ok (.iconst 1, 1) := by decide +kernel
theorem dX12_works0_150 : decode cX12_works0 150 = .ok (.invokevirtual 410, 3) := by decide +kernel
theorem dX12_works0_153 : decode cX12_works0 153 = .ok (.return_, 1) := by decide +kernel
theorem dX12_yearGoes_0 : decode cX12_yearGoes 0 = .ok (.aload_n 0, 1) := by decide +kernel
theorem dX12_yearGoes_1 : decode cX12_yearGoes 1 = .ok (.getfield 383, 3) := by decide +kernel
theorem dX12_yearGoes_4 : decode cX12_yearGoes 4 = .ok (.bipush 99, 2) := by decide +kernel
theorem dX12_yearGoes_6 : decode cX12_yearGoes 6 = .ok (.if_icmp .ne 5, 3) := by decide +kernel
theorem dX12_yearGoes_9 : decode cX12_yearGoes 9 = .ok (.iconst 0, 1) := by decide +kernel
theorem dX12_yearGoes_10 : decode cX12_yearGoes 10 = .ok (.ireturn, 1) := by decide +kernel
theorem dX12_yearGoes_11 : decode cX12_yearGoes 11 = .ok (.iconst 0, 1) := by decide +kernel
theorem dX12_yearGoes_12 : decode cX12_yearGoes 12 = .ok (.istore_n 1, 1) := by decide +kernel
theorem dX12_yearGoes_13 : decode cX12_yearGoes 13 = .ok (.iload_n 1, 1) := by decide +kernel
theorem dX12_yearGoes_14 : decode cX12_yearGoes 14 = .ok (.aload_n 0, 1) := by decide +kernel
theorem dX12_yearGoes_15 : decode cX12_yearGoes 15 = .ok (.getfield 386, 3) := by decide +kernel
theorem dX12_yearGoes_18 : decode cX12_yearGoes 18 = .ok (.if_icmp .ge 14, 3) := by decide +kernel
theorem dX12_yearGoes_21 : decode cX12_yearGoes 21 = .ok (.aload_n 0, 1) := by decide +kernel
theorem dX12_yearGoes_22 : decode cX12_yearGoes 22 = .ok (.iload_n 1, 1) := by decide +kernel
theorem dX12_yearGoes_23 : decode cX12_yearGoes 23 = .ok (.invokevirtual 417, 3) := by decide +kernel
theorem dX12_yearGoes_26 : decode cX12_yearGoes 26 = .ok (.iinc 1 1, 3) := by decide +kernel
theorem dX12_yearGoes_29 : decode cX12_yearGoes 29 = .ok (.goto (-16), 3) := by decide +kernel
theorem dX12_yearGoes_32 : decode cX12_yearGoes 32 = .ok (.iconst 0, 1) := by decide +kernel
theorem dX12_yearGoes_33 : decode cX12_yearGoes 33 = .ok (.istore_n 1, 1) := by decide +kernel
theorem dX12_yearGoes_34 : decode cX12_yearGoes 34 = .ok (.iload_n 1, 1) := by decide +kernel
theorem dX12_yearGoes_35 : decode cX12_yearGoes 35 = .ok (.aload_n 0, 1) := by decide +kernel
theorem dX12_yearGoes_36 : decode cX12_yearGoes 36 = .ok (.getfield 386, 3) := by decide +kernel
theorem dX12_yearGoes_39 : decode cX12_yearGoes 39 = .ok (.if_icmp .ge 42, 3) := by decide +kernel
theorem dX12_yearGoes_42 : decode cX12_yearGoes 42 = .ok (.aload_n 0, 1) := by decide +kernel
theorem dX12_yearGoes_43 : decode cX12_yearGoes 43 = .ok (.getfield 55, 3) := by decide +kernel
theorem dX12_yearGoes_46 : decode cX12_yearGoes 46 = .ok (.iload_n 1, 1) := by decide +kernel
theorem dX12_yearGoes_47 : decode cX12_yearGoes 47 = .ok (.dup2, 1) := by decide +kernel
theorem dX12_yearGoes_48 : decode cX12_yearGoes 48 = .ok (.iaload, 1) := by decide +kernel
theorem dX12_yearGoes_49 : decode cX12_yearGoes 49 = .ok (.aload_n 0, 1) := by decide +kernel
theorem dX12_yearGoes_50 : decode cX12_yearGoes 50 = .ok (.iload_n 1, 1) := by decide +kernel
theorem dX12_yearGoes_51 : decode cX12_yearGoes 51 = .ok (.invokevirtual 404, 3) := by decide +kernel
theorem dX12_yearGoes_54 : decode cX12_yearGoes 54 = .ok (.ifCond .eq 18, 3) := by decide +kernel
theorem dX12_yearGoes_57 : decode cX12_yearGoes 57 = .ok (.aload_n 0, 1) := by decide +kernel
theorem dX12_yearGoes_58 : decode cX12_yearGoes 58 = .ok (.getfield 55, 3) := by decide +kernel
theorem dX12_yearGoes_61 : decode cX12_yearGoes 61 = .ok (.iload_n 1, 1) := by decide +kernel
theorem dX12_yearGoes_62 : decode cX12_yearGoes 62 = .ok (.iaload, 1) := by decide +kernel
theorem dX12_yearGoes_63 : decode cX12_yearGoes 63 = .ok (.bipush 99, 2) := by decide +kernel
theorem dX12_yearGoes_65 : decode cX12_yearGoes 65 = .ok (.if_icmp .ge 7, 3) := by decide +kernel
theorem dX12_yearGoes_68 : decode cX12_yearGoes 68 = .ok (.iconst 1, 1) := by decide +kernel
theorem dX12_yearGoes_69 : decode cX12_yearGoes 69 = .ok (.goto 4, 3) := by decide +kernel
theorem dX12_yearGoes_72 : decode cX12_yearGoes 72 = .ok (.iconst 0, 1) := by decide +kernel
theorem dX12_yearGoes_73 : decode cX12_yearGoes 73 = .ok (.iadd, 1) := by decide +kernel
theorem dX12_yearGoes_74 : decode cX12_yearGoes 74 = .ok (.iastore, 1) := by decide +kernel
theorem dX12_yearGoes_75 : decode cX12_yearGoes 75 = .ok (.iinc 1 1, 3) := by decide +kernel
theorem dX12_yearGoes_78 : decode cX12_yearGoes 78 = .ok (.goto (-44), 3) := by decide +kernel
theorem dX12_yearGoes_81 : decode cX12_yearGoes 81 = .ok (.aload_n 0, 1) := by decide +kernel
theorem dX12_yearGoes_82 : decode cX12_yearGoes 82 = .ok (.dup, 1) := by decide +kernel
theorem dX12_yearGoes_83 : decode cX12_yearGoes 83 = .ok (.getfield 383, 3) := by decide +kernel
theorem dX12_yearGoes_86 : decode cX12_yearGoes 86 = .ok (.iconst 1, 1) := by decide +kernel
theorem dX12_yearGoes_87 : decode cX12_yearGoes 87 = .ok (.iadd, 1) := by decide +kernel
theorem dX12_yearGoes_88 : decode cX12_yearGoes 88 = .ok (.putfield 383, 3) := by decide +kernel
theorem dX12_yearGoes_91 : decode cX12_yearGoes 91 = .ok (.aload_n 0, 1) := by decide +kernel
theorem dX12_yearGoes_92 : decode cX12_yearGoes 92 = .ok (.iconst 0, 1) := by decide +kernel
theorem dX12_yearGoes_93 : decode cX12_yearGoes 93 = .ok (.putfield 392, 3) := by decide +kernel
theorem dX12_yearGoes_96 : decode cX12_yearGoes 96 = .ok (.iconst 0, 1) := by decide +kernel
theorem dX12_yearGoes_97 : decode cX12_yearGoes 97 = .ok (.istore_n 1, 1) := by decide +kernel
theorem dX12_yearGoes_98 : decode cX12_yearGoes 98 = .ok (.iload_n 1, 1) := by decide +kernel
theorem dX12_yearGoes_99 : decode cX12_yearGoes 99 = .ok (.aload_n 0, 1) := by decide +kernel
theorem dX12_yearGoes_100 : decode cX12_yearGoes 100 = .ok (.getfield 398, 3) := by decide +kernel
theorem dX12_yearGoes_103 : decode cX12_yearGoes 103 = .ok (.if_icmp .ge 99, 3) := by decide +kernel
theorem dX12_yearGoes_106 : decode cX12_yearGoes 106 = .ok (.aload_n 0, 1) := by decide +kernel
theorem dX12_yearGoes_107 : decode cX12_yearGoes 107 = .ok (.getfield 85, 3) := by decide +kernel
theorem dX12_yearGoes_110 : decode cX12_yearGoes 110 = .ok (.iload_n 1, 1) := by decide +kernel
theorem dX12_yearGoes_111 : decode cX12_yearGoes 111 = .ok (.iaload, 1) := by decide +kernel
theorem dX12_yearGoes_112 : decode cX12_yearGoes 112 = .ok (.ifCond .eq 6, 3) := by decide +kernel
theorem dX12_yearGoes_115 : decode cX12_yearGoes 115 = .ok (.goto 81, 3) := by decide +kernel
theorem dX12_yearGoes_118 : decode cX12_yearGoes 118 = .ok (.aload_n 0, 1) := by decide +kernel
theorem dX12_yearGoes_119 : decode cX12_yearGoes 119 = .ok (.getfield 55, 3) := by decide +kernel
theorem dX12_yearGoes_122 : decode cX12_yearGoes 122 = .ok (.aload_n 0, 1) := by decide +kernel
theorem dX12_yearGoes_123 : decode cX12_yearGoes 123 = .ok (.getfield 76, 3) := by decide +kernel
theorem dX12_yearGoes_126 : decode cX12_yearGoes 126 = .ok (.iload_n 1, 1) := by decide +kernel
theorem dX12_yearGoes_127 : decode cX12_yearGoes 127 = .ok (.iaload, 1) := by decide +kernel
theorem dX12_yearGoes_128 : decode cX12_yearGoes 128 = .ok (.iaload, 1) := by decide +kernel
theorem dX12_yearGoes_129 : decode cX12_yearGoes 129 = .ok (.bipush 10, 2) := by decide +kernel
theorem dX12_yearGoes_131 : decode cX12_yearGoes 131 = .ok (.if_icmp .lt 31, 3) := by decide +kernel
theorem dX12_yearGoes_134 : decode cX12_yearGoes 134 = .ok (.aload_n 0, 1) := by decide +kernel
theorem dX12_yearGoes_135 : decode cX12_yearGoes 135 = .ok (.aload_n 0, 1) := by decide +kernel
theorem dX12_yearGoes_136 : decode cX12_yearGoes 136 = .ok (.getfield 79, 3) := by decide +kernel
theorem dX12_yearGoes_139 : decode cX12_yearGoes 139 = .ok (.iload_n 1, 1) := by decide +kernel
theorem dX12_yearGoes_140 : decode cX12_yearGoes 140 = .ok (.iaload, 1) := by decide +kernel
theorem dX12_yearGoes_141 : decode cX12_yearGoes 141 = .ok (.invokevirtual 229, 3) := by decide +kernel
theorem dX12_yearGoes_144 : decode cX12_yearGoes 144 = .ok (.aload_n 0, 1) := by decide +kernel
theorem dX12_yearGoes_145 : decode cX12_yearGoes 145 = .ok (.getfield 7, 3) := by decide +kernel
theorem dX12_yearGoes_148 : decode cX12_yearGoes 148 = .ok (.aload_n 0, 1) := by decide +kernel
theorem dX12_yearGoes_149 : decode cX12_yearGoes 149 = .ok (.getfield 208, 3) := by decide +kernel
theorem dX12_yearGoes_152 : decode cX12_yearGoes 152 = .ok (.iconst 2, 1) := by decide +kernel
theorem dX12_yearGoes_153 : decode cX12_yearGoes 153 = .ok (.iadd, 1) := by decide +kernel
theorem dX12_yearGoes_154 : decode cX12_yearGoes 154 = .ok (.iaload, 1) := by decide +kernel
theorem dX12_yearGoes_155 : decode cX12_yearGoes 155 = .ok (.if_icmp .ge 7, 3) := by decide +kernel
theorem dX12_yearGoes_158 : decode cX12_yearGoes 158 = .ok (.iconst 1, 1) := by decide +kernel
theorem dX12_yearGoes_159 : decode cX12_yearGoes 159 = .ok (.goto 4, 3) := by decide +kernel
theorem dX12_yearGoes_162 : decode cX12_yearGoes 162 = .ok (.iconst 0, 1) := by decide +kernel
theorem dX12_yearGoes_163 : decode cX12_yearGoes 163 = .ok (.istore_n 2, 1) := by decide +kernel
theorem dX12_yearGoes_164 : decode cX12_yearGoes 164 = .ok (.aload_n 0, 1) := by decide +kernel
theorem dX12_yearGoes_165 : decode cX12_yearGoes 165 = .ok (.getfield 85, 3) := by decide +kernel
theorem dX12_yearGoes_168 : decode cX12_yearGoes 168 = .ok (.iload_n 1, 1) := by decide +kernel
theorem dX12_yearGoes_169 : decode cX12_yearGoes 169 = .ok (.iload_n 2, 1) := by decide +kernel
theorem dX12_yearGoes_170 : decode cX12_yearGoes 170 = .ok (.ifCond .eq 7, 3) := by decide +kernel
theorem dX12_yearGoes_173 : decode cX12_yearGoes 173 = .ok (.iconst 2, 1) := by decide +kernel
theorem dX12_yearGoes_174 : decode cX12_yearGoes 174 = .ok (.goto 21, 3) := by decide +kernel
theorem dX12_yearGoes_177 : decode cX12_yearGoes 177 = .ok (.aload_n 0, 1) := by decide +kernel
theorem dX12_yearGoes_178 : decode cX12_yearGoes 178 = .ok (.getfield 82, 3) := by decide +kernel
theorem dX12_yearGoes_181 : decode cX12_yearGoes 181 = .ok (.iload_n 1, 1) := by decide +kernel
theorem dX12_yearGoes_182 : decode cX12_yearGoes 182 = .ok (.iaload, 1) := by decide +kernel
theorem dX12_yearGoes_183 : decode cX12_yearGoes 183 = .ok (.aload_n 0, 1) := by decide +kernel
theorem dX12_yearGoes_184 : decode cX12_yearGoes 184 = .ok (.getfield 383, 3) := by decide +kernel
theorem dX12_yearGoes_187 : decode cX12_yearGoes 187 = .ok (.if_icmp .gt 7, 3) := by decide +kernel
theorem dX12_yearGoes_190 : decode cX12_yearGoes 190 = .ok (.iconst 3, 1) := by decide +kernel
theorem dX12_yearGoes_191 : decode cX12_yearGoes 191 = .ok (.goto 4, 3) := by decide +kernel
theorem dX12_yearGoes_194 : decode cX12_yearGoes 194 = .ok (.iconst 0, 1) := by decide +kernel
theorem dX12_yearGoes_195 : decode cX12_yearGoes 195 = .ok (.iastore, 1) := by decide +kernel
theorem dX12_yearGoes_196 : decode cX12_yearGoes 196 = .ok (.iinc 1 1, 3) := by decide +kernel
theorem dX12_yearGoes_199 : decode cX12_yearGoes 199 = .ok (.goto (-101), 3) := by decide +kernel
theorem dX12_yearGoes_202 : decode cX12_yearGoes 202 = .ok (.iconst 1, 1) := by decide +kernel
theorem dX12_yearGoes_203 : decode cX12_yearGoes 203 = .ok (.ireturn, 1) := by decide +kernel
theorem dX12_does_0 : decode cX12_does 0 = .ok (.iload_n 1, 1) := by decide +kernel
theorem dX12_does_1 : decode cX12_does 1 = .ok (.tableswitch 59 0 3 #[31, 40, 47, 53], 31) := by decide +kernel
theorem dX12_does_32 : decode cX12_does 32 = .ok (.aload_n 0, 1) := by decide +kernel
theorem dX12_does_33 : decode cX12_does 33 = .ok (.iload_n 2, 1) := by decide +kernel
theorem dX12_does_34 : decode cX12_does 34 = .ok (.iload_n 3, 1) := by decide +kernel
theorem dX12_does_35 : decode cX12_does 35 = .ok (.iload 4, 2) := by decide +kernel
theorem dX12_does_37 : decode cX12_does 37 = .ok (.invokevirtual 420, 3) := by decide +kernel
theorem dX12_does_40 : decode cX12_does 40 = .ok (.ireturn, 1) := by decide +kernel
theorem dX12_does_41 : decode cX12_does 41 = .ok (.aload_n 0, 1) := by decide +kernel
theorem dX12_does_42 : decode cX12_does 42 = .ok (.iload_n 2, 1) := by decide +kernel
theorem dX12_does_43 : decode cX12_does 43 = .ok (.iload_n 3, 1) := by decide +kernel
theorem dX12_does_44 : decode cX12_does 44 = .ok (.invokevirtual 423, 3) := by decide +kernel
theorem dX12_does_47 : decode cX12_does 47 = .ok (.ireturn, 1) := by decide +kernel
theorem dX12_does_48 : decode cX12_does 48 = .ok (.aload_n 0, 1) := by decide +kernel
theorem dX12_does_49 : decode cX12_does 49 = .ok (.iload_n 2, 1) := by decide +kernel
theorem dX12_does_50 : decode cX12_does 50 = .ok (.invokevirtual 426, 3) := by decide +kernel
theorem dX12_does_53 : decode cX12_does 53 = .ok (.ireturn, 1) := by decide +kernel
theorem dX12_does_54 : decode cX12_does 54 = .ok (.aload_n 0, 1) := by decide +kernel
theorem dX12_does_55 : decode cX12_does 55 = .ok (.iload_n 2, 1) := by decide +kernel
theorem dX12_does_56 : decode cX12_does 56 = .ok (.invokevirtual 429, 3) := by decide +kernel
theorem dX12_does_59 : decode cX12_does 59 = .ok (.ireturn, 1) := by decide +kernel
theorem dX12_does_60 : decode cX12_does 60 = .ok (.aload_n 0, 1) := by decide +kernel
theorem dX12_does_61 : decode cX12_does 61 = .ok (.invokevirtual 432, 3) := by decide +kernel
theorem dX12_does_64 : decode cX12_does 64 = .ok (.ireturn, 1) := by decide +kernel
theorem dX12_doesTold_0 : decode cX12_doesTold 0 = .ok (.aload_n 0, 1) := by decide +kernel
theorem dX12_doesTold_1 : decode cX12_doesTold 1 = .ok (.getfield 377, 3) := by decide +kernel
theorem dX12_doesTold_4 : decode cX12_doesTold 4 = .ok (.iconst 1, 1) := by decide +kernel
theorem dX12_doesTold_5 : decode cX12_doesTold 5 = .ok (.iadd, 1) := by decide +kernel
theorem dX12_doesTold_6 : decode cX12_doesTold 6 = .ok (.iconst 4, 1) := by decide +kernel
theorem dX12_doesTold_7 : decode cX12_doesTold 7 = .ok (.iload_n 1, 1) := by decide +kernel
theorem dX12_doesTold_8 : decode cX12_doesTold 8 = .ok (.imul, 1) := by decide +kernel
theorem dX12_doesTold_9 : decode cX12_doesTold 9 = .ok (.iadd, 1) := by decide +kernel
theorem dX12_doesTold_10 : decode cX12_doesTold 10 = .ok (.istore_n 2, 1) := by decide +kernel
theorem dX12_doesTold_11 : decode cX12_doesTold 11 = .ok (.aload_n 0, 1) := by decide +kernel
theorem dX12_doesTold_12 : decode cX12_doesTold 12 = .ok (.aload_n 0, 1) := by decide +kernel
theorem dX12_doesTold_13 : decode cX12_doesTold 13 = .ok (.getfield 7, 3) := by decide +kernel
theorem dX12_doesTold_16 : decode cX12_doesTold 16 = .ok (.iload_n 2, 1) := by decide +kernel
theorem dX12_doesTold_17 : decode cX12_doesTold 17 = .ok (.iaload, 1) := by decide +kernel
theorem dX12_doesTold_18 : decode cX12_doesTold 18 = .ok (.aload_n 0, 1) := by decide +kernel
theorem dX12_doesTold_19 : decode cX12_doesTold 19 = .ok (.getfield 7, 3) := by decide +kernel
theorem dX12_doesTold_22 : decode cX12_doesTold 22 = .ok (.iload_n 2, 1) := by decide +kernel
theorem dX12_doesTold_23 : decode cX12_doesTold 23 = .ok (.iconst 1, 1) := by decide +kernel
theorem dX12_doesTold_24 : decode cX12_doesTold 24 = .ok (.iadd, 1) := by decide +kernel
theorem dX12_doesTold_25 : decode cX12_doesTold 25 = .ok (.iaload, 1) := by decide +kernel
theorem dX12_doesTold_26 : decode cX12_doesTold 26 = .ok (.aload_n 0, 1) := by decide +kernel
theorem dX12_doesTold_27 : decode cX12_doesTold 27 = .ok (.getfield 7, 3) := by decide +kernel
theorem dX12_doesTold_30 : decode cX12_doesTold 30 = .ok (.iload_n 2, 1) := by decide +kernel
theorem dX12_doesTold_31 : decode cX12_doesTold 31 = .ok (.iconst 2, 1) := by decide +kernel
theorem dX12_doesTold_32 : decode cX12_doesTold 32 = .ok (.iadd, 1) := by decide +kernel
theorem dX12_doesTold_33 : decode cX12_doesTold 33 = .ok (.iaload, 1) := by decide +kernel
theorem dX12_doesTold_34 : decode cX12_doesTold 34 = .ok (.aload_n 0, 1) := by decide +kernel
theorem dX12_doesTold_35 : decode cX12_doesTold 35 = .ok (.getfield 7, 3) := by decide +kernel
theorem dX12_doesTold_38 : decode cX12_doesTold 38 = .ok (.iload_n 2, 1) := by decide +kernel
theorem dX12_doesTold_39 : decode cX12_doesTold 39 = .ok (.iconst 3, 1) := by decide +kernel
theorem dX12_doesTold_40 : decode cX12_doesTold 40 = .ok (.iadd, 1) := by decide +kernel
theorem dX12_doesTold_41 : decode cX12_doesTold 41 = .ok (.iaload, 1) := by decide +kernel
theorem dX12_doesTold_42 : decode cX12_doesTold 42 = .ok (.invokevirtual 436, 3) := by decide +kernel
theorem dX12_doesTold_45 : decode cX12_doesTold 45 = .ok (.ireturn, 1) := by decide +kernel
theorem dX12_runs_0 : decode cX12_runs 0 = .ok (.aload_n 0, 1) := by decide +kernel
theorem dX12_runs_1 : decode cX12_runs 1 = .ok (.invokevirtual 439, 3) := by decide +kernel
theorem dX12_runs_4 : decode cX12_runs 4 = .ok (.aload_n 0, 1) := by decide +kernel
theorem dX12_runs_5 : decode cX12_runs 5 = .ok (.getfield 395, 3) := by decide +kernel
theorem dX12_runs_8 : decode cX12_runs 8 = .ok (.iload_n 1, 1) := by decide +kernel
theorem dX12_runs_9 : decode cX12_runs 9 = .ok (.if_icmp .ge 43, 3) := by decide +kernel
theorem dX12_runs_12 : decode cX12_runs 12 = .ok (.aload_n 0, 1) := by decide +kernel
theorem dX12_runs_13 : decode cX12_runs 13 = .ok (.getfield 395, 3) := by decide +kernel
theorem dX12_runs_16 : decode cX12_runs 16 = .ok (.aload_n 0, 1) := by decide +kernel
theorem dX12_runs_17 : decode cX12_runs 17 = .ok (.getfield 7, 3) := by decide +kernel
theorem dX12_runs_20 : decode cX12_runs 20 = .ok (.aload_n 0, 1) := by decide +kernel
theorem dX12_runs_21 : decode cX12_runs 21 = .ok (.getfield 377, 3) := by decide +kernel
theorem dX12_runs_24 : decode cX12_runs 24 = .ok (.iaload, 1) := by decide +kernel
theorem dX12_runs_25 : decode cX12_runs 25 = .ok (.if_icmp .ge 27, 3) := by decide +kernel
theorem dX12_runs_28 : decode cX12_runs 28 = .ok (.aload_n 0, 1) := by decide +kernel
theorem dX12_runs_29 : decode cX12_runs 29 = .ok (.aload_n 0, 1) := by decide +kernel
theorem dX12_runs_30 : decode cX12_runs 30 = .ok (.getfield 395, 3) := by decide +kernel
theorem dX12_runs_33 : decode cX12_runs 33 = .ok (.invokevirtual 442, 3) := by decide +kernel
theorem dX12_runs_36 : decode cX12_runs 36 = .ok (.ifCond .eq 16, 3) := by decide +kernel
theorem dX12_runs_39 : decode cX12_runs 39 = .ok (.aload_n 0, 1) := by decide +kernel
theorem dX12_runs_40 : decode cX12_runs 40 = .ok (.dup, 1) := by decide +kernel
theorem dX12_runs_41 : decode cX12_runs 41 = .ok (.getfield 395, 3) := by decide +kernel
theorem dX12_runs_44 : decode cX12_runs 44 = .ok (.iconst 1, 1) := by decide +kernel
theorem dX12_runs_45 : decode cX12_runs 45 = .ok (.iadd, 1) := by decide +kernel
theorem dX12_runs_46 : decode cX12_runs 46 = .ok (.putfield 395, 3) := by decide +kernel
theorem dX12_runs_49 : decode cX12_runs 49 = .ok (.goto (-45), 3) := by decide +kernel
theorem dX12_runs_52 : decode cX12_runs 52 = .ok (.return_, 1) := by decide +kernel
theorem dX12_stop_0 : decode cX12_stop 0 = .ok (.aload_n 0, 1) := by decide +kernel
theorem dX12_stop_1 : decode cX12_stop 1 = .ok (.iload_n 1, 1) := by decide +kernel
theorem dX12_stop_2 : decode cX12_stop 2 = .ok (.invokevirtual 220, 3) := by decide +kernel
theorem dX12_stop_5 : decode cX12_stop 5 = .ok (.ifCond .eq 11, 3) := by decide +kernel
theorem dX12_stop_8 : decode cX12_stop 8 = .ok (.aload_n 0, 1) := by decide +kernel
theorem dX12_stop_9 : decode cX12_stop 9 = .ok (.iload_n 2, 1) := by decide +kernel
theorem dX12_stop_10 : decode cX12_stop 10 = .ok (.invokevirtual 380, 3) := by decide +kernel
theorem dX12_stop_13 : decode cX12_stop 13 = .ok (.ifCond .ne 5, 3) := by decide +kernel
theorem dX12_stop_16 : decode cX12_stop 16 = .ok (.iconst (-1), 1) := by decide +kernel
theorem dX12_stop_17 : decode cX12_stop 17 = .ok (.ireturn, 1) := by decide +kernel
theorem dX12_stop_18 : decode cX12_stop 18 = .ok (.aload_n 0, 1) := by decide +kernel
theorem dX12_stop_19 : decode cX12_stop 19 = .ok (.bipush 40, 2) := by decide +kernel
theorem dX12_stop_21 : decode cX12_stop 21 = .ok (.invokevirtual 445, 3) := by decide +kernel
theorem dX12_stop_24 : decode cX12_stop 24 = .ok (.aload_n 0, 1) := by decide +kernel
theorem dX12_stop_25 : decode cX12_stop 25 = .ok (.getfield 395, 3) := by decide +kernel
theorem dX12_stop_28 : decode cX12_stop 28 = .ok (.ireturn, 1) := by decide +kernel
theorem dX12_doneWorks_0 : decode cX12_doneWorks 0 = .ok (.iconst 0, 1) := by decide +kernel
theorem dX12_doneWorks_1 : decode cX12_doneWorks 1 = .ok (.istore_n 1, 1) := by decide +kernel
theorem dX12_doneWorks_2 : decode cX12_doneWorks 2 = .ok (.iconst 0, 1) := by decide +kernel
theorem dX12_doneWorks_3 : decode cX12_doneWorks 3 = .ok (.istore_n 2, 1) := by decide +kernel
theorem dX12_doneWorks_4 : decode cX12_doneWorks 4 = .ok (.iload_n 2, 1) := by decide +kernel
theorem dX12_doneWorks_5 : decode cX12_doneWorks 5 = .ok (.aload_n 0, 1) := by decide +kernel
theorem dX12_doneWorks_6 : decode cX12_doneWorks 6 = .ok (.getfield 214, 3) := by decide +kernel
theorem dX12_doneWorks_9 : decode cX12_doneWorks 9 = .ok (.if_icmp .ge 27, 3) := by decide +kernel
theorem dX12_doneWorks_12 : decode cX12_doneWorks 12 = .ok (.iload_n 1, 1) := by decide +kernel
theorem dX12_doneWorks_13 : decode cX12_doneWorks 13 = .ok (.aload_n 0, 1) := by decide +kernel
theorem dX12_doneWorks_14 : decode cX12_doneWorks 14 = .ok (.iload_n 2, 1) := by decide +kernel
theorem dX12_doneWorks_15 : decode cX12_doneWorks 15 = .ok (.invokevirtual 407, 3) := by decide +kernel
theorem dX12_doneWorks_18 : decode cX12_doneWorks 18 = .ok (.ifCond .eq 9, 3) := by decide +kernel
theorem dX12_doneWorks_21 : decode cX12_doneWorks 21 = .ok (.iconst 1, 1) := by decide +kernel
theorem dX12_doneWorks_22 : decode cX12_doneWorks 22 = .ok (.iload_n 2, 1) := by decide +kernel
theorem dX12_doneWorks_23 : decode cX12_doneWorks 23 = .ok (.ishl, 1) := by decide +kernel
theorem dX12_doneWorks_24 : decode cX12_doneWorks 24 = .ok (.goto 4, 3) := by decide +kernel
theorem dX12_doneWorks_27 : decode cX12_doneWorks 27 = .ok (.iconst 0, 1) := by decide +kernel
theorem dX12_doneWorks_28 : decode cX12_doneWorks 28 = .ok (.ior, 1) := by decide +kernel
theorem dX12_doneWorks_29 : decode cX12_doneWorks 29 = .ok (.istore_n 1, 1) := by decide +kernel
theorem dX12_doneWorks_30 : decode cX12_doneWorks 30 = .ok (.iinc 2 1, 3) := by decide +kernel
theorem dX12_doneWorks_33 : decode cX12_doneWorks 33 = .ok (.goto (-29), 3) := by decide +kernel
theorem dX12_doneWorks_36 : decode cX12_doneWorks 36 = .ok (.iload_n 1, 1) := by decide +kernel
theorem dX12_doneWorks_37 : decode cX12_doneWorks 37 = .ok (.ireturn, 1) := by decide +kernel
theorem dX12_nowOf_0 : decode cX12_nowOf 0 = .ok (.iload_n 1, 1) := by decide +kernel
theorem dX12_nowOf_1 : decode cX12_nowOf 1 = .ok (.tableswitch 69 0 5 #[39, 44, 49, 54, 59, 64], 39) := by decide +kernel
theorem dX12_nowOf_40 : decode cX12_nowOf 40 = .ok (.aload_n 0, 1) := by decide +kernel
theorem dX12_nowOf_41 : decode cX12_nowOf 41 = .ok (.getfield 383, 3) := by decide +kernel
theorem dX12_nowOf_44 : decode cX12_nowOf 44 = .ok (.ireturn, 1) := by decide +kernel
theorem dX12_nowOf_45 : decode cX12_nowOf 45 = .ok (.aload_n 0, 1) := by decide +kernel
theorem dX12_nowOf_46 : decode cX12_nowOf 46 = .ok (.getfield 386, 3) := by decide +kernel
theorem dX12_nowOf_49 : decode cX12_nowOf 49 = .ok (.ireturn, 1) := by decide +kernel
theorem dX12_nowOf_50 : decode cX12_nowOf 50 = .ok (.aload_n 0, 1) := by decide +kernel
theorem dX12_nowOf_51 : decode cX12_nowOf 51 = .ok (.getfield 389, 3) := by decide +kernel
theorem dX12_nowOf_54 : decode cX12_nowOf 54 = .ok (.ireturn, 1) := by decide +kernel
theorem dX12_nowOf_55 : decode cX12_nowOf 55 = .ok (.aload_n 0, 1) := by decide +kernel
theorem dX12_nowOf_56 : decode cX12_nowOf 56 = .ok (.getfield 392, 3) := by decide +kernel
theorem dX12_nowOf_59 : decode cX12_nowOf 59 = .ok (.ireturn, 1) := by decide +kernel
theorem dX12_nowOf_60 : decode cX12_nowOf 60 = .ok (.aload_n 0, 1) := by decide +kernel
theorem dX12_nowOf_61 : decode cX12_nowOf 61 = .ok (.getfield 398, 3) := by decide +kernel
theorem dX12_nowOf_64 : decode cX12_nowOf 64 = .ok (.ireturn, 1) := by decide +kernel
theorem dX12_nowOf_65 : decode cX12_nowOf 65 = .ok (.aload_n 0, 1) := by decide +kernel
theorem dX12_nowOf_66 : decode cX12_nowOf 66 = .ok (.invokevirtual 448, 3) := by decide +kernel
theorem dX12_nowOf_69 : decode cX12_nowOf 69 = .ok (.ireturn, 1) := by decide +kernel
theorem dX12_nowOf_70 : decode cX12_nowOf 70 = .ok (.iload_n 1, 1) := by decide +kernel
theorem dX12_nowOf_71 : decode cX12_nowOf 71 = .ok (.bipush 40, 2) := by decide +kernel
theorem dX12_nowOf_73 : decode cX12_nowOf 73 = .ok (.bipush 51, 2) := by decide +kernel
theorem dX12_nowOf_75 : decode cX12_nowOf 75 = .ok (.invokestatic 146, 3) := by decide +kernel
theorem dX12_nowOf_78 : decode cX12_nowOf 78 = .ok (.ifCond .eq 29, 3) := by decide +kernel
theorem dX12_nowOf_81 : decode cX12_nowOf 81 = .ok (.iload_n 1, 1) := by decide +kernel
theorem dX12_nowOf_82 : decode cX12_nowOf 82 = .ok (.bipush 40, 2) := by decide +kernel
theorem dX12_nowOf_84 : decode cX12_nowOf 84 = .ok (.isub, 1) := by decide +kernel
theorem dX12_nowOf_85 : decode cX12_nowOf 85 = .ok (.aload_n 0, 1) := by decide +kernel
theorem dX12_nowOf_86 : decode cX12_nowOf 86 = .ok (.getfield 398, 3) := by decide +kernel
theorem dX12_nowOf_89 : decode cX12_nowOf 89 = .ok (.if_icmp .ge 15, 3) := by decide +kernel
theorem dX12_nowOf_92 : decode cX12_nowOf 92 = .ok (.aload_n 0, 1) := by decide +kernel
theorem dX12_nowOf_93 : decode cX12_nowOf 93 = .ok (.getfield 85, 3) := by decide +kernel
theorem dX12_nowOf_96 : decode cX12_nowOf 96 = .ok (.iload_n 1, 1) := by decide +kernel
theorem dX12_nowOf_97 : decode cX12_nowOf 97 = .ok (.bipush 40, 2) := by decide +kernel
theorem dX12_nowOf_99 : decode cX12_nowOf 99 = .ok (.isub, 1) := by decide +kernel
theorem dX12_nowOf_100 : decode cX12_nowOf 100 = .ok (.iaload, 1) := by decide +kernel
theorem dX12_nowOf_101 : decode cX12_nowOf 101 = .ok (.goto 5, 3) := by decide +kernel
theorem dX12_nowOf_104 : decode cX12_nowOf 104 = .ok (.bipush (-2), 2) := by decide +kernel
theorem dX12_nowOf_106 : decode cX12_nowOf 106 = .ok (.ireturn, 1) := by decide +kernel
theorem dX12_nowOf_107 : decode cX12_nowOf 107 = .ok (.iload_n 1, 1) := by decide +kernel
theorem dX12_nowOf_108 : decode cX12_nowOf 108 = .ok (.bipush 60, 2) := by decide +kernel
theorem dX12_nowOf_110 : decode cX12_nowOf 110 = .ok (.bipush 71, 2) := by decide +kernel
theorem dX12_nowOf_112 : decode cX12_nowOf 112 = .ok (.invokestatic 146, 3) := by decide +kernel
theorem dX12_nowOf_115 : decode cX12_nowOf 115 = .ok (.ifCond .eq 29, 3) := by decide +kernel
theorem dX12_nowOf_118 : decode cX12_nowOf 118 = .ok (.iload_n 1, 1) := by decide +kernel
theorem dX12_nowOf_119 : decode cX12_nowOf 119 = .ok (.bipush 60, 2) := by decide +kernel
theorem dX12_nowOf_121 : decode cX12_nowOf 121 = .ok (.isub, 1) := by decide +kernel
theorem dX12_nowOf_122 : decode cX12_nowOf 122 = .ok (.aload_n 0, 1) := by decide +kernel
theorem dX12_nowOf_123 : decode cX12_nowOf 123 = .ok (.getfield 398, 3) := by decide +kernel
theorem dX12_nowOf_126 : decode cX12_nowOf 126 = .ok (.if_icmp .ge 15, 3) := by decide +kernel
theorem dX12_nowOf_129 : decode cX12_nowOf 129 = .ok (.aload_n 0, 1) := by decide +kernel
theorem dX12_nowOf_130 : decode cX12_nowOf 130 = .ok (.getfield 82, 3) := by decide +kernel
theorem dX12_nowOf_133 : decode cX12_nowOf 133 = .ok (.iload_n 1, 1) := by decide +kernel
theorem dX12_nowOf_134 : decode cX12_nowOf 134 = .ok (.bipush 60, 2) := by decide +kernel
theorem dX12_nowOf_136 : decode cX12_nowOf 136 = .ok (.isub, 1) := by decide +kernel
theorem dX12_nowOf_137 : decode cX12_nowOf 137 = .ok (.iaload, 1) := by decide +kernel
theorem dX12_nowOf_138 : decode cX12_nowOf 138 = .ok (.goto 5, 3) := by decide +kernel
theorem dX12_nowOf_141 : decode cX12_nowOf 141 = .ok (.bipush (-2), 2) := by decide +kernel
theorem dX12_nowOf_143 : decode cX12_nowOf 143 = .ok (.ireturn, 1) := by decide +kernel
theorem dX12_nowOf_144 : decode cX12_nowOf 144 = .ok (.iload_n 1, 1) := by decide +kernel
theorem dX12_nowOf_145 : decode cX12_nowOf 145 = .ok (.bipush 10, 2) := by decide +kernel
theorem dX12_nowOf_147 : decode cX12_nowOf 147 = .ok (.irem, 1) := by decide +kernel
theorem dX12_nowOf_148 : decode cX12_nowOf 148 = .ok (.istore_n 2, 1) := by decide +kernel
theorem dX12_nowOf_149 : decode cX12_nowOf 149 = .ok (.iload_n 1, 1) := by decide +kernel
theorem dX12_nowOf_150 : decode cX12_nowOf 150 = .ok (.bipush 30, 2) := by decide +kernel
theorem dX12_nowOf_152 : decode cX12_nowOf 152 = .ok (.bipush 39, 2) := by decide +kernel
theorem dX12_nowOf_154 : decode cX12_nowOf 154 = .ok (.invokestatic 146, 3) := by decide +kernel
theorem dX12_nowOf_157 : decode cX12_nowOf 157 = .ok (.ifCond .eq 23, 3) := by decide +kernel
theorem dX12_nowOf_160 : decode cX12_nowOf 160 = .ok (.aload_n 0, 1) := by decide +kernel
theorem dX12_nowOf_161 : decode cX12_nowOf 161 = .ok (.iload_n 2, 1) := by decide +kernel
theorem dX12_nowOf_162 : decode cX12_nowOf 162 = .ok (.invokevirtual 226, 3) := by decide +kernel
theorem dX12_nowOf_165 : decode cX12_nowOf 165 = .ok (.ifCond .eq 12, 3) := by decide +kernel
theorem dX12_nowOf_168 : decode cX12_nowOf 168 = .ok (.aload_n 0, 1) := by decide +kernel
theorem dX12_nowOf_169 : decode cX12_nowOf 169 = .ok (.getfield 73, 3) := by decide +kernel
theorem dX12_nowOf_172 : decode cX12_nowOf 172 = .ok (.iload_n 2, 1) := by decide +kernel
theorem dX12_nowOf_173 : decode cX12_nowOf 173 = .ok (.iaload, 1) := by decide +kernel
theorem dX12_nowOf_174 : decode cX12_nowOf 174 = .ok (.goto 5, 3) := by decide +kernel
theorem dX12_nowOf_177 : decode cX12_nowOf 177 = .ok (.bipush (-2), 2) := by decide +kernel
theorem dX12_nowOf_179 : decode cX12_nowOf 179 = .ok (.ireturn, 1) := by decide +kernel
theorem dX12_nowOf_180 : decode cX12_nowOf 180 = .ok (.iload_n 1, 1) := by decide +kernel
theorem dX12_nowOf_181 : decode cX12_nowOf 181 = .ok (.bipush 10, 2) := by decide +kernel
theorem dX12_nowOf_183 : decode cX12_nowOf 183 = .ok (.bipush 29, 2) := by decide +kernel
theorem dX12_nowOf_185 : decode cX12_nowOf 185 = .ok (.invokestatic 146, 3) := by decide +kernel
theorem dX12_nowOf_188 : decode cX12_nowOf 188 = .ok (.ifCond .eq 34, 3) := by decide +kernel
theorem dX12_nowOf_191 : decode cX12_nowOf 191 = .ok (.iload_n 2, 1) := by decide +kernel
theorem dX12_nowOf_192 : decode cX12_nowOf 192 = .ok (.aload_n 0, 1) := by decide +kernel
theorem dX12_nowOf_193 : decode cX12_nowOf 193 = .ok (.getfield 386, 3) := by decide +kernel
theorem dX12_nowOf_196 : decode cX12_nowOf 196 = .ok (.if_icmp .ge 26, 3) := by decide +kernel
theorem dX12_nowOf_199 : decode cX12_nowOf 199 = .ok (.iload_n 1, 1) := by decide +kernel
theorem dX12_nowOf_200 : decode cX12_nowOf 200 = .ok (.bipush 20, 2) := by decide +kernel
theorem dX12_nowOf_202 : decode cX12_nowOf 202 = .ok (.if_icmp .ge 12, 3) := by decide +kernel
theorem dX12_nowOf_205 : decode cX12_nowOf 205 = .ok (.aload_n 0, 1) := by decide +kernel
theorem dX12_nowOf_206 : decode cX12_nowOf 206 = .ok (.getfield 55, 3) := by decide +kernel
theorem dX12_nowOf_209 : decode cX12_nowOf 209 = .ok (.iload_n 2, 1) := by decide +kernel
theorem dX12_nowOf_210 : decode cX12_nowOf 210 = .ok (.iaload, 1) := by decide +kernel
theorem dX12_nowOf_211 : decode cX12_nowOf 211 = .ok (.goto 13, 3) := by decide +kernel
theorem dX12_nowOf_214 : decode cX12_nowOf 214 = .ok (.aload_n 0, 1) := by decide +kernel
theorem dX12_nowOf_215 : decode cX12_nowOf 215 = .ok (.iload_n 2, 1) := by decide +kernel
theorem dX12_nowOf_216 : decode cX12_nowOf 216 = .ok (.invokevirtual 414, 3) := by decide +kernel
theorem dX12_nowOf_219 : decode cX12_nowOf 219 = .ok (.goto 5, 3) := by decide +kernel
theorem dX12_nowOf_222 : decode cX12_nowOf 222 = .ok (.bipush (-2), 2) := by decide +kernel
theorem dX12_nowOf_224 : decode cX12_nowOf 224 = .ok (.ireturn, 1) := by decide +kernel
theorem dX12_state_0 : decode cX12_state 0 = .ok (.aload_n 0, 1) := by decide +kernel
theorem dX12_state_1 : decode cX12_state 1 = .ok (.iload_n 1, 1) := by decide +kernel
theorem dX12_state_2 : decode cX12_state 2 = .ok (.invokevirtual 220, 3) := by decide +kernel
theorem dX12_state_5 : decode cX12_state 5 = .ok (.ifCond .eq 15, 3) := by decide +kernel
theorem dX12_state_8 : decode cX12_state 8 = .ok (.aload_n 0, 1) := by decide +kernel
theorem dX12_state_9 : decode cX12_state 9 = .ok (.iload_n 2, 1) := by decide +kernel
theorem dX12_state_10 : decode cX12_state 10 = .ok (.invokevirtual 380, 3) := by decide +kernel
theorem dX12_state_13 : decode cX12_state 13 = .ok (.ifCond .eq 7, 3) := by decide +kernel
theorem dX12_state_16 : decode cX12_state 16 = .ok (.iload_n 3, 1) := by decide +kernel
theorem dX12_state_17 : decode cX12_state 17 = .ok (.ifCond .ge 6, 3) := by decide +kernel
theorem dX12_state_20 : decode cX12_state 20 = .ok (.bipush (-2), 2) := by decide +kernel
theorem dX12_state_22 : decode cX12_state 22 = .ok (.ireturn, 1) := by decide +kernel
theorem dX12_state_23 : decode cX12_state 23 = .ok (.aload_n 0, 1) := by decide +kernel
theorem dX12_state_24 : decode cX12_state 24 = .ok (.iload_n 3, 1) := by decide +kernel
theorem dX12_state_25 : decode cX12_state 25 = .ok (.invokevirtual 445, 3) := by decide +kernel
theorem dX12_state_28 : decode cX12_state 28 = .ok (.aload_n 0, 1) := by decide +kernel
theorem dX12_state_29 : decode cX12_state 29 = .ok (.getfield 395, 3) := by decide +kernel
theorem dX12_state_32 : decode cX12_state 32 = .ok (.iload_n 3, 1) := by decide +kernel
theorem dX12_state_33 : decode cX12_state 33 = .ok (.if_icmp .ne 12, 3) := by decide +kernel
theorem dX12_state_36 : decode cX12_state 36 = .ok (.aload_n 0, 1) := by decide +kernel
theorem dX12_state_37 : decode cX12_state 37 = .ok (.iload 4, 2) := by decide +kernel
theorem dX12_state_39 : decode cX12_state 39 = .ok (.invokevirtual 451, 3) := by decide +kernel
theorem dX12_state_42 : decode cX12_state 42 = .ok (.goto 5, 3) := by decide +kernel
theorem dX12_state_45 : decode cX12_state 45 = .ok (.bipush (-2), 2) := by decide +kernel
theorem dX12_state_47 : decode cX12_state 47 = .ok (.ireturn, 1) := by decide +kernel
theorem dX12_mostDug_0 : decode cX12_mostDug 0 = .ok (.iconst (-1), 1) := by decide +kernel
theorem dX12_mostDug_1 : decode cX12_mostDug 1 = .ok (.istore_n 1, 1) := by decide +kernel
theorem dX12_mostDug_2 : decode cX12_mostDug 2 = .ok (.iconst 0, 1) := by decide +kernel
theorem dX12_mostDug_3 : decode cX12_mostDug 3 = .ok (.istore_n 2, 1) := by decide +kernel
theorem dX12_mostDug_4 : decode cX12_mostDug 4 = .ok (.iload_n 2, 1) := by decide +kernel
theorem dX12_mostDug_5 : decode cX12_mostDug 5 = .ok (.aload_n 0, 1) := by decide +kernel
theorem dX12_mostDug_6 : decode cX12_mostDug 6 = .ok (.getfield 386, 3) := by decide +kernel
theorem dX12_mostDug_9 : decode cX12_mostDug 9 = .ok (.if_icmp .ge 35, 3) := by decide +kernel
theorem dX12_mostDug_12 : decode cX12_mostDug 12 = .ok (.aload_n 0, 1) := by decide +kernel
theorem dX12_mostDug_13 : decode cX12_mostDug 13 = .ok (.getfield 67, 3) := by decide +kernel
theorem dX12_mostDug_16 : decode cX12_mostDug 16 = .ok (.iload_n 2, 1) := by decide +kernel
theorem dX12_mostDug_17 : decode cX12_mostDug 17 = .ok (.iaload, 1) := by decide +kernel
theorem dX12_mostDug_18 : decode cX12_mostDug 18 = .ok (.iload_n 1, 1) := by decide +kernel
theorem dX12_mostDug_19 : decode cX12_mostDug 19 = .ok (.iconst (-1), 1) := by decide +kernel
theorem dX12_mostDug_20 : decode cX12_mostDug 20 = .ok (.if_icmp .ne 7, 3) := by decide +kernel
theorem dX12_mostDug_23 : decode cX12_mostDug 23 = .ok (.iconst 0, 1) := by decide +kernel
theorem dX12_mostDug_24 : decode cX12_mostDug 24 = .ok (.goto 9, 3) := by decide +kernel
theorem dX12_mostDug_27 : decode cX12_mostDug 27 = .ok (.aload_n 0, 1) := by decide +kernel
theorem dX12_mostDug_28 : decode cX12_mostDug 28 = .ok (.getfield 67, 3) := by decide +kernel
theorem dX12_mostDug_31 : decode cX12_mostDug 31 = .ok (.iload_n 1, 1) := by decide +kernel
theorem dX12_mostDug_32 : decode cX12_mostDug 32 = .ok (.iaload, 1) := by decide +kernel
theorem dX12_mostDug_33 : decode cX12_mostDug 33 = .ok (.if_icmp .le 5, 3) := by decide +kernel
theorem dX12_mostDug_36 : decode cX12_mostDug 36 = .ok (.iload_n 2, 1) := by decide +kernel
theorem dX12_mostDug_37 : decode cX12_mostDug 37 = .ok (.istore_n 1, 1) := by decide +kernel
theorem dX12_mostDug_38 : decode cX12_mostDug 38 = .ok (.iinc 2 1, 3) := by decide +kernel
theorem dX12_mostDug_41 : decode cX12_mostDug 41 = .ok (.goto (-37), 3) := by decide +kernel
theorem dX12_mostDug_44 : decode cX12_mostDug 44 = .ok (.iload_n 1, 1) := by decide +kernel
theorem dX12_mostDug_45 : decode cX12_mostDug 45 = .ok (.ireturn, 1) := by decide +kernel
theorem dX12_mostSaid_0 : decode cX12_mostSaid 0 = .ok (.iconst (-1), 1) := by decide +kernel
theorem dX12_mostSaid_1 : decode cX12_mostSaid 1 = .ok (.istore_n 1, 1) := by decide +kernel
theorem dX12_mostSaid_2 : decode cX12_mostSaid 2 = .ok (.iconst 0, 1) := by decide +kernel
theorem dX12_mostSaid_3 : decode cX12_mostSaid 3 = .ok (.istore_n 2, 1) := by decide +kernel
theorem dX12_mostSaid_4 : decode cX12_mostSaid 4 = .ok (.iload_n 2, 1) := by decide +kernel
theorem dX12_mostSaid_5 : decode cX12_mostSaid 5 = .ok (.aload_n 0, 1) := by decide +kernel
theorem dX12_mostSaid_6 : decode cX12_mostSaid 6 = .ok (.getfield 386, 3) := by decide +kernel
theorem dX12_mostSaid_9 : decode cX12_mostSaid 9 = .ok (.if_icmp .ge 35, 3) := by decide +kernel
theorem dX12_mostSaid_12 : decode cX12_mostSaid 12 = .ok (.aload_n 0, 1) := by decide +kernel
theorem dX12_mostSaid_13 : decode cX12_mostSaid 13 = .ok (.getfield 70, 3) := by decide +kernel
theorem dX12_mostSaid_16 : decode cX12_mostSaid 16 = .ok (.iload_n 2, 1) := by decide +kernel
theorem dX12_mostSaid_17 : decode cX12_mostSaid 17 = .ok (.iaload, 1) := by decide +kernel
theorem dX12_mostSaid_18 : decode cX12_mostSaid 18 = .ok (.iload_n 1, 1) := by decide +kernel
theorem dX12_mostSaid_19 : decode cX12_mostSaid 19 = .ok (.iconst (-1), 1) := by decide +kernel
theorem dX12_mostSaid_20 : decode cX12_mostSaid 20 = .ok (.if_icmp .ne 7, 3) := by decide +kernel
theorem dX12_mostSaid_23 : decode cX12_mostSaid 23 = .ok (.iconst 0, 1) := by decide +kernel
theorem dX12_mostSaid_24 : decode cX12_mostSaid 24 = .ok (.goto 9, 3) := by decide +kernel
theorem dX12_mostSaid_27 : decode cX12_mostSaid 27 = .ok (.aload_n 0, 1) := by decide +kernel
theorem dX12_mostSaid_28 : decode cX12_mostSaid 28 = .ok (.getfield 70, 3) := by decide +kernel
theorem dX12_mostSaid_31 : decode cX12_mostSaid 31 = .ok (.iload_n 1, 1) := by decide +kernel
theorem dX12_mostSaid_32 : decode cX12_mostSaid 32 = .ok (.iaload, 1) := by decide +kernel
theorem dX12_mostSaid_33 : decode cX12_mostSaid 33 = .ok (.if_icmp .le 5, 3) := by decide +kernel
theorem dX12_mostSaid_36 : decode cX12_mostSaid 36 = .ok (.iload_n 2, 1) := by decide +kernel
theorem dX12_mostSaid_37 : decode cX12_mostSaid 37 = .ok (.istore_n 1, 1) := by decide +kernel
theorem dX12_mostSaid_38 : decode cX12_mostSaid 38 = .ok (.iinc 2 1, 3) := by decide +kernel
theorem dX12_mostSaid_41 : decode cX12_mostSaid 41 = .ok (.goto (-37), 3) := by decide +kernel
theorem dX12_mostSaid_44 : decode cX12_mostSaid 44 = .ok (.iload_n 1, 1) := by decide +kernel
theorem dX12_mostSaid_45 : decode cX12_mostSaid 45 = .ok (.ireturn, 1) := by decide +kernel
theorem dX12_after_0 : decode cX12_after 0 = .ok (.aload_n 0, 1) := by decide +kernel
theorem dX12_after_1 : decode cX12_after 1 = .ok (.iload_n 1, 1) := by decide +kernel
theorem dX12_after_2 : decode cX12_after 2 = .ok (.invokevirtual 220, 3) := by decide +kernel
theorem dX12_after_5 : decode cX12_after 5 = .ok (.ifCond .eq 11, 3) := by decide +kernel
theorem dX12_after_8 : decode cX12_after 8 = .ok (.aload_n 0, 1) := by decide +kernel
theorem dX12_after_9 : decode cX12_after 9 = .ok (.iload_n 2, 1) := by decide +kernel
theorem dX12_after_10 : decode cX12_after 10 = .ok (.invokevirtual 380, 3) := by decide +kernel
theorem dX12_after_13 : decode cX12_after 13 = .ok (.ifCond .ne 6, 3) := by decide +kernel
theorem dX12_after_16 : decode cX12_after 16 = .ok (.bipush (-2), 2) := by decide +kernel
theorem dX12_after_18 : decode cX12_after 18 = .ok (.ireturn, 1) := by decide +kernel
theorem dX12_after_19 : decode cX12_after 19 = .ok (.aload_n 0, 1) := by decide +kernel
theorem dX12_after_20 : decode cX12_after 20 = .ok (.invokevirtual 439, 3) := by decide +kernel
theorem dX12_after_23 : decode cX12_after 23 = .ok (.iconst (-1), 1) := by decide +kernel
theorem dX12_after_24 : decode cX12_after 24 = .ok (.istore 4, 2) := by decide +kernel
theorem dX12_after_26 : decode cX12_after 26 = .ok (.iconst 0, 1) := by decide +kernel
theorem dX12_after_27 : decode cX12_after 27 = .ok (.istore 5, 2) := by decide +kernel
theorem dX12_after_29 : decode cX12_after 29 = .ok (.iload 5, 2) := by decide +kernel
theorem dX12_after_31 : decode cX12_after 31 = .ok (.aload_n 0, 1) := by decide +kernel
theorem dX12_after_32 : decode cX12_after 32 = .ok (.getfield 7, 3) := by decide +kernel
theorem dX12_after_35 : decode cX12_after 35 = .ok (.aload_n 0, 1) := by decide +kernel
theorem dX12_after_36 : decode cX12_after 36 = .ok (.getfield 377, 3) := by decide +kernel
theorem dX12_after_39 : decode cX12_after 39 = .ok (.iaload, 1) := by decide +kernel
theorem dX12_after_40 : decode cX12_after 40 = .ok (.if_icmp .ge 35, 3) := by decide +kernel
theorem dX12_after_43 : decode cX12_after 43 = .ok (.aload_n 0, 1) := by decide +kernel
theorem dX12_after_44 : decode cX12_after 44 = .ok (.iload 5, 2) := by decide +kernel
theorem dX12_after_46 : decode cX12_after 46 = .ok (.invokevirtual 442, 3) := by decide +kernel
theorem dX12_after_49 : decode cX12_after 49 = .ok (.ifCond .eq 26, 3) := by decide +kernel
theorem dX12_after_52 : decode cX12_after 52 = .ok (.iload 4, 2) := by decide +kernel
theorem dX12_after_54 : decode cX12_after 54 = .ok (.iconst (-1), 1) := by decide +kernel
theorem dX12_after_55 : decode cX12_after 55 = .ok (.if_icmp .ne 14, 3) := by decide +kernel
theorem dX12_after_58 : decode cX12_after 58 = .ok (.aload_n 0, 1) := by decide +kernel
theorem dX12_after_59 : decode cX12_after 59 = .ok (.getfield 401, 3) := by decide +kernel
theorem dX12_after_62 : decode cX12_after 62 = .ok (.ifCond .le 7, 3) := by decide +kernel
theorem dX12_after_65 : decode cX12_after 65 = .ok (.iload 5, 2) := by decide +kernel
theorem dX12_after_67 : decode cX12_after 67 = .ok (.istore 4, 2) := by decide +kernel
theorem dX12_after_69 : decode cX12_after 69 = .ok (.iinc 5 1, 3) := by decide +kernel
theorem dX12_after_72 : decode cX12_after 72 = .ok (.goto (-43), 3) := by decide +kernel
theorem dX12_after_75 : decode cX12_after 75 = .ok (.iconst 0, 1) := by decide +kernel
theorem dX12_after_76 : decode cX12_after 76 = .ok (.istore 5, 2) := by decide +kernel
theorem dX12_after_78 : decode cX12_after 78 = .ok (.iconst 0, 1) := by decide +kernel
theorem dX12_after_79 : decode cX12_after 79 = .ok (.istore 6, 2) := by decide +kernel
theorem dX12_after_81 : decode cX12_after 81 = .ok (.iload 6, 2) := by decide +kernel
theorem dX12_after_83 : decode cX12_after 83 = .ok (.aload_n 0, 1) := by decide +kernel
theorem dX12_after_84 : decode cX12_after 84 = .ok (.getfield 398, 3) := by decide +kernel
theorem dX12_after_87 : decode cX12_after 87 = .ok (.if_icmp .ge 33, 3) := by decide +kernel
theorem dX12_after_90 : decode cX12_after 90 = .ok (.iload 5, 2) := by decide +kernel
theorem dX12_after_92 : decode cX12_after 92 = .ok (.aload_n 0, 1) := by decide +kernel
theorem dX12_after_93 : decode cX12_after 93 = .ok (.getfield 85, 3) := by decide +kernel
theorem dX12_after_96 : decode cX12_after 96 = .ok (.iload 6, 2) := by decide +kernel
theorem dX12_after_98 : decode cX12_after 98 = .ok (.iaload, 1) := by decide +kernel
theorem dX12_after_99 : decode cX12_after 99 = .ok (.iload_n 3, 1) := by decide +kernel
theorem dX12_after_100 : decode cX12_after 100 = .ok (.bipush 10, 2) := by decide +kernel
theorem dX12_after_102 : decode cX12_after 102 = .ok (.isub, 1) := by decide +kernel
theorem dX12_after_103 : decode cX12_after 103 = .ok (.if_icmp .ne 7, 3) := by decide +kernel
theorem dX12_after_106 : decode cX12_after 106 = .ok (.iconst 1, 1) := by decide +kernel
theorem dX12_after_107 : decode cX12_after 107 = .ok (.goto 4, 3) := by decide +kernel
theorem dX12_after_110 : decode cX12_after 110 = .ok (.iconst 0, 1) := by decide +kernel
theorem dX12_after_111 : decode cX12_after 111 = .ok (.iadd, 1) := by decide +kernel
theorem dX12_after_112 : decode cX12_after 112 = .ok (.istore 5, 2) := by decide +kernel
theorem dX12_after_114 : decode cX12_after 114 = .ok (.iinc 6 1, 3) := by decide +kernel
theorem dX12_after_117 : decode cX12_after 117 = .ok (.goto (-36), 3) := by decide +kernel
theorem dX12_after_120 : decode cX12_after 120 = .ok (.iload_n 3, 1) := by decide +kernel
theorem dX12_after_121 : decode cX12_after 121 = .ok (.tableswitch 40 0 2 #[27, 30, 35], 27) := by decide +kernel
theorem dX12_after_148 : decode cX12_after 148 = .ok (.iload 4, 2) := by decide +kernel
theorem dX12_after_150 : decode cX12_after 150 = .ok (.ireturn, 1) := by decide +kernel
theorem dX12_after_151 : decode cX12_after 151 = .ok (.aload_n 0, 1) := by decide +kernel
theorem dX12_after_152 : decode cX12_after 152 = .ok (.invokevirtual 454, 3) := by decide +kernel
theorem dX12_after_155 : decode cX12_after 155 = .ok (.ireturn, 1) := by decide +kernel
theorem dX12_after_156 : decode cX12_after 156 = .ok (.aload_n 0, 1) := by decide +kernel
theorem dX12_after_157 : decode cX12_after 157 = .ok (.invokevirtual 457, 3) := by decide +kernel
theorem dX12_after_160 : decode cX12_after 160 = .ok (.ireturn, 1) := by decide +kernel
theorem dX12_after_161 : decode cX12_after 161 = .ok (.iload_n 3, 1) := by decide +kernel
theorem dX12_after_162 : decode cX12_after 162 = .ok (.bipush 10, 2) := by decide +kernel
theorem dX12_after_164 : decode cX12_after 164 = .ok (.bipush 14, 2) := by decide +kernel
theorem dX12_after_166 : decode cX12_after 166 = .ok (.invokestatic 146, 3) := by decide +kernel
theorem dX12_after_169 : decode cX12_after 169 = .ok (.ifCond .eq 8, 3) := by decide +kernel
theorem dX12_after_172 : decode cX12_after 172 = .ok (.iload 5, 2) := by decide +kernel
theorem dX12_after_174 : decode cX12_after 174 = .ok (.goto 5, 3) := by decide +kernel
theorem dX12_after_177 : decode cX12_after 177 = .ok (.bipush (-2), 2) := by decide +kernel
theorem dX12_after_179 : decode cX12_after 179 = .ok (.ireturn, 1) := by decide +kernel
theorem dX12_isSight_0 : decode cX12_isSight 0 = .ok (.aload_n 0, 1) := by decide +kernel
theorem dX12_isSight_1 : decode cX12_isSight 1 = .ok (.iconst 2, 1) := by decide +kernel
theorem dX12_isSight_2 : decode cX12_isSight 2 = .ok (.iload_n 1, 1) := by decide +kernel
theorem dX12_isSight_3 : decode cX12_isSight 3 = .ok (.invokevirtual 186, 3) := by decide +kernel
theorem dX12_isSight_6 : decode cX12_isSight 6 = .ok (.ifCond .ne 5, 3) := by decide +kernel
theorem dX12_isSight_9 : decode cX12_isSight 9 = .ok (.iconst 0, 1) := by decide +kernel
theorem dX12_isSight_10 : decode cX12_isSight 10 = .ok (.ireturn, 1) := by decide +kernel
theorem dX12_isSight_11 : decode cX12_isSight 11 = .ok (.aload_n 0, 1) := by decide +kernel
theorem dX12_isSight_12 : decode cX12_isSight 12 = .ok (.iconst 2, 1) := by decide +kernel
theorem dX12_isSight_13 : decode cX12_isSight 13 = .ok (.iload_n 1, 1) := by decide +kernel
theorem dX12_isSight_14 : decode cX12_isSight 14 = .ok (.invokestatic 205, 3) := by decide +kernel
theorem dX12_isSight_17 : decode cX12_isSight 17 = .ok (.putfield 460, 3) := by decide +kernel
theorem dX12_isSight_20 : decode cX12_isSight 20 = .ok (.iconst 1, 1) := by decide +kernel
theorem dX12_isSight_21 : decode cX12_isSight 21 = .ok (.ireturn, 1) := by decide +kernel
theorem dX12_sight_0 : decode cX12_sight 0 = .ok (.aload_n 0, 1) := by decide +kernel
theorem dX12_sight_1 : decode cX12_sight 1 = .ok (.iload_n 1, 1) := by decide +kernel
theorem dX12_sight_2 : decode cX12_sight 2 = .ok (.invokevirtual 463, 3) := by decide +kernel
theorem dX12_sight_5 : decode cX12_sight 5 = .ok (.ifCond .ne 5, 3) := by decide +kernel
theorem dX12_sight_8 : decode cX12_sight 8 = .ok (.iconst (-1), 1) := by decide +kernel
theorem dX12_sight_9 : decode cX12_sight 9 = .ok (.ireturn, 1) := by decide +kernel
theorem dX12_sight_10 : decode cX12_sight 10 = .ok (.iload_n 2, 1) := by decide +kernel
theorem dX12_sight_11 : decode cX12_sight 11 = .ok (.iconst 0, 1) := by decide +kernel
theorem dX12_sight_12 : decode cX12_sight 12 = .ok (.iconst 1, 1) := by decide +kernel
theorem dX12_sight_13 : decode cX12_sight 13 = .ok (.invokestatic 146, 3) := by decide +kernel
theorem dX12_sight_16 : decode cX12_sight 16 = .ok (.ifCond .eq 15, 3) := by decide +kernel
theorem dX12_sight_19 : decode cX12_sight 19 = .ok (.aload_n 0, 1) := by decide +kernel
theorem dX12_sight_20 : decode cX12_sight 20 = .ok (.getfield 7, 3) := by decide +kernel
theorem dX12_sight_23 : decode cX12_sight 23 = .ok (.aload_n 0, 1) := by decide +kernel
theorem dX12_sight_24 : decode cX12_sight 24 = .ok (.getfield 460, 3) := by decide +kernel
theorem dX12_sight_27 : decode cX12_sight 27 = .ok (.iload_n 2, 1) := by decide +kernel
theorem dX12_sight_28 : decode cX12_sight 28 = .ok (.iadd, 1) := by decide +kernel
theorem dX12_sight_29 : decode cX12_sight 29 = .ok (.iaload, 1) := by decide +kernel
theorem dX12_sight_30 : decode cX12_sight 30 = .ok (.ireturn, 1) := by decide +kernel
theorem dX12_sight_31 : decode cX12_sight 31 = .ok (.iload_n 2, 1) := by decide +kernel
theorem dX12_sight_32 : decode cX12_sight 32 = .ok (.bipush 10, 2) := by decide +kernel
theorem dX12_sight_34 : decode cX12_sight 34 = .ok (.irem, 1) := by decide +kernel
theorem dX12_sight_35 : decode cX12_sight 35 = .ok (.istore_n 3, 1) := by decide +kernel
theorem dX12_sight_36 : decode cX12_sight 36 = .ok (.iload_n 2, 1) := by decide +kernel
theorem dX12_sight_37 : decode cX12_sight 37 = .ok (.bipush 10, 2) := by decide +kernel
theorem dX12_sight_39 : decode cX12_sight 39 = .ok (.bipush 29, 2) := by decide +kernel
theorem dX12_sight_41 : decode cX12_sight 41 = .ok (.invokestatic 146, 3) := by decide +kernel
theorem dX12_sight_44 : decode cX12_sight 44 = .ok (.ifCond .eq 43, 3) := by decide +kernel
theorem dX12_sight_47 : decode cX12_sight 47 = .ok (.iload_n 3, 1) := by decide +kernel
theorem dX12_sight_48 : decode cX12_sight 48 = .ok (.aload_n 0, 1) := by decide +kernel
theorem dX12_sight_49 : decode cX12_sight 49 = .ok (.getfield 7, 3) := by decide +kernel
theorem dX12_sight_52 : decode cX12_sight 52 = .ok (.aload_n 0, 1) := by decide +kernel
theorem dX12_sight_53 : decode cX12_sight 53 = .ok (.getfield 460, 3) := by decide +kernel
theorem dX12_sight_56 : decode cX12_sight 56 = .ok (.iconst 1, 1) := by decide +kernel
theorem dX12_sight_57 : decode cX12_sight 57 = .ok (.iadd, 1) := by decide +kernel
theorem dX12_sight_58 : decode cX12_sight 58 = .ok (.iaload, 1) := by decide +kernel
theorem dX12_sight_59 : decode cX12_sight 59 = .ok (.if_icmp .ge 28, 3) := by decide +kernel
theorem dX12_sight_62 : decode cX12_sight 62 = .ok (.aload_n 0, 1) := by decide +kernel
theorem dX12_sight_63 : decode cX12_sight 63 = .ok (.getfield 7, 3) := by decide +kernel
theorem dX12_sight_66 : decode cX12_sight 66 = .ok (.aload_n 0, 1) := by decide +kernel
theorem dX12_sight_67 : decode cX12_sight 67 = .ok (.getfield 460, 3) := by decide +kernel
theorem dX12_sight_70 : decode cX12_sight 70 = .ok (.iconst 2, 1) := by decide +kernel
theorem dX12_sight_71 : decode cX12_sight 71 = .ok (.iadd, 1) := by decide +kernel
theorem dX12_sight_72 : decode cX12_sight 72 = .ok (.iconst 2, 1) := by decide +kernel
theorem dX12_sight_73 : decode cX12_sight 73 = .ok (.iload_n 3, 1) := by decide +kernel
theorem dX12_sight_74 : decode cX12_sight 74 = .ok (.imul, 1) := by decide +kernel
theorem dX12_sight_75 : decode cX12_sight 75 = .ok (.iadd, 1) := by decide +kernel
theorem dX12_sight_76 : decode cX12_sight 76 = .ok (.iload_n 2, 1) := by decide +kernel
theorem dX12_sight_77 : decode cX12_sight 77 = .ok (.bipush 10, 2) := by decide +kernel
theorem dX12_sight_79 : decode cX12_sight 79 = .ok (.idiv, 1) := by decide +kernel
theorem dX12_sight_80 : decode cX12_sight 80 = .ok (.iadd, 1) := by decide +kernel
theorem dX12_sight_81 : decode cX12_sight 81 = .ok (.iconst 1, 1) := by decide +kernel
theorem dX12_sight_82 : decode cX12_sight 82 = .ok (.isub, 1) := by decide +kernel
theorem dX12_sight_83 : decode cX12_sight 83 = .ok (.iaload, 1) := by decide +kernel
theorem dX12_sight_84 : decode cX12_sight 84 = .ok (.goto 4, 3) := by decide +kernel
theorem dX12_sight_87 : decode cX12_sight 87 = .ok (.iconst (-1), 1) := by decide +kernel
theorem dX12_sight_88 : decode cX12_sight 88 = .ok (.ireturn, 1) := by decide +kernel
theorem dX12_areWorks_0 : decode cX12_areWorks 0 = .ok (.iconst 1, 1) := by decide +kernel
theorem dX12_areWorks_1 : decode cX12_areWorks 1 = .ok (.istore_n 1, 1) := by decide +kernel
theorem dX12_areWorks_2 : decode cX12_areWorks 2 = .ok (.iconst 0, 1) := by decide +kernel
theorem dX12_areWorks_3 : decode cX12_areWorks 3 = .ok (.istore_n 2, 1) := by decide +kernel
theorem dX12_areWorks_4 : decode cX12_areWorks 4 = .ok (.iload_n 2, 1) := by decide +kernel
theorem dX12_areWorks_5 : decode cX12_areWorks 5 = .ok (.aload_n 0, 1) := by decide +kernel
theorem dX12_areWorks_6 : decode cX12_areWorks 6 = .ok (.getfield 7, 3) := by decide +kernel
theorem dX12_areWorks_9 : decode cX12_areWorks 9 = .ok (.aload_n 0, 1) := by decide +kernel
theorem dX12_areWorks_10 : decode cX12_areWorks 10 = .ok (.getfield 460, 3) := by decide +kernel
theorem dX12_areWorks_13 : decode cX12_areWorks 13 = .ok (.iconst 1, 1) := by decide +kernel
theorem dX12_areWorks_14 : decode cX12_areWorks 14 = .ok (.iadd, 1) := by decide +kernel
theorem dX12_areWorks_15 : decode cX12_areWorks 15 = .ok (.iaload, 1) := by decide +kernel
theorem dX12_areWorks_16 : decode cX12_areWorks 16 = .ok (.if_icmp .ge 41, 3) := by decide +kernel
theorem dX12_areWorks_19 : decode cX12_areWorks 19 = .ok (.iload_n 1, 1) := by decide +kernel
theorem dX12_areWorks_20 : decode cX12_areWorks 20 = .ok (.ifCond .eq 29, 3) := by decide +kernel
theorem dX12_areWorks_23 : decode cX12_areWorks 23 = .ok (.aload_n 0, 1) := by decide +kernel
theorem dX12_areWorks_24 : decode cX12_areWorks 24 = .ok (.aload_n 0, 1) := by decide +kernel
theorem dX12_areWorks_25 : decode cX12_areWorks 25 = .ok (.getfield 7, 3) := by decide +kernel
theorem dX12_areWorks_28 : decode cX12_areWorks 28 = .ok (.aload_n 0, 1) := by decide +kernel
theorem dX12_areWorks_29 : decode cX12_areWorks 29 = .ok (.getfield 460, 3) := by decide +kernel
theorem dX12_areWorks_32 : decode cX12_areWorks 32 = .ok (.iconst 2, 1) := by decide +kernel
theorem dX12_areWorks_33 : decode cX12_areWorks 33 = .ok (.iadd, 1) := by decide +kernel
theorem dX12_areWorks_34 : decode cX12_areWorks 34 = .ok (.iconst 2, 1) := by decide +kernel
theorem dX12_areWorks_35 : decode cX12_areWorks 35 = .ok (.iload_n 2, 1) := by decide +kernel
theorem dX12_areWorks_36 : decode cX12_areWorks 36 = .ok (.imul, 1) := by decide +kernel
theorem dX12_areWorks_37 : decode cX12_areWorks 37 = .ok (.iadd, 1) := by decide +kernel
theorem dX12_areWorks_38 : decode cX12_areWorks 38 = .ok (.iaload, 1) := by decide +kernel
theorem dX12_areWorks_39 : decode cX12_areWorks 39 = .ok (.invokevirtual 226, 3) := by decide +kernel
theorem dX12_areWorks_42 : decode cX12_areWorks 42 = .ok (.ifCond .eq 7, 3) := by decide +kernel
theorem dX12_areWorks_45 : decode cX12_areWorks 45 = .ok (.iconst 1, 1) := by decide +kernel
theorem dX12_areWorks_46 : decode cX12_areWorks 46 = .ok (.goto 4, 3) := by decide +kernel
theorem dX12_areWorks_49 : decode cX12_areWorks 49 = .ok (.iconst 0, 1) := by decide +kernel
theorem dX12_areWorks_50 : decode cX12_areWorks 50 = .ok (.istore_n 1, 1) := by decide +kernel
theorem dX12_areWorks_51 : decode cX12_areWorks 51 = .ok (.iinc 2 1, 3) := by decide +kernel
theorem dX12_areWorks_54 : decode cX12_areWorks 54 = .ok (.goto (-50), 3) := by decide +kernel
theorem dX12_areWorks_57 : decode cX12_areWorks 57 = .ok (.iload_n 1, 1) := by decide +kernel
theorem dX12_areWorks_58 : decode cX12_areWorks 58 = .ok (.ireturn, 1) := by decide +kernel
theorem dX12_lasts_0 : decode cX12_lasts 0 = .ok (.aload_n 0, 1) := by decide +kernel
theorem dX12_lasts_1 : decode cX12_lasts 1 = .ok (.invokevirtual 439, 3) := by decide +kernel
theorem dX12_lasts_4 : decode cX12_lasts 4 = .ok (.aload_n 0, 1) := by decide +kernel
theorem dX12_lasts_5 : decode cX12_lasts 5 = .ok (.iload_n 1, 1) := by decide +kernel
theorem dX12_lasts_6 : decode cX12_lasts 6 = .ok (.iload_n 2, 1) := by decide +kernel
theorem dX12_lasts_7 : decode cX12_lasts 7 = .ok (.bipush 9, 2) := by decide +kernel
theorem dX12_lasts_9 : decode cX12_lasts 9 = .ok (.invokevirtual 420, 3) := by decide +kernel
theorem dX12_lasts_12 : decode cX12_lasts 12 = .ok (.pop, 1) := by decide +kernel
theorem dX12_lasts_13 : decode cX12_lasts 13 = .ok (.iconst 0, 1) := by decide +kernel
theorem dX12_lasts_14 : decode cX12_lasts 14 = .ok (.istore 4, 2) := by decide +kernel
theorem dX12_lasts_16 : decode cX12_lasts 16 = .ok (.iload 4, 2) := by decide +kernel
theorem dX12_lasts_18 : decode cX12_lasts 18 = .ok (.iload_n 3, 1) := by decide +kernel
theorem dX12_lasts_19 : decode cX12_lasts 19 = .ok (.if_icmp .ge 14, 3) := by decide +kernel
theorem dX12_lasts_22 : decode cX12_lasts 22 = .ok (.aload_n 0, 1) := by decide +kernel
theorem dX12_lasts_23 : decode cX12_lasts 23 = .ok (.invokevirtual 432, 3) := by decide +kernel
theorem dX12_lasts_26 : decode cX12_lasts 26 = .ok (.pop, 1) := by decide +kernel
theorem dX12_lasts_27 : decode cX12_lasts 27 = .ok (.iinc 4 1, 3) := by decide +kernel
theorem dX12_lasts_30 : decode cX12_lasts 30 = .ok (.goto (-14), 3) := by decide +kernel
theorem dX12_lasts_33 : decode cX12_lasts 33 = .ok (.return_, 1) := by decide +kernel
theorem dX12_isSo_0 : decode cX12_isSo 0 = .ok (.iload_n 1, 1) := by decide +kernel
theorem dX12_isSo_1 : decode cX12_isSo 1 = .ok (.bipush 10, 2) := by decide +kernel
theorem dX12_isSo_3 : decode cX12_isSo 3 = .ok (.idiv, 1) := by decide +kernel
theorem dX12_isSo_4 : decode cX12_isSo 4 = .ok (.istore_n 2, 1) := by decide +kernel
theorem dX12_isSo_5 : decode cX12_isSo 5 = .ok (.aload_n 0, 1) := by decide +kernel
theorem dX12_isSo_6 : decode cX12_isSo 6 = .ok (.iload_n 2, 1) := by decide +kernel
theorem dX12_isSo_7 : decode cX12_isSo 7 = .ok (.invokevirtual 223, 3) := by decide +kernel
theorem dX12_isSo_10 : decode cX12_isSo 10 = .ok (.ifCond .eq 22, 3) := by decide +kernel
theorem dX12_isSo_13 : decode cX12_isSo 13 = .ok (.aload_n 0, 1) := by decide +kernel
theorem dX12_isSo_14 : decode cX12_isSo 14 = .ok (.iload_n 1, 1) := by decide +kernel
theorem dX12_isSo_15 : decode cX12_isSo 15 = .ok (.bipush 10, 2) := by decide +kernel
theorem dX12_isSo_17 : decode cX12_isSo 17 = .ok (.irem, 1) := by decide +kernel
theorem dX12_isSo_18 : decode cX12_isSo 18 = .ok (.invokevirtual 226, 3) := by decide +kernel
theorem dX12_isSo_21 : decode cX12_isSo 21 = .ok (.ifCond .eq 11, 3) := by decide +kernel
theorem dX12_isSo_24 : decode cX12_isSo 24 = .ok (.aload_n 0, 1) := by decide +kernel
theorem dX12_isSo_25 : decode cX12_isSo 25 = .ok (.iload_n 2, 1) := by decide +kernel
theorem dX12_isSo_26 : decode cX12_isSo 26 = .ok (.invokevirtual 241, 3) := by decide +kernel
theorem dX12_isSo_29 : decode cX12_isSo 29 = .ok (.ifCond .ne 5, 3) := by decide +kernel
theorem dX12_isSo_32 : decode cX12_isSo 32 = .ok (.iconst 0, 1) := by decide +kernel
theorem dX12_isSo_33 : decode cX12_isSo 33 = .ok (.ireturn, 1) := by decide +kernel
theorem dX12_isSo_34 : decode cX12_isSo 34 = .ok (.aload_n 0, 1) := by decide +kernel
theorem dX12_isSo_35 : decode cX12_isSo 35 = .ok (.iload_n 2, 1) := by decide +kernel
theorem dX12_isSo_36 : decode cX12_isSo 36 = .ok (.iload_n 1, 1) := by decide +kernel
theorem dX12_isSo_37 : decode cX12_isSo 37 = .ok (.bipush 10, 2) := by decide +kernel
theorem dX12_isSo_39 : decode cX12_isSo 39 = .ok (.irem, 1) := by decide +kernel
theorem dX12_isSo_40 : decode cX12_isSo 40 = .ok (.aload_n 0, 1) := by decide +kernel
theorem dX12_isSo_41 : decode cX12_isSo 41 = .ok (.getfield 7, 3) := by decide +kernel
theorem dX12_isSo_44 : decode cX12_isSo 44 = .ok (.aload_n 0, 1) := by decide +kernel
theorem dX12_isSo_45 : decode cX12_isSo 45 = .ok (.getfield 460, 3) := by decide +kernel
theorem dX12_isSo_48 : decode cX12_isSo 48 = .ok (.iaload, 1) := by decide +kernel
theorem dX12_isSo_49 : decode cX12_isSo 49 = .ok (.invokevirtual 466, 3) := by decide +kernel
theorem dX12_isSo_52 : decode cX12_isSo 52 = .ok (.iconst 1, 1) := by decide +kernel
theorem dX12_isSo_53 : decode cX12_isSo 53 = .ok (.istore_n 3, 1) := by decide +kernel
theorem dX12_isSo_54 : decode cX12_isSo 54 = .ok (.iconst 0, 1) := by decide +kernel
theorem dX12_isSo_55 : decode cX12_isSo 55 = .ok (.istore 4, 2) := by decide +kernel
theorem dX12_isSo_57 : decode cX12_isSo 57 = .ok (.iload 4, 2) := by decide +kernel
theorem dX12_isSo_59 : decode cX12_isSo 59 = .ok (.aload_n 0, 1) := by decide +kernel
theorem dX12_isSo_60 : decode cX12_isSo 60 = .ok (.getfield 7, 3) := by decide +kernel
theorem dX12_isSo_63 : decode cX12_isSo 63 = .ok (.aload_n 0, 1) := by decide +kernel
theorem dX12_isSo_64 : decode cX12_isSo 64 = .ok (.getfield 460, 3) := by decide +kernel
theorem dX12_isSo_67 : decode cX12_isSo 67 = .ok (.iconst 1, 1) := by decide +kernel
theorem dX12_isSo_68 : decode cX12_isSo 68 = .ok (.iadd, 1) := by decide +kernel
theorem dX12_isSo_69 : decode cX12_isSo 69 = .ok (.iaload, 1) := by decide +kernel
theorem dX12_isSo_70 : decode cX12_isSo 70 = .ok (.if_icmp .ge 59, 3) := by decide +kernel
theorem dX12_isSo_73 : decode cX12_isSo 73 = .ok (.iload_n 3, 1) := by decide +kernel
theorem dX12_isSo_74 : decode cX12_isSo 74 = .ok (.ifCond .eq 47, 3) := by decide +kernel
theorem dX12_isSo_77 : decode cX12_isSo 77 = .ok (.aload_n 0, 1) := by decide +kernel
theorem dX12_isSo_78 : decode cX12_isSo 78 = .ok (.getfield 73, 3) := by decide +kernel
theorem dX12_isSo_81 : decode cX12_isSo 81 = .ok (.aload_n 0, 1) := by decide +kernel
theorem dX12_isSo_82 : decode cX12_isSo 82 = .ok (.getfield 7, 3) := by decide +kernel
theorem dX12_isSo_85 : decode cX12_isSo 85 = .ok (.aload_n 0, 1) := by decide +kernel
theorem dX12_isSo_86 : decode cX12_isSo 86 = .ok (.getfield 460, 3) := by decide +kernel
theorem dX12_isSo_89 : decode cX12_isSo 89 = .ok (.iconst 2, 1) := by decide +kernel
theorem dX12_isSo_90 : decode cX12_isSo 90 = .ok (.iadd, 1) := by decide +kernel
theorem dX12_isSo_91 : decode cX12_isSo 91 = .ok (.iconst 2, 1) := by decide +kernel
theorem dX12_isSo_92 : decode cX12_isSo 92 = .ok (.iload 4, 2) := by decide +kernel
theorem dX12_isSo_94 : decode cX12_isSo 94 = .ok (.imul, 1) := by decide +kernel
theorem dX12_isSo_95 : decode cX12_isSo 95 = .ok (.iadd, 1) := by decide +kernel
theorem dX12_isSo_96 : decode cX12_isSo 96 = .ok (.iaload, 1) := by decide +kernel
theorem dX12_isSo_97 : decode cX12_isSo 97 = .ok (.iaload, 1) := by decide +kernel
theorem dX12_isSo_98 : decode cX12_isSo 98 = .ok (.aload_n 0, 1) := by decide +kernel
theorem dX12_isSo_99 : decode cX12_isSo 99 = .ok (.getfield 7, 3) := by decide +kernel
theorem dX12_isSo_102 : decode cX12_isSo 102 = .ok (.aload_n 0, 1) := by decide +kernel
theorem dX12_isSo_103 : decode cX12_isSo 103 = .ok (.getfield 460, 3) := by decide +kernel
theorem dX12_isSo_106 : decode cX12_isSo 106 = .ok (.iconst 3, 1) := by decide +kernel
theorem dX12_isSo_107 : decode cX12_isSo 107 = .ok (.iadd, 1) := by decide +kernel
theorem dX12_isSo_108 : decode cX12_isSo 108 = .ok (.iconst 2, 1) := by decide +kernel
theorem dX12_isSo_109 : decode cX12_isSo 109 = .ok (.iload 4, 2) := by decide +kernel
theorem dX12_isSo_111 : decode cX12_isSo 111 = .ok (.imul, 1) := by decide +kernel
theorem dX12_isSo_112 : decode cX12_isSo 112 = .ok (.iadd, 1) := by decide +kernel
theorem dX12_isSo_113 : decode cX12_isSo 113 = .ok (.iaload, 1) := by decide +kernel
theorem dX12_isSo_114 : decode cX12_isSo 114 = .ok (.if_icmp .ne 7, 3) := by decide +kernel
theorem dX12_isSo_117 : decode cX12_isSo 117 = .ok (.iconst 1, 1) := by decide +kernel
theorem dX12_isSo_118 : decode cX12_isSo 118 = .ok (.goto 4, 3) := by decide +kernel
theorem dX12_isSo_121 : decode cX12_isSo 121 = .ok (.iconst 0, 1) := by decide +kernel
theorem dX12_isSo_122 : decode cX12_isSo 122 = .ok (.istore_n 3, 1) := by decide +kernel
theorem dX12_isSo_123 : decode cX12_isSo 123 = .ok (.iinc 4 1, 3) := by decide +kernel
theorem dX12_isSo_126 : decode cX12_isSo 126 = .ok (.goto (-69), 3) := by decide +kernel
theorem dX12_isSo_129 : decode cX12_isSo 129 = .ok (.iload_n 3, 1) := by decide +kernel
theorem dX12_isSo_130 : decode cX12_isSo 130 = .ok (.ireturn, 1) := by decide +kernel
theorem dX12_nextFit_0 : decode cX12_nextFit 0 = .ok (.iload_n 1, 1) := by decide +kernel
theorem dX12_nextFit_1 : decode cX12_nextFit 1 = .ok (.iconst 1, 1) := by decide +kernel
theorem dX12_nextFit_2 : decode cX12_nextFit 2 = .ok (.iadd, 1) := by decide +kernel
theorem dX12_nextFit_3 : decode cX12_nextFit 3 = .ok (.istore_n 2, 1) := by decide +kernel
theorem dX12_nextFit_4 : decode cX12_nextFit 4 = .ok (.iload_n 2, 1) := by decide +kernel
theorem dX12_nextFit_5 : decode cX12_nextFit 5 = .ok (.bipush 100, 2) := by decide +kernel
theorem dX12_nextFit_7 : decode cX12_nextFit 7 = .ok (.if_icmp .ge 17, 3) := by decide +kernel
theorem dX12_nextFit_10 : decode cX12_nextFit 10 = .ok (.aload_n 0, 1) := by decide +kernel
theorem dX12_nextFit_11 : decode cX12_nextFit 11 = .ok (.iload_n 2, 1) := by decide +kernel
theorem dX12_nextFit_12 : decode cX12_nextFit 12 = .ok (.invokevirtual 469, 3) := by decide +kernel
theorem dX12_nextFit_15 : decode cX12_nextFit 15 = .ok (.ifCond .ne 9, 3) := by decide +kernel
theorem dX12_nextFit_18 : decode cX12_nextFit 18 = .ok (.iinc 2 1, 3) := by decide +kernel
theorem dX12_nextFit_21 : decode cX12_nextFit 21 = .ok (.goto (-17), 3) := by decide +kernel
theorem dX12_nextFit_24 : decode cX12_nextFit 24 = .ok (.iload_n 2, 1) := by decide +kernel
theorem dX12_nextFit_25 : decode cX12_nextFit 25 = .ok (.bipush 100, 2) := by decide +kernel
theorem dX12_nextFit_27 : decode cX12_nextFit 27 = .ok (.if_icmp .ge 7, 3) := by decide +kernel
theorem dX12_nextFit_30 : decode cX12_nextFit 30 = .ok (.iload_n 2, 1) := by decide +kernel
theorem dX12_nextFit_31 : decode cX12_nextFit 31 = .ok (.goto 4, 3) := by decide +kernel
theorem dX12_nextFit_34 : decode cX12_nextFit 34 = .ok (.iconst (-1), 1) := by decide +kernel
theorem dX12_nextFit_35 : decode cX12_nextFit 35 = .ok (.ireturn, 1) := by decide +kernel
theorem dX12_manyFit_0 : decode cX12_manyFit 0 = .ok (.iconst 0, 1) := by decide +kernel
theorem dX12_manyFit_1 : decode cX12_manyFit 1 = .ok (.istore_n 1, 1) := by decide +kernel
theorem dX12_manyFit_2 : decode cX12_manyFit 2 = .ok (.aload_n 0, 1) := by decide +kernel
theorem dX12_manyFit_3 : decode cX12_manyFit 3 = .ok (.iconst (-1), 1) := by decide +kernel
theorem dX12_manyFit_4 : decode cX12_manyFit 4 = .ok (.invokevirtual 472, 3) := by decide +kernel
theorem dX12_manyFit_7 : decode cX12_manyFit 7 = .ok (.istore_n 2, 1) := by decide +kernel
theorem dX12_manyFit_8 : decode cX12_manyFit 8 = .ok (.iload_n 2, 1) := by decide +kernel
theorem dX12_manyFit_9 : decode cX12_manyFit 9 = .ok (.iconst (-1), 1) := by decide +kernel
theorem dX12_manyFit_10 : decode cX12_manyFit 10 = .ok (.if_icmp .eq 15, 3) := by decide +kernel
theorem dX12_manyFit_13 : decode cX12_manyFit 13 = .ok (.iinc 1 1, 3) := by decide +kernel
theorem dX12_manyFit_16 : decode cX12_manyFit 16 = .ok (.aload_n 0, 1) := by decide +kernel
theorem dX12_manyFit_17 : decode cX12_manyFit 17 = .ok (.iload_n 2, 1) := by decide +kernel
theorem dX12_manyFit_18 : decode cX12_manyFit 18 = .ok (.invokevirtual 472, 3) := by decide +kernel
theorem dX12_manyFit_21 : decode cX12_manyFit 21 = .ok (.istore_n 2, 1) := by decide +kernel
theorem dX12_manyFit_22 : decode cX12_manyFit 22 = .ok (.goto (-14), 3) := by decide +kernel
theorem dX12_manyFit_25 : decode cX12_manyFit 25 = .ok (.iload_n 1, 1) := by decide +kernel
theorem dX12_manyFit_26 : decode cX12_manyFit 26 = .ok (.ireturn, 1) := by decide +kernel
theorem dX12_sureOf_0 : decode cX12_sureOf 0 = .ok (.iconst (-1), 1) := by decide +kernel
theorem dX12_sureOf_1 : decode cX12_sureOf 1 = .ok (.istore_n 1, 1) := by decide +kernel
theorem dX12_sureOf_2 : decode cX12_sureOf 2 = .ok (.aload_n 0, 1) := by decide +kernel
theorem dX12_sureOf_3 : decode cX12_sureOf 3 = .ok (.iconst (-1), 1) := by decide +kernel
theorem dX12_sureOf_4 : decode cX12_sureOf 4 = .ok (.invokevirtual 472, 3) := by decide +kernel
theorem dX12_sureOf_7 : decode cX12_sureOf 7 = .ok (.istore_n 2, 1) := by decide +kernel
theorem dX12_sureOf_8 : decode cX12_sureOf 8 = .ok (.iload_n 2, 1) := by decide +kernel
theorem dX12_sureOf_9 : decode cX12_sureOf 9 = .ok (.iconst (-1), 1) := by decide +kernel
theorem dX12_sureOf_10 : decode cX12_sureOf 10 = .ok (.if_icmp .eq 32, 3) := by decide +kernel
theorem dX12_sureOf_13 : decode cX12_sureOf 13 = .ok (.iload_n 1, 1) := by decide +kernel
theorem dX12_sureOf_14 : decode cX12_sureOf 14 = .ok (.iconst (-1), 1) := by decide +kernel
theorem dX12_sureOf_15 : decode cX12_sureOf 15 = .ok (.if_icmp .eq 13, 3) := by decide +kernel
theorem dX12_sureOf_18 : decode cX12_sureOf 18 = .ok (.iload_n 1, 1) := by decide +kernel
theorem dX12_sureOf_19 : decode cX12_sureOf 19 = .ok (.iload_n 2, 1) := by decide +kernel
theorem dX12_sureOf_20 : decode cX12_sureOf 20 = .ok (.bipush 10, 2) := by decide +kernel
theorem dX12_sureOf_22 : decode cX12_sureOf 22 = .ok (.idiv, 1) := by decide +kernel
theorem dX12_sureOf_23 : decode cX12_sureOf 23 = .ok (.if_icmp .eq 5, 3) := by decide +kernel
theorem dX12_sureOf_26 : decode cX12_sureOf 26 = .ok (.iconst (-1), 1) := by decide +kernel
theorem dX12_sureOf_27 : decode cX12_sureOf 27 = .ok (.ireturn, 1) := by decide +kernel
theorem dX12_sureOf_28 : decode cX12_sureOf 28 = .ok (.iload_n 2, 1) := by decide +kernel
theorem dX12_sureOf_29 : decode cX12_sureOf 29 = .ok (.bipush 10, 2) := by decide +kernel
theorem dX12_sureOf_31 : decode cX12_sureOf 31 = .ok (.idiv, 1) := by decide +kernel
theorem dX12_sureOf_32 : decode cX12_sureOf 32 = .ok (.istore_n 1, 1) := by decide +kernel
theorem dX12_sureOf_33 : decode cX12_sureOf 33 = .ok (.aload_n 0, 1) := by decide +kernel
theorem dX12_sureOf_34 : decode cX12_sureOf 34 = .ok (.iload_n 2, 1) := by decide +kernel
theorem dX12_sureOf_35 : decode cX12_sureOf 35 = .ok (.invokevirtual 472, 3) := by decide +kernel
theorem dX12_sureOf_38 : decode cX12_sureOf 38 = .ok (.istore_n 2, 1) := by decide +kernel
theorem dX12_sureOf_39 : decode cX12_sureOf 39 = .ok (.goto (-31), 3) := by decide +kernel
theorem dX12_sureOf_42 : decode cX12_sureOf 42 = .ok (.iload_n 1, 1) := by decide +kernel
theorem dX12_sureOf_43 : decode cX12_sureOf 43 = .ok (.ireturn, 1) := by decide +kernel
theorem dX12_greatestOf_0 : decode cX12_greatestOf 0 = .ok (.iconst 0, 1) := by decide +kernel
theorem dX12_greatestOf_1 : decode cX12_greatestOf 1 = .ok (.istore_n 2, 1) := by decide +kernel
theorem dX12_greatestOf_2 : decode cX12_greatestOf 2 = .ok (.iconst 0, 1) := by decide +kernel
theorem dX12_greatestOf_3 : decode cX12_greatestOf 3 = .ok (.istore_n 3, 1) := by decide +kernel
theorem dX12_greatestOf_4 : decode cX12_greatestOf 4 = .ok (.iload_n 3, 1) := by decide +kernel
theorem dX12_greatestOf_5 : decode cX12_greatestOf 5 = .ok (.bipush 31, 2) := by decide +kernel
theorem dX12_greatestOf_7 : decode cX12_greatestOf 7 = .ok (.if_icmp .ge 16, 3) := by decide +kernel
theorem dX12_greatestOf_10 : decode cX12_greatestOf 10 = .ok (.aload_n 0, 1) := by decide +kernel
theorem dX12_greatestOf_11 : decode cX12_greatestOf 11 = .ok (.getfield 88, 3) := by decide +kernel
theorem dX12_greatestOf_14 : decode cX12_greatestOf 14 = .ok (.iload_n 3, 1) := by decide +kernel
theorem dX12_greatestOf_15 : decode cX12_greatestOf 15 = .ok (.iconst 0, 1) := by decide +kernel
theorem dX12_greatestOf_16 : decode cX12_greatestOf 16 = .ok (.iastore, 1) := by decide +kernel
theorem dX12_greatestOf_17 : decode cX12_greatestOf 17 = .ok (.iinc 3 1, 3) := by decide +kernel
theorem dX12_greatestOf_20 : decode cX12_greatestOf 20 = .ok (.goto (-16), 3) := by decide +kernel
theorem dX12_greatestOf_23 : decode cX12_greatestOf 23 = .ok (.aload_n 0, 1) := by decide +kernel
theorem dX12_greatestOf_24 : decode cX12_greatestOf 24 = .ok (.iconst (-1), 1) := by decide +kernel
theorem dX12_greatestOf_25 : decode cX12_greatestOf 25 = .ok (.invokevirtual 472, 3) := by decide +kernel
theorem dX12_greatestOf_28 : decode cX12_greatestOf 28 = .ok (.istore_n 3, 1) := by decide +kernel
theorem dX12_greatestOf_29 : decode cX12_greatestOf 29 = .ok (.iload_n 3, 1) := by decide +kernel
theorem dX12_greatestOf_30 : decode cX12_greatestOf 30 = .ok (.iconst (-1), 1) := by decide +kernel
theorem dX12_greatestOf_31 : decode cX12_greatestOf 31 = .ok (.if_icmp .eq 58, 3) := by decide +kernel
theorem dX12_greatestOf_34 : decode cX12_greatestOf 34 = .ok (.aload_n 0, 1) := by decide +kernel
theorem dX12_greatestOf_35 : decode cX12_greatestOf 35 = .ok (.getfield 88, 3) := by decide +kernel
theorem dX12_greatestOf_38 : decode cX12_greatestOf 38 = .ok (.aload_n 0, 1) := by decide +kernel
theorem dX12_greatestOf_39 : decode cX12_greatestOf 39 = .ok (.getfield 73, 3) := by decide +kernel
theorem dX12_greatestOf_42 : decode cX12_greatestOf 42 = .ok (.iload_n 1, 1) := by decide +kernel
theorem dX12_greatestOf_43 : decode cX12_greatestOf 43 = .ok (.iaload, 1) := by decide +kernel
theorem dX12_greatestOf_44 : decode cX12_greatestOf 44 = .ok (.dup2, 1) := by decide +kernel
theorem dX12_greatestOf_45 : decode cX12_greatestOf 45 = .ok (.iaload, 1) := by decide +kernel
theorem dX12_greatestOf_46 : decode cX12_greatestOf 46 = .ok (.iconst 1, 1) := by decide +kernel
theorem dX12_greatestOf_47 : decode cX12_greatestOf 47 = .ok (.iadd, 1) := by decide +kernel
theorem dX12_greatestOf_48 : decode cX12_greatestOf 48 = .ok (.iastore, 1) := by decide +kernel
theorem dX12_greatestOf_49 : decode cX12_greatestOf 49 = .ok (.aload_n 0, 1) := by decide +kernel
theorem dX12_greatestOf_50 : decode cX12_greatestOf 50 = .ok (.getfield 88, 3) := by decide +kernel
theorem dX12_greatestOf_53 : decode cX12_greatestOf 53 = .ok (.aload_n 0, 1) := by decide +kernel
theorem dX12_greatestOf_54 : decode cX12_greatestOf 54 = .ok (.getfield 73, 3) := by decide +kernel
theorem dX12_greatestOf_57 : decode cX12_greatestOf 57 = .ok (.iload_n 1, 1) := by decide +kernel
theorem dX12_greatestOf_58 : decode cX12_greatestOf 58 = .ok (.iaload, 1) := by decide +kernel
theorem dX12_greatestOf_59 : decode cX12_greatestOf 59 = .ok (.iaload, 1) := by decide +kernel
theorem dX12_greatestOf_60 : decode cX12_greatestOf 60 = .ok (.iload_n 2, 1) := by decide +kernel
theorem dX12_greatestOf_61 : decode cX12_greatestOf 61 = .ok (.if_icmp .le 17, 3) := by decide +kernel
theorem dX12_greatestOf_64 : decode cX12_greatestOf 64 = .ok (.aload_n 0, 1) := by decide +kernel
theorem dX12_greatestOf_65 : decode cX12_greatestOf 65 = .ok (.getfield 88, 3) := by decide +kernel
theorem dX12_greatestOf_68 : decode cX12_greatestOf 68 = .ok (.aload_n 0, 1) := by decide +kernel
theorem dX12_greatestOf_69 : decode cX12_greatestOf 69 = .ok (.getfield 73, 3) := by decide +kernel
theorem dX12_greatestOf_72 : decode cX12_greatestOf 72 = .ok (.iload_n 1, 1) := by decide +kernel
theorem dX12_greatestOf_73 : decode cX12_greatestOf 73 = .ok (.iaload, 1) := by decide +kernel
theorem dX12_greatestOf_74 : decode cX12_greatestOf 74 = .ok (.iaload, 1) := by decide +kernel
theorem dX12_greatestOf_75 : decode cX12_greatestOf 75 = .ok (.goto 4, 3) := by decide +kernel
theorem dX12_greatestOf_78 : decode cX12_greatestOf 78 = .ok (.iload_n 2, 1) := by decide +kernel
theorem dX12_greatestOf_79 : decode cX12_greatestOf 79 = .ok (.istore_n 2, 1) := by decide +kernel
theorem dX12_greatestOf_80 : decode cX12_greatestOf 80 = .ok (.aload_n 0, 1) := by decide +kernel
theorem dX12_greatestOf_81 : decode cX12_greatestOf 81 = .ok (.iload_n 3, 1) := by decide +kernel
theorem dX12_greatestOf_82 : decode cX12_greatestOf 82 = .ok (.invokevirtual 472, 3) := by decide +kernel
theorem dX12_greatestOf_85 : decode cX12_greatestOf 85 = .ok (.istore_n 3, 1) := by decide +kernel
theorem dX12_greatestOf_86 : decode cX12_greatestOf 86 = .ok (.goto (-57), 3) := by decide +kernel
theorem dX12_greatestOf_89 : decode cX12_greatestOf 89 = .ok (.iload_n 2, 1) := by decide +kernel
theorem dX12_greatestOf_90 : decode cX12_greatestOf 90 = .ok (.ireturn, 1) := by decide +kernel
theorem dX12_askOf_0 : decode cX12_askOf 0 = .ok (.iconst (-1), 1) := by decide +kernel
theorem dX12_askOf_1 : decode cX12_askOf 1 = .ok (.istore_n 1, 1) := by decide +kernel
theorem dX12_askOf_2 : decode cX12_askOf 2 = .ok (.ldc_w 266, 3) := by decide +kernel
theorem dX12_askOf_5 : decode cX12_askOf 5 = .ok (.istore_n 2, 1) := by decide +kernel
theorem dX12_askOf_6 : decode cX12_askOf 6 = .ok (.iconst 0, 1) := by decide +kernel
theorem dX12_askOf_7 : decode cX12_askOf 7 = .ok (.istore_n 3, 1) := by decide +kernel
theorem dX12_askOf_8 : decode cX12_askOf 8 = .ok (.iload_n 3, 1) := by decide +kernel
theorem dX12_askOf_9 : decode cX12_askOf 9 = .ok (.aload_n 0, 1) := by decide +kernel
theorem dX12_askOf_10 : decode cX12_askOf 10 = .ok (.getfield 214, 3) := by decide +kernel
theorem dX12_askOf_13 : decode cX12_askOf 13 = .ok (.if_icmp .ge 35, 3) := by decide +kernel
theorem dX12_askOf_16 : decode cX12_askOf 16 = .ok (.aload_n 0, 1) := by decide +kernel
theorem dX12_askOf_17 : decode cX12_askOf 17 = .ok (.iload_n 3, 1) := by decide +kernel
theorem dX12_askOf_18 : decode cX12_askOf 18 = .ok (.invokevirtual 475, 3) := by decide +kernel
theorem dX12_askOf_21 : decode cX12_askOf 21 = .ok (.istore 4, 2) := by decide +kernel
theorem dX12_askOf_23 : decode cX12_askOf 23 = .ok (.iload 4, 2) := by decide +kernel
theorem dX12_askOf_25 : decode cX12_askOf 25 = .ok (.ifCond .eq 17, 3) := by decide +kernel
theorem dX12_askOf_28 : decode cX12_askOf 28 = .ok (.iload 4, 2) := by decide +kernel
theorem dX12_askOf_30 : decode cX12_askOf 30 = .ok (.iload_n 2, 1) := by decide +kernel
theorem dX12_askOf_31 : decode cX12_askOf 31 = .ok (.if_icmp .lt 6, 3) := by decide +kernel
theorem dX12_askOf_34 : decode cX12_askOf 34 = .ok (.goto 8, 3) := by decide +kernel
theorem dX12_askOf_37 : decode cX12_askOf 37 = .ok (.iload_n 3, 1) := by decide +kernel
theorem dX12_askOf_38 : decode cX12_askOf 38 = .ok (.istore_n 1, 1) := by decide +kernel
theorem dX12_askOf_39 : decode cX12_askOf 39 = .ok (.iload 4, 2) := by decide +kernel
theorem dX12_askOf_41 : decode cX12_askOf 41 = .ok (.istore_n 2, 1) := by decide +kernel
theorem dX12_askOf_42 : decode cX12_askOf 42 = .ok (.iinc 3 1, 3) := by decide +kernel
theorem dX12_askOf_45 : decode cX12_askOf 45 = .ok (.goto (-37), 3) := by decide +kernel
theorem dX12_askOf_48 : decode cX12_askOf 48 = .ok (.iload_n 1, 1) := by decide +kernel
theorem dX12_askOf_49 : decode cX12_askOf 49 = .ok (.ireturn, 1) := by decide +kernel
theorem dX12_fits_0 : decode cX12_fits 0 = .ok (.aload_n 0, 1) := by decide +kernel
theorem dX12_fits_1 : decode cX12_fits 1 = .ok (.iload_n 1, 1) := by decide +kernel
theorem dX12_fits_2 : decode cX12_fits 2 = .ok (.invokevirtual 220, 3) := by decide +kernel
theorem dX12_fits_5 : decode cX12_fits 5 = .ok (.ifCond .eq 32, 3) := by decide +kernel
theorem dX12_fits_8 : decode cX12_fits 8 = .ok (.aload_n 0, 1) := by decide +kernel
theorem dX12_fits_9 : decode cX12_fits 9 = .ok (.iload_n 2, 1) := by decide +kernel
theorem dX12_fits_10 : decode cX12_fits 10 = .ok (.invokevirtual 463, 3) := by decide +kernel
theorem dX12_fits_13 : decode cX12_fits 13 = .ok (.ifCond .eq 24, 3) := by decide +kernel
theorem dX12_fits_16 : decode cX12_fits 16 = .ok (.aload_n 0, 1) := by decide +kernel
theorem dX12_fits_17 : decode cX12_fits 17 = .ok (.invokevirtual 478, 3) := by decide +kernel
theorem dX12_fits_20 : decode cX12_fits 20 = .ok (.ifCond .eq 17, 3) := by decide +kernel
theorem dX12_fits_23 : decode cX12_fits 23 = .ok (.iload_n 3, 1) := by decide +kernel
theorem dX12_fits_24 : decode cX12_fits 24 = .ok (.ifCond .lt 13, 3) := by decide +kernel
theorem dX12_fits_27 : decode cX12_fits 27 = .ok (.iload_n 3, 1) := by decide +kernel
theorem dX12_fits_28 : decode cX12_fits 28 = .ok (.iconst 3, 1) := by decide +kernel
theorem dX12_fits_29 : decode cX12_fits 29 = .ok (.bipush 9, 2) := by decide +kernel
theorem dX12_fits_31 : decode cX12_fits 31 = .ok (.invokestatic 146, 3) := by decide +kernel
theorem dX12_fits_34 : decode cX12_fits 34 = .ok (.ifCond .eq 6, 3) := by decide +kernel
theorem dX12_fits_37 : decode cX12_fits 37 = .ok (.bipush (-2), 2) := by decide +kernel
theorem dX12_fits_39 : decode cX12_fits 39 = .ok (.ireturn, 1) := by decide +kernel
theorem dX12_fits_40 : decode cX12_fits 40 = .ok (.iload_n 3, 1) := by decide +kernel
theorem dX12_fits_41 : decode cX12_fits 41 = .ok (.tableswitch 42 0 2 #[27, 32, 37], 27) := by decide +kernel
theorem dX12_fits_68 : decode cX12_fits 68 = .ok (.aload_n 0, 1) := by decide +kernel
theorem dX12_fits_69 : decode cX12_fits 69 = .ok (.invokevirtual 481, 3) := by decide +kernel
theorem dX12_fits_72 : decode cX12_fits 72 = .ok (.ireturn, 1) := by decide +kernel
theorem dX12_fits_73 : decode cX12_fits 73 = .ok (.aload_n 0, 1) := by decide +kernel
theorem dX12_fits_74 : decode cX12_fits 74 = .ok (.invokevirtual 484, 3) := by decide +kernel
theorem dX12_fits_77 : decode cX12_fits 77 = .ok (.ireturn, 1) := by decide +kernel
theorem dX12_fits_78 : decode cX12_fits 78 = .ok (.aload_n 0, 1) := by decide +kernel
theorem dX12_fits_79 : decode cX12_fits 79 = .ok (.invokevirtual 487, 3) := by decide +kernel
theorem dX12_fits_82 : decode cX12_fits 82 = .ok (.ireturn, 1) := by decide +kernel
theorem dX12_fits_83 : decode cX12_fits 83 = .ok (.aload_n 0, 1) := by decide +kernel
theorem dX12_fits_84 : decode cX12_fits 84 = .ok (.iconst (-1), 1) := by decide +kernel
theorem dX12_fits_85 : decode cX12_fits 85 = .ok (.invokevirtual 472, 3) := by decide +kernel
theorem dX12_fits_88 : decode cX12_fits 88 = .ok (.istore 4, 2) := by decide +kernel
theorem dX12_fits_90 : decode cX12_fits 90 = .ok (.iconst 0, 1) := by decide +kernel
theorem dX12_fits_91 : decode cX12_fits 91 = .ok (.istore 5, 2) := by decide +kernel
theorem dX12_fits_93 : decode cX12_fits 93 = .ok (.iload 5, 2) := by decide +kernel
theorem dX12_fits_95 : decode cX12_fits 95 = .ok (.iload_n 3, 1) := by decide +kernel
theorem dX12_fits_96 : decode cX12_fits 96 = .ok (.bipush 10, 2) := by decide +kernel
theorem dX12_fits_98 : decode cX12_fits 98 = .ok (.isub, 1) := by decide +kernel
theorem dX12_fits_99 : decode cX12_fits 99 = .ok (.if_icmp .ge 23, 3) := by decide +kernel
theorem dX12_fits_102 : decode cX12_fits 102 = .ok (.iload 4, 2) := by decide +kernel
theorem dX12_fits_104 : decode cX12_fits 104 = .ok (.iconst (-1), 1) := by decide +kernel
theorem dX12_fits_105 : decode cX12_fits 105 = .ok (.if_icmp .eq 17, 3) := by decide +kernel
theorem dX12_fits_108 : decode cX12_fits 108 = .ok (.aload_n 0, 1) := by decide +kernel
theorem dX12_fits_109 : decode cX12_fits 109 = .ok (.iload 4, 2) := by decide +kernel
theorem dX12_fits_111 : decode cX12_fits 111 = .ok (.invokevirtual 472, 3) := by decide +kernel
theorem dX12_fits_114 : decode cX12_fits 114 = .ok (.istore 4, 2) := by decide +kernel
theorem dX12_fits_116 : decode cX12_fits 116 = .ok (.iinc 5 1, 3) := by decide +kernel
theorem dX12_fits_119 : decode cX12_fits 119 = .ok (.goto (-26), 3) := by decide +kernel
theorem dX12_fits_122 : decode cX12_fits 122 = .ok (.iload 4, 2) := by decide +kernel
theorem dX12_fits_124 : decode cX12_fits 124 = .ok (.iconst (-1), 1) := by decide +kernel
theorem dX12_fits_125 : decode cX12_fits 125 = .ok (.if_icmp .ne 8, 3) := by decide +kernel
theorem dX12_fits_128 : decode cX12_fits 128 = .ok (.bipush (-2), 2) := by decide +kernel
theorem dX12_fits_130 : decode cX12_fits 130 = .ok (.goto 5, 3) := by decide +kernel
theorem dX12_fits_133 : decode cX12_fits 133 = .ok (.iload 4, 2) := by decide +kernel
theorem dX12_fits_135 : decode cX12_fits 135 = .ok (.ireturn, 1) := by decide +kernel
theorem dX12_share_0 : decode cX12_share 0 = .ok (.aload_n 0, 1) := by decide +kernel
theorem dX12_share_1 : decode cX12_share 1 = .ok (.iload_n 1, 1) := by decide +kernel
theorem dX12_share_2 : decode cX12_share 2 = .ok (.invokevirtual 220, 3) := by decide +kernel
theorem dX12_share_5 : decode cX12_share 5 = .ok (.ifCond .eq 26, 3) := by decide +kernel
theorem dX12_share_8 : decode cX12_share 8 = .ok (.aload_n 0, 1) := by decide +kernel
theorem dX12_share_9 : decode cX12_share 9 = .ok (.iload_n 2, 1) := by decide +kernel
theorem dX12_share_10 : decode cX12_share 10 = .ok (.invokevirtual 463, 3) := by decide +kernel
theorem dX12_share_13 : decode cX12_share 13 = .ok (.ifCond .eq 18, 3) := by decide +kernel
theorem dX12_share_16 : decode cX12_share 16 = .ok (.aload_n 0, 1) := by decide +kernel
theorem dX12_share_17 : decode cX12_share 17 = .ok (.invokevirtual 478, 3) := by decide +kernel
theorem dX12_share_20 : decode cX12_share 20 = .ok (.ifCond .eq 11, 3) := by decide +kernel
theorem dX12_share_23 : decode cX12_share 23 = .ok (.aload_n 0, 1) := by decide +kernel
theorem dX12_share_24 : decode cX12_share 24 = .ok (.iload_n 3, 1) := by decide +kernel
theorem dX12_share_25 : decode cX12_share 25 = .ok (.invokevirtual 223, 3) := by decide +kernel
theorem dX12_share_28 : decode cX12_share 28 = .ok (.ifCond .ne 7, 3) := by decide +kernel
theorem dX12_share_31 : decode cX12_share 31 = .ok (.ldc2_w 306, 3) := by decide +kernel
theorem dX12_share_34 : decode cX12_share 34 = .ok (.lreturn, 1) := by decide +kernel
theorem dX12_share_35 : decode cX12_share 35 = .ok (.aload_n 0, 1) := by decide +kernel
theorem dX12_share_36 : decode cX12_share 36 = .ok (.invokevirtual 481, 3) := by decide +kernel
theorem dX12_share_39 : decode cX12_share 39 = .ok (.i2l, 1) := by decide +kernel
theorem dX12_share_40 : decode cX12_share 40 = .ok (.lstore 5, 2) := by decide +kernel
theorem dX12_share_42 : decode cX12_share 42 = .ok (.lconst 0, 1) := by decide +kernel
theorem dX12_share_43 : decode cX12_share 43 = .ok (.lstore 7, 2) := by decide +kernel
theorem dX12_share_45 : decode cX12_share 45 = .ok (.aload_n 0, 1) := by decide +kernel
theorem dX12_share_46 : decode cX12_share 46 = .ok (.iconst (-1), 1) := by decide +kernel
theorem dX12_share_47 : decode cX12_share 47 = .ok (.invokevirtual 472, 3) := by decide +kernel
theorem dX12_share_50 : decode cX12_share 50 = .ok (.istore 9, 2) := by decide +kernel
theorem dX12_share_52 : decode cX12_share 52 = .ok (.iload 9, 2) := by decide +kernel
theorem dX12_share_54 : decode cX12_share 54 = .ok (.iconst (-1), 1) := by decide +kernel
theorem dX12_share_55 : decode cX12_share 55 = .ok (.if_icmp .eq 33, 3) := by decide +kernel
theorem dX12_share_58 : decode cX12_share 58 = .ok (.lload 7, 2) := by decide +kernel
theorem dX12_share_60 : decode cX12_share 60 = .ok (.iload 9, 2) := by decide +kernel
theorem dX12_share_62 : decode cX12_share 62 = .ok (.bipush 10, 2) := by decide +kernel
theorem dX12_share_64 : decode cX12_share 64 = .ok (.idiv, 1) := by decide +kernel
theorem dX12_share_65 : decode cX12_share 65 = .ok (.iload_n 3, 1) := by decide +kernel
theorem dX12_share_66 : decode cX12_share 66 = .ok (.if_icmp .ne 7, 3) := by decide +kernel
theorem dX12_share_69 : decode cX12_share 69 = .ok (.lconst 1, 1) := by decide +kernel
theorem dX12_share_70 : decode cX12_share 70 = .ok (.goto 4, 3) := by decide +kernel
theorem dX12_share_73 : decode cX12_share 73 = .ok (.lconst 0, 1) := by decide +kernel
theorem dX12_share_74 : decode cX12_share 74 = .ok (.ladd, 1) := by decide +kernel
theorem dX12_share_75 : decode cX12_share 75 = .ok (.lstore 7, 2) := by decide +kernel
theorem dX12_share_77 : decode cX12_share 77 = .ok (.aload_n 0, 1) := by decide +kernel
theorem dX12_share_78 : decode cX12_share 78 = .ok (.iload 9, 2) := by decide +kernel
theorem dX12_share_80 : decode cX12_share 80 = .ok (.invokevirtual 472, 3) := by decide +kernel
theorem dX12_share_83 : decode cX12_share 83 = .ok (.istore 9, 2) := by decide +kernel
theorem dX12_share_85 : decode cX12_share 85 = .ok (.goto (-33), 3) := by decide +kernel
theorem dX12_share_88 : decode cX12_share 88 = .ok (.lload 5, 2) := by decide +kernel
theorem dX12_share_90 : decode cX12_share 90 = .ok (.lconst 0, 1) := by decide +kernel
theorem dX12_share_91 : decode cX12_share 91 = .ok (.lcmp, 1) := by decide +kernel
theorem dX12_share_92 : decode cX12_share 92 = .ok (.ifCond .ne 9, 3) := by decide +kernel
theorem dX12_share_95 : decode cX12_share 95 = .ok (.ldc2_w 306, 3) := by decide +kernel
theorem dX12_share_98 : decode cX12_share 98 = .ok (.goto 12, 3) := by decide +kernel
theorem dX12_share_101 : decode cX12_share 101 = .ok (.lload 7, 2) := by decide +kernel
theorem dX12_share_103 : decode cX12_share 103 = .ok (.lload 5, 2) := by decide +kernel
theorem dX12_share_105 : decode cX12_share 105 = .ok (.iload 4, 2) := by decide +kernel
theorem dX12_share_107 : decode cX12_share 107 = .ok (.invokestatic 312, 3) := by decide +kernel
theorem dX12_share_110 : decode cX12_share 110 = .ok (.lreturn, 1) := by decide +kernel
theorem dX12_later_0 : decode cX12_later 0 = .ok (.aload_n 0, 1) := by decide +kernel
theorem dX12_later_1 : decode cX12_later 1 = .ok (.iload_n 1, 1) := by decide +kernel
theorem dX12_later_2 : decode cX12_later 2 = .ok (.invokevirtual 220, 3) := by decide +kernel
theorem dX12_later_5 : decode cX12_later 5 = .ok (.ifCond .eq 18, 3) := by decide +kernel
theorem dX12_later_8 : decode cX12_later 8 = .ok (.aload_n 0, 1) := by decide +kernel
theorem dX12_later_9 : decode cX12_later 9 = .ok (.iload_n 2, 1) := by decide +kernel
theorem dX12_later_10 : decode cX12_later 10 = .ok (.invokevirtual 463, 3) := by decide +kernel
theorem dX12_later_13 : decode cX12_later 13 = .ok (.ifCond .eq 10, 3) := by decide +kernel
theorem dX12_later_16 : decode cX12_later 16 = .ok (.aload_n 0, 1) := by decide +kernel
theorem dX12_later_17 : decode cX12_later 17 = .ok (.invokevirtual 478, 3) := by decide +kernel
theorem dX12_later_20 : decode cX12_later 20 = .ok (.ifCond .ne 6, 3) := by decide +kernel
theorem dX12_later_23 : decode cX12_later 23 = .ok (.bipush (-2), 2) := by decide +kernel
theorem dX12_later_25 : decode cX12_later 25 = .ok (.ireturn, 1) := by decide +kernel
theorem dX12_later_26 : decode cX12_later 26 = .ok (.iconst 0, 1) := by decide +kernel
theorem dX12_later_27 : decode cX12_later 27 = .ok (.istore_n 3, 1) := by decide +kernel
theorem dX12_later_28 : decode cX12_later 28 = .ok (.aload_n 0, 1) := by decide +kernel
theorem dX12_later_29 : decode cX12_later 29 = .ok (.iconst (-1), 1) := by decide +kernel
theorem dX12_later_30 : decode cX12_later 30 = .ok (.invokevirtual 472, 3) := by decide +kernel
theorem dX12_later_33 : decode cX12_later 33 = .ok (.istore 4, 2) := by decide +kernel
theorem dX12_later_35 : decode cX12_later 35 = .ok (.iload 4, 2) := by decide +kernel
theorem dX12_later_37 : decode cX12_later 37 = .ok (.iconst (-1), 1) := by decide +kernel
theorem dX12_later_38 : decode cX12_later 38 = .ok (.if_icmp .eq 50, 3) := by decide +kernel
theorem dX12_later_41 : decode cX12_later 41 = .ok (.aload_n 0, 1) := by decide +kernel
theorem dX12_later_42 : decode cX12_later 42 = .ok (.iload 4, 2) := by decide +kernel
theorem dX12_later_44 : decode cX12_later 44 = .ok (.bipush 10, 2) := by decide +kernel
theorem dX12_later_46 : decode cX12_later 46 = .ok (.idiv, 1) := by decide +kernel
theorem dX12_later_47 : decode cX12_later 47 = .ok (.iload 4, 2) := by decide +kernel
theorem dX12_later_49 : decode cX12_later 49 = .ok (.bipush 10, 2) := by decide +kernel
theorem dX12_later_51 : decode cX12_later 51 = .ok (.irem, 1) := by decide +kernel
theorem dX12_later_52 : decode cX12_later 52 = .ok (.bipush 9, 2) := by decide +kernel
theorem dX12_later_54 : decode cX12_later 54 = .ok (.invokevirtual 466, 3) := by decide +kernel
theorem dX12_later_57 : decode cX12_later 57 = .ok (.iload_n 3, 1) := by decide +kernel
theorem dX12_later_58 : decode cX12_later 58 = .ok (.aload_n 0, 1) := by decide +kernel
theorem dX12_later_59 : decode cX12_later 59 = .ok (.iload 4, 2) := by decide +kernel
theorem dX12_later_61 : decode cX12_later 61 = .ok (.bipush 10, 2) := by decide +kernel
theorem dX12_later_63 : decode cX12_later 63 = .ok (.irem, 1) := by decide +kernel
theorem dX12_later_64 : decode cX12_later 64 = .ok (.invokevirtual 407, 3) := by decide +kernel
theorem dX12_later_67 : decode cX12_later 67 = .ok (.ifCond .eq 7, 3) := by decide +kernel
theorem dX12_later_70 : decode cX12_later 70 = .ok (.iconst 1, 1) := by decide +kernel
theorem dX12_later_71 : decode cX12_later 71 = .ok (.goto 4, 3) := by decide +kernel
theorem dX12_later_74 : decode cX12_later 74 = .ok (.iconst 0, 1) := by decide +kernel
theorem dX12_later_75 : decode cX12_later 75 = .ok (.iadd, 1) := by decide +kernel
theorem dX12_later_76 : decode cX12_later 76 = .ok (.istore_n 3, 1) := by decide +kernel
theorem dX12_later_77 : decode cX12_later 77 = .ok (.aload_n 0, 1) := by decide +kernel
theorem dX12_later_78 : decode cX12_later 78 = .ok (.iload 4, 2) := by decide +kernel
theorem dX12_later_80 : decode cX12_later 80 = .ok (.invokevirtual 472, 3) := by decide +kernel
theorem dX12_later_83 : decode cX12_later 83 = .ok (.istore 4, 2) := by decide +kernel
theorem dX12_later_85 : decode cX12_later 85 = .ok (.goto (-50), 3) := by decide +kernel
theorem dX12_later_88 : decode cX12_later 88 = .ok (.iload_n 3, 1) := by decide +kernel
theorem dX12_later_89 : decode cX12_later 89 = .ok (.ireturn, 1) := by decide +kernel
theorem dX12_below_0 : decode cX12_below 0 = .ok (.aload_n 0, 1) := by decide +kernel
theorem dX12_below_1 : decode cX12_below 1 = .ok (.aload_n 0, 1) := by decide +kernel
theorem dX12_below_2 : decode cX12_below 2 = .ok (.getfield 490, 3) := by decide +kernel
theorem dX12_below_5 : decode cX12_below 5 = .ok (.ldc_w 493, 3) := by decide +kernel
theorem dX12_below_8 : decode cX12_below 8 = .ok (.imul, 1) := by decide +kernel
theorem dX12_below_9 : decode cX12_below 9 = .ok (.sipush 12345, 3) := by decide +kernel
theorem dX12_below_12 : decode cX12_below 12 = .ok (.iadd, 1) := by decide +kernel
theorem dX12_below_13 : decode cX12_below 13 = .ok (.putfield 490, 3) := by decide +kernel
theorem dX12_below_16 : decode cX12_below 16 = .ok (.aload_n 0, 1) := by decide +kernel
theorem dX12_below_17 : decode cX12_below 17 = .ok (.getfield 490, 3) := by decide +kernel
theorem dX12_below_20 : decode cX12_below 20 = .ok (.bipush 16, 2) := by decide +kernel
theorem dX12_below_22 : decode cX12_below 22 = .ok (.iushr, 1) := by decide +kernel
theorem dX12_below_23 : decode cX12_below 23 = .ok (.iload_n 1, 1) := by decide +kernel
theorem dX12_below_24 : decode cX12_below 24 = .ok (.irem, 1) := by decide +kernel
theorem dX12_below_25 : decode cX12_below 25 = .ok (.ireturn, 1) := by decide +kernel
theorem dX12_draws_0 : decode cX12_draws 0 = .ok (.aload_n 0, 1) := by decide +kernel
theorem dX12_draws_1 : decode cX12_draws 1 = .ok (.bipush 8, 2) := by decide +kernel
theorem dX12_draws_3 : decode cX12_draws 3 = .ok (.invokevirtual 494, 3) := by decide +kernel
theorem dX12_draws_6 : decode cX12_draws 6 = .ok (.istore_n 1, 1) := by decide +kernel
theorem dX12_draws_7 : decode cX12_draws 7 = .ok (.iload_n 1, 1) := by decide +kernel
theorem dX12_draws_8 : decode cX12_draws 8 = .ok (.iconst 4, 1) := by decide +kernel
theorem dX12_draws_9 : decode cX12_draws 9 = .ok (.if_icmp .le 9, 3) := by decide +kernel
theorem dX12_draws_12 : decode cX12_draws 12 = .ok (.aload_n 0, 1) := by decide +kernel
theorem dX12_draws_13 : decode cX12_draws 13 = .ok (.invokevirtual 432, 3) := by decide +kernel
theorem dX12_draws_16 : decode cX12_draws 16 = .ok (.pop, 1) := by decide +kernel
theorem dX12_draws_17 : decode cX12_draws 17 = .ok (.return_, 1) := by decide +kernel
theorem dX12_draws_18 : decode cX12_draws 18 = .ok (.aload_n 0, 1) := by decide +kernel
theorem dX12_draws_19 : decode cX12_draws 19 = .ok (.getfield 386, 3) := by decide +kernel
theorem dX12_draws_22 : decode cX12_draws 22 = .ok (.ifCond .eq 15, 3) := by decide +kernel
theorem dX12_draws_25 : decode cX12_draws 25 = .ok (.iload_n 1, 1) := by decide +kernel
theorem dX12_draws_26 : decode cX12_draws 26 = .ok (.iconst 2, 1) := by decide +kernel
theorem dX12_draws_27 : decode cX12_draws 27 = .ok (.if_icmp .ge 11, 3) := by decide +kernel
theorem dX12_draws_30 : decode cX12_draws 30 = .ok (.aload_n 0, 1) := by decide +kernel
theorem dX12_draws_31 : decode cX12_draws 31 = .ok (.getfield 214, 3) := by decide +kernel
theorem dX12_draws_34 : decode cX12_draws 34 = .ok (.ifCond .ne 4, 3) := by decide +kernel
theorem dX12_draws_37 : decode cX12_draws 37 = .ok (.return_, 1) := by decide +kernel
theorem dX12_draws_38 : decode cX12_draws 38 = .ok (.aload_n 0, 1) := by decide +kernel
theorem dX12_draws_39 : decode cX12_draws 39 = .ok (.aload_n 0, 1) := by decide +kernel
theorem dX12_draws_40 : decode cX12_draws 40 = .ok (.getfield 386, 3) := by decide +kernel
theorem dX12_draws_43 : decode cX12_draws 43 = .ok (.invokevirtual 494, 3) := by decide +kernel
theorem dX12_draws_46 : decode cX12_draws 46 = .ok (.istore_n 2, 1) := by decide +kernel
theorem dX12_draws_47 : decode cX12_draws 47 = .ok (.iload_n 1, 1) := by decide +kernel
theorem dX12_draws_48 : decode cX12_draws 48 = .ok (.tableswitch 77 0 3 #[32, 32, 59, 68], 32) := by decide +kernel
theorem dX12_draws_80 : decode cX12_draws 80 = .ok (.aload_n 0, 1) := by decide +kernel
theorem dX12_draws_81 : decode cX12_draws 81 = .ok (.aload_n 0, 1) := by decide +kernel
theorem dX12_draws_82 : decode cX12_draws 82 = .ok (.getfield 214, 3) := by decide +kernel
theorem dX12_draws_85 : decode cX12_draws 85 = .ok (.invokevirtual 494, 3) := by decide +kernel
theorem dX12_draws_88 : decode cX12_draws 88 = .ok (.istore_n 3, 1) := by decide +kernel
theorem dX12_draws_89 : decode cX12_draws 89 = .ok (.aload_n 0, 1) := by decide +kernel
theorem dX12_draws_90 : decode cX12_draws 90 = .ok (.iload_n 2, 1) := by decide +kernel
theorem dX12_draws_91 : decode cX12_draws 91 = .ok (.iload_n 3, 1) := by decide +kernel
theorem dX12_draws_92 : decode cX12_draws 92 = .ok (.iconst 1, 1) := by decide +kernel
theorem dX12_draws_93 : decode cX12_draws 93 = .ok (.aload_n 0, 1) := by decide +kernel
theorem dX12_draws_94 : decode cX12_draws 94 = .ok (.bipush 9, 2) := by decide +kernel
theorem dX12_draws_96 : decode cX12_draws 96 = .ok (.invokevirtual 494, 3) := by decide +kernel
theorem dX12_draws_99 : decode cX12_draws 99 = .ok (.iadd, 1) := by decide +kernel
theorem dX12_draws_100 : decode cX12_draws 100 = .ok (.invokevirtual 420, 3) := by decide +kernel
theorem dX12_draws_103 : decode cX12_draws 103 = .ok (.pop, 1) := by decide +kernel
theorem dX12_draws_104 : decode cX12_draws 104 = .ok (.goto 33, 3) := by decide +kernel
theorem dX12_draws_107 : decode cX12_draws 107 = .ok (.aload_n 0, 1) := by decide +kernel
theorem dX12_draws_108 : decode cX12_draws 108 = .ok (.iload_n 2, 1) := by decide +kernel
theorem dX12_draws_109 : decode cX12_draws 109 = .ok (.invokevirtual 426, 3) := by decide +kernel
theorem dX12_draws_112 : decode cX12_draws 112 = .ok (.pop, 1) := by decide +kernel
theorem dX12_draws_113 : decode cX12_draws 113 = .ok (.goto 24, 3) := by decide +kernel
theorem dX12_draws_116 : decode cX12_draws 116 = .ok (.aload_n 0, 1) := by decide +kernel
theorem dX12_draws_117 : decode cX12_draws 117 = .ok (.iload_n 2, 1) := by decide +kernel
theorem dX12_draws_118 : decode cX12_draws 118 = .ok (.invokevirtual 429, 3) := by decide +kernel
theorem dX12_draws_121 : decode cX12_draws 121 = .ok (.pop, 1) := by decide +kernel
theorem dX12_draws_122 : decode cX12_draws 122 = .ok (.goto 15, 3) := by decide +kernel
theorem dX12_draws_125 : decode cX12_draws 125 = .ok (.aload_n 0, 1) := by decide +kernel
theorem dX12_draws_126 : decode cX12_draws 126 = .ok (.iload_n 2, 1) := by decide +kernel
theorem dX12_draws_127 : decode cX12_draws 127 = .ok (.aload_n 0, 1) := by decide +kernel
theorem dX12_draws_128 : decode cX12_draws 128 = .ok (.bipush 10, 2) := by decide +kernel
theorem dX12_draws_130 : decode cX12_draws 130 = .ok (.invokevirtual 494, 3) := by decide +kernel
theorem dX12_draws_133 : decode cX12_draws 133 = .ok (.invokevirtual 423, 3) := by decide +kernel
theorem dX12_draws_136 : decode cX12_draws 136 = .ok (.pop, 1) := by decide +kernel
theorem dX12_draws_137 : decode cX12_draws 137 = .ok (.return_, 1) := by decide +kernel
theorem dX12_drawn_0 : decode cX12_drawn 0 = .ok (.aload_n 0, 1) := by decide +kernel
theorem dX12_drawn_1 : decode cX12_drawn 1 = .ok (.iload_n 1, 1) := by decide +kernel
theorem dX12_drawn_2 : decode cX12_drawn 2 = .ok (.invokevirtual 220, 3) := by decide +kernel
theorem dX12_drawn_5 : decode cX12_drawn 5 = .ok (.ifCond .eq 13, 3) := by decide +kernel
theorem dX12_drawn_8 : decode cX12_drawn 8 = .ok (.iload_n 3, 1) := by decide +kernel
theorem dX12_drawn_9 : decode cX12_drawn 9 = .ok (.iconst 0, 1) := by decide +kernel
theorem dX12_drawn_10 : decode cX12_drawn 10 = .ok (.bipush 60, 2) := by decide +kernel
theorem dX12_drawn_12 : decode cX12_drawn 12 = .ok (.invokestatic 146, 3) := by decide +kernel
theorem dX12_drawn_15 : decode cX12_drawn 15 = .ok (.ifCond .ne 6, 3) := by decide +kernel
theorem dX12_drawn_18 : decode cX12_drawn 18 = .ok (.bipush (-2), 2) := by decide +kernel
theorem dX12_drawn_20 : decode cX12_drawn 20 = .ok (.ireturn, 1) := by decide +kernel
theorem dX12_drawn_21 : decode cX12_drawn 21 = .ok (.aload_n 0, 1) := by decide +kernel
theorem dX12_drawn_22 : decode cX12_drawn 22 = .ok (.iload_n 2, 1) := by decide +kernel
theorem dX12_drawn_23 : decode cX12_drawn 23 = .ok (.putfield 490, 3) := by decide +kernel
theorem dX12_drawn_26 : decode cX12_drawn 26 = .ok (.aload_n 0, 1) := by decide +kernel
theorem dX12_drawn_27 : decode cX12_drawn 27 = .ok (.invokevirtual 439, 3) := by decide +kernel
theorem dX12_drawn_30 : decode cX12_drawn 30 = .ok (.iconst 0, 1) := by decide +kernel
theorem dX12_drawn_31 : decode cX12_drawn 31 = .ok (.istore 5, 2) := by decide +kernel
theorem dX12_drawn_33 : decode cX12_drawn 33 = .ok (.iload 5, 2) := by decide +kernel
theorem dX12_drawn_35 : decode cX12_drawn 35 = .ok (.iload_n 3, 1) := by decide +kernel
theorem dX12_drawn_36 : decode cX12_drawn 36 = .ok (.if_icmp .ge 13, 3) := by decide +kernel
theorem dX12_drawn_39 : decode cX12_drawn 39 = .ok (.aload_n 0, 1) := by decide +kernel
theorem dX12_drawn_40 : decode cX12_drawn 40 = .ok (.invokevirtual 497, 3) := by decide +kernel
theorem dX12_drawn_43 : decode cX12_drawn 43 = .ok (.iinc 5 1, 3) := by decide +kernel
theorem dX12_drawn_46 : decode cX12_drawn 46 = .ok (.goto (-13), 3) := by decide +kernel
theorem dX12_drawn_49 : decode cX12_drawn 49 = .ok (.aload_n 0, 1) := by decide +kernel
theorem dX12_drawn_50 : decode cX12_drawn 50 = .ok (.iload 4, 2) := by decide +kernel
theorem dX12_drawn_52 : decode cX12_drawn 52 = .ok (.invokevirtual 451, 3) := by decide +kernel
theorem dX12_drawn_55 : decode cX12_drawn 55 = .ok (.ireturn, 1) := by decide +kernel
theorem dX12_count_0 : decode cX12_count 0 = .ok (.iload_n 1, 1) := by decide +kernel
theorem dX12_count_1 : decode cX12_count 1 = .ok (.iconst 0, 1) := by decide +kernel
theorem dX12_count_2 : decode cX12_count 2 = .ok (.iconst 2, 1) := by decide +kernel
theorem dX12_count_3 : decode cX12_count 3 = .ok (.invokestatic 146, 3) := by decide +kernel
theorem dX12_count_6 : decode cX12_count 6 = .ok (.ifCond .eq 12, 3) := by decide +kernel
theorem dX12_count_9 : decode cX12_count 9 = .ok (.aload_n 0, 1) := by decide +kernel
theorem dX12_count_10 : decode cX12_count 10 = .ok (.getfield 7, 3) := by decide +kernel
theorem dX12_count_13 : decode cX12_count 13 = .ok (.iload_n 1, 1) := by decide +kernel
theorem dX12_count_14 : decode cX12_count 14 = .ok (.iaload, 1) := by decide +kernel
theorem dX12_count_15 : decode cX12_count 15 = .ok (.goto 5, 3) := by decide +kernel
theorem dX12_count_18 : decode cX12_count 18 = .ok (.bipush (-2), 2) := by decide +kernel
theorem dX12_count_20 : decode cX12_count 20 = .ok (.ireturn, 1) := by decide +kernel
theorem dX12_image_0 : decode cX12_image 0 = .ok (.iload_n 1, 1) := by decide +kernel
theorem dX12_image_1 : decode cX12_image 1 = .ok (.iconst 0, 1) := by decide +kernel
theorem dX12_image_2 : decode cX12_image 2 = .ok (.iconst 2, 1) := by decide +kernel
theorem dX12_image_3 : decode cX12_image 3 = .ok (.invokestatic 146, 3) := by decide +kernel
theorem dX12_image_6 : decode cX12_image 6 = .ok (.ifCond .ne 5, 3) := by decide +kernel
theorem dX12_image_9 : decode cX12_image 9 = .ok (.iconst 0, 1) := by decide +kernel
theorem dX12_image_10 : decode cX12_image 10 = .ok (.ireturn, 1) := by decide +kernel
theorem dX12_image_11 : decode cX12_image 11 = .ok (.aload_n 0, 1) := by decide +kernel
theorem dX12_image_12 : decode cX12_image 12 = .ok (.getfield 13, 3) := by decide +kernel
theorem dX12_image_15 : decode cX12_image 15 = .ok (.iload_n 1, 1) := by decide +kernel
theorem dX12_image_16 : decode cX12_image 16 = .ok (.iconst 1, 1) := by decide +kernel
theorem dX12_image_17 : decode cX12_image 17 = .ok (.bastore, 1) := by decide +kernel
theorem dX12_image_18 : decode cX12_image 18 = .ok (.iconst 0, 1) := by decide +kernel
theorem dX12_image_19 : decode cX12_image 19 = .ok (.istore_n 2, 1) := by decide +kernel
theorem dX12_image_20 : decode cX12_image 20 = .ok (.iload_n 2, 1) := by decide +kernel
theorem dX12_image_21 : decode cX12_image 21 = .ok (.sipush 1078, 3) := by decide +kernel
theorem dX12_image_24 : decode cX12_image 24 = .ok (.if_icmp .ge 29, 3) := by decide +kernel
theorem dX12_image_27 : decode cX12_image 27 = .ok (.aload_n 0, 1) := by decide +kernel
theorem dX12_image_28 : decode cX12_image 28 = .ok (.getfield 7, 3) := by decide +kernel
theorem dX12_image_31 : decode cX12_image 31 = .ok (.sipush 1078, 3) := by decide +kernel
theorem dX12_image_34 : decode cX12_image 34 = .ok (.iload_n 1, 1) := by decide +kernel
theorem dX12_image_35 : decode cX12_image 35 = .ok (.iconst 1, 1) := by decide +kernel
theorem dX12_image_36 : decode cX12_image 36 = .ok (.iadd, 1) := by decide +kernel
theorem dX12_image_37 : decode cX12_image 37 = .ok (.imul, 1) := by decide +kernel
theorem dX12_image_38 : decode cX12_image 38 = .ok (.iload_n 2, 1) := by decide +kernel
theorem dX12_image_39 : decode cX12_image 39 = .ok (.iadd, 1) := by decide +kernel
theorem dX12_image_40 : decode cX12_image 40 = .ok (.aload_n 0, 1) := by decide +kernel
theorem dX12_image_41 : decode cX12_image 41 = .ok (.getfield 7, 3) := by decide +kernel
theorem dX12_image_44 : decode cX12_image 44 = .ok (.iload_n 2, 1) := by decide +kernel
theorem dX12_image_45 : decode cX12_image 45 = .ok (.iaload, 1) := by decide +kernel
theorem dX12_image_46 : decode cX12_image 46 = .ok (.iastore, 1) := by decide +kernel
theorem dX12_image_47 : decode cX12_image 47 = .ok (.iinc 2 1, 3) := by decide +kernel
theorem dX12_image_50 : decode cX12_image 50 = .ok (.goto (-30), 3) := by decide +kernel
theorem dX12_image_53 : decode cX12_image 53 = .ok (.iconst 1, 1) := by decide +kernel
theorem dX12_image_54 : decode cX12_image 54 = .ok (.ireturn, 1) := by decide +kernel
theorem dX12_again_0 : decode cX12_again 0 = .ok (.iload_n 1, 1) := by decide +kernel
theorem dX12_again_1 : decode cX12_again 1 = .ok (.iconst 0, 1) := by decide +kernel
theorem dX12_again_2 : decode cX12_again 2 = .ok (.iconst 2, 1) := by decide +kernel
theorem dX12_again_3 : decode cX12_again 3 = .ok (.invokestatic 146, 3) := by decide +kernel
theorem dX12_again_6 : decode cX12_again 6 = .ok (.ifCond .eq 12, 3) := by decide +kernel
theorem dX12_again_9 : decode cX12_again 9 = .ok (.aload_n 0, 1) := by decide +kernel
theorem dX12_again_10 : decode cX12_again 10 = .ok (.getfield 13, 3) := by decide +kernel
theorem dX12_again_13 : decode cX12_again 13 = .ok (.iload_n 1, 1) := by decide +kernel
theorem dX12_again_14 : decode cX12_again 14 = .ok (.baload, 1) := by decide +kernel
theorem dX12_again_15 : decode cX12_again 15 = .ok (.ifCond .ne 5, 3) := by decide +kernel
theorem dX12_again_18 : decode cX12_again 18 = .ok (.iconst 0, 1) := by decide +kernel
theorem dX12_again_19 : decode cX12_again 19 = .ok (.ireturn, 1) := by decide +kernel
theorem dX12_again_20 : decode cX12_again 20 = .ok (.iconst 0, 1) := by decide +kernel
theorem dX12_again_21 : decode cX12_again 21 = .ok (.istore_n 2, 1) := by decide +kernel
theorem dX12_again_22 : decode cX12_again 22 = .ok (.iload_n 2, 1) := by decide +kernel
theorem dX12_again_23 : decode cX12_again 23 = .ok (.sipush 1078, 3) := by decide +kernel
theorem dX12_again_26 : decode cX12_again 26 = .ok (.if_icmp .ge 29, 3) := by decide +kernel
theorem dX12_again_29 : decode cX12_again 29 = .ok (.aload_n 0, 1) := by decide +kernel
theorem dX12_again_30 : decode cX12_again 30 = .ok (.getfield 7, 3) := by decide +kernel
theorem dX12_again_33 : decode cX12_again 33 = .ok (.iload_n 2, 1) := by decide +kernel
theorem dX12_again_34 : decode cX12_again 34 = .ok (.aload_n 0, 1) := by decide +kernel
theorem dX12_again_35 : decode cX12_again 35 = .ok (.getfield 7, 3) := by decide +kernel
theorem dX12_again_38 : decode cX12_again 38 = .ok (.sipush 1078, 3) := by decide +kernel
theorem dX12_again_41 : decode cX12_again 41 = .ok (.iload_n 1, 1) := by decide +kernel
theorem dX12_again_42 : decode cX12_again 42 = .ok (.iconst 1, 1) := by decide +kernel
theorem dX12_again_43 : decode cX12_again 43 = .ok (.iadd, 1) := by decide +kernel
theorem dX12_again_44 : decode cX12_again 44 = .ok (.imul, 1) := by decide +kernel
theorem dX12_again_45 : decode cX12_again 45 = .ok (.iload_n 2, 1) := by decide +kernel
theorem dX12_again_46 : decode cX12_again 46 = .ok (.iadd, 1) := by decide +kernel
theorem dX12_again_47 : decode cX12_again 47 = .ok (.iaload, 1) := by decide +kernel
theorem dX12_again_48 : decode cX12_again 48 = .ok (.iastore, 1) := by decide +kernel
theorem dX12_again_49 : decode cX12_again 49 = .ok (.iinc 2 1, 3) := by decide +kernel
theorem dX12_again_52 : decode cX12_again 52 = .ok (.goto (-30), 3) := by decide +kernel
theorem dX12_again_55 : decode cX12_again 55 = .ok (.iconst 1, 1) := by decide +kernel
theorem dX12_again_56 : decode cX12_again 56 = .ok (.ireturn, 1) := by decide +kernel
theorem dJ6_bitCount_0f7a4_0 : decode cJ6_bitCount_0f7a4 0 = .ok (.iload_n 0, 1) := by decide +kernel
theorem dJ6_bitCount_0f7a4_1 : decode cJ6_bitCount_0f7a4 1 = .ok (.iload_n 0, 1) := by decide +kernel
theorem dJ6_bitCount_0f7a4_2 : decode cJ6_bitCount_0f7a4 2 = .ok (.iconst 1, 1) := by decide +kernel
theorem dJ6_bitCount_0f7a4_3 : decode cJ6_bitCount_0f7a4 3 = .ok (.iushr, 1) := by decide +kernel
theorem dJ6_bitCount_0f7a4_4 : decode cJ6_bitCount_0f7a4 4 = .ok (.ldc_w 265, 3) := by decide +kernel
theorem dJ6_bitCount_0f7a4_7 : decode cJ6_bitCount_0f7a4 7 = .ok (.iand, 1) := by decide +kernel
theorem dJ6_bitCount_0f7a4_8 : decode cJ6_bitCount_0f7a4 8 = .ok (.isub, 1) := by decide +kernel
theorem dJ6_bitCount_0f7a4_9 : decode cJ6_bitCount_0f7a4 9 = .ok (.istore_n 0, 1) := by decide +kernel
theorem dJ6_bitCount_0f7a4_10 : decode cJ6_bitCount_0f7a4 10 = .ok (.iload_n 0, 1) := by decide +kernel
theorem dJ6_bitCount_0f7a4_11 : decode cJ6_bitCount_0f7a4 11 = .ok (.ldc_w 266, 3) := by decide +kernel
theorem dJ6_bitCount_0f7a4_14 : decode cJ6_bitCount_0f7a4 14 = .ok (.iand, 1) := by decide +kernel
theorem dJ6_bitCount_0f7a4_15 : decode cJ6_bitCount_0f7a4 15 = .ok (.iload_n 0, 1) := by decide +kernel
theorem dJ6_bitCount_0f7a4_16 : decode cJ6_bitCount_0f7a4 16 = .ok (.iconst 2, 1) := by decide +kernel
theorem dJ6_bitCount_0f7a4_17 : decode cJ6_bitCount_0f7a4 17 = .ok (.iushr, 1) := by decide +kernel
theorem dJ6_bitCount_0f7a4_18 : decode cJ6_bitCount_0f7a4 18 = .ok (.ldc_w 266, 3) := by decide +kernel
theorem dJ6_bitCount_0f7a4_21 : decode cJ6_bitCount_0f7a4 21 = .ok (.iand, 1) := by decide +kernel
theorem dJ6_bitCount_0f7a4_22 : decode cJ6_bitCount_0f7a4 22 = .ok (.iadd, 1) := by decide +kernel
theorem dJ6_bitCount_0f7a4_23 : decode cJ6_bitCount_0f7a4 23 = .ok (.istore_n 0, 1) := by decide +kernel
theorem dJ6_bitCount_0f7a4_24 : decode cJ6_bitCount_0f7a4 24 = .ok (.iload_n 0, 1) := by decide +kernel
theorem dJ6_bitCount_0f7a4_25 : decode cJ6_bitCount_0f7a4 25 = .ok (.iload_n 0, 1) := by decide +kernel
theorem dJ6_bitCount_0f7a4_26 : decode cJ6_bitCount_0f7a4 26 = .ok (.iconst 4, 1) := by decide +kernel
theorem dJ6_bitCount_0f7a4_27 : decode cJ6_bitCount_0f7a4 27 = .ok (.iushr, 1) := by decide +kernel
theorem dJ6_bitCount_0f7a4_28 : decode cJ6_bitCount_0f7a4 28 = .ok (.iadd, 1) := by decide +kernel
theorem dJ6_bitCount_0f7a4_29 : decode cJ6_bitCount_0f7a4 29 = .ok (.ldc_w 267, 3) := by decide +kernel
theorem dJ6_bitCount_0f7a4_32 : decode cJ6_bitCount_0f7a4 32 = .ok (.iand, 1) := by decide +kernel
theorem dJ6_bitCount_0f7a4_33 : decode cJ6_bitCount_0f7a4 33 = .ok (.istore_n 0, 1) := by decide +kernel
theorem dJ6_bitCount_0f7a4_34 : decode cJ6_bitCount_0f7a4 34 = .ok (.iload_n 0, 1) := by decide +kernel
theorem dJ6_bitCount_0f7a4_35 : decode cJ6_bitCount_0f7a4 35 = .ok (.iload_n 0, 1) := by decide +kernel
theorem dJ6_bitCount_0f7a4_36 : decode cJ6_bitCount_0f7a4 36 = .ok (.bipush 8, 2) := by decide +kernel
theorem dJ6_bitCount_0f7a4_38 : decode cJ6_bitCount_0f7a4 38 = .ok (.iushr, 1) := by decide +kernel
theorem dJ6_bitCount_0f7a4_39 : decode cJ6_bitCount_0f7a4 39 = .ok (.iadd, 1) := by decide +kernel
theorem dJ6_bitCount_0f7a4_40 : decode cJ6_bitCount_0f7a4 40 = .ok (.istore_n 0, 1) := by decide +kernel
theorem dJ6_bitCount_0f7a4_41 : decode cJ6_bitCount_0f7a4 41 = .ok (.iload_n 0, 1) := by decide +kernel
theorem dJ6_bitCount_0f7a4_42 : decode cJ6_bitCount_0f7a4 42 = .ok (.iload_n 0, 1) := by decide +kernel
theorem dJ6_bitCount_0f7a4_43 : decode cJ6_bitCount_0f7a4 43 = .ok (.bipush 16, 2) := by decide +kernel
theorem dJ6_bitCount_0f7a4_45 : decode cJ6_bitCount_0f7a4 45 = .ok (.iushr, 1) := by decide +kernel
theorem dJ6_bitCount_0f7a4_46 : decode cJ6_bitCount_0f7a4 46 = .ok (.iadd, 1) := by decide +kernel
theorem dJ6_bitCount_0f7a4_47 : decode cJ6_bitCount_0f7a4 47 = .ok (.istore_n 0, 1) := by decide +kernel
theorem dJ6_bitCount_0f7a4_48 : decode cJ6_bitCount_0f7a4 48 = .ok (.iload_n 0, 1) := by decide +kernel
theorem dJ6_bitCount_0f7a4_49 : decode cJ6_bitCount_0f7a4 49 = .ok (.bipush 63, 2) := by decide +kernel
theorem dJ6_bitCount_0f7a4_51 : decode cJ6_bitCount_0f7a4 51 = .ok (.iand, 1) := by decide +kernel
theorem dJ6_bitCount_0f7a4_52 : decode cJ6_bitCount_0f7a4 52 = .ok (.ireturn, 1) := by decide +kernel
theorem dJ9_abs_0f7a4_0 : decode cJ9_abs_0f7a4 0 = .ok (.iload_n 0, 1) := by decide +kernel
theorem dJ9_abs_0f7a4_1 : decode cJ9_abs_0f7a4 1 = .ok (.ifCond .ge 8, 3) := by decide +kernel
theorem dJ9_abs_0f7a4_4 : decode cJ9_abs_0f7a4 4 = .ok (.iload_n 0, 1) := by decide +kernel
theorem dJ9_abs_0f7a4_5 : decode cJ9_abs_0f7a4 5 = .ok (.ineg, 1) := by decide +kernel
theorem dJ9_abs_0f7a4_6 : decode cJ9_abs_0f7a4 6 = .ok (.goto 4, 3) := by decide +kernel
theorem dJ9_abs_0f7a4_9 : decode cJ9_abs_0f7a4 9 = .ok (.iload_n 0, 1) := by decide +kernel
theorem dJ9_abs_0f7a4_10 : decode cJ9_abs_0f7a4 10 = .ok (.ireturn, 1) := by decide +kernel
theorem dJ9_max_7cf53_0 : decode cJ9_max_7cf53 0 = .ok (.iload_n 0, 1) := by decide +kernel
theorem dJ9_max_7cf53_1 : decode cJ9_max_7cf53 1 = .ok (.iload_n 1, 1) := by decide +kernel
theorem dJ9_max_7cf53_2 : decode cJ9_max_7cf53 2 = .ok (.if_icmp .lt 7, 3) := by decide +kernel
theorem dJ9_max_7cf53_5 : decode cJ9_max_7cf53 5 = .ok (.iload_n 0, 1) := by decide +kernel
theorem dJ9_max_7cf53_6 : decode cJ9_max_7cf53 6 = .ok (.goto 4, 3) := by decide +kernel
theorem dJ9_max_7cf53_9 : decode cJ9_max_7cf53 9 = .ok (.iload_n 1, 1) := by decide +kernel
theorem dJ9_max_7cf53_10 : decode cJ9_max_7cf53 10 = .ok (.ireturn, 1) := by decide +kernel
theorem dJ9_min_7cf53_0 : decode cJ9_min_7cf53 0 = .ok (.iload_n 0, 1) := by decide +kernel
theorem dJ9_min_7cf53_1 : decode cJ9_min_7cf53 1 = .ok (.iload_n 1, 1) := by decide +kernel
theorem dJ9_min_7cf53_2 : decode cJ9_min_7cf53 2 = .ok (.if_icmp .gt 7, 3) := by decide +kernel
theorem dJ9_min_7cf53_5 : decode cJ9_min_7cf53 5 = .ok (.iload_n 0, 1) := by decide +kernel
theorem dJ9_min_7cf53_6 : decode cJ9_min_7cf53 6 = .ok (.goto 4, 3) := by decide +kernel
theorem dJ9_min_7cf53_9 : decode cJ9_min_7cf53 9 = .ok (.iload_n 1, 1) := by decide +kernel
theorem dJ9_min_7cf53_10 : decode cJ9_min_7cf53 10 = .ok (.ireturn, 1) := by decide +kernel
theorem dJ0_length_8abf5_0 : decode cJ0_length_8abf5 0 = .ok (.aload_n 0, 1) := by decide +kernel
theorem dJ0_length_8abf5_1 : decode cJ0_length_8abf5 1 = .ok (.getfield 9, 3) := by decide +kernel
theorem dJ0_length_8abf5_4 : decode cJ0_length_8abf5 4 = .ok (.arraylength, 1) := by decide +kernel
theorem dJ0_length_8abf5_5 : decode cJ0_length_8abf5 5 = .ok (.aload_n 0, 1) := by decide +kernel
theorem dJ0_length_8abf5_6 : decode cJ0_length_8abf5 6 = .ok (.invokevirtual 335, 3) := by decide +kernel
theorem dJ0_length_8abf5_9 : decode cJ0_length_8abf5 9 = .ok (.ishr, 1) := by decide +kernel
theorem dJ0_length_8abf5_10 : decode cJ0_length_8abf5 10 = .ok (.ireturn, 1) := by decide +kernel
theorem dJ0_charAt_5068e_0 : decode cJ0_charAt_5068e 0 = .ok (.aload_n 0, 1) := by decide +kernel
theorem dJ0_charAt_5068e_1 : decode cJ0_charAt_5068e 1 = .ok (.invokevirtual 492, 3) := by decide +kernel
theorem dJ0_charAt_5068e_4 : decode cJ0_charAt_5068e 4 = .ok (.ifCond .eq 12, 3) := by decide +kernel
theorem dJ0_charAt_5068e_7 : decode cJ0_charAt_5068e 7 = .ok (.aload_n 0, 1) := by decide +kernel
theorem dJ0_charAt_5068e_8 : decode cJ0_charAt_5068e 8 = .ok (.getfield 9, 3) := by decide +kernel
theorem dJ0_charAt_5068e_11 : decode cJ0_charAt_5068e 11 = .ok (.iload_n 1, 1) := by decide +kernel
theorem dJ0_charAt_5068e_12 : decode cJ0_charAt_5068e 12 = .ok (.invokestatic 495, 3) := by decide +kernel
theorem dJ0_charAt_5068e_15 : decode cJ0_charAt_5068e 15 = .ok (.ireturn, 1) := by decide +kernel
theorem dJ0_charAt_5068e_16 : decode cJ0_charAt_5068e 16 = .ok (.aload_n 0, 1) := by decide +kernel
theorem dJ0_charAt_5068e_17 : decode cJ0_charAt_5068e 17 = .ok (.getfield 9, 3) := by decide +kernel
theorem dJ0_charAt_5068e_20 : decode cJ0_charAt_5068e 20 = .ok (.iload_n 1, 1) := by decide +kernel
theorem dJ0_charAt_5068e_21 : decode cJ0_charAt_5068e 21 = .ok (.invokestatic 498, 3) := by decide +kernel
theorem dJ0_charAt_5068e_24 : decode cJ0_charAt_5068e 24 = .ok (.ireturn, 1) := by decide +kernel
theorem dJ0_coder_7d493_0 : decode cJ0_coder_7d493 0 = .ok (.getstatic 38, 3) := by decide +kernel
theorem dJ0_coder_7d493_3 : decode cJ0_coder_7d493 3 = .ok (.ifCond .eq 10, 3) := by decide +kernel
theorem dJ0_coder_7d493_6 : decode cJ0_coder_7d493 6 = .ok (.aload_n 0, 1) := by decide +kernel
theorem dJ0_coder_7d493_7 : decode cJ0_coder_7d493 7 = .ok (.getfield 15, 3) := by decide +kernel
theorem dJ0_coder_7d493_10 : decode cJ0_coder_7d493 10 = .ok (.goto 4, 3) := by decide +kernel
theorem dJ0_coder_7d493_13 : decode cJ0_coder_7d493 13 = .ok (.iconst 1, 1) := by decide +kernel
theorem dJ0_coder_7d493_14 : decode cJ0_coder_7d493 14 = .ok (.ireturn, 1) := by decide +kernel
theorem dJ0_isLatin1_aae02_0 : decode cJ0_isLatin1_aae02 0 = .ok (.getstatic 38, 3) := by decide +kernel
theorem dJ0_isLatin1_aae02_3 : decode cJ0_isLatin1_aae02 3 = .ok (.ifCond .eq 14, 3) := by decide +kernel
theorem dJ0_isLatin1_aae02_6 : decode cJ0_isLatin1_aae02 6 = .ok (.aload_n 0, 1) := by decide +kernel
theorem dJ0_isLatin1_aae02_7 : decode cJ0_isLatin1_aae02 7 = .ok (.getfield 15, 3) := by decide +kernel
theorem dJ0_isLatin1_aae02_10 : decode cJ0_isLatin1_aae02 10 = .ok (.ifCond .ne 7, 3) := by decide +kernel
theorem dJ0_isLatin1_aae02_13 : decode cJ0_isLatin1_aae02 13 = .ok (.iconst 1, 1) := by decide +kernel
theorem dJ0_isLatin1_aae02_14 : decode cJ0_isLatin1_aae02 14 = .ok (.goto 4, 3) := by decide +kernel
theorem dJ0_isLatin1_aae02_17 : decode cJ0_isLatin1_aae02 17 = .ok (.iconst 0, 1) := by decide +kernel
theorem dJ0_isLatin1_aae02_18 : decode cJ0_isLatin1_aae02 18 = .ok (.ireturn, 1) := by decide +kernel
theorem dJ0_checkIndex_df160_0 : decode cJ0_checkIndex_df160 0 = .ok (.iload_n 0, 1) := by decide +kernel
theorem dJ0_checkIndex_df160_1 : decode cJ0_checkIndex_df160 1 = .ok (.iload_n 1, 1) := by decide +kernel
theorem dJ0_checkIndex_df160_2 : decode cJ0_checkIndex_df160 2 = .ok (.getstatic 1053, 3) := by decide +kernel
theorem dJ0_checkIndex_df160_5 : decode cJ0_checkIndex_df160 5 = .ok (.invokestatic 1059, 3) := by decide +kernel
theorem dJ0_checkIndex_df160_8 : decode cJ0_checkIndex_df160 8 = .ok (.pop, 1) := by decide +kernel
theorem dJ0_checkIndex_df160_9 : decode cJ0_checkIndex_df160 9 = .ok (.return_, 1) := by decide +kernel
theorem dJ1_charAt_3b067_0 : decode cJ1_charAt_3b067 0 = .ok (.iload_n 1, 1) := by decide +kernel
theorem dJ1_charAt_3b067_1 : decode cJ1_charAt_3b067 1 = .ok (.aload_n 0, 1) := by decide +kernel
theorem dJ1_charAt_3b067_2 : decode cJ1_charAt_3b067 2 = .ok (.arraylength, 1) := by decide +kernel
theorem dJ1_charAt_3b067_3 : decode cJ1_charAt_3b067 3 = .ok (.invokestatic 9, 3) := by decide +kernel
theorem dJ1_charAt_3b067_6 : decode cJ1_charAt_3b067 6 = .ok (.aload_n 0, 1) := by decide +kernel
theorem dJ1_charAt_3b067_7 : decode cJ1_charAt_3b067 7 = .ok (.iload_n 1, 1) := by decide +kernel
theorem dJ1_charAt_3b067_8 : decode cJ1_charAt_3b067 8 = .ok (.baload, 1) := by decide +kernel
theorem dJ1_charAt_3b067_9 : decode cJ1_charAt_3b067 9 = .ok (.sipush 255, 3) := by decide +kernel
theorem dJ1_charAt_3b067_12 : decode cJ1_charAt_3b067 12 = .ok (.iand, 1) := by decide +kernel
theorem dJ1_charAt_3b067_13 : decode cJ1_charAt_3b067 13 = .ok (.i2c, 1) := by decide +kernel
theorem dJ1_charAt_3b067_14 : decode cJ1_charAt_3b067 14 = .ok (.ireturn, 1) := by decide +kernel
theorem dJ2_getChar_3b067_0 : decode cJ2_getChar_3b067 0 = .ok (.getstatic 44, 3) := by decide +kernel
theorem dJ2_getChar_3b067_3 : decode cJ2_getChar_3b067 3 = .ok (.ifCond .ne 25, 3) := by decide +kernel
theorem dJ2_getChar_3b067_6 : decode cJ2_getChar_3b067 6 = .ok (.iload_n 1, 1) := by decide +kernel
theorem dJ2_getChar_3b067_7 : decode cJ2_getChar_3b067 7 = .ok (.ifCond .lt 11, 3) := by decide +kernel
theorem dJ2_getChar_3b067_10 : decode cJ2_getChar_3b067 10 = .ok (.iload_n 1, 1) := by decide +kernel
theorem dJ2_getChar_3b067_11 : decode cJ2_getChar_3b067 11 = .ok (.aload_n 0, 1) := by decide +kernel
theorem dJ2_getChar_3b067_12 : decode cJ2_getChar_3b067 12 = .ok (.invokestatic 48, 3) := by decide +kernel
theorem dJ2_getChar_3b067_15 : decode cJ2_getChar_3b067 15 = .ok (.if_icmp .lt 13, 3) := by decide +kernel
theorem dJ2_getChar_3b067_18 : decode cJ2_getChar_3b067 18 = .ok (.new 52, 3) := by decide +kernel
theorem dJ2_getChar_3b067_21 : decode cJ2_getChar_3b067 21 = .ok (.dup, 1) := by decide +kernel
theorem dJ2_getChar_3b067_22 : decode cJ2_getChar_3b067 22 = .ok (.ldc 54, 2) := by decide +kernel
theorem dJ2_getChar_3b067_24 : decode cJ2_getChar_3b067 24 = .ok (.invokespecial 56, 3) := by decide +kernel
theorem dJ2_getChar_3b067_27 : decode cJ2_getChar_3b067 27 = .ok (.athrow, 1) := by decide +kernel
theorem dJ2_getChar_3b067_28 : decode cJ2_getChar_3b067 28 = .ok (.iload_n 1, 1) := by decide +kernel
theorem dJ2_getChar_3b067_29 : decode cJ2_getChar_3b067 29 = .ok (.iconst 1, 1) := by decide +kernel
theorem dJ2_getChar_3b067_30 : decode cJ2_getChar_3b067 30 = .ok (.ishl, 1) := by decide +kernel
theorem dJ2_getChar_3b067_31 : decode cJ2_getChar_3b067 31 = .ok (.istore_n 1, 1) := by decide +kernel
theorem dJ2_getChar_3b067_32 : decode cJ2_getChar_3b067 32 = .ok (.aload_n 0, 1) := by decide +kernel
theorem dJ2_getChar_3b067_33 : decode cJ2_getChar_3b067 33 = .ok (.iload_n 1, 1) := by decide +kernel
theorem dJ2_getChar_3b067_34 : decode cJ2_getChar_3b067 34 = .ok (.iinc 1 1, 3) := by decide +kernel
theorem dJ2_getChar_3b067_37 : decode cJ2_getChar_3b067 37 = .ok (.baload, 1) := by decide +kernel
theorem dJ2_getChar_3b067_38 : decode cJ2_getChar_3b067 38 = .ok (.sipush 255, 3) := by decide +kernel
theorem dJ2_getChar_3b067_41 : decode cJ2_getChar_3b067 41 = .ok (.iand, 1) := by decide +kernel
theorem dJ2_getChar_3b067_42 : decode cJ2_getChar_3b067 42 = .ok (.getstatic 59, 3) := by decide +kernel
theorem dJ2_getChar_3b067_45 : decode cJ2_getChar_3b067 45 = .ok (.ishl, 1) := by decide +kernel
theorem dJ2_getChar_3b067_46 : decode cJ2_getChar_3b067 46 = .ok (.aload_n 0, 1) := by decide +kernel
theorem dJ2_getChar_3b067_47 : decode cJ2_getChar_3b067 47 = .ok (.iload_n 1, 1) := by decide +kernel
theorem dJ2_getChar_3b067_48 : decode cJ2_getChar_3b067 48 = .ok (.baload, 1) := by decide +kernel
theorem dJ2_getChar_3b067_49 : decode cJ2_getChar_3b067 49 = .ok (.sipush 255, 3) := by decide +kernel
theorem dJ2_getChar_3b067_52 : decode cJ2_getChar_3b067 52 = .ok (.iand, 1) := by decide +kernel
theorem dJ2_getChar_3b067_53 : decode cJ2_getChar_3b067 53 = .ok (.getstatic 63, 3) := by decide +kernel
theorem dJ2_getChar_3b067_56 : decode cJ2_getChar_3b067 56 = .ok (.ishl, 1) := by decide +kernel
theorem dJ2_getChar_3b067_57 : decode cJ2_getChar_3b067 57 = .ok (.ior, 1) := by decide +kernel
theorem dJ2_getChar_3b067_58 : decode cJ2_getChar_3b067 58 = .ok (.i2c, 1) := by decide +kernel
theorem dJ2_getChar_3b067_59 : decode cJ2_getChar_3b067 59 = .ok (.ireturn, 1) := by decide +kernel
theorem dJ2_length_9d52b_0 : decode cJ2_length_9d52b 0 = .ok (.aload_n 0, 1) := by decide +kernel
theorem dJ2_length_9d52b_1 : decode cJ2_length_9d52b 1 = .ok (.arraylength, 1) := by decide +kernel
theorem dJ2_length_9d52b_2 : decode cJ2_length_9d52b 2 = .ok (.iconst 1, 1) := by decide +kernel
theorem dJ2_length_9d52b_3 : decode cJ2_length_9d52b 3 = .ok (.ishr, 1) := by decide +kernel
theorem dJ2_length_9d52b_4 : decode cJ2_length_9d52b 4 = .ok (.ireturn, 1) := by decide +kernel
theorem dJ2_charAt_3b067_0 : decode cJ2_charAt_3b067 0 = .ok (.iload_n 1, 1) := by decide +kernel
theorem dJ2_charAt_3b067_1 : decode cJ2_charAt_3b067 1 = .ok (.aload_n 0, 1) := by decide +kernel
theorem dJ2_charAt_3b067_2 : decode cJ2_charAt_3b067 2 = .ok (.invokestatic 67, 3) := by decide +kernel
theorem dJ2_charAt_3b067_5 : decode cJ2_charAt_3b067 5 = .ok (.aload_n 0, 1) := by decide +kernel
theorem dJ2_charAt_3b067_6 : decode cJ2_charAt_3b067 6 = .ok (.iload_n 1, 1) := by decide +kernel
theorem dJ2_charAt_3b067_7 : decode cJ2_charAt_3b067 7 = .ok (.invokestatic 71, 3) := by decide +kernel
theorem dJ2_charAt_3b067_10 : decode cJ2_charAt_3b067 10 = .ok (.ireturn, 1) := by decide +kernel
theorem dJ2_checkIndex_2214a_0 : decode cJ2_checkIndex_2214a 0 = .ok (.iload_n 0, 1) := by decide +kernel
theorem dJ2_checkIndex_2214a_1 : decode cJ2_checkIndex_2214a 1 = .ok (.aload_n 1, 1) := by decide +kernel
theorem dJ2_checkIndex_2214a_2 : decode cJ2_checkIndex_2214a 2 = .ok (.invokestatic 48, 3) := by decide +kernel
theorem dJ2_checkIndex_2214a_5 : decode cJ2_checkIndex_2214a 5 = .ok (.invokestatic 414, 3) := by decide +kernel
theorem dJ2_checkIndex_2214a_8 : decode cJ2_checkIndex_2214a 8 = .ok (.return_, 1) := by decide +kernel
theorem dJ3_checkIndex_8e157_0 : decode cJ3_checkIndex_8e157 0 = .ok (.iload_n 0, 1) := by decide +kernel
theorem dJ3_checkIndex_8e157_1 : decode cJ3_checkIndex_8e157 1 = .ok (.ifCond .lt 8, 3) := by decide +kernel
theorem dJ3_checkIndex_8e157_4 : decode cJ3_checkIndex_8e157 4 = .ok (.iload_n 0, 1) := by decide +kernel
theorem dJ3_checkIndex_8e157_5 : decode cJ3_checkIndex_8e157 5 = .ok (.iload_n 1, 1) := by decide +kernel
theorem dJ3_checkIndex_8e157_6 : decode cJ3_checkIndex_8e157 6 = .ok (.if_icmp .lt 10, 3) := by decide +kernel
theorem dJ3_checkIndex_8e157_9 : decode cJ3_checkIndex_8e157 9 = .ok (.aload_n 2, 1) := by decide +kernel
theorem dJ3_checkIndex_8e157_10 : decode cJ3_checkIndex_8e157 10 = .ok (.iload_n 0, 1) := by decide +kernel
theorem dJ3_checkIndex_8e157_11 : decode cJ3_checkIndex_8e157 11 = .ok (.iload_n 1, 1) := by decide +kernel
theorem dJ3_checkIndex_8e157_12 : decode cJ3_checkIndex_8e157 12 = .ok (.invokestatic 95, 3) := by decide +kernel
theorem dJ3_checkIndex_8e157_15 : decode cJ3_checkIndex_8e157 15 = .ok (.athrow, 1) := by decide +kernel
theorem dJ3_checkIndex_8e157_16 : decode cJ3_checkIndex_8e157 16 = .ok (.iload_n 0, 1) := by decide +kernel
theorem dJ3_checkIndex_8e157_17 : decode cJ3_checkIndex_8e157 17 = .ok (.ireturn, 1) := by decide +kernel
theorem dL_law_0 : decode cL_law 0 = .ok (.new 7, 3) := by decide +kernel
theorem dL_law_3 : decode cL_law 3 = .ok (.dup, 1) := by decide +kernel
theorem dL_law_4 : decode cL_law 4 = .ok (.invokespecial 9, 3) := by decide +kernel
theorem dL_law_7 : decode cL_law 7 = .ok (.astore_n 1, 1) := by decide +kernel
theorem dL_law_8 : decode cL_law 8 = .ok (.new 10, 3) := by decide +kernel
theorem dL_law_11 : decode cL_law 11 = .ok (.dup, 1) := by decide +kernel
theorem dL_law_12 : decode cL_law 12 = .ok (.invokespecial 12, 3) := by decide +kernel
theorem dL_law_15 : decode cL_law 15 = .ok (.astore_n 2, 1) := by decide +kernel
theorem dL_law_16 : decode cL_law 16 = .ok (.iconst 0, 1) := by decide +kernel
theorem dL_law_17 : decode cL_law 17 = .ok (.istore_n 3, 1) := by decide +kernel
theorem dL_law_18 : decode cL_law 18 = .ok (.iload_n 3, 1) := by decide +kernel
theorem dL_law_19 : decode cL_law 19 = .ok (.aload_n 0, 1) := by decide +kernel
theorem dL_law_20 : decode cL_law 20 = .ok (.arraylength, 1) := by decide +kernel
theorem dL_law_21 : decode cL_law 21 = .ok (.bipush 7, 2) := by decide +kernel
theorem dL_law_23 : decode cL_law 23 = .ok (.isub, 1) := by decide +kernel
theorem dL_law_24 : decode cL_law 24 = .ok (.if_icmp .gt 1712, 3) := by decide +kernel
theorem dL_law_27 : decode cL_law 27 = .ok (.aload_n 0, 1) := by decide +kernel
theorem dL_law_28 : decode cL_law 28 = .ok (.iload_n 3, 1) := by decide +kernel
theorem dL_law_29 : decode cL_law 29 = .ok (.iaload, 1) := by decide +kernel
theorem dL_law_30 : decode cL_law 30 = .ok (.bipush 63, 2) := by decide +kernel
theorem dL_law_32 : decode cL_law 32 = .ok (.iand, 1) := by decide +kernel
theorem dL_law_33 : decode cL_law 33 = .ok (.tableswitch 1697 0 33 #[151, 214, 237, 270, 293, 326, 369, 402, 455, 508, 561, 620, 663, 743, 835, 905, 938, 971, 1014, 1067, 1126, 1169, 1202, 1245, 1288, 1347, 1396, 1439, 1482, 1525, 1595, 1628, 1651, 1674], 151) := by decide +kernel
theorem dL_law_184 : decode cL_law 184 = .ok (.aload_n 1, 1) := by decide +kernel
theorem dL_law_185 : decode cL_law 185 = .ok (.aload_n 0, 1) := by decide +kernel
theorem dL_law_186 : decode cL_law 186 = .ok (.iload_n 3, 1) := by decide +kernel
theorem dL_law_187 : decode cL_law 187 = .ok (.iconst 1, 1) := by decide +kernel
theorem dL_law_188 : decode cL_law 188 = .ok (.iadd, 1) := by decide +kernel
theorem dL_law_189 : decode cL_law 189 = .ok (.iaload, 1) := by decide +kernel
theorem dL_law_190 : decode cL_law 190 = .ok (.aload_n 0, 1) := by decide +kernel
theorem dL_law_191 : decode cL_law 191 = .ok (.iload_n 3, 1) := by decide +kernel
theorem dL_law_192 : decode cL_law 192 = .ok (.iconst 2, 1) := by decide +kernel
theorem dL_law_193 : decode cL_law 193 = .ok (.iadd, 1) := by decide +kernel
theorem dL_law_194 : decode cL_law 194 = .ok (.iaload, 1) := by decide +kernel
theorem dL_law_195 : decode cL_law 195 = .ok (.aload_n 0, 1) := by decide +kernel
theorem dL_law_196 : decode cL_law 196 = .ok (.iload_n 3, 1) := by decide +kernel
theorem dL_law_197 : decode cL_law 197 = .ok (.iconst 3, 1) := by decide +kernel
theorem dL_law_198 : decode cL_law 198 = .ok (.iadd, 1) := by decide +kernel
theorem dL_law_199 : decode cL_law 199 = .ok (.iaload, 1) := by decide +kernel
theorem dL_law_200 : decode cL_law 200 = .ok (.aload_n 0, 1) := by decide +kernel
theorem dL_law_201 : decode cL_law 201 = .ok (.iload_n 3, 1) := by decide +kernel
theorem dL_law_202 : decode cL_law 202 = .ok (.iconst 4, 1) := by decide +kernel
theorem dL_law_203 : decode cL_law 203 = .ok (.iadd, 1) := by decide +kernel
theorem dL_law_204 : decode cL_law 204 = .ok (.iaload, 1) := by decide +kernel
theorem dL_law_205 : decode cL_law 205 = .ok (.aload_n 0, 1) := by decide +kernel
theorem dL_law_206 : decode cL_law 206 = .ok (.iload_n 3, 1) := by decide +kernel
theorem dL_law_207 : decode cL_law 207 = .ok (.iconst 5, 1) := by decide +kernel
theorem dL_law_208 : decode cL_law 208 = .ok (.iadd, 1) := by decide +kernel
theorem dL_law_209 : decode cL_law 209 = .ok (.iaload, 1) := by decide +kernel
theorem dL_law_210 : decode cL_law 210 = .ok (.invokevirtual 13, 3) := by decide +kernel
theorem dL_law_213 : decode cL_law 213 = .ok (.aload_n 2, 1) := by decide +kernel
theorem dL_law_214 : decode cL_law 214 = .ok (.aload_n 0, 1) := by decide +kernel
theorem dL_law_215 : decode cL_law 215 = .ok (.iload_n 3, 1) := by decide +kernel
theorem dL_law_216 : decode cL_law 216 = .ok (.iconst 1, 1) := by decide +kernel
theorem dL_law_217 : decode cL_law 217 = .ok (.iadd, 1) := by decide +kernel
theorem dL_law_218 : decode cL_law 218 = .ok (.iaload, 1) := by decide +kernel
theorem dL_law_219 : decode cL_law 219 = .ok (.aload_n 0, 1) := by decide +kernel
theorem dL_law_220 : decode cL_law 220 = .ok (.iload_n 3, 1) := by decide +kernel
theorem dL_law_221 : decode cL_law 221 = .ok (.iconst 2, 1) := by decide +kernel
theorem dL_law_222 : decode cL_law 222 = .ok (.iadd, 1) := by decide +kernel
theorem dL_law_223 : decode cL_law 223 = .ok (.iaload, 1) := by decide +kernel
theorem dL_law_224 : decode cL_law 224 = .ok (.aload_n 0, 1) := by decide +kernel
theorem dL_law_225 : decode cL_law 225 = .ok (.iload_n 3, 1) := by decide +kernel
theorem dL_law_226 : decode cL_law 226 = .ok (.iconst 3, 1) := by decide +kernel
theorem dL_law_227 : decode cL_law 227 = .ok (.iadd, 1) := by decide +kernel
theorem dL_law_228 : decode cL_law 228 = .ok (.iaload, 1) := by decide +kernel
theorem dL_law_229 : decode cL_law 229 = .ok (.aload_n 0, 1) := by decide +kernel
theorem dL_law_230 : decode cL_law 230 = .ok (.iload_n 3, 1) := by decide +kernel
theorem dL_law_231 : decode cL_law 231 = .ok (.iconst 4, 1) := by decide +kernel
theorem dL_law_232 : decode cL_law 232 = .ok (.iadd, 1) := by decide +kernel
theorem dL_law_233 : decode cL_law 233 = .ok (.iaload, 1) := by decide +kernel
theorem dL_law_234 : decode cL_law 234 = .ok (.aload_n 0, 1) := by decide +kernel
theorem dL_law_235 : decode cL_law 235 = .ok (.iload_n 3, 1) := by decide +kernel
theorem dL_law_236 : decode cL_law 236 = .ok (.iconst 5, 1) := by decide +kernel
theorem dL_law_237 : decode cL_law 237 = .ok (.iadd, 1) := by decide +kernel
theorem dL_law_238 : decode cL_law 238 = .ok (.iaload, 1) := by decide +kernel
