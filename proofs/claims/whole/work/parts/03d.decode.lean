theorem dX12_folkTold_60 : decode cX12_folkTold 60 = .ok (.iastore, 1) := by decide +kernel
theorem dX12_folkTold_61 : decode cX12_folkTold 61 = .ok (.aload_n 0, 1) := by decide +kernel
theorem dX12_folkTold_62 : decode cX12_folkTold 62 = .ok (.getfield 17, 3) := by decide +kernel
theorem dX12_folkTold_65 : decode cX12_folkTold 65 = .ok (.iconst 4, 1) := by decide +kernel
theorem dX12_folkTold_66 : decode cX12_folkTold 66 = .ok (.iconst 4, 1) := by decide +kernel
theorem dX12_folkTold_67 : decode cX12_folkTold 67 = .ok (.aload_n 0, 1) := by decide +kernel
theorem dX12_folkTold_68 : decode cX12_folkTold 68 = .ok (.getfield 17, 3) := by decide +kernel
theorem dX12_folkTold_71 : decode cX12_folkTold 71 = .ok (.iconst 0, 1) := by decide +kernel
theorem dX12_folkTold_72 : decode cX12_folkTold 72 = .ok (.iaload, 1) := by decide +kernel
theorem dX12_folkTold_73 : decode cX12_folkTold 73 = .ok (.imul, 1) := by decide +kernel
theorem dX12_folkTold_74 : decode cX12_folkTold 74 = .ok (.iadd, 1) := by decide +kernel
theorem dX12_folkTold_75 : decode cX12_folkTold 75 = .ok (.iload_n 3, 1) := by decide +kernel
theorem dX12_folkTold_76 : decode cX12_folkTold 76 = .ok (.iastore, 1) := by decide +kernel
theorem dX12_folkTold_77 : decode cX12_folkTold 77 = .ok (.aload_n 0, 1) := by decide +kernel
theorem dX12_folkTold_78 : decode cX12_folkTold 78 = .ok (.getfield 17, 3) := by decide +kernel
theorem dX12_folkTold_81 : decode cX12_folkTold 81 = .ok (.iconst 0, 1) := by decide +kernel
theorem dX12_folkTold_82 : decode cX12_folkTold 82 = .ok (.dup2, 1) := by decide +kernel
theorem dX12_folkTold_83 : decode cX12_folkTold 83 = .ok (.iaload, 1) := by decide +kernel
theorem dX12_folkTold_84 : decode cX12_folkTold 84 = .ok (.iconst 1, 1) := by decide +kernel
theorem dX12_folkTold_85 : decode cX12_folkTold 85 = .ok (.iadd, 1) := by decide +kernel
theorem dX12_folkTold_86 : decode cX12_folkTold 86 = .ok (.iastore, 1) := by decide +kernel
theorem dX12_folkTold_87 : decode cX12_folkTold 87 = .ok (.return_, 1) := by decide +kernel
theorem dX12_childTold_0 : decode cX12_childTold 0 = .ok (.aload_n 0, 1) := by decide +kernel
theorem dX12_childTold_1 : decode cX12_childTold 1 = .ok (.iconst 0, 1) := by decide +kernel
theorem dX12_childTold_2 : decode cX12_childTold 2 = .ok (.bipush 9, 2) := by decide +kernel
theorem dX12_childTold_4 : decode cX12_childTold 4 = .ok (.invokevirtual 157, 3) := by decide +kernel
theorem dX12_childTold_7 : decode cX12_childTold 7 = .ok (.istore_n 1, 1) := by decide +kernel
theorem dX12_childTold_8 : decode cX12_childTold 8 = .ok (.aload_n 0, 1) := by decide +kernel
theorem dX12_childTold_9 : decode cX12_childTold 9 = .ok (.iload_n 1, 1) := by decide +kernel
theorem dX12_childTold_10 : decode cX12_childTold 10 = .ok (.aload_n 0, 1) := by decide +kernel
theorem dX12_childTold_11 : decode cX12_childTold 11 = .ok (.getfield 161, 3) := by decide +kernel
theorem dX12_childTold_14 : decode cX12_childTold 14 = .ok (.if_icmp .le 7, 3) := by decide +kernel
theorem dX12_childTold_17 : decode cX12_childTold 17 = .ok (.iload_n 1, 1) := by decide +kernel
theorem dX12_childTold_18 : decode cX12_childTold 18 = .ok (.goto 7, 3) := by decide +kernel
theorem dX12_childTold_21 : decode cX12_childTold 21 = .ok (.aload_n 0, 1) := by decide +kernel
theorem dX12_childTold_22 : decode cX12_childTold 22 = .ok (.getfield 161, 3) := by decide +kernel
theorem dX12_childTold_25 : decode cX12_childTold 25 = .ok (.putfield 161, 3) := by decide +kernel
theorem dX12_childTold_28 : decode cX12_childTold 28 = .ok (.aload_n 0, 1) := by decide +kernel
theorem dX12_childTold_29 : decode cX12_childTold 29 = .ok (.iload_n 1, 1) := by decide +kernel
theorem dX12_childTold_30 : decode cX12_childTold 30 = .ok (.bipush 9, 2) := by decide +kernel
theorem dX12_childTold_32 : decode cX12_childTold 32 = .ok (.invokevirtual 164, 3) := by decide +kernel
theorem dX12_childTold_35 : decode cX12_childTold 35 = .ok (.istore_n 2, 1) := by decide +kernel
theorem dX12_childTold_36 : decode cX12_childTold 36 = .ok (.aload_n 0, 1) := by decide +kernel
theorem dX12_childTold_37 : decode cX12_childTold 37 = .ok (.getfield 17, 3) := by decide +kernel
theorem dX12_childTold_40 : decode cX12_childTold 40 = .ok (.iconst 5, 1) := by decide +kernel
theorem dX12_childTold_41 : decode cX12_childTold 41 = .ok (.iconst 4, 1) := by decide +kernel
theorem dX12_childTold_42 : decode cX12_childTold 42 = .ok (.iload_n 1, 1) := by decide +kernel
theorem dX12_childTold_43 : decode cX12_childTold 43 = .ok (.imul, 1) := by decide +kernel
theorem dX12_childTold_44 : decode cX12_childTold 44 = .ok (.iadd, 1) := by decide +kernel
theorem dX12_childTold_45 : decode cX12_childTold 45 = .ok (.dup2, 1) := by decide +kernel
theorem dX12_childTold_46 : decode cX12_childTold 46 = .ok (.iaload, 1) := by decide +kernel
theorem dX12_childTold_47 : decode cX12_childTold 47 = .ok (.iconst 1, 1) := by decide +kernel
theorem dX12_childTold_48 : decode cX12_childTold 48 = .ok (.iload_n 2, 1) := by decide +kernel
theorem dX12_childTold_49 : decode cX12_childTold 49 = .ok (.ishl, 1) := by decide +kernel
theorem dX12_childTold_50 : decode cX12_childTold 50 = .ok (.ior, 1) := by decide +kernel
theorem dX12_childTold_51 : decode cX12_childTold 51 = .ok (.iastore, 1) := by decide +kernel
theorem dX12_childTold_52 : decode cX12_childTold 52 = .ok (.return_, 1) := by decide +kernel
theorem dX12_workTold_0 : decode cX12_workTold 0 = .ok (.aload_n 0, 1) := by decide +kernel
theorem dX12_workTold_1 : decode cX12_workTold 1 = .ok (.getfield 17, 3) := by decide +kernel
theorem dX12_workTold_4 : decode cX12_workTold 4 = .ok (.iconst 1, 1) := by decide +kernel
theorem dX12_workTold_5 : decode cX12_workTold 5 = .ok (.iaload, 1) := by decide +kernel
theorem dX12_workTold_6 : decode cX12_workTold 6 = .ok (.bipush 6, 2) := by decide +kernel
theorem dX12_workTold_8 : decode cX12_workTold 8 = .ok (.if_icmp .lt 9, 3) := by decide +kernel
theorem dX12_workTold_11 : decode cX12_workTold 11 = .ok (.aload_n 0, 1) := by decide +kernel
theorem dX12_workTold_12 : decode cX12_workTold 12 = .ok (.iconst 3, 1) := by decide +kernel
theorem dX12_workTold_13 : decode cX12_workTold 13 = .ok (.iload_n 1, 1) := by decide +kernel
theorem dX12_workTold_14 : decode cX12_workTold 14 = .ok (.invokevirtual 150, 3) := by decide +kernel
theorem dX12_workTold_17 : decode cX12_workTold 17 = .ok (.aload_n 0, 1) := by decide +kernel
theorem dX12_workTold_18 : decode cX12_workTold 18 = .ok (.iconst 1, 1) := by decide +kernel
theorem dX12_workTold_19 : decode cX12_workTold 19 = .ok (.bipush 30, 2) := by decide +kernel
theorem dX12_workTold_21 : decode cX12_workTold 21 = .ok (.invokevirtual 157, 3) := by decide +kernel
theorem dX12_workTold_24 : decode cX12_workTold 24 = .ok (.istore_n 2, 1) := by decide +kernel
theorem dX12_workTold_25 : decode cX12_workTold 25 = .ok (.aload_n 0, 1) := by decide +kernel
theorem dX12_workTold_26 : decode cX12_workTold 26 = .ok (.iconst 0, 1) := by decide +kernel
theorem dX12_workTold_27 : decode cX12_workTold 27 = .ok (.bipush 20, 2) := by decide +kernel
theorem dX12_workTold_29 : decode cX12_workTold 29 = .ok (.invokevirtual 157, 3) := by decide +kernel
theorem dX12_workTold_32 : decode cX12_workTold 32 = .ok (.istore_n 3, 1) := by decide +kernel
theorem dX12_workTold_33 : decode cX12_workTold 33 = .ok (.aload_n 0, 1) := by decide +kernel
theorem dX12_workTold_34 : decode cX12_workTold 34 = .ok (.getfield 17, 3) := by decide +kernel
theorem dX12_workTold_37 : decode cX12_workTold 37 = .ok (.iconst 1, 1) := by decide +kernel
theorem dX12_workTold_38 : decode cX12_workTold 38 = .ok (.iaload, 1) := by decide +kernel
theorem dX12_workTold_39 : decode cX12_workTold 39 = .ok (.bipush 6, 2) := by decide +kernel
theorem dX12_workTold_41 : decode cX12_workTold 41 = .ok (.if_icmp .lt 4, 3) := by decide +kernel
theorem dX12_workTold_44 : decode cX12_workTold 44 = .ok (.return_, 1) := by decide +kernel
theorem dX12_workTold_45 : decode cX12_workTold 45 = .ok (.aload_n 0, 1) := by decide +kernel
theorem dX12_workTold_46 : decode cX12_workTold 46 = .ok (.getfield 17, 3) := by decide +kernel
theorem dX12_workTold_49 : decode cX12_workTold 49 = .ok (.bipush 43, 2) := by decide +kernel
theorem dX12_workTold_51 : decode cX12_workTold 51 = .ok (.iconst 2, 1) := by decide +kernel
theorem dX12_workTold_52 : decode cX12_workTold 52 = .ok (.aload_n 0, 1) := by decide +kernel
theorem dX12_workTold_53 : decode cX12_workTold 53 = .ok (.getfield 17, 3) := by decide +kernel
theorem dX12_workTold_56 : decode cX12_workTold 56 = .ok (.iconst 1, 1) := by decide +kernel
theorem dX12_workTold_57 : decode cX12_workTold 57 = .ok (.iaload, 1) := by decide +kernel
theorem dX12_workTold_58 : decode cX12_workTold 58 = .ok (.imul, 1) := by decide +kernel
theorem dX12_workTold_59 : decode cX12_workTold 59 = .ok (.iadd, 1) := by decide +kernel
theorem dX12_workTold_60 : decode cX12_workTold 60 = .ok (.iload_n 2, 1) := by decide +kernel
theorem dX12_workTold_61 : decode cX12_workTold 61 = .ok (.iastore, 1) := by decide +kernel
theorem dX12_workTold_62 : decode cX12_workTold 62 = .ok (.aload_n 0, 1) := by decide +kernel
theorem dX12_workTold_63 : decode cX12_workTold 63 = .ok (.getfield 17, 3) := by decide +kernel
theorem dX12_workTold_66 : decode cX12_workTold 66 = .ok (.bipush 44, 2) := by decide +kernel
theorem dX12_workTold_68 : decode cX12_workTold 68 = .ok (.iconst 2, 1) := by decide +kernel
theorem dX12_workTold_69 : decode cX12_workTold 69 = .ok (.aload_n 0, 1) := by decide +kernel
theorem dX12_workTold_70 : decode cX12_workTold 70 = .ok (.getfield 17, 3) := by decide +kernel
theorem dX12_workTold_73 : decode cX12_workTold 73 = .ok (.iconst 1, 1) := by decide +kernel
theorem dX12_workTold_74 : decode cX12_workTold 74 = .ok (.iaload, 1) := by decide +kernel
theorem dX12_workTold_75 : decode cX12_workTold 75 = .ok (.imul, 1) := by decide +kernel
theorem dX12_workTold_76 : decode cX12_workTold 76 = .ok (.iadd, 1) := by decide +kernel
theorem dX12_workTold_77 : decode cX12_workTold 77 = .ok (.iload_n 3, 1) := by decide +kernel
theorem dX12_workTold_78 : decode cX12_workTold 78 = .ok (.iastore, 1) := by decide +kernel
theorem dX12_workTold_79 : decode cX12_workTold 79 = .ok (.aload_n 0, 1) := by decide +kernel
theorem dX12_workTold_80 : decode cX12_workTold 80 = .ok (.getfield 17, 3) := by decide +kernel
theorem dX12_workTold_83 : decode cX12_workTold 83 = .ok (.iconst 1, 1) := by decide +kernel
theorem dX12_workTold_84 : decode cX12_workTold 84 = .ok (.dup2, 1) := by decide +kernel
theorem dX12_workTold_85 : decode cX12_workTold 85 = .ok (.iaload, 1) := by decide +kernel
theorem dX12_workTold_86 : decode cX12_workTold 86 = .ok (.iconst 1, 1) := by decide +kernel
theorem dX12_workTold_87 : decode cX12_workTold 87 = .ok (.iadd, 1) := by decide +kernel
theorem dX12_workTold_88 : decode cX12_workTold 88 = .ok (.iastore, 1) := by decide +kernel
theorem dX12_workTold_89 : decode cX12_workTold 89 = .ok (.return_, 1) := by decide +kernel
theorem dX12_valleyLine_0 : decode cX12_valleyLine 0 = .ok (.aload_n 0, 1) := by decide +kernel
theorem dX12_valleyLine_1 : decode cX12_valleyLine 1 = .ok (.getfield 112, 3) := by decide +kernel
theorem dX12_valleyLine_4 : decode cX12_valleyLine 4 = .ok (.istore_n 1, 1) := by decide +kernel
theorem dX12_valleyLine_5 : decode cX12_valleyLine 5 = .ok (.aload_n 0, 1) := by decide +kernel
theorem dX12_valleyLine_6 : decode cX12_valleyLine 6 = .ok (.iconst 1, 1) := by decide +kernel
theorem dX12_valleyLine_7 : decode cX12_valleyLine 7 = .ok (.iconst 4, 1) := by decide +kernel
theorem dX12_valleyLine_8 : decode cX12_valleyLine 8 = .ok (.invokevirtual 167, 3) := by decide +kernel
theorem dX12_valleyLine_11 : decode cX12_valleyLine 11 = .ok (.istore_n 2, 1) := by decide +kernel
theorem dX12_valleyLine_12 : decode cX12_valleyLine 12 = .ok (.aload_n 0, 1) := by decide +kernel
theorem dX12_valleyLine_13 : decode cX12_valleyLine 13 = .ok (.getfield 139, 3) := by decide +kernel
theorem dX12_valleyLine_16 : decode cX12_valleyLine 16 = .ok (.ifCond .eq 7, 3) := by decide +kernel
theorem dX12_valleyLine_19 : decode cX12_valleyLine 19 = .ok (.iconst 0, 1) := by decide +kernel
theorem dX12_valleyLine_20 : decode cX12_valleyLine 20 = .ok (.goto 4, 3) := by decide +kernel
theorem dX12_valleyLine_23 : decode cX12_valleyLine 23 = .ok (.iload_n 2, 1) := by decide +kernel
theorem dX12_valleyLine_24 : decode cX12_valleyLine 24 = .ok (.tableswitch 71 1 4 #[32, 40, 47, 55], 32) := by decide +kernel
theorem dX12_valleyLine_56 : decode cX12_valleyLine 56 = .ok (.aload_n 0, 1) := by decide +kernel
theorem dX12_valleyLine_57 : decode cX12_valleyLine 57 = .ok (.iload_n 1, 1) := by decide +kernel
theorem dX12_valleyLine_58 : decode cX12_valleyLine 58 = .ok (.invokevirtual 170, 3) := by decide +kernel
theorem dX12_valleyLine_61 : decode cX12_valleyLine 61 = .ok (.goto 34, 3) := by decide +kernel
theorem dX12_valleyLine_64 : decode cX12_valleyLine 64 = .ok (.aload_n 0, 1) := by decide +kernel
theorem dX12_valleyLine_65 : decode cX12_valleyLine 65 = .ok (.invokevirtual 174, 3) := by decide +kernel
theorem dX12_valleyLine_68 : decode cX12_valleyLine 68 = .ok (.goto 27, 3) := by decide +kernel
theorem dX12_valleyLine_71 : decode cX12_valleyLine 71 = .ok (.aload_n 0, 1) := by decide +kernel
theorem dX12_valleyLine_72 : decode cX12_valleyLine 72 = .ok (.iload_n 1, 1) := by decide +kernel
theorem dX12_valleyLine_73 : decode cX12_valleyLine 73 = .ok (.invokevirtual 177, 3) := by decide +kernel
theorem dX12_valleyLine_76 : decode cX12_valleyLine 76 = .ok (.goto 19, 3) := by decide +kernel
theorem dX12_valleyLine_79 : decode cX12_valleyLine 79 = .ok (.aload_n 0, 1) := by decide +kernel
theorem dX12_valleyLine_80 : decode cX12_valleyLine 80 = .ok (.getfield 17, 3) := by decide +kernel
theorem dX12_valleyLine_83 : decode cX12_valleyLine 83 = .ok (.iconst 2, 1) := by decide +kernel
theorem dX12_valleyLine_84 : decode cX12_valleyLine 84 = .ok (.aload_n 0, 1) := by decide +kernel
theorem dX12_valleyLine_85 : decode cX12_valleyLine 85 = .ok (.iconst 1, 1) := by decide +kernel
theorem dX12_valleyLine_86 : decode cX12_valleyLine 86 = .ok (.bipush 30, 2) := by decide +kernel
theorem dX12_valleyLine_88 : decode cX12_valleyLine 88 = .ok (.invokevirtual 157, 3) := by decide +kernel
theorem dX12_valleyLine_91 : decode cX12_valleyLine 91 = .ok (.iastore, 1) := by decide +kernel
theorem dX12_valleyLine_92 : decode cX12_valleyLine 92 = .ok (.goto 3, 3) := by decide +kernel
theorem dX12_valleyLine_95 : decode cX12_valleyLine 95 = .ok (.aload_n 0, 1) := by decide +kernel
theorem dX12_valleyLine_96 : decode cX12_valleyLine 96 = .ok (.invokevirtual 180, 3) := by decide +kernel
theorem dX12_valleyLine_99 : decode cX12_valleyLine 99 = .ok (.return_, 1) := by decide +kernel
theorem dX12_lifeLine_0 : decode cX12_lifeLine 0 = .ok (.aload_n 0, 1) := by decide +kernel
theorem dX12_lifeLine_1 : decode cX12_lifeLine 1 = .ok (.getfield 112, 3) := by decide +kernel
theorem dX12_lifeLine_4 : decode cX12_lifeLine 4 = .ok (.istore_n 1, 1) := by decide +kernel
theorem dX12_lifeLine_5 : decode cX12_lifeLine 5 = .ok (.aload_n 0, 1) := by decide +kernel
theorem dX12_lifeLine_6 : decode cX12_lifeLine 6 = .ok (.iconst 5, 1) := by decide +kernel
theorem dX12_lifeLine_7 : decode cX12_lifeLine 7 = .ok (.bipush 9, 2) := by decide +kernel
theorem dX12_lifeLine_9 : decode cX12_lifeLine 9 = .ok (.invokevirtual 167, 3) := by decide +kernel
theorem dX12_lifeLine_12 : decode cX12_lifeLine 12 = .ok (.iconst 5, 1) := by decide +kernel
theorem dX12_lifeLine_13 : decode cX12_lifeLine 13 = .ok (.isub, 1) := by decide +kernel
theorem dX12_lifeLine_14 : decode cX12_lifeLine 14 = .ok (.istore_n 2, 1) := by decide +kernel
theorem dX12_lifeLine_15 : decode cX12_lifeLine 15 = .ok (.aload_n 0, 1) := by decide +kernel
theorem dX12_lifeLine_16 : decode cX12_lifeLine 16 = .ok (.getfield 139, 3) := by decide +kernel
theorem dX12_lifeLine_19 : decode cX12_lifeLine 19 = .ok (.ifCond .ne 20, 3) := by decide +kernel
theorem dX12_lifeLine_22 : decode cX12_lifeLine 22 = .ok (.aload_n 0, 1) := by decide +kernel
theorem dX12_lifeLine_23 : decode cX12_lifeLine 23 = .ok (.getfield 17, 3) := by decide +kernel
theorem dX12_lifeLine_26 : decode cX12_lifeLine 26 = .ok (.iconst 0, 1) := by decide +kernel
theorem dX12_lifeLine_27 : decode cX12_lifeLine 27 = .ok (.iaload, 1) := by decide +kernel
theorem dX12_lifeLine_28 : decode cX12_lifeLine 28 = .ok (.bipush 40, 2) := by decide +kernel
theorem dX12_lifeLine_30 : decode cX12_lifeLine 30 = .ok (.if_icmp .lt 9, 3) := by decide +kernel
theorem dX12_lifeLine_33 : decode cX12_lifeLine 33 = .ok (.aload_n 0, 1) := by decide +kernel
theorem dX12_lifeLine_34 : decode cX12_lifeLine 34 = .ok (.iconst 3, 1) := by decide +kernel
theorem dX12_lifeLine_35 : decode cX12_lifeLine 35 = .ok (.iload_n 1, 1) := by decide +kernel
theorem dX12_lifeLine_36 : decode cX12_lifeLine 36 = .ok (.invokevirtual 150, 3) := by decide +kernel
theorem dX12_lifeLine_39 : decode cX12_lifeLine 39 = .ok (.iload_n 2, 1) := by decide +kernel
theorem dX12_lifeLine_40 : decode cX12_lifeLine 40 = .ok (.iconst 4, 1) := by decide +kernel
theorem dX12_lifeLine_41 : decode cX12_lifeLine 41 = .ok (.if_icmp .ge 13, 3) := by decide +kernel
theorem dX12_lifeLine_44 : decode cX12_lifeLine 44 = .ok (.aload_n 0, 1) := by decide +kernel
theorem dX12_lifeLine_45 : decode cX12_lifeLine 45 = .ok (.iconst 0, 1) := by decide +kernel
theorem dX12_lifeLine_46 : decode cX12_lifeLine 46 = .ok (.bipush 9, 2) := by decide +kernel
theorem dX12_lifeLine_48 : decode cX12_lifeLine 48 = .ok (.invokevirtual 157, 3) := by decide +kernel
theorem dX12_lifeLine_51 : decode cX12_lifeLine 51 = .ok (.goto 4, 3) := by decide +kernel
theorem dX12_lifeLine_54 : decode cX12_lifeLine 54 = .ok (.iconst (-1), 1) := by decide +kernel
theorem dX12_lifeLine_55 : decode cX12_lifeLine 55 = .ok (.istore_n 3, 1) := by decide +kernel
theorem dX12_lifeLine_56 : decode cX12_lifeLine 56 = .ok (.iload_n 2, 1) := by decide +kernel
theorem dX12_lifeLine_57 : decode cX12_lifeLine 57 = .ok (.ifCond .ne 12, 3) := by decide +kernel
theorem dX12_lifeLine_60 : decode cX12_lifeLine 60 = .ok (.aload_n 0, 1) := by decide +kernel
theorem dX12_lifeLine_61 : decode cX12_lifeLine 61 = .ok (.iconst 0, 1) := by decide +kernel
theorem dX12_lifeLine_62 : decode cX12_lifeLine 62 = .ok (.iconst 5, 1) := by decide +kernel
theorem dX12_lifeLine_63 : decode cX12_lifeLine 63 = .ok (.invokevirtual 157, 3) := by decide +kernel
theorem dX12_lifeLine_66 : decode cX12_lifeLine 66 = .ok (.goto 19, 3) := by decide +kernel
theorem dX12_lifeLine_69 : decode cX12_lifeLine 69 = .ok (.iload_n 2, 1) := by decide +kernel
theorem dX12_lifeLine_70 : decode cX12_lifeLine 70 = .ok (.iconst 1, 1) := by decide +kernel
theorem dX12_lifeLine_71 : decode cX12_lifeLine 71 = .ok (.if_icmp .ne 13, 3) := by decide +kernel
theorem dX12_lifeLine_74 : decode cX12_lifeLine 74 = .ok (.aload_n 0, 1) := by decide +kernel
theorem dX12_lifeLine_75 : decode cX12_lifeLine 75 = .ok (.iconst 0, 1) := by decide +kernel
theorem dX12_lifeLine_76 : decode cX12_lifeLine 76 = .ok (.bipush 9, 2) := by decide +kernel
theorem dX12_lifeLine_78 : decode cX12_lifeLine 78 = .ok (.invokevirtual 157, 3) := by decide +kernel
theorem dX12_lifeLine_81 : decode cX12_lifeLine 81 = .ok (.goto 4, 3) := by decide +kernel
theorem dX12_lifeLine_84 : decode cX12_lifeLine 84 = .ok (.iconst (-1), 1) := by decide +kernel
theorem dX12_lifeLine_85 : decode cX12_lifeLine 85 = .ok (.istore 4, 2) := by decide +kernel
theorem dX12_lifeLine_87 : decode cX12_lifeLine 87 = .ok (.iload_n 2, 1) := by decide +kernel
theorem dX12_lifeLine_88 : decode cX12_lifeLine 88 = .ok (.ifCond .ne 13, 3) := by decide +kernel
theorem dX12_lifeLine_91 : decode cX12_lifeLine 91 = .ok (.aload_n 0, 1) := by decide +kernel
theorem dX12_lifeLine_92 : decode cX12_lifeLine 92 = .ok (.iconst 1, 1) := by decide +kernel
theorem dX12_lifeLine_93 : decode cX12_lifeLine 93 = .ok (.bipush 9, 2) := by decide +kernel
theorem dX12_lifeLine_95 : decode cX12_lifeLine 95 = .ok (.invokevirtual 157, 3) := by decide +kernel
theorem dX12_lifeLine_98 : decode cX12_lifeLine 98 = .ok (.goto 4, 3) := by decide +kernel
theorem dX12_lifeLine_101 : decode cX12_lifeLine 101 = .ok (.iconst (-1), 1) := by decide +kernel
theorem dX12_lifeLine_102 : decode cX12_lifeLine 102 = .ok (.istore 5, 2) := by decide +kernel
theorem dX12_lifeLine_104 : decode cX12_lifeLine 104 = .ok (.aload_n 0, 1) := by decide +kernel
theorem dX12_lifeLine_105 : decode cX12_lifeLine 105 = .ok (.getfield 17, 3) := by decide +kernel
theorem dX12_lifeLine_108 : decode cX12_lifeLine 108 = .ok (.iconst 0, 1) := by decide +kernel
theorem dX12_lifeLine_109 : decode cX12_lifeLine 109 = .ok (.iaload, 1) := by decide +kernel
theorem dX12_lifeLine_110 : decode cX12_lifeLine 110 = .ok (.bipush 40, 2) := by decide +kernel
theorem dX12_lifeLine_112 : decode cX12_lifeLine 112 = .ok (.if_icmp .ge 65, 3) := by decide +kernel
theorem dX12_lifeLine_115 : decode cX12_lifeLine 115 = .ok (.iconst 1, 1) := by decide +kernel
theorem dX12_lifeLine_116 : decode cX12_lifeLine 116 = .ok (.iconst 4, 1) := by decide +kernel
theorem dX12_lifeLine_117 : decode cX12_lifeLine 117 = .ok (.aload_n 0, 1) := by decide +kernel
theorem dX12_lifeLine_118 : decode cX12_lifeLine 118 = .ok (.getfield 17, 3) := by decide +kernel
theorem dX12_lifeLine_121 : decode cX12_lifeLine 121 = .ok (.iconst 0, 1) := by decide +kernel
theorem dX12_lifeLine_122 : decode cX12_lifeLine 122 = .ok (.iaload, 1) := by decide +kernel
theorem dX12_lifeLine_123 : decode cX12_lifeLine 123 = .ok (.imul, 1) := by decide +kernel
theorem dX12_lifeLine_124 : decode cX12_lifeLine 124 = .ok (.iadd, 1) := by decide +kernel
theorem dX12_lifeLine_125 : decode cX12_lifeLine 125 = .ok (.istore 6, 2) := by decide +kernel
theorem dX12_lifeLine_127 : decode cX12_lifeLine 127 = .ok (.aload_n 0, 1) := by decide +kernel
theorem dX12_lifeLine_128 : decode cX12_lifeLine 128 = .ok (.getfield 17, 3) := by decide +kernel
theorem dX12_lifeLine_131 : decode cX12_lifeLine 131 = .ok (.iload 6, 2) := by decide +kernel
theorem dX12_lifeLine_133 : decode cX12_lifeLine 133 = .ok (.iload_n 2, 1) := by decide +kernel
theorem dX12_lifeLine_134 : decode cX12_lifeLine 134 = .ok (.iastore, 1) := by decide +kernel
theorem dX12_lifeLine_135 : decode cX12_lifeLine 135 = .ok (.aload_n 0, 1) := by decide +kernel
theorem dX12_lifeLine_136 : decode cX12_lifeLine 136 = .ok (.getfield 17, 3) := by decide +kernel
theorem dX12_lifeLine_139 : decode cX12_lifeLine 139 = .ok (.iload 6, 2) := by decide +kernel
theorem dX12_lifeLine_141 : decode cX12_lifeLine 141 = .ok (.iconst 1, 1) := by decide +kernel
theorem dX12_lifeLine_142 : decode cX12_lifeLine 142 = .ok (.iadd, 1) := by decide +kernel
theorem dX12_lifeLine_143 : decode cX12_lifeLine 143 = .ok (.iload_n 3, 1) := by decide +kernel
theorem dX12_lifeLine_144 : decode cX12_lifeLine 144 = .ok (.iastore, 1) := by decide +kernel
theorem dX12_lifeLine_145 : decode cX12_lifeLine 145 = .ok (.aload_n 0, 1) := by decide +kernel
theorem dX12_lifeLine_146 : decode cX12_lifeLine 146 = .ok (.getfield 17, 3) := by decide +kernel
theorem dX12_lifeLine_149 : decode cX12_lifeLine 149 = .ok (.iload 6, 2) := by decide +kernel
theorem dX12_lifeLine_151 : decode cX12_lifeLine 151 = .ok (.iconst 2, 1) := by decide +kernel
theorem dX12_lifeLine_152 : decode cX12_lifeLine 152 = .ok (.iadd, 1) := by decide +kernel
theorem dX12_lifeLine_153 : decode cX12_lifeLine 153 = .ok (.iload 4, 2) := by decide +kernel
theorem dX12_lifeLine_155 : decode cX12_lifeLine 155 = .ok (.iastore, 1) := by decide +kernel
theorem dX12_lifeLine_156 : decode cX12_lifeLine 156 = .ok (.aload_n 0, 1) := by decide +kernel
theorem dX12_lifeLine_157 : decode cX12_lifeLine 157 = .ok (.getfield 17, 3) := by decide +kernel
theorem dX12_lifeLine_160 : decode cX12_lifeLine 160 = .ok (.iload 6, 2) := by decide +kernel
theorem dX12_lifeLine_162 : decode cX12_lifeLine 162 = .ok (.iconst 3, 1) := by decide +kernel
theorem dX12_lifeLine_163 : decode cX12_lifeLine 163 = .ok (.iadd, 1) := by decide +kernel
theorem dX12_lifeLine_164 : decode cX12_lifeLine 164 = .ok (.iload 5, 2) := by decide +kernel
theorem dX12_lifeLine_166 : decode cX12_lifeLine 166 = .ok (.iastore, 1) := by decide +kernel
theorem dX12_lifeLine_167 : decode cX12_lifeLine 167 = .ok (.aload_n 0, 1) := by decide +kernel
theorem dX12_lifeLine_168 : decode cX12_lifeLine 168 = .ok (.getfield 17, 3) := by decide +kernel
theorem dX12_lifeLine_171 : decode cX12_lifeLine 171 = .ok (.iconst 0, 1) := by decide +kernel
theorem dX12_lifeLine_172 : decode cX12_lifeLine 172 = .ok (.dup2, 1) := by decide +kernel
theorem dX12_lifeLine_173 : decode cX12_lifeLine 173 = .ok (.iaload, 1) := by decide +kernel
theorem dX12_lifeLine_174 : decode cX12_lifeLine 174 = .ok (.iconst 1, 1) := by decide +kernel
theorem dX12_lifeLine_175 : decode cX12_lifeLine 175 = .ok (.iadd, 1) := by decide +kernel
theorem dX12_lifeLine_176 : decode cX12_lifeLine 176 = .ok (.iastore, 1) := by decide +kernel
theorem dX12_lifeLine_177 : decode cX12_lifeLine 177 = .ok (.aload_n 0, 1) := by decide +kernel
theorem dX12_lifeLine_178 : decode cX12_lifeLine 178 = .ok (.invokevirtual 180, 3) := by decide +kernel
theorem dX12_lifeLine_181 : decode cX12_lifeLine 181 = .ok (.return_, 1) := by decide +kernel
theorem dX12_sightLine_0 : decode cX12_sightLine 0 = .ok (.aload_n 0, 1) := by decide +kernel
theorem dX12_sightLine_1 : decode cX12_sightLine 1 = .ok (.getfield 112, 3) := by decide +kernel
theorem dX12_sightLine_4 : decode cX12_sightLine 4 = .ok (.istore_n 1, 1) := by decide +kernel
theorem dX12_sightLine_5 : decode cX12_sightLine 5 = .ok (.aload_n 0, 1) := by decide +kernel
theorem dX12_sightLine_6 : decode cX12_sightLine 6 = .ok (.bipush 10, 2) := by decide +kernel
theorem dX12_sightLine_8 : decode cX12_sightLine 8 = .ok (.bipush 11, 2) := by decide +kernel
theorem dX12_sightLine_10 : decode cX12_sightLine 10 = .ok (.invokevirtual 167, 3) := by decide +kernel
theorem dX12_sightLine_13 : decode cX12_sightLine 13 = .ok (.bipush 10, 2) := by decide +kernel
theorem dX12_sightLine_15 : decode cX12_sightLine 15 = .ok (.if_icmp .ne 7, 3) := by decide +kernel
theorem dX12_sightLine_18 : decode cX12_sightLine 18 = .ok (.iconst 1, 1) := by decide +kernel
theorem dX12_sightLine_19 : decode cX12_sightLine 19 = .ok (.goto 4, 3) := by decide +kernel
theorem dX12_sightLine_22 : decode cX12_sightLine 22 = .ok (.iconst 0, 1) := by decide +kernel
theorem dX12_sightLine_23 : decode cX12_sightLine 23 = .ok (.istore_n 2, 1) := by decide +kernel
theorem dX12_sightLine_24 : decode cX12_sightLine 24 = .ok (.iload_n 2, 1) := by decide +kernel
theorem dX12_sightLine_25 : decode cX12_sightLine 25 = .ok (.ifCond .eq 21, 3) := by decide +kernel
theorem dX12_sightLine_28 : decode cX12_sightLine 28 = .ok (.aload_n 0, 1) := by decide +kernel
theorem dX12_sightLine_29 : decode cX12_sightLine 29 = .ok (.getfield 17, 3) := by decide +kernel
theorem dX12_sightLine_32 : decode cX12_sightLine 32 = .ok (.iconst 0, 1) := by decide +kernel
theorem dX12_sightLine_33 : decode cX12_sightLine 33 = .ok (.aload_n 0, 1) := by decide +kernel
theorem dX12_sightLine_34 : decode cX12_sightLine 34 = .ok (.iconst 1, 1) := by decide +kernel
theorem dX12_sightLine_35 : decode cX12_sightLine 35 = .ok (.bipush 9, 2) := by decide +kernel
theorem dX12_sightLine_37 : decode cX12_sightLine 37 = .ok (.invokevirtual 157, 3) := by decide +kernel
theorem dX12_sightLine_40 : decode cX12_sightLine 40 = .ok (.iastore, 1) := by decide +kernel
theorem dX12_sightLine_41 : decode cX12_sightLine 41 = .ok (.aload_n 0, 1) := by decide +kernel
theorem dX12_sightLine_42 : decode cX12_sightLine 42 = .ok (.invokevirtual 180, 3) := by decide +kernel
theorem dX12_sightLine_45 : decode cX12_sightLine 45 = .ok (.return_, 1) := by decide +kernel
theorem dX12_sightLine_46 : decode cX12_sightLine 46 = .ok (.aload_n 0, 1) := by decide +kernel
theorem dX12_sightLine_47 : decode cX12_sightLine 47 = .ok (.getfield 139, 3) := by decide +kernel
theorem dX12_sightLine_50 : decode cX12_sightLine 50 = .ok (.ifCond .ne 20, 3) := by decide +kernel
theorem dX12_sightLine_53 : decode cX12_sightLine 53 = .ok (.aload_n 0, 1) := by decide +kernel
theorem dX12_sightLine_54 : decode cX12_sightLine 54 = .ok (.getfield 17, 3) := by decide +kernel
theorem dX12_sightLine_57 : decode cX12_sightLine 57 = .ok (.iconst 1, 1) := by decide +kernel
theorem dX12_sightLine_58 : decode cX12_sightLine 58 = .ok (.iaload, 1) := by decide +kernel
theorem dX12_sightLine_59 : decode cX12_sightLine 59 = .ok (.bipush 8, 2) := by decide +kernel
theorem dX12_sightLine_61 : decode cX12_sightLine 61 = .ok (.if_icmp .lt 9, 3) := by decide +kernel
theorem dX12_sightLine_64 : decode cX12_sightLine 64 = .ok (.aload_n 0, 1) := by decide +kernel
theorem dX12_sightLine_65 : decode cX12_sightLine 65 = .ok (.iconst 3, 1) := by decide +kernel
theorem dX12_sightLine_66 : decode cX12_sightLine 66 = .ok (.iload_n 1, 1) := by decide +kernel
theorem dX12_sightLine_67 : decode cX12_sightLine 67 = .ok (.invokevirtual 150, 3) := by decide +kernel
theorem dX12_sightLine_70 : decode cX12_sightLine 70 = .ok (.aload_n 0, 1) := by decide +kernel
theorem dX12_sightLine_71 : decode cX12_sightLine 71 = .ok (.iconst 0, 1) := by decide +kernel
theorem dX12_sightLine_72 : decode cX12_sightLine 72 = .ok (.iconst 5, 1) := by decide +kernel
theorem dX12_sightLine_73 : decode cX12_sightLine 73 = .ok (.invokevirtual 157, 3) := by decide +kernel
theorem dX12_sightLine_76 : decode cX12_sightLine 76 = .ok (.istore_n 3, 1) := by decide +kernel
theorem dX12_sightLine_77 : decode cX12_sightLine 77 = .ok (.aload_n 0, 1) := by decide +kernel
theorem dX12_sightLine_78 : decode cX12_sightLine 78 = .ok (.iconst 0, 1) := by decide +kernel
theorem dX12_sightLine_79 : decode cX12_sightLine 79 = .ok (.bipush 30, 2) := by decide +kernel
theorem dX12_sightLine_81 : decode cX12_sightLine 81 = .ok (.invokevirtual 157, 3) := by decide +kernel
theorem dX12_sightLine_84 : decode cX12_sightLine 84 = .ok (.istore 4, 2) := by decide +kernel
theorem dX12_sightLine_86 : decode cX12_sightLine 86 = .ok (.aload_n 0, 1) := by decide +kernel
theorem dX12_sightLine_87 : decode cX12_sightLine 87 = .ok (.getfield 17, 3) := by decide +kernel
theorem dX12_sightLine_90 : decode cX12_sightLine 90 = .ok (.iconst 1, 1) := by decide +kernel
theorem dX12_sightLine_91 : decode cX12_sightLine 91 = .ok (.iaload, 1) := by decide +kernel
theorem dX12_sightLine_92 : decode cX12_sightLine 92 = .ok (.bipush 8, 2) := by decide +kernel
theorem dX12_sightLine_94 : decode cX12_sightLine 94 = .ok (.if_icmp .ge 46, 3) := by decide +kernel
theorem dX12_sightLine_97 : decode cX12_sightLine 97 = .ok (.aload_n 0, 1) := by decide +kernel
theorem dX12_sightLine_98 : decode cX12_sightLine 98 = .ok (.getfield 17, 3) := by decide +kernel
theorem dX12_sightLine_101 : decode cX12_sightLine 101 = .ok (.iconst 2, 1) := by decide +kernel
theorem dX12_sightLine_102 : decode cX12_sightLine 102 = .ok (.iconst 2, 1) := by decide +kernel
theorem dX12_sightLine_103 : decode cX12_sightLine 103 = .ok (.aload_n 0, 1) := by decide +kernel
theorem dX12_sightLine_104 : decode cX12_sightLine 104 = .ok (.getfield 17, 3) := by decide +kernel
theorem dX12_sightLine_107 : decode cX12_sightLine 107 = .ok (.iconst 1, 1) := by decide +kernel
theorem dX12_sightLine_108 : decode cX12_sightLine 108 = .ok (.iaload, 1) := by decide +kernel
theorem dX12_sightLine_109 : decode cX12_sightLine 109 = .ok (.imul, 1) := by decide +kernel
theorem dX12_sightLine_110 : decode cX12_sightLine 110 = .ok (.iadd, 1) := by decide +kernel
theorem dX12_sightLine_111 : decode cX12_sightLine 111 = .ok (.iload_n 3, 1) := by decide +kernel
theorem dX12_sightLine_112 : decode cX12_sightLine 112 = .ok (.iastore, 1) := by decide +kernel
theorem dX12_sightLine_113 : decode cX12_sightLine 113 = .ok (.aload_n 0, 1) := by decide +kernel
theorem dX12_sightLine_114 : decode cX12_sightLine 114 = .ok (.getfield 17, 3) := by decide +kernel
theorem dX12_sightLine_117 : decode cX12_sightLine 117 = .ok (.iconst 3, 1) := by decide +kernel
theorem dX12_sightLine_118 : decode cX12_sightLine 118 = .ok (.iconst 2, 1) := by decide +kernel
theorem dX12_sightLine_119 : decode cX12_sightLine 119 = .ok (.aload_n 0, 1) := by decide +kernel
theorem dX12_sightLine_120 : decode cX12_sightLine 120 = .ok (.getfield 17, 3) := by decide +kernel
theorem dX12_sightLine_123 : decode cX12_sightLine 123 = .ok (.iconst 1, 1) := by decide +kernel
theorem dX12_sightLine_124 : decode cX12_sightLine 124 = .ok (.iaload, 1) := by decide +kernel
theorem dX12_sightLine_125 : decode cX12_sightLine 125 = .ok (.imul, 1) := by decide +kernel
theorem dX12_sightLine_126 : decode cX12_sightLine 126 = .ok (.iadd, 1) := by decide +kernel
theorem dX12_sightLine_127 : decode cX12_sightLine 127 = .ok (.iload 4, 2) := by decide +kernel
theorem dX12_sightLine_129 : decode cX12_sightLine 129 = .ok (.iastore, 1) := by decide +kernel
theorem dX12_sightLine_130 : decode cX12_sightLine 130 = .ok (.aload_n 0, 1) := by decide +kernel
theorem dX12_sightLine_131 : decode cX12_sightLine 131 = .ok (.getfield 17, 3) := by decide +kernel
theorem dX12_sightLine_134 : decode cX12_sightLine 134 = .ok (.iconst 1, 1) := by decide +kernel
theorem dX12_sightLine_135 : decode cX12_sightLine 135 = .ok (.dup2, 1) := by decide +kernel
theorem dX12_sightLine_136 : decode cX12_sightLine 136 = .ok (.iaload, 1) := by decide +kernel
theorem dX12_sightLine_137 : decode cX12_sightLine 137 = .ok (.iconst 1, 1) := by decide +kernel
theorem dX12_sightLine_138 : decode cX12_sightLine 138 = .ok (.iadd, 1) := by decide +kernel
theorem dX12_sightLine_139 : decode cX12_sightLine 139 = .ok (.iastore, 1) := by decide +kernel
theorem dX12_sightLine_140 : decode cX12_sightLine 140 = .ok (.aload_n 0, 1) := by decide +kernel
theorem dX12_sightLine_141 : decode cX12_sightLine 141 = .ok (.invokevirtual 180, 3) := by decide +kernel
theorem dX12_sightLine_144 : decode cX12_sightLine 144 = .ok (.return_, 1) := by decide +kernel
theorem dX12_bitsOf_0 : decode cX12_bitsOf 0 = .ok (.iconst 0, 1) := by decide +kernel
theorem dX12_bitsOf_1 : decode cX12_bitsOf 1 = .ok (.istore_n 1, 1) := by decide +kernel
theorem dX12_bitsOf_2 : decode cX12_bitsOf 2 = .ok (.iconst 0, 1) := by decide +kernel
theorem dX12_bitsOf_3 : decode cX12_bitsOf 3 = .ok (.istore_n 2, 1) := by decide +kernel
theorem dX12_bitsOf_4 : decode cX12_bitsOf 4 = .ok (.iload_n 2, 1) := by decide +kernel
theorem dX12_bitsOf_5 : decode cX12_bitsOf 5 = .ok (.bipush 12, 2) := by decide +kernel
theorem dX12_bitsOf_7 : decode cX12_bitsOf 7 = .ok (.if_icmp .ge 17, 3) := by decide +kernel
theorem dX12_bitsOf_10 : decode cX12_bitsOf 10 = .ok (.iload_n 1, 1) := by decide +kernel
theorem dX12_bitsOf_11 : decode cX12_bitsOf 11 = .ok (.iload_n 0, 1) := by decide +kernel
theorem dX12_bitsOf_12 : decode cX12_bitsOf 12 = .ok (.iload_n 2, 1) := by decide +kernel
theorem dX12_bitsOf_13 : decode cX12_bitsOf 13 = .ok (.ishr, 1) := by decide +kernel
theorem dX12_bitsOf_14 : decode cX12_bitsOf 14 = .ok (.iconst 1, 1) := by decide +kernel
theorem dX12_bitsOf_15 : decode cX12_bitsOf 15 = .ok (.iand, 1) := by decide +kernel
theorem dX12_bitsOf_16 : decode cX12_bitsOf 16 = .ok (.iadd, 1) := by decide +kernel
theorem dX12_bitsOf_17 : decode cX12_bitsOf 17 = .ok (.istore_n 1, 1) := by decide +kernel
theorem dX12_bitsOf_18 : decode cX12_bitsOf 18 = .ok (.iinc 2 1, 3) := by decide +kernel
theorem dX12_bitsOf_21 : decode cX12_bitsOf 21 = .ok (.goto (-17), 3) := by decide +kernel
theorem dX12_bitsOf_24 : decode cX12_bitsOf 24 = .ok (.iload_n 1, 1) := by decide +kernel
theorem dX12_bitsOf_25 : decode cX12_bitsOf 25 = .ok (.ireturn, 1) := by decide +kernel
theorem dX12_endsValley_0 : decode cX12_endsValley 0 = .ok (.iconst 0, 1) := by decide +kernel
theorem dX12_endsValley_1 : decode cX12_endsValley 1 = .ok (.istore_n 1, 1) := by decide +kernel
theorem dX12_endsValley_2 : decode cX12_endsValley 2 = .ok (.iconst 0, 1) := by decide +kernel
theorem dX12_endsValley_3 : decode cX12_endsValley 3 = .ok (.istore_n 2, 1) := by decide +kernel
theorem dX12_endsValley_4 : decode cX12_endsValley 4 = .ok (.iload_n 2, 1) := by decide +kernel
theorem dX12_endsValley_5 : decode cX12_endsValley 5 = .ok (.bipush 10, 2) := by decide +kernel
theorem dX12_endsValley_7 : decode cX12_endsValley 7 = .ok (.if_icmp .ge 44, 3) := by decide +kernel
theorem dX12_endsValley_10 : decode cX12_endsValley 10 = .ok (.aload_n 0, 1) := by decide +kernel
theorem dX12_endsValley_11 : decode cX12_endsValley 11 = .ok (.getfield 17, 3) := by decide +kernel
theorem dX12_endsValley_14 : decode cX12_endsValley 14 = .ok (.iconst 5, 1) := by decide +kernel
theorem dX12_endsValley_15 : decode cX12_endsValley 15 = .ok (.iconst 4, 1) := by decide +kernel
theorem dX12_endsValley_16 : decode cX12_endsValley 16 = .ok (.iload_n 2, 1) := by decide +kernel
theorem dX12_endsValley_17 : decode cX12_endsValley 17 = .ok (.imul, 1) := by decide +kernel
theorem dX12_endsValley_18 : decode cX12_endsValley 18 = .ok (.iadd, 1) := by decide +kernel
theorem dX12_endsValley_19 : decode cX12_endsValley 19 = .ok (.iaload, 1) := by decide +kernel
theorem dX12_endsValley_20 : decode cX12_endsValley 20 = .ok (.invokestatic 183, 3) := by decide +kernel
theorem dX12_endsValley_23 : decode cX12_endsValley 23 = .ok (.iload_n 1, 1) := by decide +kernel
theorem dX12_endsValley_24 : decode cX12_endsValley 24 = .ok (.if_icmp .le 19, 3) := by decide +kernel
theorem dX12_endsValley_27 : decode cX12_endsValley 27 = .ok (.aload_n 0, 1) := by decide +kernel
theorem dX12_endsValley_28 : decode cX12_endsValley 28 = .ok (.getfield 17, 3) := by decide +kernel
theorem dX12_endsValley_31 : decode cX12_endsValley 31 = .ok (.iconst 5, 1) := by decide +kernel
theorem dX12_endsValley_32 : decode cX12_endsValley 32 = .ok (.iconst 4, 1) := by decide +kernel
theorem dX12_endsValley_33 : decode cX12_endsValley 33 = .ok (.iload_n 2, 1) := by decide +kernel
theorem dX12_endsValley_34 : decode cX12_endsValley 34 = .ok (.imul, 1) := by decide +kernel
theorem dX12_endsValley_35 : decode cX12_endsValley 35 = .ok (.iadd, 1) := by decide +kernel
theorem dX12_endsValley_36 : decode cX12_endsValley 36 = .ok (.iaload, 1) := by decide +kernel
theorem dX12_endsValley_37 : decode cX12_endsValley 37 = .ok (.invokestatic 183, 3) := by decide +kernel
theorem dX12_endsValley_40 : decode cX12_endsValley 40 = .ok (.goto 4, 3) := by decide +kernel
theorem dX12_endsValley_43 : decode cX12_endsValley 43 = .ok (.iload_n 1, 1) := by decide +kernel
theorem dX12_endsValley_44 : decode cX12_endsValley 44 = .ok (.istore_n 1, 1) := by decide +kernel
theorem dX12_endsValley_45 : decode cX12_endsValley 45 = .ok (.iinc 2 1, 3) := by decide +kernel
theorem dX12_endsValley_48 : decode cX12_endsValley 48 = .ok (.goto (-44), 3) := by decide +kernel
theorem dX12_endsValley_51 : decode cX12_endsValley 51 = .ok (.aload_n 0, 1) := by decide +kernel
theorem dX12_endsValley_52 : decode cX12_endsValley 52 = .ok (.getfield 7, 3) := by decide +kernel
theorem dX12_endsValley_55 : decode cX12_endsValley 55 = .ok (.iconst 5, 1) := by decide +kernel
theorem dX12_endsValley_56 : decode cX12_endsValley 56 = .ok (.iaload, 1) := by decide +kernel
theorem dX12_endsValley_57 : decode cX12_endsValley 57 = .ok (.ifCond .ne 25, 3) := by decide +kernel
theorem dX12_endsValley_60 : decode cX12_endsValley 60 = .ok (.aload_n 0, 1) := by decide +kernel
theorem dX12_endsValley_61 : decode cX12_endsValley 61 = .ok (.getfield 161, 3) := by decide +kernel
theorem dX12_endsValley_64 : decode cX12_endsValley 64 = .ok (.aload_n 0, 1) := by decide +kernel
theorem dX12_endsValley_65 : decode cX12_endsValley 65 = .ok (.getfield 17, 3) := by decide +kernel
theorem dX12_endsValley_68 : decode cX12_endsValley 68 = .ok (.iconst 0, 1) := by decide +kernel
theorem dX12_endsValley_69 : decode cX12_endsValley 69 = .ok (.iaload, 1) := by decide +kernel
theorem dX12_endsValley_70 : decode cX12_endsValley 70 = .ok (.if_icmp .lt 12, 3) := by decide +kernel
theorem dX12_endsValley_73 : decode cX12_endsValley 73 = .ok (.aload_n 0, 1) := by decide +kernel
theorem dX12_endsValley_74 : decode cX12_endsValley 74 = .ok (.iconst 4, 1) := by decide +kernel
theorem dX12_endsValley_75 : decode cX12_endsValley 75 = .ok (.aload_n 0, 1) := by decide +kernel
theorem dX12_endsValley_76 : decode cX12_endsValley 76 = .ok (.getfield 112, 3) := by decide +kernel
theorem dX12_endsValley_79 : decode cX12_endsValley 79 = .ok (.invokevirtual 150, 3) := by decide +kernel
theorem dX12_endsValley_82 : decode cX12_endsValley 82 = .ok (.aload_n 0, 1) := by decide +kernel
theorem dX12_endsValley_83 : decode cX12_endsValley 83 = .ok (.getfield 7, 3) := by decide +kernel
theorem dX12_endsValley_86 : decode cX12_endsValley 86 = .ok (.iconst 5, 1) := by decide +kernel
theorem dX12_endsValley_87 : decode cX12_endsValley 87 = .ok (.iaload, 1) := by decide +kernel
theorem dX12_endsValley_88 : decode cX12_endsValley 88 = .ok (.ifCond .ne 17, 3) := by decide +kernel
theorem dX12_endsValley_91 : decode cX12_endsValley 91 = .ok (.iload_n 1, 1) := by decide +kernel
theorem dX12_endsValley_92 : decode cX12_endsValley 92 = .ok (.iconst 2, 1) := by decide +kernel
theorem dX12_endsValley_93 : decode cX12_endsValley 93 = .ok (.if_icmp .le 12, 3) := by decide +kernel
theorem dX12_endsValley_96 : decode cX12_endsValley 96 = .ok (.aload_n 0, 1) := by decide +kernel
theorem dX12_endsValley_97 : decode cX12_endsValley 97 = .ok (.iconst 5, 1) := by decide +kernel
theorem dX12_endsValley_98 : decode cX12_endsValley 98 = .ok (.aload_n 0, 1) := by decide +kernel
theorem dX12_endsValley_99 : decode cX12_endsValley 99 = .ok (.getfield 112, 3) := by decide +kernel
theorem dX12_endsValley_102 : decode cX12_endsValley 102 = .ok (.invokevirtual 150, 3) := by decide +kernel
theorem dX12_endsValley_105 : decode cX12_endsValley 105 = .ok (.iconst 0, 1) := by decide +kernel
theorem dX12_endsValley_106 : decode cX12_endsValley 106 = .ok (.istore_n 2, 1) := by decide +kernel
theorem dX12_endsValley_107 : decode cX12_endsValley 107 = .ok (.iload_n 2, 1) := by decide +kernel
theorem dX12_endsValley_108 : decode cX12_endsValley 108 = .ok (.bipush 10, 2) := by decide +kernel
theorem dX12_endsValley_110 : decode cX12_endsValley 110 = .ok (.if_icmp .ge 76, 3) := by decide +kernel
theorem dX12_endsValley_113 : decode cX12_endsValley 113 = .ok (.iconst 0, 1) := by decide +kernel
theorem dX12_endsValley_114 : decode cX12_endsValley 114 = .ok (.istore_n 3, 1) := by decide +kernel
theorem dX12_endsValley_115 : decode cX12_endsValley 115 = .ok (.iconst 0, 1) := by decide +kernel
theorem dX12_endsValley_116 : decode cX12_endsValley 116 = .ok (.istore 4, 2) := by decide +kernel
theorem dX12_endsValley_118 : decode cX12_endsValley 118 = .ok (.iload 4, 2) := by decide +kernel
theorem dX12_endsValley_120 : decode cX12_endsValley 120 = .ok (.bipush 10, 2) := by decide +kernel
theorem dX12_endsValley_122 : decode cX12_endsValley 122 = .ok (.if_icmp .ge 46, 3) := by decide +kernel
theorem dX12_endsValley_125 : decode cX12_endsValley 125 = .ok (.iload_n 3, 1) := by decide +kernel
theorem dX12_endsValley_126 : decode cX12_endsValley 126 = .ok (.aload_n 0, 1) := by decide +kernel
theorem dX12_endsValley_127 : decode cX12_endsValley 127 = .ok (.getfield 17, 3) := by decide +kernel
theorem dX12_endsValley_130 : decode cX12_endsValley 130 = .ok (.iconst 5, 1) := by decide +kernel
theorem dX12_endsValley_131 : decode cX12_endsValley 131 = .ok (.iconst 4, 1) := by decide +kernel
theorem dX12_endsValley_132 : decode cX12_endsValley 132 = .ok (.iload_n 2, 1) := by decide +kernel
theorem dX12_endsValley_133 : decode cX12_endsValley 133 = .ok (.imul, 1) := by decide +kernel
theorem dX12_endsValley_134 : decode cX12_endsValley 134 = .ok (.iadd, 1) := by decide +kernel
theorem dX12_endsValley_135 : decode cX12_endsValley 135 = .ok (.iaload, 1) := by decide +kernel
theorem dX12_endsValley_136 : decode cX12_endsValley 136 = .ok (.iload 4, 2) := by decide +kernel
theorem dX12_endsValley_138 : decode cX12_endsValley 138 = .ok (.ishr, 1) := by decide +kernel
theorem dX12_endsValley_139 : decode cX12_endsValley 139 = .ok (.iconst 1, 1) := by decide +kernel
theorem dX12_endsValley_140 : decode cX12_endsValley 140 = .ok (.iand, 1) := by decide +kernel
theorem dX12_endsValley_141 : decode cX12_endsValley 141 = .ok (.iconst 1, 1) := by decide +kernel
theorem dX12_endsValley_142 : decode cX12_endsValley 142 = .ok (.if_icmp .ne 17, 3) := by decide +kernel
theorem dX12_endsValley_145 : decode cX12_endsValley 145 = .ok (.aload_n 0, 1) := by decide +kernel
theorem dX12_endsValley_146 : decode cX12_endsValley 146 = .ok (.getfield 17, 3) := by decide +kernel
theorem dX12_endsValley_149 : decode cX12_endsValley 149 = .ok (.iconst 5, 1) := by decide +kernel
theorem dX12_endsValley_150 : decode cX12_endsValley 150 = .ok (.iconst 4, 1) := by decide +kernel
theorem dX12_endsValley_151 : decode cX12_endsValley 151 = .ok (.iload 4, 2) := by decide +kernel
theorem dX12_endsValley_153 : decode cX12_endsValley 153 = .ok (.imul, 1) := by decide +kernel
theorem dX12_endsValley_154 : decode cX12_endsValley 154 = .ok (.iadd, 1) := by decide +kernel
theorem dX12_endsValley_155 : decode cX12_endsValley 155 = .ok (.iaload, 1) := by decide +kernel
theorem dX12_endsValley_156 : decode cX12_endsValley 156 = .ok (.goto 4, 3) := by decide +kernel
theorem dX12_endsValley_159 : decode cX12_endsValley 159 = .ok (.iconst 0, 1) := by decide +kernel
theorem dX12_endsValley_160 : decode cX12_endsValley 160 = .ok (.ior, 1) := by decide +kernel
theorem dX12_endsValley_161 : decode cX12_endsValley 161 = .ok (.istore_n 3, 1) := by decide +kernel
theorem dX12_endsValley_162 : decode cX12_endsValley 162 = .ok (.iinc 4 1, 3) := by decide +kernel
theorem dX12_endsValley_165 : decode cX12_endsValley 165 = .ok (.goto (-47), 3) := by decide +kernel
theorem dX12_endsValley_168 : decode cX12_endsValley 168 = .ok (.aload_n 0, 1) := by decide +kernel
theorem dX12_endsValley_169 : decode cX12_endsValley 169 = .ok (.getfield 17, 3) := by decide +kernel
theorem dX12_endsValley_172 : decode cX12_endsValley 172 = .ok (.bipush 6, 2) := by decide +kernel
theorem dX12_endsValley_174 : decode cX12_endsValley 174 = .ok (.iconst 4, 1) := by decide +kernel
theorem dX12_endsValley_175 : decode cX12_endsValley 175 = .ok (.iload_n 2, 1) := by decide +kernel
theorem dX12_endsValley_176 : decode cX12_endsValley 176 = .ok (.imul, 1) := by decide +kernel
theorem dX12_endsValley_177 : decode cX12_endsValley 177 = .ok (.iadd, 1) := by decide +kernel
theorem dX12_endsValley_178 : decode cX12_endsValley 178 = .ok (.iload_n 3, 1) := by decide +kernel
theorem dX12_endsValley_179 : decode cX12_endsValley 179 = .ok (.iastore, 1) := by decide +kernel
theorem dX12_endsValley_180 : decode cX12_endsValley 180 = .ok (.iinc 2 1, 3) := by decide +kernel
theorem dX12_endsValley_183 : decode cX12_endsValley 183 = .ok (.goto (-76), 3) := by decide +kernel
theorem dX12_endsValley_186 : decode cX12_endsValley 186 = .ok (.return_, 1) := by decide +kernel
theorem dX12_placeOf_0 : decode cX12_placeOf 0 = .ok (.iload_n 0, 1) := by decide +kernel
theorem dX12_placeOf_1 : decode cX12_placeOf 1 = .ok (.ifCond .ne 14, 3) := by decide +kernel
theorem dX12_placeOf_4 : decode cX12_placeOf 4 = .ok (.sipush 610, 3) := by decide +kernel
theorem dX12_placeOf_7 : decode cX12_placeOf 7 = .ok (.bipush 55, 2) := by decide +kernel
theorem dX12_placeOf_9 : decode cX12_placeOf 9 = .ok (.iload_n 1, 1) := by decide +kernel
theorem dX12_placeOf_10 : decode cX12_placeOf 10 = .ok (.imul, 1) := by decide +kernel
theorem dX12_placeOf_11 : decode cX12_placeOf 11 = .ok (.iadd, 1) := by decide +kernel
theorem dX12_placeOf_12 : decode cX12_placeOf 12 = .ok (.goto 28, 3) := by decide +kernel
theorem dX12_placeOf_15 : decode cX12_placeOf 15 = .ok (.iload_n 0, 1) := by decide +kernel
theorem dX12_placeOf_16 : decode cX12_placeOf 16 = .ok (.iconst 1, 1) := by decide +kernel
theorem dX12_placeOf_17 : decode cX12_placeOf 17 = .ok (.if_icmp .ne 15, 3) := by decide +kernel
theorem dX12_placeOf_20 : decode cX12_placeOf 20 = .ok (.sipush 720, 3) := by decide +kernel
theorem dX12_placeOf_23 : decode cX12_placeOf 23 = .ok (.sipush 161, 3) := by decide +kernel
theorem dX12_placeOf_26 : decode cX12_placeOf 26 = .ok (.iload_n 1, 1) := by decide +kernel
theorem dX12_placeOf_27 : decode cX12_placeOf 27 = .ok (.imul, 1) := by decide +kernel
theorem dX12_placeOf_28 : decode cX12_placeOf 28 = .ok (.iadd, 1) := by decide +kernel
theorem dX12_placeOf_29 : decode cX12_placeOf 29 = .ok (.goto 11, 3) := by decide +kernel
theorem dX12_placeOf_32 : decode cX12_placeOf 32 = .ok (.sipush 1042, 3) := by decide +kernel
theorem dX12_placeOf_35 : decode cX12_placeOf 35 = .ok (.bipush 18, 2) := by decide +kernel
theorem dX12_placeOf_37 : decode cX12_placeOf 37 = .ok (.iload_n 1, 1) := by decide +kernel
theorem dX12_placeOf_38 : decode cX12_placeOf 38 = .ok (.imul, 1) := by decide +kernel
theorem dX12_placeOf_39 : decode cX12_placeOf 39 = .ok (.iadd, 1) := by decide +kernel
theorem dX12_placeOf_40 : decode cX12_placeOf 40 = .ok (.ireturn, 1) := by decide +kernel
theorem dX12_sizeOf_0 : decode cX12_sizeOf 0 = .ok (.iload_n 0, 1) := by decide +kernel
theorem dX12_sizeOf_1 : decode cX12_sizeOf 1 = .ok (.ifCond .ne 8, 3) := by decide +kernel
theorem dX12_sizeOf_4 : decode cX12_sizeOf 4 = .ok (.bipush 55, 2) := by decide +kernel
theorem dX12_sizeOf_6 : decode cX12_sizeOf 6 = .ok (.goto 16, 3) := by decide +kernel
theorem dX12_sizeOf_9 : decode cX12_sizeOf 9 = .ok (.iload_n 0, 1) := by decide +kernel
theorem dX12_sizeOf_10 : decode cX12_sizeOf 10 = .ok (.iconst 1, 1) := by decide +kernel
theorem dX12_sizeOf_11 : decode cX12_sizeOf 11 = .ok (.if_icmp .ne 9, 3) := by decide +kernel
theorem dX12_sizeOf_14 : decode cX12_sizeOf 14 = .ok (.sipush 161, 3) := by decide +kernel
theorem dX12_sizeOf_17 : decode cX12_sizeOf 17 = .ok (.goto 5, 3) := by decide +kernel
theorem dX12_sizeOf_20 : decode cX12_sizeOf 20 = .ok (.bipush 18, 2) := by decide +kernel
theorem dX12_sizeOf_22 : decode cX12_sizeOf 22 = .ok (.ireturn, 1) := by decide +kernel
theorem dX12_isOf_0 : decode cX12_isOf 0 = .ok (.iload_n 2, 1) := by decide +kernel
theorem dX12_isOf_1 : decode cX12_isOf 1 = .ok (.iconst 0, 1) := by decide +kernel
theorem dX12_isOf_2 : decode cX12_isOf 2 = .ok (.aload_n 0, 1) := by decide +kernel
theorem dX12_isOf_3 : decode cX12_isOf 3 = .ok (.getfield 7, 3) := by decide +kernel
theorem dX12_isOf_6 : decode cX12_isOf 6 = .ok (.iload_n 1, 1) := by decide +kernel
theorem dX12_isOf_7 : decode cX12_isOf 7 = .ok (.iaload, 1) := by decide +kernel
theorem dX12_isOf_8 : decode cX12_isOf 8 = .ok (.iconst 1, 1) := by decide +kernel
theorem dX12_isOf_9 : decode cX12_isOf 9 = .ok (.isub, 1) := by decide +kernel
theorem dX12_isOf_10 : decode cX12_isOf 10 = .ok (.invokestatic 146, 3) := by decide +kernel
theorem dX12_isOf_13 : decode cX12_isOf 13 = .ok (.ireturn, 1) := by decide +kernel
theorem dX12_text_0 : decode cX12_text 0 = .ok (.aload_n 0, 1) := by decide +kernel
theorem dX12_text_1 : decode cX12_text 1 = .ok (.aload_n 0, 1) := by decide +kernel
theorem dX12_text_2 : decode cX12_text 2 = .ok (.getfield 7, 3) := by decide +kernel
theorem dX12_text_5 : decode cX12_text 5 = .ok (.iconst 4, 1) := by decide +kernel
theorem dX12_text_6 : decode cX12_text 6 = .ok (.iaload, 1) := by decide +kernel
theorem dX12_text_7 : decode cX12_text 7 = .ok (.putfield 91, 3) := by decide +kernel
theorem dX12_text_10 : decode cX12_text 10 = .ok (.aload_n 0, 1) := by decide +kernel
theorem dX12_text_11 : decode cX12_text 11 = .ok (.getfield 7, 3) := by decide +kernel
theorem dX12_text_14 : decode cX12_text 14 = .ok (.iconst 4, 1) := by decide +kernel
theorem dX12_text_15 : decode cX12_text 15 = .ok (.iconst 0, 1) := by decide +kernel
theorem dX12_text_16 : decode cX12_text 16 = .ok (.iastore, 1) := by decide +kernel
theorem dX12_text_17 : decode cX12_text 17 = .ok (.aload_n 0, 1) := by decide +kernel
theorem dX12_text_18 : decode cX12_text 18 = .ok (.getfield 7, 3) := by decide +kernel
theorem dX12_text_21 : decode cX12_text 21 = .ok (.iconst 5, 1) := by decide +kernel
theorem dX12_text_22 : decode cX12_text 22 = .ok (.iconst 0, 1) := by decide +kernel
theorem dX12_text_23 : decode cX12_text 23 = .ok (.iastore, 1) := by decide +kernel
theorem dX12_text_24 : decode cX12_text 24 = .ok (.aload_n 0, 1) := by decide +kernel
theorem dX12_text_25 : decode cX12_text 25 = .ok (.getfield 7, 3) := by decide +kernel
theorem dX12_text_28 : decode cX12_text 28 = .ok (.bipush 6, 2) := by decide +kernel
theorem dX12_text_30 : decode cX12_text 30 = .ok (.iconst (-1), 1) := by decide +kernel
theorem dX12_text_31 : decode cX12_text 31 = .ok (.iastore, 1) := by decide +kernel
theorem dX12_text_32 : decode cX12_text 32 = .ok (.iload_n 1, 1) := by decide +kernel
theorem dX12_text_33 : decode cX12_text 33 = .ok (.iconst 0, 1) := by decide +kernel
theorem dX12_text_34 : decode cX12_text 34 = .ok (.iconst 2, 1) := by decide +kernel
theorem dX12_text_35 : decode cX12_text 35 = .ok (.invokestatic 146, 3) := by decide +kernel
theorem dX12_text_38 : decode cX12_text 38 = .ok (.ifCond .eq 30, 3) := by decide +kernel
theorem dX12_text_41 : decode cX12_text 41 = .ok (.iload_n 2, 1) := by decide +kernel
theorem dX12_text_42 : decode cX12_text 42 = .ok (.iconst (-1), 1) := by decide +kernel
theorem dX12_text_43 : decode cX12_text 43 = .ok (.if_icmp .ne 16, 3) := by decide +kernel
theorem dX12_text_46 : decode cX12_text 46 = .ok (.aload_n 0, 1) := by decide +kernel
theorem dX12_text_47 : decode cX12_text 47 = .ok (.getfield 7, 3) := by decide +kernel
theorem dX12_text_50 : decode cX12_text 50 = .ok (.iload_n 1, 1) := by decide +kernel
theorem dX12_text_51 : decode cX12_text 51 = .ok (.iaload, 1) := by decide +kernel
theorem dX12_text_52 : decode cX12_text 52 = .ok (.iconst 2, 1) := by decide +kernel
theorem dX12_text_53 : decode cX12_text 53 = .ok (.if_icmp .lt 18, 3) := by decide +kernel
theorem dX12_text_56 : decode cX12_text 56 = .ok (.goto 12, 3) := by decide +kernel
theorem dX12_text_59 : decode cX12_text 59 = .ok (.aload_n 0, 1) := by decide +kernel
theorem dX12_text_60 : decode cX12_text 60 = .ok (.iload_n 1, 1) := by decide +kernel
theorem dX12_text_61 : decode cX12_text 61 = .ok (.iload_n 2, 1) := by decide +kernel
theorem dX12_text_62 : decode cX12_text 62 = .ok (.invokevirtual 186, 3) := by decide +kernel
theorem dX12_text_65 : decode cX12_text 65 = .ok (.ifCond .ne 6, 3) := by decide +kernel
theorem dX12_text_68 : decode cX12_text 68 = .ok (.bipush (-2), 2) := by decide +kernel
theorem dX12_text_70 : decode cX12_text 70 = .ok (.ireturn, 1) := by decide +kernel
theorem dX12_text_71 : decode cX12_text 71 = .ok (.aload_n 0, 1) := by decide +kernel
theorem dX12_text_72 : decode cX12_text 72 = .ok (.iconst 0, 1) := by decide +kernel
theorem dX12_text_73 : decode cX12_text 73 = .ok (.putfield 105, 3) := by decide +kernel
theorem dX12_text_76 : decode cX12_text 76 = .ok (.aload_n 0, 1) := by decide +kernel
theorem dX12_text_77 : decode cX12_text 77 = .ok (.iconst 0, 1) := by decide +kernel
theorem dX12_text_78 : decode cX12_text 78 = .ok (.putfield 139, 3) := by decide +kernel
theorem dX12_text_81 : decode cX12_text 81 = .ok (.aload_n 0, 1) := by decide +kernel
theorem dX12_text_82 : decode cX12_text 82 = .ok (.iconst (-1), 1) := by decide +kernel
theorem dX12_text_83 : decode cX12_text 83 = .ok (.putfield 161, 3) := by decide +kernel
theorem dX12_text_86 : decode cX12_text 86 = .ok (.iconst 0, 1) := by decide +kernel
theorem dX12_text_87 : decode cX12_text 87 = .ok (.istore_n 3, 1) := by decide +kernel
theorem dX12_text_88 : decode cX12_text 88 = .ok (.iload_n 3, 1) := by decide +kernel
theorem dX12_text_89 : decode cX12_text 89 = .ok (.sipush 161, 3) := by decide +kernel
theorem dX12_text_92 : decode cX12_text 92 = .ok (.if_icmp .ge 16, 3) := by decide +kernel
theorem dX12_text_95 : decode cX12_text 95 = .ok (.aload_n 0, 1) := by decide +kernel
theorem dX12_text_96 : decode cX12_text 96 = .ok (.getfield 17, 3) := by decide +kernel
theorem dX12_text_99 : decode cX12_text 99 = .ok (.iload_n 3, 1) := by decide +kernel
theorem dX12_text_100 : decode cX12_text 100 = .ok (.iconst 0, 1) := by decide +kernel
theorem dX12_text_101 : decode cX12_text 101 = .ok (.iastore, 1) := by decide +kernel
theorem dX12_text_102 : decode cX12_text 102 = .ok (.iinc 3 1, 3) := by decide +kernel
theorem dX12_text_105 : decode cX12_text 105 = .ok (.goto (-17), 3) := by decide +kernel
theorem dX12_text_108 : decode cX12_text 108 = .ok (.iload_n 1, 1) := by decide +kernel
theorem dX12_text_109 : decode cX12_text 109 = .ok (.ifCond .ne 11, 3) := by decide +kernel
theorem dX12_text_112 : decode cX12_text 112 = .ok (.aload_n 0, 1) := by decide +kernel
theorem dX12_text_113 : decode cX12_text 113 = .ok (.getfield 17, 3) := by decide +kernel
theorem dX12_text_116 : decode cX12_text 116 = .ok (.iconst 2, 1) := by decide +kernel
theorem dX12_text_117 : decode cX12_text 117 = .ok (.bipush 20, 2) := by decide +kernel
theorem dX12_text_119 : decode cX12_text 119 = .ok (.iastore, 1) := by decide +kernel
theorem dX12_text_120 : decode cX12_text 120 = .ok (.iload_n 1, 1) := by decide +kernel
theorem dX12_text_121 : decode cX12_text 121 = .ok (.iconst 2, 1) := by decide +kernel
theorem dX12_text_122 : decode cX12_text 122 = .ok (.if_icmp .ne 10, 3) := by decide +kernel
theorem dX12_text_125 : decode cX12_text 125 = .ok (.aload_n 0, 1) := by decide +kernel
theorem dX12_text_126 : decode cX12_text 126 = .ok (.getfield 17, 3) := by decide +kernel
theorem dX12_text_129 : decode cX12_text 129 = .ok (.iconst 0, 1) := by decide +kernel
theorem dX12_text_130 : decode cX12_text 130 = .ok (.iconst 1, 1) := by decide +kernel
theorem dX12_text_131 : decode cX12_text 131 = .ok (.iastore, 1) := by decide +kernel
theorem dX12_text_132 : decode cX12_text 132 = .ok (.aload_n 0, 1) := by decide +kernel
theorem dX12_text_133 : decode cX12_text 133 = .ok (.invokevirtual 154, 3) := by decide +kernel
theorem dX12_text_136 : decode cX12_text 136 = .ok (.aload_n 0, 1) := by decide +kernel
theorem dX12_text_137 : decode cX12_text 137 = .ok (.getfield 139, 3) := by decide +kernel
theorem dX12_text_140 : decode cX12_text 140 = .ok (.ifCond .ne 57, 3) := by decide +kernel
theorem dX12_text_143 : decode cX12_text 143 = .ok (.aload_n 0, 1) := by decide +kernel
theorem dX12_text_144 : decode cX12_text 144 = .ok (.getfield 115, 3) := by decide +kernel
theorem dX12_text_147 : decode cX12_text 147 = .ok (.ifCond .eq 50, 3) := by decide +kernel
theorem dX12_text_150 : decode cX12_text 150 = .ok (.iload_n 1, 1) := by decide +kernel
theorem dX12_text_151 : decode cX12_text 151 = .ok (.lookupswitch 39 #[(0, 25), (1, 32)], 25) := by decide +kernel
theorem dX12_text_176 : decode cX12_text 176 = .ok (.aload_n 0, 1) := by decide +kernel
theorem dX12_text_177 : decode cX12_text 177 = .ok (.invokevirtual 190, 3) := by decide +kernel
theorem dX12_text_180 : decode cX12_text 180 = .ok (.goto (-44), 3) := by decide +kernel
theorem dX12_text_183 : decode cX12_text 183 = .ok (.aload_n 0, 1) := by decide +kernel
theorem dX12_text_184 : decode cX12_text 184 = .ok (.invokevirtual 193, 3) := by decide +kernel
theorem dX12_text_187 : decode cX12_text 187 = .ok (.goto (-51), 3) := by decide +kernel
theorem dX12_text_190 : decode cX12_text 190 = .ok (.aload_n 0, 1) := by decide +kernel
theorem dX12_text_191 : decode cX12_text 191 = .ok (.invokevirtual 196, 3) := by decide +kernel
theorem dX12_text_194 : decode cX12_text 194 = .ok (.goto (-58), 3) := by decide +kernel
theorem dX12_text_197 : decode cX12_text 197 = .ok (.iload_n 1, 1) := by decide +kernel
theorem dX12_text_198 : decode cX12_text 198 = .ok (.ifCond .ne 7, 3) := by decide +kernel
theorem dX12_text_201 : decode cX12_text 201 = .ok (.aload_n 0, 1) := by decide +kernel
theorem dX12_text_202 : decode cX12_text 202 = .ok (.invokevirtual 199, 3) := by decide +kernel
theorem dX12_text_205 : decode cX12_text 205 = .ok (.aload_n 0, 1) := by decide +kernel
theorem dX12_text_206 : decode cX12_text 206 = .ok (.getfield 7, 3) := by decide +kernel
theorem dX12_text_209 : decode cX12_text 209 = .ok (.iconst 5, 1) := by decide +kernel
theorem dX12_text_210 : decode cX12_text 210 = .ok (.iaload, 1) := by decide +kernel
theorem dX12_text_211 : decode cX12_text 211 = .ok (.ifCond .eq 5, 3) := by decide +kernel
theorem dX12_text_214 : decode cX12_text 214 = .ok (.iconst (-1), 1) := by decide +kernel
theorem dX12_text_215 : decode cX12_text 215 = .ok (.ireturn, 1) := by decide +kernel
theorem dX12_text_216 : decode cX12_text 216 = .ok (.iload_n 2, 1) := by decide +kernel
theorem dX12_text_217 : decode cX12_text 217 = .ok (.iconst (-1), 1) := by decide +kernel
theorem dX12_text_218 : decode cX12_text 218 = .ok (.if_icmp .ne 12, 3) := by decide +kernel
theorem dX12_text_221 : decode cX12_text 221 = .ok (.aload_n 0, 1) := by decide +kernel
theorem dX12_text_222 : decode cX12_text 222 = .ok (.getfield 7, 3) := by decide +kernel
theorem dX12_text_225 : decode cX12_text 225 = .ok (.iload_n 1, 1) := by decide +kernel
theorem dX12_text_226 : decode cX12_text 226 = .ok (.iaload, 1) := by decide +kernel
theorem dX12_text_227 : decode cX12_text 227 = .ok (.goto 4, 3) := by decide +kernel
theorem dX12_text_230 : decode cX12_text 230 = .ok (.iload_n 2, 1) := by decide +kernel
theorem dX12_text_231 : decode cX12_text 231 = .ok (.istore_n 3, 1) := by decide +kernel
theorem dX12_text_232 : decode cX12_text 232 = .ok (.iload_n 2, 1) := by decide +kernel
theorem dX12_text_233 : decode cX12_text 233 = .ok (.iconst (-1), 1) := by decide +kernel
theorem dX12_text_234 : decode cX12_text 234 = .ok (.if_icmp .ne 13, 3) := by decide +kernel
theorem dX12_text_237 : decode cX12_text 237 = .ok (.aload_n 0, 1) := by decide +kernel
theorem dX12_text_238 : decode cX12_text 238 = .ok (.getfield 7, 3) := by decide +kernel
theorem dX12_text_241 : decode cX12_text 241 = .ok (.iload_n 1, 1) := by decide +kernel
theorem dX12_text_242 : decode cX12_text 242 = .ok (.dup2, 1) := by decide +kernel
theorem dX12_text_243 : decode cX12_text 243 = .ok (.iaload, 1) := by decide +kernel
theorem dX12_text_244 : decode cX12_text 244 = .ok (.iconst 1, 1) := by decide +kernel
theorem dX12_text_245 : decode cX12_text 245 = .ok (.iadd, 1) := by decide +kernel
theorem dX12_text_246 : decode cX12_text 246 = .ok (.iastore, 1) := by decide +kernel
theorem dX12_text_247 : decode cX12_text 247 = .ok (.iconst 0, 1) := by decide +kernel
theorem dX12_text_248 : decode cX12_text 248 = .ok (.istore 4, 2) := by decide +kernel
theorem dX12_text_250 : decode cX12_text 250 = .ok (.iload 4, 2) := by decide +kernel
theorem dX12_text_252 : decode cX12_text 252 = .ok (.iload_n 1, 1) := by decide +kernel
theorem dX12_text_253 : decode cX12_text 253 = .ok (.invokestatic 202, 3) := by decide +kernel
theorem dX12_text_256 : decode cX12_text 256 = .ok (.if_icmp .ge 29, 3) := by decide +kernel
theorem dX12_text_259 : decode cX12_text 259 = .ok (.aload_n 0, 1) := by decide +kernel
theorem dX12_text_260 : decode cX12_text 260 = .ok (.getfield 7, 3) := by decide +kernel
theorem dX12_text_263 : decode cX12_text 263 = .ok (.iload_n 1, 1) := by decide +kernel
theorem dX12_text_264 : decode cX12_text 264 = .ok (.iload_n 3, 1) := by decide +kernel
theorem dX12_text_265 : decode cX12_text 265 = .ok (.invokestatic 205, 3) := by decide +kernel
theorem dX12_text_268 : decode cX12_text 268 = .ok (.iload 4, 2) := by decide +kernel
theorem dX12_text_270 : decode cX12_text 270 = .ok (.iadd, 1) := by decide +kernel
theorem dX12_text_271 : decode cX12_text 271 = .ok (.aload_n 0, 1) := by decide +kernel
theorem dX12_text_272 : decode cX12_text 272 = .ok (.getfield 17, 3) := by decide +kernel
theorem dX12_text_275 : decode cX12_text 275 = .ok (.iload 4, 2) := by decide +kernel
theorem dX12_text_277 : decode cX12_text 277 = .ok (.iaload, 1) := by decide +kernel
theorem dX12_text_278 : decode cX12_text 278 = .ok (.iastore, 1) := by decide +kernel
theorem dX12_text_279 : decode cX12_text 279 = .ok (.iinc 4 1, 3) := by decide +kernel
theorem dX12_text_282 : decode cX12_text 282 = .ok (.goto (-32), 3) := by decide +kernel
theorem dX12_text_285 : decode cX12_text 285 = .ok (.iload_n 3, 1) := by decide +kernel
theorem dX12_text_286 : decode cX12_text 286 = .ok (.ireturn, 1) := by decide +kernel
theorem dX12_fault_0 : decode cX12_fault 0 = .ok (.iload_n 1, 1) := by decide +kernel
theorem dX12_fault_1 : decode cX12_fault 1 = .ok (.ifCond .ne 12, 3) := by decide +kernel
theorem dX12_fault_4 : decode cX12_fault 4 = .ok (.aload_n 0, 1) := by decide +kernel
theorem dX12_fault_5 : decode cX12_fault 5 = .ok (.getfield 7, 3) := by decide +kernel
theorem dX12_fault_8 : decode cX12_fault 8 = .ok (.iconst 5, 1) := by decide +kernel
theorem dX12_fault_9 : decode cX12_fault 9 = .ok (.iaload, 1) := by decide +kernel
theorem dX12_fault_10 : decode cX12_fault 10 = .ok (.goto 19, 3) := by decide +kernel
theorem dX12_fault_13 : decode cX12_fault 13 = .ok (.iload_n 1, 1) := by decide +kernel
theorem dX12_fault_14 : decode cX12_fault 14 = .ok (.iconst 1, 1) := by decide +kernel
theorem dX12_fault_15 : decode cX12_fault 15 = .ok (.if_icmp .ne 13, 3) := by decide +kernel
theorem dX12_fault_18 : decode cX12_fault 18 = .ok (.aload_n 0, 1) := by decide +kernel
theorem dX12_fault_19 : decode cX12_fault 19 = .ok (.getfield 7, 3) := by decide +kernel
theorem dX12_fault_22 : decode cX12_fault 22 = .ok (.bipush 6, 2) := by decide +kernel
theorem dX12_fault_24 : decode cX12_fault 24 = .ok (.iaload, 1) := by decide +kernel
theorem dX12_fault_25 : decode cX12_fault 25 = .ok (.goto 4, 3) := by decide +kernel
theorem dX12_fault_28 : decode cX12_fault 28 = .ok (.iconst (-1), 1) := by decide +kernel
theorem dX12_fault_29 : decode cX12_fault 29 = .ok (.ireturn, 1) := by decide +kernel
theorem dX12_isValley_0 : decode cX12_isValley 0 = .ok (.aload_n 0, 1) := by decide +kernel
theorem dX12_isValley_1 : decode cX12_isValley 1 = .ok (.iconst 0, 1) := by decide +kernel
theorem dX12_isValley_2 : decode cX12_isValley 2 = .ok (.iload_n 1, 1) := by decide +kernel
theorem dX12_isValley_3 : decode cX12_isValley 3 = .ok (.invokevirtual 186, 3) := by decide +kernel
theorem dX12_isValley_6 : decode cX12_isValley 6 = .ok (.ifCond .ne 5, 3) := by decide +kernel
theorem dX12_isValley_9 : decode cX12_isValley 9 = .ok (.iconst 0, 1) := by decide +kernel
theorem dX12_isValley_10 : decode cX12_isValley 10 = .ok (.ireturn, 1) := by decide +kernel
theorem dX12_isValley_11 : decode cX12_isValley 11 = .ok (.aload_n 0, 1) := by decide +kernel
theorem dX12_isValley_12 : decode cX12_isValley 12 = .ok (.iconst 0, 1) := by decide +kernel
theorem dX12_isValley_13 : decode cX12_isValley 13 = .ok (.iload_n 1, 1) := by decide +kernel
theorem dX12_isValley_14 : decode cX12_isValley 14 = .ok (.invokestatic 205, 3) := by decide +kernel
theorem dX12_isValley_17 : decode cX12_isValley 17 = .ok (.putfield 208, 3) := by decide +kernel
theorem dX12_isValley_20 : decode cX12_isValley 20 = .ok (.aload_n 0, 1) := by decide +kernel
theorem dX12_isValley_21 : decode cX12_isValley 21 = .ok (.aload_n 0, 1) := by decide +kernel
theorem dX12_isValley_22 : decode cX12_isValley 22 = .ok (.getfield 7, 3) := by decide +kernel
theorem dX12_isValley_25 : decode cX12_isValley 25 = .ok (.aload_n 0, 1) := by decide +kernel
theorem dX12_isValley_26 : decode cX12_isValley 26 = .ok (.getfield 208, 3) := by decide +kernel
theorem dX12_isValley_29 : decode cX12_isValley 29 = .ok (.iaload, 1) := by decide +kernel
theorem dX12_isValley_30 : decode cX12_isValley 30 = .ok (.putfield 211, 3) := by decide +kernel
theorem dX12_isValley_33 : decode cX12_isValley 33 = .ok (.aload_n 0, 1) := by decide +kernel
theorem dX12_isValley_34 : decode cX12_isValley 34 = .ok (.aload_n 0, 1) := by decide +kernel
theorem dX12_isValley_35 : decode cX12_isValley 35 = .ok (.getfield 7, 3) := by decide +kernel
theorem dX12_isValley_38 : decode cX12_isValley 38 = .ok (.aload_n 0, 1) := by decide +kernel
theorem dX12_isValley_39 : decode cX12_isValley 39 = .ok (.getfield 208, 3) := by decide +kernel
theorem dX12_isValley_42 : decode cX12_isValley 42 = .ok (.iconst 1, 1) := by decide +kernel
theorem dX12_isValley_43 : decode cX12_isValley 43 = .ok (.iadd, 1) := by decide +kernel
theorem dX12_isValley_44 : decode cX12_isValley 44 = .ok (.iaload, 1) := by decide +kernel
theorem dX12_isValley_45 : decode cX12_isValley 45 = .ok (.putfield 214, 3) := by decide +kernel
theorem dX12_isValley_48 : decode cX12_isValley 48 = .ok (.iconst 1, 1) := by decide +kernel
theorem dX12_isValley_49 : decode cX12_isValley 49 = .ok (.ireturn, 1) := by decide +kernel
theorem dX12_isFolk_0 : decode cX12_isFolk 0 = .ok (.iload_n 1, 1) := by decide +kernel
theorem dX12_isFolk_1 : decode cX12_isFolk 1 = .ok (.iconst 0, 1) := by decide +kernel
theorem dX12_isFolk_2 : decode cX12_isFolk 2 = .ok (.aload_n 0, 1) := by decide +kernel
theorem dX12_isFolk_3 : decode cX12_isFolk 3 = .ok (.getfield 211, 3) := by decide +kernel
theorem dX12_isFolk_6 : decode cX12_isFolk 6 = .ok (.iconst 1, 1) := by decide +kernel
theorem dX12_isFolk_7 : decode cX12_isFolk 7 = .ok (.isub, 1) := by decide +kernel
theorem dX12_isFolk_8 : decode cX12_isFolk 8 = .ok (.invokestatic 146, 3) := by decide +kernel
theorem dX12_isFolk_11 : decode cX12_isFolk 11 = .ok (.ireturn, 1) := by decide +kernel
theorem dX12_isWork_0 : decode cX12_isWork 0 = .ok (.iload_n 1, 1) := by decide +kernel
theorem dX12_isWork_1 : decode cX12_isWork 1 = .ok (.iconst 0, 1) := by decide +kernel
theorem dX12_isWork_2 : decode cX12_isWork 2 = .ok (.aload_n 0, 1) := by decide +kernel
theorem dX12_isWork_3 : decode cX12_isWork 3 = .ok (.getfield 214, 3) := by decide +kernel
theorem dX12_isWork_6 : decode cX12_isWork 6 = .ok (.iconst 1, 1) := by decide +kernel
theorem dX12_isWork_7 : decode cX12_isWork 7 = .ok (.isub, 1) := by decide +kernel
theorem dX12_isWork_8 : decode cX12_isWork 8 = .ok (.invokestatic 146, 3) := by decide +kernel
theorem dX12_isWork_11 : decode cX12_isWork 11 = .ok (.ireturn, 1) := by decide +kernel
theorem dX12_ageOf_0 : decode cX12_ageOf 0 = .ok (.aload_n 0, 1) := by decide +kernel
theorem dX12_ageOf_1 : decode cX12_ageOf 1 = .ok (.getfield 7, 3) := by decide +kernel
theorem dX12_ageOf_4 : decode cX12_ageOf 4 = .ok (.aload_n 0, 1) := by decide +kernel
theorem dX12_ageOf_5 : decode cX12_ageOf 5 = .ok (.getfield 208, 3) := by decide +kernel
theorem dX12_ageOf_8 : decode cX12_ageOf 8 = .ok (.iconst 3, 1) := by decide +kernel
theorem dX12_ageOf_9 : decode cX12_ageOf 9 = .ok (.iadd, 1) := by decide +kernel
theorem dX12_ageOf_10 : decode cX12_ageOf 10 = .ok (.iconst 4, 1) := by decide +kernel
theorem dX12_ageOf_11 : decode cX12_ageOf 11 = .ok (.iload_n 1, 1) := by decide +kernel
theorem dX12_ageOf_12 : decode cX12_ageOf 12 = .ok (.imul, 1) := by decide +kernel
theorem dX12_ageOf_13 : decode cX12_ageOf 13 = .ok (.iadd, 1) := by decide +kernel
theorem dX12_ageOf_14 : decode cX12_ageOf 14 = .ok (.iaload, 1) := by decide +kernel
theorem dX12_ageOf_15 : decode cX12_ageOf 15 = .ok (.ireturn, 1) := by decide +kernel
theorem dX12_strengthOf_0 : decode cX12_strengthOf 0 = .ok (.aload_n 0, 1) := by decide +kernel
theorem dX12_strengthOf_1 : decode cX12_strengthOf 1 = .ok (.getfield 7, 3) := by decide +kernel
theorem dX12_strengthOf_4 : decode cX12_strengthOf 4 = .ok (.aload_n 0, 1) := by decide +kernel
theorem dX12_strengthOf_5 : decode cX12_strengthOf 5 = .ok (.getfield 208, 3) := by decide +kernel
theorem dX12_strengthOf_8 : decode cX12_strengthOf 8 = .ok (.iconst 3, 1) := by decide +kernel
theorem dX12_strengthOf_9 : decode cX12_strengthOf 9 = .ok (.iadd, 1) := by decide +kernel
theorem dX12_strengthOf_10 : decode cX12_strengthOf 10 = .ok (.iconst 1, 1) := by decide +kernel
theorem dX12_strengthOf_11 : decode cX12_strengthOf 11 = .ok (.iadd, 1) := by decide +kernel
theorem dX12_strengthOf_12 : decode cX12_strengthOf 12 = .ok (.iconst 4, 1) := by decide +kernel
theorem dX12_strengthOf_13 : decode cX12_strengthOf 13 = .ok (.iload_n 1, 1) := by decide +kernel
theorem dX12_strengthOf_14 : decode cX12_strengthOf 14 = .ok (.imul, 1) := by decide +kernel
theorem dX12_strengthOf_15 : decode cX12_strengthOf 15 = .ok (.iadd, 1) := by decide +kernel
theorem dX12_strengthOf_16 : decode cX12_strengthOf 16 = .ok (.iaload, 1) := by decide +kernel
theorem dX12_strengthOf_17 : decode cX12_strengthOf 17 = .ok (.ireturn, 1) := by decide +kernel
theorem dX12_parentsOf_0 : decode cX12_parentsOf 0 = .ok (.aload_n 0, 1) := by decide +kernel
theorem dX12_parentsOf_1 : decode cX12_parentsOf 1 = .ok (.getfield 7, 3) := by decide +kernel
theorem dX12_parentsOf_4 : decode cX12_parentsOf 4 = .ok (.aload_n 0, 1) := by decide +kernel
theorem dX12_parentsOf_5 : decode cX12_parentsOf 5 = .ok (.getfield 208, 3) := by decide +kernel
theorem dX12_parentsOf_8 : decode cX12_parentsOf 8 = .ok (.iconst 3, 1) := by decide +kernel
theorem dX12_parentsOf_9 : decode cX12_parentsOf 9 = .ok (.iadd, 1) := by decide +kernel
theorem dX12_parentsOf_10 : decode cX12_parentsOf 10 = .ok (.iconst 2, 1) := by decide +kernel
theorem dX12_parentsOf_11 : decode cX12_parentsOf 11 = .ok (.iadd, 1) := by decide +kernel
theorem dX12_parentsOf_12 : decode cX12_parentsOf 12 = .ok (.iconst 4, 1) := by decide +kernel
theorem dX12_parentsOf_13 : decode cX12_parentsOf 13 = .ok (.iload_n 1, 1) := by decide +kernel
theorem dX12_parentsOf_14 : decode cX12_parentsOf 14 = .ok (.imul, 1) := by decide +kernel
theorem dX12_parentsOf_15 : decode cX12_parentsOf 15 = .ok (.iadd, 1) := by decide +kernel
theorem dX12_parentsOf_16 : decode cX12_parentsOf 16 = .ok (.iaload, 1) := by decide +kernel
theorem dX12_parentsOf_17 : decode cX12_parentsOf 17 = .ok (.ireturn, 1) := by decide +kernel
theorem dX12_elderOf_0 : decode cX12_elderOf 0 = .ok (.aload_n 0, 1) := by decide +kernel
theorem dX12_elderOf_1 : decode cX12_elderOf 1 = .ok (.getfield 7, 3) := by decide +kernel
theorem dX12_elderOf_4 : decode cX12_elderOf 4 = .ok (.aload_n 0, 1) := by decide +kernel
theorem dX12_elderOf_5 : decode cX12_elderOf 5 = .ok (.getfield 208, 3) := by decide +kernel
theorem dX12_elderOf_8 : decode cX12_elderOf 8 = .ok (.iconst 3, 1) := by decide +kernel
theorem dX12_elderOf_9 : decode cX12_elderOf 9 = .ok (.iadd, 1) := by decide +kernel
theorem dX12_elderOf_10 : decode cX12_elderOf 10 = .ok (.iconst 3, 1) := by decide +kernel
theorem dX12_elderOf_11 : decode cX12_elderOf 11 = .ok (.iadd, 1) := by decide +kernel
theorem dX12_elderOf_12 : decode cX12_elderOf 12 = .ok (.iconst 4, 1) := by decide +kernel
theorem dX12_elderOf_13 : decode cX12_elderOf 13 = .ok (.iload_n 1, 1) := by decide +kernel
theorem dX12_elderOf_14 : decode cX12_elderOf 14 = .ok (.imul, 1) := by decide +kernel
theorem dX12_elderOf_15 : decode cX12_elderOf 15 = .ok (.iadd, 1) := by decide +kernel
theorem dX12_elderOf_16 : decode cX12_elderOf 16 = .ok (.iaload, 1) := by decide +kernel
theorem dX12_elderOf_17 : decode cX12_elderOf 17 = .ok (.ireturn, 1) := by decide +kernel
theorem dX12_muchOf_0 : decode cX12_muchOf 0 = .ok (.aload_n 0, 1) := by decide +kernel
theorem dX12_muchOf_1 : decode cX12_muchOf 1 = .ok (.getfield 7, 3) := by decide +kernel
theorem dX12_muchOf_4 : decode cX12_muchOf 4 = .ok (.aload_n 0, 1) := by decide +kernel
theorem dX12_muchOf_5 : decode cX12_muchOf 5 = .ok (.getfield 208, 3) := by decide +kernel
theorem dX12_muchOf_8 : decode cX12_muchOf 8 = .ok (.bipush 43, 2) := by decide +kernel
theorem dX12_muchOf_10 : decode cX12_muchOf 10 = .ok (.iadd, 1) := by decide +kernel
theorem dX12_muchOf_11 : decode cX12_muchOf 11 = .ok (.iconst 2, 1) := by decide +kernel
theorem dX12_muchOf_12 : decode cX12_muchOf 12 = .ok (.iload_n 1, 1) := by decide +kernel
theorem dX12_muchOf_13 : decode cX12_muchOf 13 = .ok (.imul, 1) := by decide +kernel
theorem dX12_muchOf_14 : decode cX12_muchOf 14 = .ok (.iadd, 1) := by decide +kernel
theorem dX12_muchOf_15 : decode cX12_muchOf 15 = .ok (.iaload, 1) := by decide +kernel
theorem dX12_muchOf_16 : decode cX12_muchOf 16 = .ok (.ireturn, 1) := by decide +kernel
theorem dX12_worthOf_0 : decode cX12_worthOf 0 = .ok (.aload_n 0, 1) := by decide +kernel
theorem dX12_worthOf_1 : decode cX12_worthOf 1 = .ok (.getfield 7, 3) := by decide +kernel
theorem dX12_worthOf_4 : decode cX12_worthOf 4 = .ok (.aload_n 0, 1) := by decide +kernel
theorem dX12_worthOf_5 : decode cX12_worthOf 5 = .ok (.getfield 208, 3) := by decide +kernel
theorem dX12_worthOf_8 : decode cX12_worthOf 8 = .ok (.bipush 43, 2) := by decide +kernel
theorem dX12_worthOf_10 : decode cX12_worthOf 10 = .ok (.iadd, 1) := by decide +kernel
theorem dX12_worthOf_11 : decode cX12_worthOf 11 = .ok (.iconst 1, 1) := by decide +kernel
theorem dX12_worthOf_12 : decode cX12_worthOf 12 = .ok (.iadd, 1) := by decide +kernel
theorem dX12_worthOf_13 : decode cX12_worthOf 13 = .ok (.iconst 2, 1) := by decide +kernel
theorem dX12_worthOf_14 : decode cX12_worthOf 14 = .ok (.iload_n 1, 1) := by decide +kernel
theorem dX12_worthOf_15 : decode cX12_worthOf 15 = .ok (.imul, 1) := by decide +kernel
theorem dX12_worthOf_16 : decode cX12_worthOf 16 = .ok (.iadd, 1) := by decide +kernel
theorem dX12_worthOf_17 : decode cX12_worthOf 17 = .ok (.iaload, 1) := by decide +kernel
theorem dX12_worthOf_18 : decode cX12_worthOf 18 = .ok (.ireturn, 1) := by decide +kernel
theorem dX12_isSmall_0 : decode cX12_isSmall 0 = .ok (.aload_n 0, 1) := by decide +kernel
theorem dX12_isSmall_1 : decode cX12_isSmall 1 = .ok (.iload_n 1, 1) := by decide +kernel
theorem dX12_isSmall_2 : decode cX12_isSmall 2 = .ok (.invokevirtual 217, 3) := by decide +kernel
theorem dX12_isSmall_5 : decode cX12_isSmall 5 = .ok (.bipush 10, 2) := by decide +kernel
theorem dX12_isSmall_7 : decode cX12_isSmall 7 = .ok (.if_icmp .ge 7, 3) := by decide +kernel
theorem dX12_isSmall_10 : decode cX12_isSmall 10 = .ok (.iconst 1, 1) := by decide +kernel
theorem dX12_isSmall_11 : decode cX12_isSmall 11 = .ok (.goto 4, 3) := by decide +kernel
theorem dX12_isSmall_14 : decode cX12_isSmall 14 = .ok (.iconst 0, 1) := by decide +kernel
theorem dX12_isSmall_15 : decode cX12_isSmall 15 = .ok (.ireturn, 1) := by decide +kernel
theorem dX12_isAmong_0 : decode cX12_isAmong 0 = .ok (.iload_n 0, 1) := by decide +kernel
theorem dX12_isAmong_1 : decode cX12_isAmong 1 = .ok (.iload_n 1, 1) := by decide +kernel
theorem dX12_isAmong_2 : decode cX12_isAmong 2 = .ok (.ishr, 1) := by decide +kernel
theorem dX12_isAmong_3 : decode cX12_isAmong 3 = .ok (.iconst 1, 1) := by decide +kernel
theorem dX12_isAmong_4 : decode cX12_isAmong 4 = .ok (.iand, 1) := by decide +kernel
theorem dX12_isAmong_5 : decode cX12_isAmong 5 = .ok (.iconst 1, 1) := by decide +kernel
theorem dX12_isAmong_6 : decode cX12_isAmong 6 = .ok (.if_icmp .ne 7, 3) := by decide +kernel
theorem dX12_isAmong_9 : decode cX12_isAmong 9 = .ok (.iconst 1, 1) := by decide +kernel
theorem dX12_isAmong_10 : decode cX12_isAmong 10 = .ok (.goto 4, 3) := by decide +kernel
theorem dX12_isAmong_13 : decode cX12_isAmong 13 = .ok (.iconst 0, 1) := by decide +kernel
theorem dX12_isAmong_14 : decode cX12_isAmong 14 = .ok (.ireturn, 1) := by decide +kernel
theorem dX12_valley_0 : decode cX12_valley 0 = .ok (.aload_n 0, 1) := by decide +kernel
theorem dX12_valley_1 : decode cX12_valley 1 = .ok (.iload_n 1, 1) := by decide +kernel
theorem dX12_valley_2 : decode cX12_valley 2 = .ok (.invokevirtual 220, 3) := by decide +kernel
theorem dX12_valley_5 : decode cX12_valley 5 = .ok (.ifCond .ne 5, 3) := by decide +kernel
theorem dX12_valley_8 : decode cX12_valley 8 = .ok (.iconst (-1), 1) := by decide +kernel
theorem dX12_valley_9 : decode cX12_valley 9 = .ok (.ireturn, 1) := by decide +kernel
theorem dX12_valley_10 : decode cX12_valley 10 = .ok (.iload_n 2, 1) := by decide +kernel
theorem dX12_valley_11 : decode cX12_valley 11 = .ok (.iconst 0, 1) := by decide +kernel
theorem dX12_valley_12 : decode cX12_valley 12 = .ok (.iconst 2, 1) := by decide +kernel
theorem dX12_valley_13 : decode cX12_valley 13 = .ok (.invokestatic 146, 3) := by decide +kernel
theorem dX12_valley_16 : decode cX12_valley 16 = .ok (.ifCond .eq 15, 3) := by decide +kernel
theorem dX12_valley_19 : decode cX12_valley 19 = .ok (.aload_n 0, 1) := by decide +kernel
theorem dX12_valley_20 : decode cX12_valley 20 = .ok (.getfield 7, 3) := by decide +kernel
theorem dX12_valley_23 : decode cX12_valley 23 = .ok (.aload_n 0, 1) := by decide +kernel
theorem dX12_valley_24 : decode cX12_valley 24 = .ok (.getfield 208, 3) := by decide +kernel
theorem dX12_valley_27 : decode cX12_valley 27 = .ok (.iload_n 2, 1) := by decide +kernel
theorem dX12_valley_28 : decode cX12_valley 28 = .ok (.iadd, 1) := by decide +kernel
theorem dX12_valley_29 : decode cX12_valley 29 = .ok (.iaload, 1) := by decide +kernel
theorem dX12_valley_30 : decode cX12_valley 30 = .ok (.ireturn, 1) := by decide +kernel
theorem dX12_valley_31 : decode cX12_valley 31 = .ok (.iload_n 2, 1) := by decide +kernel
theorem dX12_valley_32 : decode cX12_valley 32 = .ok (.bipush 10, 2) := by decide +kernel
theorem dX12_valley_34 : decode cX12_valley 34 = .ok (.irem, 1) := by decide +kernel
theorem dX12_valley_35 : decode cX12_valley 35 = .ok (.istore_n 3, 1) := by decide +kernel
theorem dX12_valley_36 : decode cX12_valley 36 = .ok (.iload_n 2, 1) := by decide +kernel
theorem dX12_valley_37 : decode cX12_valley 37 = .ok (.bipush 10, 2) := by decide +kernel
theorem dX12_valley_39 : decode cX12_valley 39 = .ok (.idiv, 1) := by decide +kernel
theorem dX12_valley_40 : decode cX12_valley 40 = .ok (.tableswitch 111 1 6 #[40, 40, 40, 40, 75, 93], 40) := by decide +kernel
theorem dX12_valley_80 : decode cX12_valley 80 = .ok (.aload_n 0, 1) := by decide +kernel
theorem dX12_valley_81 : decode cX12_valley 81 = .ok (.iload_n 3, 1) := by decide +kernel
theorem dX12_valley_82 : decode cX12_valley 82 = .ok (.invokevirtual 223, 3) := by decide +kernel
theorem dX12_valley_85 : decode cX12_valley 85 = .ok (.ifCond .eq 28, 3) := by decide +kernel
theorem dX12_valley_88 : decode cX12_valley 88 = .ok (.aload_n 0, 1) := by decide +kernel
theorem dX12_valley_89 : decode cX12_valley 89 = .ok (.getfield 7, 3) := by decide +kernel
theorem dX12_valley_92 : decode cX12_valley 92 = .ok (.aload_n 0, 1) := by decide +kernel
theorem dX12_valley_93 : decode cX12_valley 93 = .ok (.getfield 208, 3) := by decide +kernel
theorem dX12_valley_96 : decode cX12_valley 96 = .ok (.iconst 3, 1) := by decide +kernel
theorem dX12_valley_97 : decode cX12_valley 97 = .ok (.iadd, 1) := by decide +kernel
theorem dX12_valley_98 : decode cX12_valley 98 = .ok (.iconst 4, 1) := by decide +kernel
theorem dX12_valley_99 : decode cX12_valley 99 = .ok (.iload_n 3, 1) := by decide +kernel
theorem dX12_valley_100 : decode cX12_valley 100 = .ok (.imul, 1) := by decide +kernel
theorem dX12_valley_101 : decode cX12_valley 101 = .ok (.iadd, 1) := by decide +kernel
theorem dX12_valley_102 : decode cX12_valley 102 = .ok (.iload_n 2, 1) := by decide +kernel
theorem dX12_valley_103 : decode cX12_valley 103 = .ok (.bipush 10, 2) := by decide +kernel
theorem dX12_valley_105 : decode cX12_valley 105 = .ok (.idiv, 1) := by decide +kernel
theorem dX12_valley_106 : decode cX12_valley 106 = .ok (.iadd, 1) := by decide +kernel
theorem dX12_valley_107 : decode cX12_valley 107 = .ok (.iconst 1, 1) := by decide +kernel
theorem dX12_valley_108 : decode cX12_valley 108 = .ok (.isub, 1) := by decide +kernel
theorem dX12_valley_109 : decode cX12_valley 109 = .ok (.iaload, 1) := by decide +kernel
theorem dX12_valley_110 : decode cX12_valley 110 = .ok (.goto 4, 3) := by decide +kernel
theorem dX12_valley_113 : decode cX12_valley 113 = .ok (.iconst (-1), 1) := by decide +kernel
theorem dX12_valley_114 : decode cX12_valley 114 = .ok (.ireturn, 1) := by decide +kernel
theorem dX12_valley_115 : decode cX12_valley 115 = .ok (.aload_n 0, 1) := by decide +kernel
theorem dX12_valley_116 : decode cX12_valley 116 = .ok (.iload_n 3, 1) := by decide +kernel
theorem dX12_valley_117 : decode cX12_valley 117 = .ok (.invokevirtual 226, 3) := by decide +kernel
theorem dX12_valley_120 : decode cX12_valley 120 = .ok (.ifCond .eq 11, 3) := by decide +kernel
theorem dX12_valley_123 : decode cX12_valley 123 = .ok (.aload_n 0, 1) := by decide +kernel
theorem dX12_valley_124 : decode cX12_valley 124 = .ok (.iload_n 3, 1) := by decide +kernel
theorem dX12_valley_125 : decode cX12_valley 125 = .ok (.invokevirtual 229, 3) := by decide +kernel
theorem dX12_valley_128 : decode cX12_valley 128 = .ok (.goto 4, 3) := by decide +kernel
theorem dX12_valley_131 : decode cX12_valley 131 = .ok (.iconst (-1), 1) := by decide +kernel
theorem dX12_valley_132 : decode cX12_valley 132 = .ok (.ireturn, 1) := by decide +kernel
theorem dX12_valley_133 : decode cX12_valley 133 = .ok (.aload_n 0, 1) := by decide +kernel
theorem dX12_valley_134 : decode cX12_valley 134 = .ok (.iload_n 3, 1) := by decide +kernel
theorem dX12_valley_135 : decode cX12_valley 135 = .ok (.invokevirtual 226, 3) := by decide +kernel
theorem dX12_valley_138 : decode cX12_valley 138 = .ok (.ifCond .eq 11, 3) := by decide +kernel
theorem dX12_valley_141 : decode cX12_valley 141 = .ok (.aload_n 0, 1) := by decide +kernel
theorem dX12_valley_142 : decode cX12_valley 142 = .ok (.iload_n 3, 1) := by decide +kernel
theorem dX12_valley_143 : decode cX12_valley 143 = .ok (.invokevirtual 232, 3) := by decide +kernel
theorem dX12_valley_146 : decode cX12_valley 146 = .ok (.goto 4, 3) := by decide +kernel
theorem dX12_valley_149 : decode cX12_valley 149 = .ok (.iconst (-1), 1) := by decide +kernel
theorem dX12_valley_150 : decode cX12_valley 150 = .ok (.ireturn, 1) := by decide +kernel
theorem dX12_valley_151 : decode cX12_valley 151 = .ok (.iconst (-1), 1) := by decide +kernel
theorem dX12_valley_152 : decode cX12_valley 152 = .ok (.ireturn, 1) := by decide +kernel
theorem dX12_strengths_0 : decode cX12_strengths 0 = .ok (.iconst 0, 1) := by decide +kernel
theorem dX12_strengths_1 : decode cX12_strengths 1 = .ok (.istore_n 3, 1) := by decide +kernel
theorem dX12_strengths_2 : decode cX12_strengths 2 = .ok (.iconst 0, 1) := by decide +kernel
theorem dX12_strengths_3 : decode cX12_strengths 3 = .ok (.istore 4, 2) := by decide +kernel
theorem dX12_strengths_5 : decode cX12_strengths 5 = .ok (.iload 4, 2) := by decide +kernel
theorem dX12_strengths_7 : decode cX12_strengths 7 = .ok (.aload_n 0, 1) := by decide +kernel
theorem dX12_strengths_8 : decode cX12_strengths 8 = .ok (.getfield 211, 3) := by decide +kernel
theorem dX12_strengths_11 : decode cX12_strengths 11 = .ok (.if_icmp .ge 37, 3) := by decide +kernel
theorem dX12_strengths_14 : decode cX12_strengths 14 = .ok (.iload_n 3, 1) := by decide +kernel
theorem dX12_strengths_15 : decode cX12_strengths 15 = .ok (.iload_n 1, 1) := by decide +kernel
theorem dX12_strengths_16 : decode cX12_strengths 16 = .ok (.iload 4, 2) := by decide +kernel
theorem dX12_strengths_18 : decode cX12_strengths 18 = .ok (.invokestatic 235, 3) := by decide +kernel
theorem dX12_strengths_21 : decode cX12_strengths 21 = .ok (.ifCond .eq 18, 3) := by decide +kernel
theorem dX12_strengths_24 : decode cX12_strengths 24 = .ok (.iload 4, 2) := by decide +kernel
theorem dX12_strengths_26 : decode cX12_strengths 26 = .ok (.iload_n 2, 1) := by decide +kernel
theorem dX12_strengths_27 : decode cX12_strengths 27 = .ok (.if_icmp .eq 12, 3) := by decide +kernel
theorem dX12_strengths_30 : decode cX12_strengths 30 = .ok (.aload_n 0, 1) := by decide +kernel
theorem dX12_strengths_31 : decode cX12_strengths 31 = .ok (.iload 4, 2) := by decide +kernel
theorem dX12_strengths_33 : decode cX12_strengths 33 = .ok (.invokevirtual 238, 3) := by decide +kernel
theorem dX12_strengths_36 : decode cX12_strengths 36 = .ok (.goto 4, 3) := by decide +kernel
theorem dX12_strengths_39 : decode cX12_strengths 39 = .ok (.iconst 0, 1) := by decide +kernel
theorem dX12_strengths_40 : decode cX12_strengths 40 = .ok (.iadd, 1) := by decide +kernel
theorem dX12_strengths_41 : decode cX12_strengths 41 = .ok (.istore_n 3, 1) := by decide +kernel
theorem dX12_strengths_42 : decode cX12_strengths 42 = .ok (.iinc 4 1, 3) := by decide +kernel
theorem dX12_strengths_45 : decode cX12_strengths 45 = .ok (.goto (-40), 3) := by decide +kernel
theorem dX12_strengths_48 : decode cX12_strengths 48 = .ok (.iload_n 3, 1) := by decide +kernel
theorem dX12_strengths_49 : decode cX12_strengths 49 = .ok (.ireturn, 1) := by decide +kernel
theorem dX12_keeps_0 : decode cX12_keeps 0 = .ok (.aload_n 0, 1) := by decide +kernel
theorem dX12_keeps_1 : decode cX12_keeps 1 = .ok (.iload_n 1, 1) := by decide +kernel
theorem dX12_keeps_2 : decode cX12_keeps 2 = .ok (.invokevirtual 241, 3) := by decide +kernel
theorem dX12_keeps_5 : decode cX12_keeps 5 = .ok (.ifCond .eq 27, 3) := by decide +kernel
theorem dX12_keeps_8 : decode cX12_keeps 8 = .ok (.iload_n 3, 1) := by decide +kernel
theorem dX12_keeps_9 : decode cX12_keeps 9 = .ok (.aload_n 0, 1) := by decide +kernel
theorem dX12_keeps_10 : decode cX12_keeps 10 = .ok (.aload_n 0, 1) := by decide +kernel
theorem dX12_keeps_11 : decode cX12_keeps 11 = .ok (.iload_n 1, 1) := by decide +kernel
theorem dX12_keeps_12 : decode cX12_keeps 12 = .ok (.invokevirtual 244, 3) := by decide +kernel
theorem dX12_keeps_15 : decode cX12_keeps 15 = .ok (.iconst (-1), 1) := by decide +kernel
theorem dX12_keeps_16 : decode cX12_keeps 16 = .ok (.invokevirtual 247, 3) := by decide +kernel
theorem dX12_keeps_19 : decode cX12_keeps 19 = .ok (.imul, 1) := by decide +kernel
theorem dX12_keeps_20 : decode cX12_keeps 20 = .ok (.aload_n 0, 1) := by decide +kernel
theorem dX12_keeps_21 : decode cX12_keeps 21 = .ok (.iload_n 2, 1) := by decide +kernel
theorem dX12_keeps_22 : decode cX12_keeps 22 = .ok (.invokevirtual 229, 3) := by decide +kernel
theorem dX12_keeps_25 : decode cX12_keeps 25 = .ok (.if_icmp .lt 7, 3) := by decide +kernel
theorem dX12_keeps_28 : decode cX12_keeps 28 = .ok (.iconst 1, 1) := by decide +kernel
theorem dX12_keeps_29 : decode cX12_keeps 29 = .ok (.goto 4, 3) := by decide +kernel
theorem dX12_keeps_32 : decode cX12_keeps 32 = .ok (.iconst 0, 1) := by decide +kernel
theorem dX12_keeps_33 : decode cX12_keeps 33 = .ok (.ireturn, 1) := by decide +kernel
theorem dX12_mayKeep_0 : decode cX12_mayKeep 0 = .ok (.aload_n 0, 1) := by decide +kernel
theorem dX12_mayKeep_1 : decode cX12_mayKeep 1 = .ok (.iload_n 1, 1) := by decide +kernel
theorem dX12_mayKeep_2 : decode cX12_mayKeep 2 = .ok (.invokevirtual 220, 3) := by decide +kernel
theorem dX12_mayKeep_5 : decode cX12_mayKeep 5 = .ok (.ifCond .eq 42, 3) := by decide +kernel
theorem dX12_mayKeep_8 : decode cX12_mayKeep 8 = .ok (.aload_n 0, 1) := by decide +kernel
theorem dX12_mayKeep_9 : decode cX12_mayKeep 9 = .ok (.iload_n 2, 1) := by decide +kernel
theorem dX12_mayKeep_10 : decode cX12_mayKeep 10 = .ok (.invokevirtual 223, 3) := by decide +kernel
theorem dX12_mayKeep_13 : decode cX12_mayKeep 13 = .ok (.ifCond .eq 34, 3) := by decide +kernel
theorem dX12_mayKeep_16 : decode cX12_mayKeep 16 = .ok (.aload_n 0, 1) := by decide +kernel
theorem dX12_mayKeep_17 : decode cX12_mayKeep 17 = .ok (.iload_n 3, 1) := by decide +kernel
theorem dX12_mayKeep_18 : decode cX12_mayKeep 18 = .ok (.invokevirtual 226, 3) := by decide +kernel
theorem dX12_mayKeep_21 : decode cX12_mayKeep 21 = .ok (.ifCond .eq 26, 3) := by decide +kernel
theorem dX12_mayKeep_24 : decode cX12_mayKeep 24 = .ok (.aload_n 0, 1) := by decide +kernel
theorem dX12_mayKeep_25 : decode cX12_mayKeep 25 = .ok (.iload_n 2, 1) := by decide +kernel
theorem dX12_mayKeep_26 : decode cX12_mayKeep 26 = .ok (.invokevirtual 241, 3) := by decide +kernel
theorem dX12_mayKeep_29 : decode cX12_mayKeep 29 = .ok (.ifCond .eq 18, 3) := by decide +kernel
theorem dX12_mayKeep_32 : decode cX12_mayKeep 32 = .ok (.iload 4, 2) := by decide +kernel
theorem dX12_mayKeep_34 : decode cX12_mayKeep 34 = .ok (.iconst 1, 1) := by decide +kernel
theorem dX12_mayKeep_35 : decode cX12_mayKeep 35 = .ok (.bipush 9, 2) := by decide +kernel
theorem dX12_mayKeep_37 : decode cX12_mayKeep 37 = .ok (.invokestatic 146, 3) := by decide +kernel
theorem dX12_mayKeep_40 : decode cX12_mayKeep 40 = .ok (.ifCond .eq 7, 3) := by decide +kernel
theorem dX12_mayKeep_43 : decode cX12_mayKeep 43 = .ok (.iconst 1, 1) := by decide +kernel
theorem dX12_mayKeep_44 : decode cX12_mayKeep 44 = .ok (.goto 4, 3) := by decide +kernel
theorem dX12_mayKeep_47 : decode cX12_mayKeep 47 = .ok (.iconst 0, 1) := by decide +kernel
theorem dX12_mayKeep_48 : decode cX12_mayKeep 48 = .ok (.ireturn, 1) := by decide +kernel
theorem dX12_keep_0 : decode cX12_keep 0 = .ok (.aload_n 0, 1) := by decide +kernel
theorem dX12_keep_1 : decode cX12_keep 1 = .ok (.iload_n 1, 1) := by decide +kernel
theorem dX12_keep_2 : decode cX12_keep 2 = .ok (.iload_n 2, 1) := by decide +kernel
theorem dX12_keep_3 : decode cX12_keep 3 = .ok (.iload_n 3, 1) := by decide +kernel
theorem dX12_keep_4 : decode cX12_keep 4 = .ok (.iload 4, 2) := by decide +kernel
theorem dX12_keep_6 : decode cX12_keep 6 = .ok (.invokevirtual 250, 3) := by decide +kernel
theorem dX12_keep_9 : decode cX12_keep 9 = .ok (.ifCond .ne 5, 3) := by decide +kernel
theorem dX12_keep_12 : decode cX12_keep 12 = .ok (.iconst (-1), 1) := by decide +kernel
theorem dX12_keep_13 : decode cX12_keep 13 = .ok (.ireturn, 1) := by decide +kernel
theorem dX12_keep_14 : decode cX12_keep 14 = .ok (.aload_n 0, 1) := by decide +kernel
theorem dX12_keep_15 : decode cX12_keep 15 = .ok (.iload_n 2, 1) := by decide +kernel
theorem dX12_keep_16 : decode cX12_keep 16 = .ok (.iload_n 3, 1) := by decide +kernel
theorem dX12_keep_17 : decode cX12_keep 17 = .ok (.iload 4, 2) := by decide +kernel
theorem dX12_keep_19 : decode cX12_keep 19 = .ok (.invokevirtual 254, 3) := by decide +kernel
theorem dX12_keep_22 : decode cX12_keep 22 = .ok (.ifCond .eq 7, 3) := by decide +kernel
theorem dX12_keep_25 : decode cX12_keep 25 = .ok (.iconst 1, 1) := by decide +kernel
theorem dX12_keep_26 : decode cX12_keep 26 = .ok (.goto 4, 3) := by decide +kernel
theorem dX12_keep_29 : decode cX12_keep 29 = .ok (.iconst 0, 1) := by decide +kernel
theorem dX12_keep_30 : decode cX12_keep 30 = .ok (.ireturn, 1) := by decide +kernel
theorem dX12_soon_0 : decode cX12_soon 0 = .ok (.aload_n 0, 1) := by decide +kernel
theorem dX12_soon_1 : decode cX12_soon 1 = .ok (.iload_n 1, 1) := by decide +kernel
theorem dX12_soon_2 : decode cX12_soon 2 = .ok (.iload_n 2, 1) := by decide +kernel
theorem dX12_soon_3 : decode cX12_soon 3 = .ok (.iload_n 3, 1) := by decide +kernel
theorem dX12_soon_4 : decode cX12_soon 4 = .ok (.iconst 1, 1) := by decide +kernel
theorem dX12_soon_5 : decode cX12_soon 5 = .ok (.invokevirtual 250, 3) := by decide +kernel
theorem dX12_soon_8 : decode cX12_soon 8 = .ok (.ifCond .ne 5, 3) := by decide +kernel
theorem dX12_soon_11 : decode cX12_soon 11 = .ok (.iconst (-1), 1) := by decide +kernel
theorem dX12_soon_12 : decode cX12_soon 12 = .ok (.ireturn, 1) := by decide +kernel
theorem dX12_soon_13 : decode cX12_soon 13 = .ok (.iconst 1, 1) := by decide +kernel
theorem dX12_soon_14 : decode cX12_soon 14 = .ok (.istore 4, 2) := by decide +kernel
theorem dX12_soon_16 : decode cX12_soon 16 = .ok (.iload 4, 2) := by decide +kernel
theorem dX12_soon_18 : decode cX12_soon 18 = .ok (.bipush 10, 2) := by decide +kernel
theorem dX12_soon_20 : decode cX12_soon 20 = .ok (.if_icmp .ge 20, 3) := by decide +kernel
theorem dX12_soon_23 : decode cX12_soon 23 = .ok (.aload_n 0, 1) := by decide +kernel
theorem dX12_soon_24 : decode cX12_soon 24 = .ok (.iload_n 2, 1) := by decide +kernel
theorem dX12_soon_25 : decode cX12_soon 25 = .ok (.iload_n 3, 1) := by decide +kernel
theorem dX12_soon_26 : decode cX12_soon 26 = .ok (.iload 4, 2) := by decide +kernel
theorem dX12_soon_28 : decode cX12_soon 28 = .ok (.invokevirtual 254, 3) := by decide +kernel
theorem dX12_soon_31 : decode cX12_soon 31 = .ok (.ifCond .ne 9, 3) := by decide +kernel
theorem dX12_soon_34 : decode cX12_soon 34 = .ok (.iinc 4 1, 3) := by decide +kernel
theorem dX12_soon_37 : decode cX12_soon 37 = .ok (.goto (-21), 3) := by decide +kernel
theorem dX12_soon_40 : decode cX12_soon 40 = .ok (.iload 4, 2) := by decide +kernel
theorem dX12_soon_42 : decode cX12_soon 42 = .ok (.bipush 10, 2) := by decide +kernel
theorem dX12_soon_44 : decode cX12_soon 44 = .ok (.if_icmp .ge 8, 3) := by decide +kernel
theorem dX12_soon_47 : decode cX12_soon 47 = .ok (.iload 4, 2) := by decide +kernel
theorem dX12_soon_49 : decode cX12_soon 49 = .ok (.goto 4, 3) := by decide +kernel
theorem dX12_soon_52 : decode cX12_soon 52 = .ok (.iconst (-1), 1) := by decide +kernel
theorem dX12_soon_53 : decode cX12_soon 53 = .ok (.ireturn, 1) := by decide +kernel
theorem dX12_says_0 : decode cX12_says 0 = .ok (.iload_n 1, 1) := by decide +kernel
theorem dX12_says_1 : decode cX12_says 1 = .ok (.invokestatic 183, 3) := by decide +kernel
theorem dX12_says_4 : decode cX12_says 4 = .ok (.istore_n 3, 1) := by decide +kernel
theorem dX12_says_5 : decode cX12_says 5 = .ok (.iconst 0, 1) := by decide +kernel
theorem dX12_says_6 : decode cX12_says 6 = .ok (.istore 4, 2) := by decide +kernel
theorem dX12_says_8 : decode cX12_says 8 = .ok (.iconst 0, 1) := by decide +kernel
theorem dX12_says_9 : decode cX12_says 9 = .ok (.istore 5, 2) := by decide +kernel
theorem dX12_says_11 : decode cX12_says 11 = .ok (.iconst 0, 1) := by decide +kernel
theorem dX12_says_12 : decode cX12_says 12 = .ok (.istore 6, 2) := by decide +kernel
theorem dX12_says_14 : decode cX12_says 14 = .ok (.iload 6, 2) := by decide +kernel
theorem dX12_says_16 : decode cX12_says 16 = .ok (.bipush 6, 2) := by decide +kernel
theorem dX12_says_18 : decode cX12_says 18 = .ok (.if_icmp .ge 17, 3) := by decide +kernel
theorem dX12_says_21 : decode cX12_says 21 = .ok (.aload_n 0, 1) := by decide +kernel
theorem dX12_says_22 : decode cX12_says 22 = .ok (.getfield 20, 3) := by decide +kernel
theorem dX12_says_25 : decode cX12_says 25 = .ok (.iload 6, 2) := by decide +kernel
theorem dX12_says_27 : decode cX12_says 27 = .ok (.iconst (-1), 1) := by decide +kernel
theorem dX12_says_28 : decode cX12_says 28 = .ok (.iastore, 1) := by decide +kernel
theorem dX12_says_29 : decode cX12_says 29 = .ok (.iinc 6 1, 3) := by decide +kernel
theorem dX12_says_32 : decode cX12_says 32 = .ok (.goto (-18), 3) := by decide +kernel
theorem dX12_says_35 : decode cX12_says 35 = .ok (.iload 4, 2) := by decide +kernel
theorem dX12_says_37 : decode cX12_says 37 = .ok (.ifCond .lt 135, 3) := by decide +kernel
theorem dX12_says_40 : decode cX12_says 40 = .ok (.iload 4, 2) := by decide +kernel
theorem dX12_says_42 : decode cX12_says 42 = .ok (.iload_n 3, 1) := by decide +kernel
theorem dX12_says_43 : decode cX12_says 43 = .ok (.if_icmp .ge 129, 3) := by decide +kernel
theorem dX12_says_46 : decode cX12_says 46 = .ok (.aload_n 0, 1) := by decide +kernel
theorem dX12_says_47 : decode cX12_says 47 = .ok (.getfield 20, 3) := by decide +kernel
theorem dX12_says_50 : decode cX12_says 50 = .ok (.iload 4, 2) := by decide +kernel
theorem dX12_says_52 : decode cX12_says 52 = .ok (.iaload, 1) := by decide +kernel
theorem dX12_says_53 : decode cX12_says 53 = .ok (.iconst (-1), 1) := by decide +kernel
theorem dX12_says_54 : decode cX12_says 54 = .ok (.if_icmp .eq 19, 3) := by decide +kernel
theorem dX12_says_57 : decode cX12_says 57 = .ok (.iload 5, 2) := by decide +kernel
theorem dX12_says_59 : decode cX12_says 59 = .ok (.iconst 1, 1) := by decide +kernel
theorem dX12_says_60 : decode cX12_says 60 = .ok (.aload_n 0, 1) := by decide +kernel
theorem dX12_says_61 : decode cX12_says 61 = .ok (.getfield 20, 3) := by decide +kernel
theorem dX12_says_64 : decode cX12_says 64 = .ok (.iload 4, 2) := by decide +kernel
theorem dX12_says_66 : decode cX12_says 66 = .ok (.iaload, 1) := by decide +kernel
theorem dX12_says_67 : decode cX12_says 67 = .ok (.ishl, 1) := by decide +kernel
theorem dX12_says_68 : decode cX12_says 68 = .ok (.iconst (-1), 1) := by decide +kernel
theorem dX12_says_69 : decode cX12_says 69 = .ok (.ixor, 1) := by decide +kernel
theorem dX12_says_70 : decode cX12_says 70 = .ok (.iand, 1) := by decide +kernel
theorem dX12_says_71 : decode cX12_says 71 = .ok (.istore 5, 2) := by decide +kernel
theorem dX12_says_73 : decode cX12_says 73 = .ok (.aload_n 0, 1) := by decide +kernel
theorem dX12_says_74 : decode cX12_says 74 = .ok (.getfield 20, 3) := by decide +kernel
theorem dX12_says_77 : decode cX12_says 77 = .ok (.iload 4, 2) := by decide +kernel
theorem dX12_says_79 : decode cX12_says 79 = .ok (.iaload, 1) := by decide +kernel
theorem dX12_says_80 : decode cX12_says 80 = .ok (.iconst 1, 1) := by decide +kernel
theorem dX12_says_81 : decode cX12_says 81 = .ok (.iadd, 1) := by decide +kernel
theorem dX12_says_82 : decode cX12_says 82 = .ok (.istore 6, 2) := by decide +kernel
theorem dX12_says_84 : decode cX12_says 84 = .ok (.iload 6, 2) := by decide +kernel
theorem dX12_says_86 : decode cX12_says 86 = .ok (.aload_n 0, 1) := by decide +kernel
theorem dX12_says_87 : decode cX12_says 87 = .ok (.getfield 211, 3) := by decide +kernel
theorem dX12_says_90 : decode cX12_says 90 = .ok (.if_icmp .ge 35, 3) := by decide +kernel
theorem dX12_says_93 : decode cX12_says 93 = .ok (.iload 5, 2) := by decide +kernel
theorem dX12_says_95 : decode cX12_says 95 = .ok (.iload 6, 2) := by decide +kernel
theorem dX12_says_97 : decode cX12_says 97 = .ok (.invokestatic 235, 3) := by decide +kernel
theorem dX12_says_100 : decode cX12_says 100 = .ok (.ifCond .ne 19, 3) := by decide +kernel
theorem dX12_says_103 : decode cX12_says 103 = .ok (.aload_n 0, 1) := by decide +kernel
theorem dX12_says_104 : decode cX12_says 104 = .ok (.iload 6, 2) := by decide +kernel
theorem dX12_says_106 : decode cX12_says 106 = .ok (.iload_n 1, 1) := by decide +kernel
theorem dX12_says_107 : decode cX12_says 107 = .ok (.iload 4, 2) := by decide +kernel
theorem dX12_says_109 : decode cX12_says 109 = .ok (.invokestatic 257, 3) := by decide +kernel
theorem dX12_says_112 : decode cX12_says 112 = .ok (.iload_n 2, 1) := by decide +kernel
theorem dX12_says_113 : decode cX12_says 113 = .ok (.invokevirtual 254, 3) := by decide +kernel
theorem dX12_says_116 : decode cX12_says 116 = .ok (.ifCond .ne 9, 3) := by decide +kernel
theorem dX12_says_119 : decode cX12_says 119 = .ok (.iinc 6 1, 3) := by decide +kernel
theorem dX12_says_122 : decode cX12_says 122 = .ok (.goto (-38), 3) := by decide +kernel
theorem dX12_says_125 : decode cX12_says 125 = .ok (.iload 6, 2) := by decide +kernel
theorem dX12_says_127 : decode cX12_says 127 = .ok (.aload_n 0, 1) := by decide +kernel
theorem dX12_says_128 : decode cX12_says 128 = .ok (.getfield 211, 3) := by decide +kernel
theorem dX12_says_131 : decode cX12_says 131 = .ok (.if_icmp .ne 17, 3) := by decide +kernel
theorem dX12_says_134 : decode cX12_says 134 = .ok (.aload_n 0, 1) := by decide +kernel
theorem dX12_says_135 : decode cX12_says 135 = .ok (.getfield 20, 3) := by decide +kernel
theorem dX12_says_138 : decode cX12_says 138 = .ok (.iload 4, 2) := by decide +kernel
theorem dX12_says_140 : decode cX12_says 140 = .ok (.iconst (-1), 1) := by decide +kernel
theorem dX12_says_141 : decode cX12_says 141 = .ok (.iastore, 1) := by decide +kernel
theorem dX12_says_142 : decode cX12_says 142 = .ok (.iinc 4 (-1), 3) := by decide +kernel
theorem dX12_says_145 : decode cX12_says 145 = .ok (.goto 24, 3) := by decide +kernel
theorem dX12_says_148 : decode cX12_says 148 = .ok (.aload_n 0, 1) := by decide +kernel
theorem dX12_says_149 : decode cX12_says 149 = .ok (.getfield 20, 3) := by decide +kernel
theorem dX12_says_152 : decode cX12_says 152 = .ok (.iload 4, 2) := by decide +kernel
theorem dX12_says_154 : decode cX12_says 154 = .ok (.iload 6, 2) := by decide +kernel
theorem dX12_says_156 : decode cX12_says 156 = .ok (.iastore, 1) := by decide +kernel
theorem dX12_says_157 : decode cX12_says 157 = .ok (.iload 5, 2) := by decide +kernel
theorem dX12_says_159 : decode cX12_says 159 = .ok (.iconst 1, 1) := by decide +kernel
theorem dX12_says_160 : decode cX12_says 160 = .ok (.iload 6, 2) := by decide +kernel
theorem dX12_says_162 : decode cX12_says 162 = .ok (.ishl, 1) := by decide +kernel
theorem dX12_says_163 : decode cX12_says 163 = .ok (.ior, 1) := by decide +kernel
theorem dX12_says_164 : decode cX12_says 164 = .ok (.istore 5, 2) := by decide +kernel
theorem dX12_says_166 : decode cX12_says 166 = .ok (.iinc 4 1, 3) := by decide +kernel
theorem dX12_says_169 : decode cX12_says 169 = .ok (.goto (-134), 3) := by decide +kernel
theorem dX12_says_172 : decode cX12_says 172 = .ok (.iload 4, 2) := by decide +kernel
theorem dX12_says_174 : decode cX12_says 174 = .ok (.iload_n 3, 1) := by decide +kernel
theorem dX12_says_175 : decode cX12_says 175 = .ok (.if_icmp .ne 7, 3) := by decide +kernel
theorem dX12_says_178 : decode cX12_says 178 = .ok (.iconst 1, 1) := by decide +kernel
theorem dX12_says_179 : decode cX12_says 179 = .ok (.goto 4, 3) := by decide +kernel
theorem dX12_says_182 : decode cX12_says 182 = .ok (.iconst 0, 1) := by decide +kernel
theorem dX12_says_183 : decode cX12_says 183 = .ok (.ireturn, 1) := by decide +kernel
theorem dX12_nth_0 : decode cX12_nth 0 = .ok (.iconst 0, 1) := by decide +kernel
theorem dX12_nth_1 : decode cX12_nth 1 = .ok (.istore_n 2, 1) := by decide +kernel
theorem dX12_nth_2 : decode cX12_nth 2 = .ok (.iconst 0, 1) := by decide +kernel
theorem dX12_nth_3 : decode cX12_nth 3 = .ok (.istore_n 3, 1) := by decide +kernel
theorem dX12_nth_4 : decode cX12_nth 4 = .ok (.iload_n 3, 1) := by decide +kernel
theorem dX12_nth_5 : decode cX12_nth 5 = .ok (.bipush 12, 2) := by decide +kernel
theorem dX12_nth_7 : decode cX12_nth 7 = .ok (.if_icmp .ge 30, 3) := by decide +kernel
theorem dX12_nth_10 : decode cX12_nth 10 = .ok (.iload_n 0, 1) := by decide +kernel
theorem dX12_nth_11 : decode cX12_nth 11 = .ok (.iload_n 3, 1) := by decide +kernel
theorem dX12_nth_12 : decode cX12_nth 12 = .ok (.invokestatic 235, 3) := by decide +kernel
theorem dX12_nth_15 : decode cX12_nth 15 = .ok (.ifCond .ne 6, 3) := by decide +kernel
theorem dX12_nth_18 : decode cX12_nth 18 = .ok (.goto 13, 3) := by decide +kernel
theorem dX12_nth_21 : decode cX12_nth 21 = .ok (.iload_n 2, 1) := by decide +kernel
theorem dX12_nth_22 : decode cX12_nth 22 = .ok (.iload_n 1, 1) := by decide +kernel
theorem dX12_nth_23 : decode cX12_nth 23 = .ok (.if_icmp .ne 5, 3) := by decide +kernel
theorem dX12_nth_26 : decode cX12_nth 26 = .ok (.iload_n 3, 1) := by decide +kernel
theorem dX12_nth_27 : decode cX12_nth 27 = .ok (.ireturn, 1) := by decide +kernel
theorem dX12_nth_28 : decode cX12_nth 28 = .ok (.iinc 2 1, 3) := by decide +kernel
theorem dX12_nth_31 : decode cX12_nth 31 = .ok (.iinc 3 1, 3) := by decide +kernel
theorem dX12_nth_34 : decode cX12_nth 34 = .ok (.goto (-30), 3) := by decide +kernel
theorem dX12_nth_37 : decode cX12_nth 37 = .ok (.iconst (-1), 1) := by decide +kernel
theorem dX12_nth_38 : decode cX12_nth 38 = .ok (.ireturn, 1) := by decide +kernel
theorem dX12_say_0 : decode cX12_say 0 = .ok (.aload_n 0, 1) := by decide +kernel
theorem dX12_say_1 : decode cX12_say 1 = .ok (.iload_n 1, 1) := by decide +kernel
theorem dX12_say_2 : decode cX12_say 2 = .ok (.invokevirtual 220, 3) := by decide +kernel
theorem dX12_say_5 : decode cX12_say 5 = .ok (.ifCond .eq 44, 3) := by decide +kernel
theorem dX12_say_8 : decode cX12_say 8 = .ok (.iload_n 2, 1) := by decide +kernel
theorem dX12_say_9 : decode cX12_say 9 = .ok (.iconst 0, 1) := by decide +kernel
theorem dX12_say_10 : decode cX12_say 10 = .ok (.iconst 1, 1) := by decide +kernel
theorem dX12_say_11 : decode cX12_say 11 = .ok (.aload_n 0, 1) := by decide +kernel
theorem dX12_say_12 : decode cX12_say 12 = .ok (.getfield 214, 3) := by decide +kernel
theorem dX12_say_15 : decode cX12_say 15 = .ok (.ishl, 1) := by decide +kernel
theorem dX12_say_16 : decode cX12_say 16 = .ok (.iconst 1, 1) := by decide +kernel
theorem dX12_say_17 : decode cX12_say 17 = .ok (.isub, 1) := by decide +kernel
theorem dX12_say_18 : decode cX12_say 18 = .ok (.invokestatic 146, 3) := by decide +kernel
theorem dX12_say_21 : decode cX12_say 21 = .ok (.ifCond .eq 28, 3) := by decide +kernel
theorem dX12_say_24 : decode cX12_say 24 = .ok (.iload_n 3, 1) := by decide +kernel
theorem dX12_say_25 : decode cX12_say 25 = .ok (.iconst 1, 1) := by decide +kernel
theorem dX12_say_26 : decode cX12_say 26 = .ok (.bipush 9, 2) := by decide +kernel
theorem dX12_say_28 : decode cX12_say 28 = .ok (.invokestatic 146, 3) := by decide +kernel
theorem dX12_say_31 : decode cX12_say 31 = .ok (.ifCond .eq 18, 3) := by decide +kernel
theorem dX12_say_34 : decode cX12_say 34 = .ok (.iload 4, 2) := by decide +kernel
theorem dX12_say_36 : decode cX12_say 36 = .ok (.iconst (-1), 1) := by decide +kernel
theorem dX12_say_37 : decode cX12_say 37 = .ok (.if_icmp .lt 12, 3) := by decide +kernel
theorem dX12_say_40 : decode cX12_say 40 = .ok (.aload_n 0, 1) := by decide +kernel
theorem dX12_say_41 : decode cX12_say 41 = .ok (.iload_n 2, 1) := by decide +kernel
theorem dX12_say_42 : decode cX12_say 42 = .ok (.iload_n 3, 1) := by decide +kernel
theorem dX12_say_43 : decode cX12_say 43 = .ok (.invokevirtual 260, 3) := by decide +kernel
theorem dX12_say_46 : decode cX12_say 46 = .ok (.ifCond .ne 5, 3) := by decide +kernel
theorem dX12_say_49 : decode cX12_say 49 = .ok (.iconst (-1), 1) := by decide +kernel
theorem dX12_say_50 : decode cX12_say 50 = .ok (.ireturn, 1) := by decide +kernel
theorem dX12_say_51 : decode cX12_say 51 = .ok (.iload 4, 2) := by decide +kernel
theorem dX12_say_53 : decode cX12_say 53 = .ok (.iconst (-1), 1) := by decide +kernel
theorem dX12_say_54 : decode cX12_say 54 = .ok (.if_icmp .ne 10, 3) := by decide +kernel
theorem dX12_say_57 : decode cX12_say 57 = .ok (.iload_n 2, 1) := by decide +kernel
theorem dX12_say_58 : decode cX12_say 58 = .ok (.invokestatic 183, 3) := by decide +kernel
theorem dX12_say_61 : decode cX12_say 61 = .ok (.goto 23, 3) := by decide +kernel
theorem dX12_say_64 : decode cX12_say 64 = .ok (.iload 4, 2) := by decide +kernel
theorem dX12_say_66 : decode cX12_say 66 = .ok (.iload_n 2, 1) := by decide +kernel
theorem dX12_say_67 : decode cX12_say 67 = .ok (.invokestatic 183, 3) := by decide +kernel
theorem dX12_say_70 : decode cX12_say 70 = .ok (.if_icmp .ge 13, 3) := by decide +kernel
theorem dX12_say_73 : decode cX12_say 73 = .ok (.aload_n 0, 1) := by decide +kernel
theorem dX12_say_74 : decode cX12_say 74 = .ok (.getfield 20, 3) := by decide +kernel
theorem dX12_say_77 : decode cX12_say 77 = .ok (.iload 4, 2) := by decide +kernel
theorem dX12_say_79 : decode cX12_say 79 = .ok (.iaload, 1) := by decide +kernel
theorem dX12_say_80 : decode cX12_say 80 = .ok (.goto 4, 3) := by decide +kernel
theorem dX12_say_83 : decode cX12_say 83 = .ok (.iconst (-1), 1) := by decide +kernel
theorem dX12_say_84 : decode cX12_say 84 = .ok (.ireturn, 1) := by decide +kernel
theorem dX12_darer_0 : decode cX12_darer 0 = .ok (.iconst 0, 1) := by decide +kernel
theorem dX12_darer_1 : decode cX12_darer 1 = .ok (.istore_n 3, 1) := by decide +kernel
theorem dX12_darer_2 : decode cX12_darer 2 = .ok (.iload_n 3, 1) := by decide +kernel
theorem dX12_darer_3 : decode cX12_darer 3 = .ok (.aload_n 0, 1) := by decide +kernel
theorem dX12_darer_4 : decode cX12_darer 4 = .ok (.getfield 211, 3) := by decide +kernel
theorem dX12_darer_7 : decode cX12_darer 7 = .ok (.if_icmp .ge 35, 3) := by decide +kernel
theorem dX12_darer_10 : decode cX12_darer 10 = .ok (.aload_n 0, 1) := by decide +kernel
theorem dX12_darer_11 : decode cX12_darer 11 = .ok (.getfield 26, 3) := by decide +kernel
theorem dX12_darer_14 : decode cX12_darer 14 = .ok (.iload_n 1, 1) := by decide +kernel
theorem dX12_darer_15 : decode cX12_darer 15 = .ok (.iaload, 1) := by decide +kernel
theorem dX12_darer_16 : decode cX12_darer 16 = .ok (.iload_n 3, 1) := by decide +kernel
theorem dX12_darer_17 : decode cX12_darer 17 = .ok (.invokestatic 235, 3) := by decide +kernel
theorem dX12_darer_20 : decode cX12_darer 20 = .ok (.ifCond .ne 16, 3) := by decide +kernel
theorem dX12_darer_23 : decode cX12_darer 23 = .ok (.aload_n 0, 1) := by decide +kernel
theorem dX12_darer_24 : decode cX12_darer 24 = .ok (.iload_n 3, 1) := by decide +kernel
theorem dX12_darer_25 : decode cX12_darer 25 = .ok (.iload_n 2, 1) := by decide +kernel
theorem dX12_darer_26 : decode cX12_darer 26 = .ok (.bipush 9, 2) := by decide +kernel
theorem dX12_darer_28 : decode cX12_darer 28 = .ok (.invokevirtual 254, 3) := by decide +kernel
theorem dX12_darer_31 : decode cX12_darer 31 = .ok (.ifCond .eq 5, 3) := by decide +kernel
theorem dX12_darer_34 : decode cX12_darer 34 = .ok (.iload_n 3, 1) := by decide +kernel
theorem dX12_darer_35 : decode cX12_darer 35 = .ok (.ireturn, 1) := by decide +kernel
theorem dX12_darer_36 : decode cX12_darer 36 = .ok (.iinc 3 1, 3) := by decide +kernel
theorem dX12_darer_39 : decode cX12_darer 39 = .ok (.goto (-37), 3) := by decide +kernel
theorem dX12_darer_42 : decode cX12_darer 42 = .ok (.iconst (-1), 1) := by decide +kernel
theorem dX12_darer_43 : decode cX12_darer 43 = .ok (.ireturn, 1) := by decide +kernel
theorem dX12_mayDare_0 : decode cX12_mayDare 0 = .ok (.iload_n 2, 1) := by decide +kernel
theorem dX12_mayDare_1 : decode cX12_mayDare 1 = .ok (.bipush 6, 2) := by decide +kernel
theorem dX12_mayDare_3 : decode cX12_mayDare 3 = .ok (.if_icmp .eq 34, 3) := by decide +kernel
theorem dX12_mayDare_6 : decode cX12_mayDare 6 = .ok (.aload_n 0, 1) := by decide +kernel
theorem dX12_mayDare_7 : decode cX12_mayDare 7 = .ok (.iload_n 2, 1) := by decide +kernel
theorem dX12_mayDare_8 : decode cX12_mayDare 8 = .ok (.invokevirtual 226, 3) := by decide +kernel
theorem dX12_mayDare_11 : decode cX12_mayDare 11 = .ok (.ifCond .eq 30, 3) := by decide +kernel
theorem dX12_mayDare_14 : decode cX12_mayDare 14 = .ok (.aload_n 0, 1) := by decide +kernel
theorem dX12_mayDare_15 : decode cX12_mayDare 15 = .ok (.getfield 23, 3) := by decide +kernel
theorem dX12_mayDare_18 : decode cX12_mayDare 18 = .ok (.iload_n 1, 1) := by decide +kernel
theorem dX12_mayDare_19 : decode cX12_mayDare 19 = .ok (.iaload, 1) := by decide +kernel
theorem dX12_mayDare_20 : decode cX12_mayDare 20 = .ok (.iload_n 2, 1) := by decide +kernel
theorem dX12_mayDare_21 : decode cX12_mayDare 21 = .ok (.invokestatic 235, 3) := by decide +kernel
theorem dX12_mayDare_24 : decode cX12_mayDare 24 = .ok (.ifCond .ne 17, 3) := by decide +kernel
theorem dX12_mayDare_27 : decode cX12_mayDare 27 = .ok (.aload_n 0, 1) := by decide +kernel
theorem dX12_mayDare_28 : decode cX12_mayDare 28 = .ok (.iload_n 1, 1) := by decide +kernel
theorem dX12_mayDare_29 : decode cX12_mayDare 29 = .ok (.iload_n 2, 1) := by decide +kernel
theorem dX12_mayDare_30 : decode cX12_mayDare 30 = .ok (.invokevirtual 263, 3) := by decide +kernel
theorem dX12_mayDare_33 : decode cX12_mayDare 33 = .ok (.iconst (-1), 1) := by decide +kernel
theorem dX12_mayDare_34 : decode cX12_mayDare 34 = .ok (.if_icmp .eq 7, 3) := by decide +kernel
theorem dX12_mayDare_37 : decode cX12_mayDare 37 = .ok (.iconst 1, 1) := by decide +kernel
theorem dX12_mayDare_38 : decode cX12_mayDare 38 = .ok (.goto 4, 3) := by decide +kernel
theorem dX12_mayDare_41 : decode cX12_mayDare 41 = .ok (.iconst 0, 1) := by decide +kernel
theorem dX12_mayDare_42 : decode cX12_mayDare 42 = .ok (.ireturn, 1) := by decide +kernel
theorem dX12_comesBack_0 : decode cX12_comesBack 0 = .ok (.iload_n 1, 1) := by decide +kernel
theorem dX12_comesBack_1 : decode cX12_comesBack 1 = .ok (.iconst 2, 1) := by decide +kernel
theorem dX12_comesBack_2 : decode cX12_comesBack 2 = .ok (.irem, 1) := by decide +kernel
theorem dX12_comesBack_3 : decode cX12_comesBack 3 = .ok (.ifCond .ne 7, 3) := by decide +kernel
theorem dX12_comesBack_6 : decode cX12_comesBack 6 = .ok (.iconst 1, 1) := by decide +kernel
theorem dX12_comesBack_7 : decode cX12_comesBack 7 = .ok (.goto 4, 3) := by decide +kernel
theorem dX12_comesBack_10 : decode cX12_comesBack 10 = .ok (.iconst 0, 1) := by decide +kernel
theorem dX12_comesBack_11 : decode cX12_comesBack 11 = .ok (.istore_n 3, 1) := by decide +kernel
theorem dX12_comesBack_12 : decode cX12_comesBack 12 = .ok (.aload_n 0, 1) := by decide +kernel
theorem dX12_comesBack_13 : decode cX12_comesBack 13 = .ok (.getfield 32, 3) := by decide +kernel
theorem dX12_comesBack_16 : decode cX12_comesBack 16 = .ok (.iload_n 1, 1) := by decide +kernel
theorem dX12_comesBack_17 : decode cX12_comesBack 17 = .ok (.iaload, 1) := by decide +kernel
theorem dX12_comesBack_18 : decode cX12_comesBack 18 = .ok (.ldc_w 266, 3) := by decide +kernel
theorem dX12_comesBack_21 : decode cX12_comesBack 21 = .ok (.if_icmp .eq 31, 3) := by decide +kernel
theorem dX12_comesBack_24 : decode cX12_comesBack 24 = .ok (.iload_n 3, 1) := by decide +kernel
theorem dX12_comesBack_25 : decode cX12_comesBack 25 = .ok (.ifCond .eq 16, 3) := by decide +kernel
theorem dX12_comesBack_28 : decode cX12_comesBack 28 = .ok (.iload_n 2, 1) := by decide +kernel
theorem dX12_comesBack_29 : decode cX12_comesBack 29 = .ok (.aload_n 0, 1) := by decide +kernel
theorem dX12_comesBack_30 : decode cX12_comesBack 30 = .ok (.getfield 32, 3) := by decide +kernel
theorem dX12_comesBack_33 : decode cX12_comesBack 33 = .ok (.iload_n 1, 1) := by decide +kernel
theorem dX12_comesBack_34 : decode cX12_comesBack 34 = .ok (.iaload, 1) := by decide +kernel
theorem dX12_comesBack_35 : decode cX12_comesBack 35 = .ok (.if_icmp .gt 17, 3) := by decide +kernel
theorem dX12_comesBack_38 : decode cX12_comesBack 38 = .ok (.goto 13, 3) := by decide +kernel
theorem dX12_comesBack_41 : decode cX12_comesBack 41 = .ok (.iload_n 2, 1) := by decide +kernel
theorem dX12_comesBack_42 : decode cX12_comesBack 42 = .ok (.aload_n 0, 1) := by decide +kernel
theorem dX12_comesBack_43 : decode cX12_comesBack 43 = .ok (.getfield 32, 3) := by decide +kernel
theorem dX12_comesBack_46 : decode cX12_comesBack 46 = .ok (.iload_n 1, 1) := by decide +kernel
theorem dX12_comesBack_47 : decode cX12_comesBack 47 = .ok (.iaload, 1) := by decide +kernel
theorem dX12_comesBack_48 : decode cX12_comesBack 48 = .ok (.if_icmp .lt 4, 3) := by decide +kernel
theorem dX12_comesBack_51 : decode cX12_comesBack 51 = .ok (.return_, 1) := by decide +kernel
theorem dX12_comesBack_52 : decode cX12_comesBack 52 = .ok (.aload_n 0, 1) := by decide +kernel
theorem dX12_comesBack_53 : decode cX12_comesBack 53 = .ok (.getfield 32, 3) := by decide +kernel
theorem dX12_comesBack_56 : decode cX12_comesBack 56 = .ok (.iload_n 1, 1) := by decide +kernel
theorem dX12_comesBack_57 : decode cX12_comesBack 57 = .ok (.iload_n 2, 1) := by decide +kernel
theorem dX12_comesBack_58 : decode cX12_comesBack 58 = .ok (.iastore, 1) := by decide +kernel
theorem dX12_comesBack_59 : decode cX12_comesBack 59 = .ok (.iload_n 1, 1) := by decide +kernel
theorem dX12_comesBack_60 : decode cX12_comesBack 60 = .ok (.ifCond .ne 13, 3) := by decide +kernel
theorem dX12_comesBack_63 : decode cX12_comesBack 63 = .ok (.aload_n 0, 1) := by decide +kernel
theorem dX12_comesBack_64 : decode cX12_comesBack 64 = .ok (.aload_n 0, 1) := by decide +kernel
theorem dX12_comesBack_65 : decode cX12_comesBack 65 = .ok (.getfield 29, 3) := by decide +kernel
theorem dX12_comesBack_68 : decode cX12_comesBack 68 = .ok (.iconst 0, 1) := by decide +kernel
theorem dX12_comesBack_69 : decode cX12_comesBack 69 = .ok (.iaload, 1) := by decide +kernel
theorem dX12_comesBack_70 : decode cX12_comesBack 70 = .ok (.putfield 267, 3) := by decide +kernel
theorem dX12_comesBack_73 : decode cX12_comesBack 73 = .ok (.return_, 1) := by decide +kernel
theorem dX12_laysTurn_0 : decode cX12_laysTurn 0 = .ok (.aload_n 0, 1) := by decide +kernel
theorem dX12_laysTurn_1 : decode cX12_laysTurn 1 = .ok (.getfield 29, 3) := by decide +kernel
theorem dX12_laysTurn_4 : decode cX12_laysTurn 4 = .ok (.iload_n 1, 1) := by decide +kernel
theorem dX12_laysTurn_5 : decode cX12_laysTurn 5 = .ok (.iconst (-1), 1) := by decide +kernel
theorem dX12_laysTurn_6 : decode cX12_laysTurn 6 = .ok (.iastore, 1) := by decide +kernel
theorem dX12_laysTurn_7 : decode cX12_laysTurn 7 = .ok (.aload_n 0, 1) := by decide +kernel
theorem dX12_laysTurn_8 : decode cX12_laysTurn 8 = .ok (.getfield 32, 3) := by decide +kernel
theorem dX12_laysTurn_11 : decode cX12_laysTurn 11 = .ok (.iload_n 1, 1) := by decide +kernel
theorem dX12_laysTurn_12 : decode cX12_laysTurn 12 = .ok (.ldc_w 266, 3) := by decide +kernel
theorem dX12_laysTurn_15 : decode cX12_laysTurn 15 = .ok (.iastore, 1) := by decide +kernel
theorem dX12_laysTurn_16 : decode cX12_laysTurn 16 = .ok (.return_, 1) := by decide +kernel
theorem dX12_dares_0 : decode cX12_dares 0 = .ok (.aload_n 0, 1) := by decide +kernel
theorem dX12_dares_1 : decode cX12_dares 1 = .ok (.getfield 29, 3) := by decide +kernel
theorem dX12_dares_4 : decode cX12_dares 4 = .ok (.iload_n 1, 1) := by decide +kernel
theorem dX12_dares_5 : decode cX12_dares 5 = .ok (.iload_n 2, 1) := by decide +kernel
theorem dX12_dares_6 : decode cX12_dares 6 = .ok (.iastore, 1) := by decide +kernel
theorem dX12_dares_7 : decode cX12_dares 7 = .ok (.aload_n 0, 1) := by decide +kernel
theorem dX12_dares_8 : decode cX12_dares 8 = .ok (.getfield 23, 3) := by decide +kernel
theorem dX12_dares_11 : decode cX12_dares 11 = .ok (.iload_n 1, 1) := by decide +kernel
theorem dX12_dares_12 : decode cX12_dares 12 = .ok (.iconst 1, 1) := by decide +kernel
theorem dX12_dares_13 : decode cX12_dares 13 = .ok (.iadd, 1) := by decide +kernel
theorem dX12_dares_14 : decode cX12_dares 14 = .ok (.aload_n 0, 1) := by decide +kernel
theorem dX12_dares_15 : decode cX12_dares 15 = .ok (.getfield 23, 3) := by decide +kernel
theorem dX12_dares_18 : decode cX12_dares 18 = .ok (.iload_n 1, 1) := by decide +kernel
theorem dX12_dares_19 : decode cX12_dares 19 = .ok (.iaload, 1) := by decide +kernel
theorem dX12_dares_20 : decode cX12_dares 20 = .ok (.iload_n 2, 1) := by decide +kernel
theorem dX12_dares_21 : decode cX12_dares 21 = .ok (.bipush 6, 2) := by decide +kernel
theorem dX12_dares_23 : decode cX12_dares 23 = .ok (.if_icmp .ge 9, 3) := by decide +kernel
theorem dX12_dares_26 : decode cX12_dares 26 = .ok (.iconst 1, 1) := by decide +kernel
theorem dX12_dares_27 : decode cX12_dares 27 = .ok (.iload_n 2, 1) := by decide +kernel
theorem dX12_dares_28 : decode cX12_dares 28 = .ok (.ishl, 1) := by decide +kernel
theorem dX12_dares_29 : decode cX12_dares 29 = .ok (.goto 4, 3) := by decide +kernel
theorem dX12_dares_32 : decode cX12_dares 32 = .ok (.iconst 0, 1) := by decide +kernel
theorem dX12_dares_33 : decode cX12_dares 33 = .ok (.ior, 1) := by decide +kernel
theorem dX12_dares_34 : decode cX12_dares 34 = .ok (.iastore, 1) := by decide +kernel
theorem dX12_dares_35 : decode cX12_dares 35 = .ok (.aload_n 0, 1) := by decide +kernel
theorem dX12_dares_36 : decode cX12_dares 36 = .ok (.getfield 26, 3) := by decide +kernel
theorem dX12_dares_39 : decode cX12_dares 39 = .ok (.iload_n 1, 1) := by decide +kernel
theorem dX12_dares_40 : decode cX12_dares 40 = .ok (.iconst 1, 1) := by decide +kernel
theorem dX12_dares_41 : decode cX12_dares 41 = .ok (.iadd, 1) := by decide +kernel
theorem dX12_dares_42 : decode cX12_dares 42 = .ok (.aload_n 0, 1) := by decide +kernel
theorem dX12_dares_43 : decode cX12_dares 43 = .ok (.getfield 26, 3) := by decide +kernel
theorem dX12_dares_46 : decode cX12_dares 46 = .ok (.iload_n 1, 1) := by decide +kernel
theorem dX12_dares_47 : decode cX12_dares 47 = .ok (.iaload, 1) := by decide +kernel
theorem dX12_dares_48 : decode cX12_dares 48 = .ok (.iload_n 2, 1) := by decide +kernel
theorem dX12_dares_49 : decode cX12_dares 49 = .ok (.bipush 6, 2) := by decide +kernel
theorem dX12_dares_51 : decode cX12_dares 51 = .ok (.if_icmp .ge 14, 3) := by decide +kernel
theorem dX12_dares_54 : decode cX12_dares 54 = .ok (.iconst 1, 1) := by decide +kernel
theorem dX12_dares_55 : decode cX12_dares 55 = .ok (.aload_n 0, 1) := by decide +kernel
theorem dX12_dares_56 : decode cX12_dares 56 = .ok (.iload_n 1, 1) := by decide +kernel
theorem dX12_dares_57 : decode cX12_dares 57 = .ok (.iload_n 2, 1) := by decide +kernel
theorem dX12_dares_58 : decode cX12_dares 58 = .ok (.invokevirtual 263, 3) := by decide +kernel
theorem dX12_dares_61 : decode cX12_dares 61 = .ok (.ishl, 1) := by decide +kernel
theorem dX12_dares_62 : decode cX12_dares 62 = .ok (.goto 4, 3) := by decide +kernel
theorem dX12_dares_65 : decode cX12_dares 65 = .ok (.iconst 0, 1) := by decide +kernel
theorem dX12_dares_66 : decode cX12_dares 66 = .ok (.ior, 1) := by decide +kernel
theorem dX12_dares_67 : decode cX12_dares 67 = .ok (.iastore, 1) := by decide +kernel
theorem dX12_dares_68 : decode cX12_dares 68 = .ok (.aload_n 0, 1) := by decide +kernel
theorem dX12_dares_69 : decode cX12_dares 69 = .ok (.getfield 35, 3) := by decide +kernel
theorem dX12_dares_72 : decode cX12_dares 72 = .ok (.iload_n 1, 1) := by decide +kernel
theorem dX12_dares_73 : decode cX12_dares 73 = .ok (.iconst 1, 1) := by decide +kernel
theorem dX12_dares_74 : decode cX12_dares 74 = .ok (.iadd, 1) := by decide +kernel
theorem dX12_dares_75 : decode cX12_dares 75 = .ok (.aload_n 0, 1) := by decide +kernel
theorem dX12_dares_76 : decode cX12_dares 76 = .ok (.getfield 35, 3) := by decide +kernel
theorem dX12_dares_79 : decode cX12_dares 79 = .ok (.iload_n 1, 1) := by decide +kernel
theorem dX12_dares_80 : decode cX12_dares 80 = .ok (.iaload, 1) := by decide +kernel
theorem dX12_dares_81 : decode cX12_dares 81 = .ok (.iload_n 2, 1) := by decide +kernel
theorem dX12_dares_82 : decode cX12_dares 82 = .ok (.bipush 6, 2) := by decide +kernel
theorem dX12_dares_84 : decode cX12_dares 84 = .ok (.if_icmp .ne 7, 3) := by decide +kernel
theorem dX12_dares_87 : decode cX12_dares 87 = .ok (.iconst 0, 1) := by decide +kernel
theorem dX12_dares_88 : decode cX12_dares 88 = .ok (.goto 23, 3) := by decide +kernel
theorem dX12_dares_91 : decode cX12_dares 91 = .ok (.iload_n 1, 1) := by decide +kernel
theorem dX12_dares_92 : decode cX12_dares 92 = .ok (.iconst 2, 1) := by decide +kernel
theorem dX12_dares_93 : decode cX12_dares 93 = .ok (.irem, 1) := by decide +kernel
theorem dX12_dares_94 : decode cX12_dares 94 = .ok (.ifCond .ne 11, 3) := by decide +kernel
theorem dX12_dares_97 : decode cX12_dares 97 = .ok (.aload_n 0, 1) := by decide +kernel
theorem dX12_dares_98 : decode cX12_dares 98 = .ok (.iload_n 2, 1) := by decide +kernel
theorem dX12_dares_99 : decode cX12_dares 99 = .ok (.invokevirtual 232, 3) := by decide +kernel
theorem dX12_dares_102 : decode cX12_dares 102 = .ok (.goto 9, 3) := by decide +kernel
theorem dX12_dares_105 : decode cX12_dares 105 = .ok (.aload_n 0, 1) := by decide +kernel
theorem dX12_dares_106 : decode cX12_dares 106 = .ok (.iload_n 2, 1) := by decide +kernel
theorem dX12_dares_107 : decode cX12_dares 107 = .ok (.invokevirtual 232, 3) := by decide +kernel
theorem dX12_dares_110 : decode cX12_dares 110 = .ok (.ineg, 1) := by decide +kernel
theorem dX12_dares_111 : decode cX12_dares 111 = .ok (.iadd, 1) := by decide +kernel
theorem dX12_dares_112 : decode cX12_dares 112 = .ok (.iastore, 1) := by decide +kernel
theorem dX12_dares_113 : decode cX12_dares 113 = .ok (.return_, 1) := by decide +kernel
theorem dX12_dareOf_0 : decode cX12_dareOf 0 = .ok (.iconst 0, 1) := by decide +kernel
theorem dX12_dareOf_1 : decode cX12_dareOf 1 = .ok (.istore_n 2, 1) := by decide +kernel
theorem dX12_dareOf_2 : decode cX12_dareOf 2 = .ok (.aload_n 0, 1) := by decide +kernel
theorem dX12_dareOf_3 : decode cX12_dareOf 3 = .ok (.getfield 23, 3) := by decide +kernel
theorem dX12_dareOf_6 : decode cX12_dareOf 6 = .ok (.iconst 0, 1) := by decide +kernel
theorem dX12_dareOf_7 : decode cX12_dareOf 7 = .ok (.iconst 0, 1) := by decide +kernel
theorem dX12_dareOf_8 : decode cX12_dareOf 8 = .ok (.iastore, 1) := by decide +kernel
theorem dX12_dareOf_9 : decode cX12_dareOf 9 = .ok (.aload_n 0, 1) := by decide +kernel
theorem dX12_dareOf_10 : decode cX12_dareOf 10 = .ok (.getfield 26, 3) := by decide +kernel
theorem dX12_dareOf_13 : decode cX12_dareOf 13 = .ok (.iconst 0, 1) := by decide +kernel
theorem dX12_dareOf_14 : decode cX12_dareOf 14 = .ok (.iconst 0, 1) := by decide +kernel
theorem dX12_dareOf_15 : decode cX12_dareOf 15 = .ok (.iastore, 1) := by decide +kernel
theorem dX12_dareOf_16 : decode cX12_dareOf 16 = .ok (.aload_n 0, 1) := by decide +kernel
theorem dX12_dareOf_17 : decode cX12_dareOf 17 = .ok (.getfield 35, 3) := by decide +kernel
theorem dX12_dareOf_20 : decode cX12_dareOf 20 = .ok (.iconst 0, 1) := by decide +kernel
theorem dX12_dareOf_21 : decode cX12_dareOf 21 = .ok (.iconst 0, 1) := by decide +kernel
theorem dX12_dareOf_22 : decode cX12_dareOf 22 = .ok (.iastore, 1) := by decide +kernel
theorem dX12_dareOf_23 : decode cX12_dareOf 23 = .ok (.aload_n 0, 1) := by decide +kernel
theorem dX12_dareOf_24 : decode cX12_dareOf 24 = .ok (.iconst 0, 1) := by decide +kernel
theorem dX12_dareOf_25 : decode cX12_dareOf 25 = .ok (.invokevirtual 270, 3) := by decide +kernel
theorem dX12_dareOf_28 : decode cX12_dareOf 28 = .ok (.iload_n 2, 1) := by decide +kernel
theorem dX12_dareOf_29 : decode cX12_dareOf 29 = .ok (.ifCond .lt 106, 3) := by decide +kernel
theorem dX12_dareOf_32 : decode cX12_dareOf 32 = .ok (.iload_n 2, 1) := by decide +kernel
theorem dX12_dareOf_33 : decode cX12_dareOf 33 = .ok (.iload_n 1, 1) := by decide +kernel
theorem dX12_dareOf_34 : decode cX12_dareOf 34 = .ok (.if_icmp .ne 8, 3) := by decide +kernel
theorem dX12_dareOf_37 : decode cX12_dareOf 37 = .ok (.bipush 7, 2) := by decide +kernel
theorem dX12_dareOf_39 : decode cX12_dareOf 39 = .ok (.goto 11, 3) := by decide +kernel
theorem dX12_dareOf_42 : decode cX12_dareOf 42 = .ok (.aload_n 0, 1) := by decide +kernel
theorem dX12_dareOf_43 : decode cX12_dareOf 43 = .ok (.getfield 29, 3) := by decide +kernel
theorem dX12_dareOf_46 : decode cX12_dareOf 46 = .ok (.iload_n 2, 1) := by decide +kernel
theorem dX12_dareOf_47 : decode cX12_dareOf 47 = .ok (.iaload, 1) := by decide +kernel
theorem dX12_dareOf_48 : decode cX12_dareOf 48 = .ok (.iconst 1, 1) := by decide +kernel
theorem dX12_dareOf_49 : decode cX12_dareOf 49 = .ok (.iadd, 1) := by decide +kernel
theorem dX12_dareOf_50 : decode cX12_dareOf 50 = .ok (.istore_n 3, 1) := by decide +kernel
theorem dX12_dareOf_51 : decode cX12_dareOf 51 = .ok (.iload_n 3, 1) := by decide +kernel
theorem dX12_dareOf_52 : decode cX12_dareOf 52 = .ok (.bipush 6, 2) := by decide +kernel
theorem dX12_dareOf_54 : decode cX12_dareOf 54 = .ok (.if_icmp .ge 18, 3) := by decide +kernel
theorem dX12_dareOf_57 : decode cX12_dareOf 57 = .ok (.aload_n 0, 1) := by decide +kernel
theorem dX12_dareOf_58 : decode cX12_dareOf 58 = .ok (.iload_n 2, 1) := by decide +kernel
theorem dX12_dareOf_59 : decode cX12_dareOf 59 = .ok (.iload_n 3, 1) := by decide +kernel
theorem dX12_dareOf_60 : decode cX12_dareOf 60 = .ok (.invokevirtual 273, 3) := by decide +kernel
theorem dX12_dareOf_63 : decode cX12_dareOf 63 = .ok (.ifCond .ne 9, 3) := by decide +kernel
theorem dX12_dareOf_66 : decode cX12_dareOf 66 = .ok (.iinc 3 1, 3) := by decide +kernel
theorem dX12_dareOf_69 : decode cX12_dareOf 69 = .ok (.goto (-18), 3) := by decide +kernel
theorem dX12_dareOf_72 : decode cX12_dareOf 72 = .ok (.iload_n 3, 1) := by decide +kernel
theorem dX12_dareOf_73 : decode cX12_dareOf 73 = .ok (.bipush 6, 2) := by decide +kernel
theorem dX12_dareOf_75 : decode cX12_dareOf 75 = .ok (.if_icmp .le 43, 3) := by decide +kernel
theorem dX12_dareOf_78 : decode cX12_dareOf 78 = .ok (.iload_n 2, 1) := by decide +kernel
theorem dX12_dareOf_79 : decode cX12_dareOf 79 = .ok (.iload_n 1, 1) := by decide +kernel
theorem dX12_dareOf_80 : decode cX12_dareOf 80 = .ok (.if_icmp .ne 15, 3) := by decide +kernel
theorem dX12_dareOf_83 : decode cX12_dareOf 83 = .ok (.aload_n 0, 1) := by decide +kernel
theorem dX12_dareOf_84 : decode cX12_dareOf 84 = .ok (.getfield 32, 3) := by decide +kernel
theorem dX12_dareOf_87 : decode cX12_dareOf 87 = .ok (.iload_n 2, 1) := by decide +kernel
theorem dX12_dareOf_88 : decode cX12_dareOf 88 = .ok (.aload_n 0, 1) := by decide +kernel
theorem dX12_dareOf_89 : decode cX12_dareOf 89 = .ok (.getfield 35, 3) := by decide +kernel
theorem dX12_dareOf_92 : decode cX12_dareOf 92 = .ok (.iload_n 2, 1) := by decide +kernel
theorem dX12_dareOf_93 : decode cX12_dareOf 93 = .ok (.iaload, 1) := by decide +kernel
theorem dX12_dareOf_94 : decode cX12_dareOf 94 = .ok (.iastore, 1) := by decide +kernel
theorem dX12_dareOf_95 : decode cX12_dareOf 95 = .ok (.iinc 2 (-1), 3) := by decide +kernel
theorem dX12_dareOf_98 : decode cX12_dareOf 98 = .ok (.iload_n 2, 1) := by decide +kernel
theorem dX12_dareOf_99 : decode cX12_dareOf 99 = .ok (.ifCond .lt (-71), 3) := by decide +kernel
theorem dX12_dareOf_102 : decode cX12_dareOf 102 = .ok (.aload_n 0, 1) := by decide +kernel
theorem dX12_dareOf_103 : decode cX12_dareOf 103 = .ok (.iload_n 2, 1) := by decide +kernel
theorem dX12_dareOf_104 : decode cX12_dareOf 104 = .ok (.aload_n 0, 1) := by decide +kernel
theorem dX12_dareOf_105 : decode cX12_dareOf 105 = .ok (.getfield 32, 3) := by decide +kernel
theorem dX12_dareOf_108 : decode cX12_dareOf 108 = .ok (.iload_n 2, 1) := by decide +kernel
theorem dX12_dareOf_109 : decode cX12_dareOf 109 = .ok (.iconst 1, 1) := by decide +kernel
theorem dX12_dareOf_110 : decode cX12_dareOf 110 = .ok (.iadd, 1) := by decide +kernel
theorem dX12_dareOf_111 : decode cX12_dareOf 111 = .ok (.iaload, 1) := by decide +kernel
theorem dX12_dareOf_112 : decode cX12_dareOf 112 = .ok (.invokevirtual 276, 3) := by decide +kernel
theorem dX12_dareOf_115 : decode cX12_dareOf 115 = .ok (.goto (-87), 3) := by decide +kernel
theorem dX12_dareOf_118 : decode cX12_dareOf 118 = .ok (.aload_n 0, 1) := by decide +kernel
theorem dX12_dareOf_119 : decode cX12_dareOf 119 = .ok (.iload_n 2, 1) := by decide +kernel
theorem dX12_dareOf_120 : decode cX12_dareOf 120 = .ok (.iload_n 3, 1) := by decide +kernel
theorem dX12_dareOf_121 : decode cX12_dareOf 121 = .ok (.invokevirtual 279, 3) := by decide +kernel
theorem dX12_dareOf_124 : decode cX12_dareOf 124 = .ok (.iinc 2 1, 3) := by decide +kernel
theorem dX12_dareOf_127 : decode cX12_dareOf 127 = .ok (.aload_n 0, 1) := by decide +kernel
theorem dX12_dareOf_128 : decode cX12_dareOf 128 = .ok (.iload_n 2, 1) := by decide +kernel
theorem dX12_dareOf_129 : decode cX12_dareOf 129 = .ok (.invokevirtual 270, 3) := by decide +kernel
theorem dX12_dareOf_132 : decode cX12_dareOf 132 = .ok (.goto (-104), 3) := by decide +kernel
theorem dX12_dareOf_135 : decode cX12_dareOf 135 = .ok (.aload_n 0, 1) := by decide +kernel
theorem dX12_dareOf_136 : decode cX12_dareOf 136 = .ok (.getfield 32, 3) := by decide +kernel
theorem dX12_dareOf_139 : decode cX12_dareOf 139 = .ok (.iconst 0, 1) := by decide +kernel
theorem dX12_dareOf_140 : decode cX12_dareOf 140 = .ok (.iaload, 1) := by decide +kernel
theorem dX12_dareOf_141 : decode cX12_dareOf 141 = .ok (.ireturn, 1) := by decide +kernel
theorem dX12_dare_0 : decode cX12_dare 0 = .ok (.aload_n 0, 1) := by decide +kernel
theorem dX12_dare_1 : decode cX12_dare 1 = .ok (.iload_n 1, 1) := by decide +kernel
theorem dX12_dare_2 : decode cX12_dare 2 = .ok (.invokevirtual 220, 3) := by decide +kernel
theorem dX12_dare_5 : decode cX12_dare 5 = .ok (.ifCond .eq 12, 3) := by decide +kernel
theorem dX12_dare_8 : decode cX12_dare 8 = .ok (.iload_n 2, 1) := by decide +kernel
theorem dX12_dare_9 : decode cX12_dare 9 = .ok (.iconst 0, 1) := by decide +kernel
theorem dX12_dare_10 : decode cX12_dare 10 = .ok (.iconst 4, 1) := by decide +kernel
theorem dX12_dare_11 : decode cX12_dare 11 = .ok (.invokestatic 146, 3) := by decide +kernel
theorem dX12_dare_14 : decode cX12_dare 14 = .ok (.ifCond .ne 7, 3) := by decide +kernel
theorem dX12_dare_17 : decode cX12_dare 17 = .ok (.sipush (-999), 3) := by decide +kernel
theorem dX12_dare_20 : decode cX12_dare 20 = .ok (.ireturn, 1) := by decide +kernel
theorem dX12_dare_21 : decode cX12_dare 21 = .ok (.aload_n 0, 1) := by decide +kernel
theorem dX12_dare_22 : decode cX12_dare 22 = .ok (.iconst (-1), 1) := by decide +kernel
theorem dX12_dare_23 : decode cX12_dare 23 = .ok (.putfield 267, 3) := by decide +kernel
theorem dX12_dare_26 : decode cX12_dare 26 = .ok (.aload_n 0, 1) := by decide +kernel
theorem dX12_dare_27 : decode cX12_dare 27 = .ok (.iload_n 2, 1) := by decide +kernel
theorem dX12_dare_28 : decode cX12_dare 28 = .ok (.invokevirtual 282, 3) := by decide +kernel
theorem dX12_dare_31 : decode cX12_dare 31 = .ok (.istore 4, 2) := by decide +kernel
theorem dX12_dare_33 : decode cX12_dare 33 = .ok (.iload_n 3, 1) := by decide +kernel
theorem dX12_dare_34 : decode cX12_dare 34 = .ok (.ifCond .eq 10, 3) := by decide +kernel
theorem dX12_dare_37 : decode cX12_dare 37 = .ok (.aload_n 0, 1) := by decide +kernel
theorem dX12_dare_38 : decode cX12_dare 38 = .ok (.getfield 267, 3) := by decide +kernel
theorem dX12_dare_41 : decode cX12_dare 41 = .ok (.goto 5, 3) := by decide +kernel
theorem dX12_dare_44 : decode cX12_dare 44 = .ok (.iload 4, 2) := by decide +kernel
theorem dX12_dare_46 : decode cX12_dare 46 = .ok (.ireturn, 1) := by decide +kernel
theorem dX12_laysEnough_0 : decode cX12_laysEnough 0 = .ok (.iconst 0, 1) := by decide +kernel
theorem dX12_laysEnough_1 : decode cX12_laysEnough 1 = .ok (.istore_n 3, 1) := by decide +kernel
theorem dX12_laysEnough_2 : decode cX12_laysEnough 2 = .ok (.iload_n 3, 1) := by decide +kernel
theorem dX12_laysEnough_3 : decode cX12_laysEnough 3 = .ok (.iconst 1, 1) := by decide +kernel
theorem dX12_laysEnough_4 : decode cX12_laysEnough 4 = .ok (.aload_n 0, 1) := by decide +kernel
theorem dX12_laysEnough_5 : decode cX12_laysEnough 5 = .ok (.getfield 211, 3) := by decide +kernel
theorem dX12_laysEnough_8 : decode cX12_laysEnough 8 = .ok (.ishl, 1) := by decide +kernel
theorem dX12_laysEnough_9 : decode cX12_laysEnough 9 = .ok (.if_icmp .ge 96, 3) := by decide +kernel
theorem dX12_laysEnough_12 : decode cX12_laysEnough 12 = .ok (.iload_n 2, 1) := by decide +kernel
theorem dX12_laysEnough_13 : decode cX12_laysEnough 13 = .ok (.aload_n 0, 1) := by decide +kernel
theorem dX12_laysEnough_14 : decode cX12_laysEnough 14 = .ok (.iload_n 3, 1) := by decide +kernel
theorem dX12_laysEnough_15 : decode cX12_laysEnough 15 = .ok (.iconst (-1), 1) := by decide +kernel
theorem dX12_laysEnough_16 : decode cX12_laysEnough 16 = .ok (.invokevirtual 247, 3) := by decide +kernel
theorem dX12_laysEnough_19 : decode cX12_laysEnough 19 = .ok (.imul, 1) := by decide +kernel
theorem dX12_laysEnough_20 : decode cX12_laysEnough 20 = .ok (.aload_n 0, 1) := by decide +kernel
theorem dX12_laysEnough_21 : decode cX12_laysEnough 21 = .ok (.iload_n 1, 1) := by decide +kernel
theorem dX12_laysEnough_22 : decode cX12_laysEnough 22 = .ok (.invokevirtual 229, 3) := by decide +kernel
theorem dX12_laysEnough_25 : decode cX12_laysEnough 25 = .ok (.if_icmp .lt 7, 3) := by decide +kernel
theorem dX12_laysEnough_28 : decode cX12_laysEnough 28 = .ok (.iconst 1, 1) := by decide +kernel
theorem dX12_laysEnough_29 : decode cX12_laysEnough 29 = .ok (.goto 4, 3) := by decide +kernel
theorem dX12_laysEnough_32 : decode cX12_laysEnough 32 = .ok (.iconst 0, 1) := by decide +kernel
theorem dX12_laysEnough_33 : decode cX12_laysEnough 33 = .ok (.istore 4, 2) := by decide +kernel
theorem dX12_laysEnough_35 : decode cX12_laysEnough 35 = .ok (.iconst 0, 1) := by decide +kernel
theorem dX12_laysEnough_36 : decode cX12_laysEnough 36 = .ok (.istore 5, 2) := by decide +kernel
theorem dX12_laysEnough_38 : decode cX12_laysEnough 38 = .ok (.iload 5, 2) := by decide +kernel
theorem dX12_laysEnough_40 : decode cX12_laysEnough 40 = .ok (.aload_n 0, 1) := by decide +kernel
theorem dX12_laysEnough_41 : decode cX12_laysEnough 41 = .ok (.getfield 211, 3) := by decide +kernel
theorem dX12_laysEnough_44 : decode cX12_laysEnough 44 = .ok (.if_icmp .ge 47, 3) := by decide +kernel
theorem dX12_laysEnough_47 : decode cX12_laysEnough 47 = .ok (.iload 4, 2) := by decide +kernel
theorem dX12_laysEnough_49 : decode cX12_laysEnough 49 = .ok (.ifCond .eq 42, 3) := by decide +kernel
theorem dX12_laysEnough_52 : decode cX12_laysEnough 52 = .ok (.iload_n 3, 1) := by decide +kernel
theorem dX12_laysEnough_53 : decode cX12_laysEnough 53 = .ok (.iload 5, 2) := by decide +kernel
theorem dX12_laysEnough_55 : decode cX12_laysEnough 55 = .ok (.invokestatic 235, 3) := by decide +kernel
theorem dX12_laysEnough_58 : decode cX12_laysEnough 58 = .ok (.ifCond .eq 20, 3) := by decide +kernel
theorem dX12_laysEnough_61 : decode cX12_laysEnough 61 = .ok (.iload_n 2, 1) := by decide +kernel
theorem dX12_laysEnough_62 : decode cX12_laysEnough 62 = .ok (.aload_n 0, 1) := by decide +kernel
theorem dX12_laysEnough_63 : decode cX12_laysEnough 63 = .ok (.iload_n 3, 1) := by decide +kernel
theorem dX12_laysEnough_64 : decode cX12_laysEnough 64 = .ok (.iload 5, 2) := by decide +kernel
theorem dX12_laysEnough_66 : decode cX12_laysEnough 66 = .ok (.invokevirtual 247, 3) := by decide +kernel
theorem dX12_laysEnough_69 : decode cX12_laysEnough 69 = .ok (.imul, 1) := by decide +kernel
theorem dX12_laysEnough_70 : decode cX12_laysEnough 70 = .ok (.aload_n 0, 1) := by decide +kernel
theorem dX12_laysEnough_71 : decode cX12_laysEnough 71 = .ok (.iload_n 1, 1) := by decide +kernel
theorem dX12_laysEnough_72 : decode cX12_laysEnough 72 = .ok (.invokevirtual 229, 3) := by decide +kernel
theorem dX12_laysEnough_75 : decode cX12_laysEnough 75 = .ok (.if_icmp .ge 7, 3) := by decide +kernel
theorem dX12_laysEnough_78 : decode cX12_laysEnough 78 = .ok (.iconst 1, 1) := by decide +kernel
theorem dX12_laysEnough_79 : decode cX12_laysEnough 79 = .ok (.goto 4, 3) := by decide +kernel
theorem dX12_laysEnough_82 : decode cX12_laysEnough 82 = .ok (.iconst 0, 1) := by decide +kernel
theorem dX12_laysEnough_83 : decode cX12_laysEnough 83 = .ok (.istore 4, 2) := by decide +kernel
theorem dX12_laysEnough_85 : decode cX12_laysEnough 85 = .ok (.iinc 5 1, 3) := by decide +kernel
theorem dX12_laysEnough_88 : decode cX12_laysEnough 88 = .ok (.goto (-50), 3) := by decide +kernel
theorem dX12_laysEnough_91 : decode cX12_laysEnough 91 = .ok (.aload_n 0, 1) := by decide +kernel
theorem dX12_laysEnough_92 : decode cX12_laysEnough 92 = .ok (.getfield 42, 3) := by decide +kernel
theorem dX12_laysEnough_95 : decode cX12_laysEnough 95 = .ok (.iload_n 3, 1) := by decide +kernel
theorem dX12_laysEnough_96 : decode cX12_laysEnough 96 = .ok (.iload 4, 2) := by decide +kernel
theorem dX12_laysEnough_98 : decode cX12_laysEnough 98 = .ok (.bastore, 1) := by decide +kernel
theorem dX12_laysEnough_99 : decode cX12_laysEnough 99 = .ok (.iinc 3 1, 3) := by decide +kernel
theorem dX12_laysEnough_102 : decode cX12_laysEnough 102 = .ok (.goto (-100), 3) := by decide +kernel
theorem dX12_laysEnough_105 : decode cX12_laysEnough 105 = .ok (.return_, 1) := by decide +kernel
theorem dX12_laysPlans_0 : decode cX12_laysPlans 0 = .ok (.iconst 0, 1) := by decide +kernel
theorem dX12_laysPlans_1 : decode cX12_laysPlans 1 = .ok (.istore_n 2, 1) := by decide +kernel
theorem dX12_laysPlans_2 : decode cX12_laysPlans 2 = .ok (.iload_n 2, 1) := by decide +kernel
theorem dX12_laysPlans_3 : decode cX12_laysPlans 3 = .ok (.ldc 38, 2) := by decide +kernel
theorem dX12_laysPlans_5 : decode cX12_laysPlans 5 = .ok (.if_icmp .ge 16, 3) := by decide +kernel
theorem dX12_laysPlans_8 : decode cX12_laysPlans 8 = .ok (.aload_n 0, 1) := by decide +kernel
theorem dX12_laysPlans_9 : decode cX12_laysPlans 9 = .ok (.getfield 39, 3) := by decide +kernel
theorem dX12_laysPlans_12 : decode cX12_laysPlans 12 = .ok (.iload_n 2, 1) := by decide +kernel
theorem dX12_laysPlans_13 : decode cX12_laysPlans 13 = .ok (.iconst 0, 1) := by decide +kernel
theorem dX12_laysPlans_14 : decode cX12_laysPlans 14 = .ok (.bastore, 1) := by decide +kernel
theorem dX12_laysPlans_15 : decode cX12_laysPlans 15 = .ok (.iinc 2 1, 3) := by decide +kernel
theorem dX12_laysPlans_18 : decode cX12_laysPlans 18 = .ok (.goto (-16), 3) := by decide +kernel
theorem dX12_laysPlans_21 : decode cX12_laysPlans 21 = .ok (.aload_n 0, 1) := by decide +kernel
theorem dX12_laysPlans_22 : decode cX12_laysPlans 22 = .ok (.getfield 39, 3) := by decide +kernel
theorem dX12_laysPlans_25 : decode cX12_laysPlans 25 = .ok (.iconst 0, 1) := by decide +kernel
theorem dX12_laysPlans_26 : decode cX12_laysPlans 26 = .ok (.iconst 1, 1) := by decide +kernel
theorem dX12_laysPlans_27 : decode cX12_laysPlans 27 = .ok (.bastore, 1) := by decide +kernel
theorem dX12_laysPlans_28 : decode cX12_laysPlans 28 = .ok (.iconst 0, 1) := by decide +kernel
theorem dX12_laysPlans_29 : decode cX12_laysPlans 29 = .ok (.istore_n 2, 1) := by decide +kernel
theorem dX12_laysPlans_30 : decode cX12_laysPlans 30 = .ok (.iload_n 2, 1) := by decide +kernel
theorem dX12_laysPlans_31 : decode cX12_laysPlans 31 = .ok (.aload_n 0, 1) := by decide +kernel
theorem dX12_laysPlans_32 : decode cX12_laysPlans 32 = .ok (.getfield 214, 3) := by decide +kernel
theorem dX12_laysPlans_35 : decode cX12_laysPlans 35 = .ok (.if_icmp .ge 36, 3) := by decide +kernel
theorem dX12_laysPlans_38 : decode cX12_laysPlans 38 = .ok (.aload_n 0, 1) := by decide +kernel
theorem dX12_laysPlans_39 : decode cX12_laysPlans 39 = .ok (.iload_n 2, 1) := by decide +kernel
theorem dX12_laysPlans_40 : decode cX12_laysPlans 40 = .ok (.iload_n 1, 1) := by decide +kernel
theorem dX12_laysPlans_41 : decode cX12_laysPlans 41 = .ok (.invokevirtual 285, 3) := by decide +kernel
theorem dX12_laysPlans_44 : decode cX12_laysPlans 44 = .ok (.iconst 0, 1) := by decide +kernel
theorem dX12_laysPlans_45 : decode cX12_laysPlans 45 = .ok (.istore_n 3, 1) := by decide +kernel
theorem dX12_laysPlans_46 : decode cX12_laysPlans 46 = .ok (.iload_n 3, 1) := by decide +kernel
theorem dX12_laysPlans_47 : decode cX12_laysPlans 47 = .ok (.iconst 1, 1) := by decide +kernel
theorem dX12_laysPlans_48 : decode cX12_laysPlans 48 = .ok (.iload_n 2, 1) := by decide +kernel
theorem dX12_laysPlans_49 : decode cX12_laysPlans 49 = .ok (.ishl, 1) := by decide +kernel
theorem dX12_laysPlans_50 : decode cX12_laysPlans 50 = .ok (.if_icmp .ge 15, 3) := by decide +kernel
theorem dX12_laysPlans_53 : decode cX12_laysPlans 53 = .ok (.aload_n 0, 1) := by decide +kernel
theorem dX12_laysPlans_54 : decode cX12_laysPlans 54 = .ok (.iload_n 3, 1) := by decide +kernel
theorem dX12_laysPlans_55 : decode cX12_laysPlans 55 = .ok (.iload_n 2, 1) := by decide +kernel
theorem dX12_laysPlans_56 : decode cX12_laysPlans 56 = .ok (.invokevirtual 288, 3) := by decide +kernel
theorem dX12_laysPlans_59 : decode cX12_laysPlans 59 = .ok (.iinc 3 1, 3) := by decide +kernel
theorem dX12_laysPlans_62 : decode cX12_laysPlans 62 = .ok (.goto (-16), 3) := by decide +kernel
theorem dX12_laysPlans_65 : decode cX12_laysPlans 65 = .ok (.iinc 2 1, 3) := by decide +kernel
theorem dX12_laysPlans_68 : decode cX12_laysPlans 68 = .ok (.goto (-38), 3) := by decide +kernel
theorem dX12_laysPlans_71 : decode cX12_laysPlans 71 = .ok (.return_, 1) := by decide +kernel
theorem dX12_addsWork_0 : decode cX12_addsWork 0 = .ok (.sipush 1024, 3) := by decide +kernel
theorem dX12_addsWork_3 : decode cX12_addsWork 3 = .ok (.iload_n 1, 1) := by decide +kernel
theorem dX12_addsWork_4 : decode cX12_addsWork 4 = .ok (.imul, 1) := by decide +kernel
theorem dX12_addsWork_5 : decode cX12_addsWork 5 = .ok (.istore_n 3, 1) := by decide +kernel
theorem dX12_addsWork_6 : decode cX12_addsWork 6 = .ok (.sipush 1024, 3) := by decide +kernel
theorem dX12_addsWork_9 : decode cX12_addsWork 9 = .ok (.iload_n 1, 1) := by decide +kernel
theorem dX12_addsWork_10 : decode cX12_addsWork 10 = .ok (.iconst 1, 1) := by decide +kernel
theorem dX12_addsWork_11 : decode cX12_addsWork 11 = .ok (.iload_n 2, 1) := by decide +kernel
theorem dX12_addsWork_12 : decode cX12_addsWork 12 = .ok (.ishl, 1) := by decide +kernel
theorem dX12_addsWork_13 : decode cX12_addsWork 13 = .ok (.ior, 1) := by decide +kernel
theorem dX12_addsWork_14 : decode cX12_addsWork 14 = .ok (.imul, 1) := by decide +kernel
theorem dX12_addsWork_15 : decode cX12_addsWork 15 = .ok (.istore 4, 2) := by decide +kernel
theorem dX12_addsWork_17 : decode cX12_addsWork 17 = .ok (.iconst 1, 1) := by decide +kernel
theorem dX12_addsWork_18 : decode cX12_addsWork 18 = .ok (.aload_n 0, 1) := by decide +kernel
theorem dX12_addsWork_19 : decode cX12_addsWork 19 = .ok (.getfield 211, 3) := by decide +kernel
theorem dX12_addsWork_22 : decode cX12_addsWork 22 = .ok (.ishl, 1) := by decide +kernel
theorem dX12_addsWork_23 : decode cX12_addsWork 23 = .ok (.iconst 1, 1) := by decide +kernel
theorem dX12_addsWork_24 : decode cX12_addsWork 24 = .ok (.isub, 1) := by decide +kernel
theorem dX12_addsWork_25 : decode cX12_addsWork 25 = .ok (.istore 5, 2) := by decide +kernel
theorem dX12_addsWork_27 : decode cX12_addsWork 27 = .ok (.iconst 0, 1) := by decide +kernel
theorem dX12_addsWork_28 : decode cX12_addsWork 28 = .ok (.istore 6, 2) := by decide +kernel
theorem dX12_addsWork_30 : decode cX12_addsWork 30 = .ok (.iload 6, 2) := by decide +kernel
theorem dX12_addsWork_32 : decode cX12_addsWork 32 = .ok (.iload 5, 2) := by decide +kernel
theorem dX12_addsWork_34 : decode cX12_addsWork 34 = .ok (.if_icmp .gt 78, 3) := by decide +kernel
theorem dX12_addsWork_37 : decode cX12_addsWork 37 = .ok (.aload_n 0, 1) := by decide +kernel
theorem dX12_addsWork_38 : decode cX12_addsWork 38 = .ok (.getfield 39, 3) := by decide +kernel
theorem dX12_addsWork_41 : decode cX12_addsWork 41 = .ok (.iload_n 3, 1) := by decide +kernel
theorem dX12_addsWork_42 : decode cX12_addsWork 42 = .ok (.iload 6, 2) := by decide +kernel
theorem dX12_addsWork_44 : decode cX12_addsWork 44 = .ok (.iadd, 1) := by decide +kernel
theorem dX12_addsWork_45 : decode cX12_addsWork 45 = .ok (.baload, 1) := by decide +kernel
theorem dX12_addsWork_46 : decode cX12_addsWork 46 = .ok (.ifCond .ne 6, 3) := by decide +kernel
theorem dX12_addsWork_49 : decode cX12_addsWork 49 = .ok (.goto 57, 3) := by decide +kernel
theorem dX12_addsWork_52 : decode cX12_addsWork 52 = .ok (.iload 5, 2) := by decide +kernel
theorem dX12_addsWork_54 : decode cX12_addsWork 54 = .ok (.iload 6, 2) := by decide +kernel
theorem dX12_addsWork_56 : decode cX12_addsWork 56 = .ok (.iconst (-1), 1) := by decide +kernel
theorem dX12_addsWork_57 : decode cX12_addsWork 57 = .ok (.ixor, 1) := by decide +kernel
theorem dX12_addsWork_58 : decode cX12_addsWork 58 = .ok (.iand, 1) := by decide +kernel
theorem dX12_addsWork_59 : decode cX12_addsWork 59 = .ok (.istore 7, 2) := by decide +kernel
theorem dX12_addsWork_61 : decode cX12_addsWork 61 = .ok (.iload 7, 2) := by decide +kernel
theorem dX12_addsWork_63 : decode cX12_addsWork 63 = .ok (.istore 8, 2) := by decide +kernel
theorem dX12_addsWork_65 : decode cX12_addsWork 65 = .ok (.iload 8, 2) := by decide +kernel
theorem dX12_addsWork_67 : decode cX12_addsWork 67 = .ok (.ifCond .le 39, 3) := by decide +kernel
theorem dX12_addsWork_70 : decode cX12_addsWork 70 = .ok (.aload_n 0, 1) := by decide +kernel
theorem dX12_addsWork_71 : decode cX12_addsWork 71 = .ok (.getfield 42, 3) := by decide +kernel
theorem dX12_addsWork_74 : decode cX12_addsWork 74 = .ok (.iload 8, 2) := by decide +kernel
theorem dX12_addsWork_76 : decode cX12_addsWork 76 = .ok (.baload, 1) := by decide +kernel
theorem dX12_addsWork_77 : decode cX12_addsWork 77 = .ok (.ifCond .eq 17, 3) := by decide +kernel
theorem dX12_addsWork_80 : decode cX12_addsWork 80 = .ok (.aload_n 0, 1) := by decide +kernel
theorem dX12_addsWork_81 : decode cX12_addsWork 81 = .ok (.getfield 39, 3) := by decide +kernel
theorem dX12_addsWork_84 : decode cX12_addsWork 84 = .ok (.iload 4, 2) := by decide +kernel
theorem dX12_addsWork_86 : decode cX12_addsWork 86 = .ok (.iload 6, 2) := by decide +kernel
theorem dX12_addsWork_88 : decode cX12_addsWork 88 = .ok (.iload 8, 2) := by decide +kernel
theorem dX12_addsWork_90 : decode cX12_addsWork 90 = .ok (.ior, 1) := by decide +kernel
theorem dX12_addsWork_91 : decode cX12_addsWork 91 = .ok (.iadd, 1) := by decide +kernel
theorem dX12_addsWork_92 : decode cX12_addsWork 92 = .ok (.iconst 1, 1) := by decide +kernel
theorem dX12_addsWork_93 : decode cX12_addsWork 93 = .ok (.bastore, 1) := by decide +kernel
theorem dX12_addsWork_94 : decode cX12_addsWork 94 = .ok (.iload 8, 2) := by decide +kernel
theorem dX12_addsWork_96 : decode cX12_addsWork 96 = .ok (.iconst 1, 1) := by decide +kernel
theorem dX12_addsWork_97 : decode cX12_addsWork 97 = .ok (.isub, 1) := by decide +kernel
theorem dX12_addsWork_98 : decode cX12_addsWork 98 = .ok (.iload 7, 2) := by decide +kernel
theorem dX12_addsWork_100 : decode cX12_addsWork 100 = .ok (.iand, 1) := by decide +kernel
theorem dX12_addsWork_101 : decode cX12_addsWork 101 = .ok (.istore 8, 2) := by decide +kernel
theorem dX12_addsWork_103 : decode cX12_addsWork 103 = .ok (.goto (-38), 3) := by decide +kernel
theorem dX12_addsWork_106 : decode cX12_addsWork 106 = .ok (.iinc 6 1, 3) := by decide +kernel
theorem dX12_addsWork_109 : decode cX12_addsWork 109 = .ok (.goto (-79), 3) := by decide +kernel
theorem dX12_addsWork_112 : decode cX12_addsWork 112 = .ok (.return_, 1) := by decide +kernel
theorem dX12_fewestOf_0 : decode cX12_fewestOf 0 = .ok (.ldc_w 266, 3) := by decide +kernel
theorem dX12_fewestOf_3 : decode cX12_fewestOf 3 = .ok (.istore_n 2, 1) := by decide +kernel
theorem dX12_fewestOf_4 : decode cX12_fewestOf 4 = .ok (.iconst 0, 1) := by decide +kernel
theorem dX12_fewestOf_5 : decode cX12_fewestOf 5 = .ok (.istore_n 3, 1) := by decide +kernel
theorem dX12_fewestOf_6 : decode cX12_fewestOf 6 = .ok (.iload_n 3, 1) := by decide +kernel
theorem dX12_fewestOf_7 : decode cX12_fewestOf 7 = .ok (.iconst 1, 1) := by decide +kernel
theorem dX12_fewestOf_8 : decode cX12_fewestOf 8 = .ok (.aload_n 0, 1) := by decide +kernel
theorem dX12_fewestOf_9 : decode cX12_fewestOf 9 = .ok (.getfield 211, 3) := by decide +kernel
theorem dX12_fewestOf_12 : decode cX12_fewestOf 12 = .ok (.ishl, 1) := by decide +kernel
theorem dX12_fewestOf_13 : decode cX12_fewestOf 13 = .ok (.if_icmp .ge 37, 3) := by decide +kernel
theorem dX12_fewestOf_16 : decode cX12_fewestOf 16 = .ok (.aload_n 0, 1) := by decide +kernel
theorem dX12_fewestOf_17 : decode cX12_fewestOf 17 = .ok (.getfield 39, 3) := by decide +kernel
theorem dX12_fewestOf_20 : decode cX12_fewestOf 20 = .ok (.sipush 1024, 3) := by decide +kernel
theorem dX12_fewestOf_23 : decode cX12_fewestOf 23 = .ok (.iload_n 1, 1) := by decide +kernel
theorem dX12_fewestOf_24 : decode cX12_fewestOf 24 = .ok (.imul, 1) := by decide +kernel
theorem dX12_fewestOf_25 : decode cX12_fewestOf 25 = .ok (.iload_n 3, 1) := by decide +kernel
theorem dX12_fewestOf_26 : decode cX12_fewestOf 26 = .ok (.iadd, 1) := by decide +kernel
theorem dX12_fewestOf_27 : decode cX12_fewestOf 27 = .ok (.baload, 1) := by decide +kernel
theorem dX12_fewestOf_28 : decode cX12_fewestOf 28 = .ok (.ifCond .eq 16, 3) := by decide +kernel
theorem dX12_fewestOf_31 : decode cX12_fewestOf 31 = .ok (.iload_n 3, 1) := by decide +kernel
theorem dX12_fewestOf_32 : decode cX12_fewestOf 32 = .ok (.invokestatic 183, 3) := by decide +kernel
theorem dX12_fewestOf_35 : decode cX12_fewestOf 35 = .ok (.iload_n 2, 1) := by decide +kernel
theorem dX12_fewestOf_36 : decode cX12_fewestOf 36 = .ok (.if_icmp .ge 8, 3) := by decide +kernel
theorem dX12_fewestOf_39 : decode cX12_fewestOf 39 = .ok (.iload_n 3, 1) := by decide +kernel
theorem dX12_fewestOf_40 : decode cX12_fewestOf 40 = .ok (.invokestatic 183, 3) := by decide +kernel
theorem dX12_fewestOf_43 : decode cX12_fewestOf 43 = .ok (.istore_n 2, 1) := by decide +kernel
theorem dX12_fewestOf_44 : decode cX12_fewestOf 44 = .ok (.iinc 3 1, 3) := by decide +kernel
theorem dX12_fewestOf_47 : decode cX12_fewestOf 47 = .ok (.goto (-41), 3) := by decide +kernel
theorem dX12_fewestOf_50 : decode cX12_fewestOf 50 = .ok (.iload_n 2, 1) := by decide +kernel
theorem dX12_fewestOf_51 : decode cX12_fewestOf 51 = .ok (.ireturn, 1) := by decide +kernel
theorem dX12_worths_0 : decode cX12_worths 0 = .ok (.iconst 0, 1) := by decide +kernel
theorem dX12_worths_1 : decode cX12_worths 1 = .ok (.istore_n 2, 1) := by decide +kernel
theorem dX12_worths_2 : decode cX12_worths 2 = .ok (.iconst 0, 1) := by decide +kernel
theorem dX12_worths_3 : decode cX12_worths 3 = .ok (.istore_n 3, 1) := by decide +kernel
theorem dX12_worths_4 : decode cX12_worths 4 = .ok (.iload_n 3, 1) := by decide +kernel
theorem dX12_worths_5 : decode cX12_worths 5 = .ok (.aload_n 0, 1) := by decide +kernel
theorem dX12_worths_6 : decode cX12_worths 6 = .ok (.getfield 214, 3) := by decide +kernel
theorem dX12_worths_9 : decode cX12_worths 9 = .ok (.if_icmp .ge 29, 3) := by decide +kernel
theorem dX12_worths_12 : decode cX12_worths 12 = .ok (.iload_n 2, 1) := by decide +kernel
theorem dX12_worths_13 : decode cX12_worths 13 = .ok (.iload_n 1, 1) := by decide +kernel
theorem dX12_worths_14 : decode cX12_worths 14 = .ok (.iload_n 3, 1) := by decide +kernel
theorem dX12_worths_15 : decode cX12_worths 15 = .ok (.invokestatic 235, 3) := by decide +kernel
theorem dX12_worths_18 : decode cX12_worths 18 = .ok (.ifCond .eq 11, 3) := by decide +kernel
theorem dX12_worths_21 : decode cX12_worths 21 = .ok (.aload_n 0, 1) := by decide +kernel
theorem dX12_worths_22 : decode cX12_worths 22 = .ok (.iload_n 3, 1) := by decide +kernel
theorem dX12_worths_23 : decode cX12_worths 23 = .ok (.invokevirtual 232, 3) := by decide +kernel
theorem dX12_worths_26 : decode cX12_worths 26 = .ok (.goto 4, 3) := by decide +kernel
theorem dX12_worths_29 : decode cX12_worths 29 = .ok (.iconst 0, 1) := by decide +kernel
theorem dX12_worths_30 : decode cX12_worths 30 = .ok (.iadd, 1) := by decide +kernel
theorem dX12_worths_31 : decode cX12_worths 31 = .ok (.istore_n 2, 1) := by decide +kernel
theorem dX12_worths_32 : decode cX12_worths 32 = .ok (.iinc 3 1, 3) := by decide +kernel
theorem dX12_worths_35 : decode cX12_worths 35 = .ok (.goto (-31), 3) := by decide +kernel
theorem dX12_worths_38 : decode cX12_worths 38 = .ok (.iload_n 2, 1) := by decide +kernel
theorem dX12_worths_39 : decode cX12_worths 39 = .ok (.ireturn, 1) := by decide +kernel
theorem dX12_plan_0 : decode cX12_plan 0 = .ok (.aload_n 0, 1) := by decide +kernel
theorem dX12_plan_1 : decode cX12_plan 1 = .ok (.iload_n 1, 1) := by decide +kernel
theorem dX12_plan_2 : decode cX12_plan 2 = .ok (.invokevirtual 220, 3) := by decide +kernel
theorem dX12_plan_5 : decode cX12_plan 5 = .ok (.ifCond .eq 22, 3) := by decide +kernel
theorem dX12_plan_8 : decode cX12_plan 8 = .ok (.iload_n 2, 1) := by decide +kernel
theorem dX12_plan_9 : decode cX12_plan 9 = .ok (.iconst 1, 1) := by decide +kernel
theorem dX12_plan_10 : decode cX12_plan 10 = .ok (.bipush 9, 2) := by decide +kernel
theorem dX12_plan_12 : decode cX12_plan 12 = .ok (.invokestatic 146, 3) := by decide +kernel
theorem dX12_plan_15 : decode cX12_plan 15 = .ok (.ifCond .eq 12, 3) := by decide +kernel
theorem dX12_plan_18 : decode cX12_plan 18 = .ok (.iload_n 3, 1) := by decide +kernel
theorem dX12_plan_19 : decode cX12_plan 19 = .ok (.iconst 0, 1) := by decide +kernel
theorem dX12_plan_20 : decode cX12_plan 20 = .ok (.iconst 2, 1) := by decide +kernel
theorem dX12_plan_21 : decode cX12_plan 21 = .ok (.invokestatic 146, 3) := by decide +kernel
theorem dX12_plan_24 : decode cX12_plan 24 = .ok (.ifCond .ne 5, 3) := by decide +kernel
theorem dX12_plan_27 : decode cX12_plan 27 = .ok (.iconst (-1), 1) := by decide +kernel
theorem dX12_plan_28 : decode cX12_plan 28 = .ok (.ireturn, 1) := by decide +kernel
theorem dX12_plan_29 : decode cX12_plan 29 = .ok (.aload_n 0, 1) := by decide +kernel
theorem dX12_plan_30 : decode cX12_plan 30 = .ok (.iload_n 2, 1) := by decide +kernel
theorem dX12_plan_31 : decode cX12_plan 31 = .ok (.invokevirtual 291, 3) := by decide +kernel
theorem dX12_plan_34 : decode cX12_plan 34 = .ok (.iconst 0, 1) := by decide +kernel
theorem dX12_plan_35 : decode cX12_plan 35 = .ok (.istore 4, 2) := by decide +kernel
theorem dX12_plan_37 : decode cX12_plan 37 = .ok (.iconst 1, 1) := by decide +kernel
theorem dX12_plan_38 : decode cX12_plan 38 = .ok (.istore 5, 2) := by decide +kernel
theorem dX12_plan_40 : decode cX12_plan 40 = .ok (.iload 5, 2) := by decide +kernel
theorem dX12_plan_42 : decode cX12_plan 42 = .ok (.iconst 1, 1) := by decide +kernel
theorem dX12_plan_43 : decode cX12_plan 43 = .ok (.aload_n 0, 1) := by decide +kernel
theorem dX12_plan_44 : decode cX12_plan 44 = .ok (.getfield 214, 3) := by decide +kernel
theorem dX12_plan_47 : decode cX12_plan 47 = .ok (.ishl, 1) := by decide +kernel
theorem dX12_plan_48 : decode cX12_plan 48 = .ok (.if_icmp .ge 40, 3) := by decide +kernel
theorem dX12_plan_51 : decode cX12_plan 51 = .ok (.aload_n 0, 1) := by decide +kernel
theorem dX12_plan_52 : decode cX12_plan 52 = .ok (.iload 5, 2) := by decide +kernel
theorem dX12_plan_54 : decode cX12_plan 54 = .ok (.invokevirtual 294, 3) := by decide +kernel
theorem dX12_plan_57 : decode cX12_plan 57 = .ok (.aload_n 0, 1) := by decide +kernel
theorem dX12_plan_58 : decode cX12_plan 58 = .ok (.iload 4, 2) := by decide +kernel
theorem dX12_plan_60 : decode cX12_plan 60 = .ok (.invokevirtual 294, 3) := by decide +kernel
theorem dX12_plan_63 : decode cX12_plan 63 = .ok (.if_icmp .le 19, 3) := by decide +kernel
theorem dX12_plan_66 : decode cX12_plan 66 = .ok (.aload_n 0, 1) := by decide +kernel
theorem dX12_plan_67 : decode cX12_plan 67 = .ok (.iload 5, 2) := by decide +kernel
theorem dX12_plan_69 : decode cX12_plan 69 = .ok (.invokevirtual 297, 3) := by decide +kernel
theorem dX12_plan_72 : decode cX12_plan 72 = .ok (.ldc_w 266, 3) := by decide +kernel
theorem dX12_plan_75 : decode cX12_plan 75 = .ok (.if_icmp .ge 7, 3) := by decide +kernel
theorem dX12_plan_78 : decode cX12_plan 78 = .ok (.iload 5, 2) := by decide +kernel
theorem dX12_plan_80 : decode cX12_plan 80 = .ok (.istore 4, 2) := by decide +kernel
theorem dX12_plan_82 : decode cX12_plan 82 = .ok (.iinc 5 1, 3) := by decide +kernel
theorem dX12_plan_85 : decode cX12_plan 85 = .ok (.goto (-45), 3) := by decide +kernel
theorem dX12_plan_88 : decode cX12_plan 88 = .ok (.iload_n 3, 1) := by decide +kernel
theorem dX12_plan_89 : decode cX12_plan 89 = .ok (.ifCond .ne 12, 3) := by decide +kernel
theorem dX12_plan_92 : decode cX12_plan 92 = .ok (.aload_n 0, 1) := by decide +kernel
theorem dX12_plan_93 : decode cX12_plan 93 = .ok (.iload 4, 2) := by decide +kernel
theorem dX12_plan_95 : decode cX12_plan 95 = .ok (.invokevirtual 294, 3) := by decide +kernel
theorem dX12_plan_98 : decode cX12_plan 98 = .ok (.goto 19, 3) := by decide +kernel
theorem dX12_plan_101 : decode cX12_plan 101 = .ok (.iload_n 3, 1) := by decide +kernel
theorem dX12_plan_102 : decode cX12_plan 102 = .ok (.iconst 1, 1) := by decide +kernel
theorem dX12_plan_103 : decode cX12_plan 103 = .ok (.if_icmp .ne 8, 3) := by decide +kernel
theorem dX12_plan_106 : decode cX12_plan 106 = .ok (.iload 4, 2) := by decide +kernel
theorem dX12_plan_108 : decode cX12_plan 108 = .ok (.goto 9, 3) := by decide +kernel
theorem dX12_plan_111 : decode cX12_plan 111 = .ok (.aload_n 0, 1) := by decide +kernel
theorem dX12_plan_112 : decode cX12_plan 112 = .ok (.iload 4, 2) := by decide +kernel
theorem dX12_plan_114 : decode cX12_plan 114 = .ok (.invokevirtual 297, 3) := by decide +kernel
theorem dX12_plan_117 : decode cX12_plan 117 = .ok (.ireturn, 1) := by decide +kernel
theorem dX12_common_0 : decode cX12_common 0 = .ok (.lload_n 0, 1) := by decide +kernel
theorem dX12_common_1 : decode cX12_common 1 = .ok (.lstore 4, 2) := by decide +kernel
theorem dX12_common_3 : decode cX12_common 3 = .ok (.lload_n 2, 1) := by decide +kernel
theorem dX12_common_4 : decode cX12_common 4 = .ok (.lstore 6, 2) := by decide +kernel
theorem dX12_common_6 : decode cX12_common 6 = .ok (.lload 6, 2) := by decide +kernel
theorem dX12_common_8 : decode cX12_common 8 = .ok (.lconst 0, 1) := by decide +kernel
theorem dX12_common_9 : decode cX12_common 9 = .ok (.lcmp, 1) := by decide +kernel
theorem dX12_common_10 : decode cX12_common 10 = .ok (.ifCond .eq 21, 3) := by decide +kernel
theorem dX12_common_13 : decode cX12_common 13 = .ok (.lload 4, 2) := by decide +kernel
theorem dX12_common_15 : decode cX12_common 15 = .ok (.lload 6, 2) := by decide +kernel
theorem dX12_common_17 : decode cX12_common 17 = .ok (.lrem, 1) := by decide +kernel
theorem dX12_common_18 : decode cX12_common 18 = .ok (.lstore 8, 2) := by decide +kernel
theorem dX12_common_20 : decode cX12_common 20 = .ok (.lload 6, 2) := by decide +kernel
theorem dX12_common_22 : decode cX12_common 22 = .ok (.lstore 4, 2) := by decide +kernel
theorem dX12_common_24 : decode cX12_common 24 = .ok (.lload 8, 2) := by decide +kernel
theorem dX12_common_26 : decode cX12_common 26 = .ok (.lstore 6, 2) := by decide +kernel
theorem dX12_common_28 : decode cX12_common 28 = .ok (.goto (-22), 3) := by decide +kernel
theorem dX12_common_31 : decode cX12_common 31 = .ok (.lload 4, 2) := by decide +kernel
theorem dX12_common_33 : decode cX12_common 33 = .ok (.lreturn, 1) := by decide +kernel
theorem dX12_parted_0 : decode cX12_parted 0 = .ok (.iload 4, 2) := by decide +kernel
theorem dX12_parted_2 : decode cX12_parted 2 = .ok (.ifCond .eq 7, 3) := by decide +kernel
theorem dX12_parted_5 : decode cX12_parted 5 = .ok (.lload_n 2, 1) := by decide +kernel
theorem dX12_parted_6 : decode cX12_parted 6 = .ok (.goto 4, 3) := by decide +kernel
theorem dX12_parted_9 : decode cX12_parted 9 = .ok (.lload_n 0, 1) := by decide +kernel
theorem dX12_parted_10 : decode cX12_parted 10 = .ok (.lload_n 0, 1) := by decide +kernel
theorem dX12_parted_11 : decode cX12_parted 11 = .ok (.lload_n 2, 1) := by decide +kernel
theorem dX12_parted_12 : decode cX12_parted 12 = .ok (.invokestatic 300, 3) := by decide +kernel
theorem dX12_parted_15 : decode cX12_parted 15 = .ok (.ldiv, 1) := by decide +kernel
theorem dX12_parted_16 : decode cX12_parted 16 = .ok (.lreturn, 1) := by decide +kernel
theorem dX12_tens_0 : decode cX12_tens 0 = .ok (.lconst 1, 1) := by decide +kernel
theorem dX12_tens_1 : decode cX12_tens 1 = .ok (.lstore_n 1, 1) := by decide +kernel
theorem dX12_tens_2 : decode cX12_tens 2 = .ok (.iconst 0, 1) := by decide +kernel
theorem dX12_tens_3 : decode cX12_tens 3 = .ok (.istore_n 3, 1) := by decide +kernel
theorem dX12_tens_4 : decode cX12_tens 4 = .ok (.iload_n 3, 1) := by decide +kernel
theorem dX12_tens_5 : decode cX12_tens 5 = .ok (.iload_n 0, 1) := by decide +kernel
theorem dX12_tens_6 : decode cX12_tens 6 = .ok (.if_icmp .ge 15, 3) := by decide +kernel
theorem dX12_tens_9 : decode cX12_tens 9 = .ok (.lload_n 1, 1) := by decide +kernel
theorem dX12_tens_10 : decode cX12_tens 10 = .ok (.ldc2_w 304, 3) := by decide +kernel
theorem dX12_tens_13 : decode cX12_tens 13 = .ok (.lmul, 1) := by decide +kernel
theorem dX12_tens_14 : decode cX12_tens 14 = .ok (.lstore_n 1, 1) := by decide +kernel
theorem dX12_tens_15 : decode cX12_tens 15 = .ok (.iinc 3 1, 3) := by decide +kernel
theorem dX12_tens_18 : decode cX12_tens 18 = .ok (.goto (-14), 3) := by decide +kernel
theorem dX12_tens_21 : decode cX12_tens 21 = .ok (.lload_n 1, 1) := by decide +kernel
theorem dX12_tens_22 : decode cX12_tens 22 = .ok (.lreturn, 1) := by decide +kernel
theorem dX12_odds_0 : decode cX12_odds 0 = .ok (.aload_n 0, 1) := by decide +kernel
theorem dX12_odds_1 : decode cX12_odds 1 = .ok (.iload_n 1, 1) := by decide +kernel
theorem dX12_odds_2 : decode cX12_odds 2 = .ok (.iload_n 2, 1) := by decide +kernel
theorem dX12_odds_3 : decode cX12_odds 3 = .ok (.iload_n 3, 1) := by decide +kernel
theorem dX12_odds_4 : decode cX12_odds 4 = .ok (.iload 4, 2) := by decide +kernel
theorem dX12_odds_6 : decode cX12_odds 6 = .ok (.invokevirtual 250, 3) := by decide +kernel
theorem dX12_odds_9 : decode cX12_odds 9 = .ok (.ifCond .ne 7, 3) := by decide +kernel
theorem dX12_odds_12 : decode cX12_odds 12 = .ok (.ldc2_w 306, 3) := by decide +kernel
theorem dX12_odds_15 : decode cX12_odds 15 = .ok (.lreturn, 1) := by decide +kernel
theorem dX12_odds_16 : decode cX12_odds 16 = .ok (.aload_n 0, 1) := by decide +kernel
theorem dX12_odds_17 : decode cX12_odds 17 = .ok (.iload_n 2, 1) := by decide +kernel
theorem dX12_odds_18 : decode cX12_odds 18 = .ok (.invokevirtual 244, 3) := by decide +kernel
theorem dX12_odds_21 : decode cX12_odds 21 = .ok (.istore 6, 2) := by decide +kernel
theorem dX12_odds_23 : decode cX12_odds 23 = .ok (.lconst 0, 1) := by decide +kernel
theorem dX12_odds_24 : decode cX12_odds 24 = .ok (.lstore 7, 2) := by decide +kernel
theorem dX12_odds_26 : decode cX12_odds 26 = .ok (.iload 6, 2) := by decide +kernel
theorem dX12_odds_28 : decode cX12_odds 28 = .ok (.istore 9, 2) := by decide +kernel
theorem dX12_odds_30 : decode cX12_odds 30 = .ok (.iload 9, 2) := by decide +kernel
theorem dX12_odds_32 : decode cX12_odds 32 = .ok (.ifCond .lt 120, 3) := by decide +kernel
theorem dX12_odds_35 : decode cX12_odds 35 = .ok (.iload 9, 2) := by decide +kernel
theorem dX12_odds_37 : decode cX12_odds 37 = .ok (.iload 6, 2) := by decide +kernel
theorem dX12_odds_39 : decode cX12_odds 39 = .ok (.iconst (-1), 1) := by decide +kernel
theorem dX12_odds_40 : decode cX12_odds 40 = .ok (.ixor, 1) := by decide +kernel
theorem dX12_odds_41 : decode cX12_odds 41 = .ok (.iand, 1) := by decide +kernel
theorem dX12_odds_42 : decode cX12_odds 42 = .ok (.ifCond .ne 104, 3) := by decide +kernel
theorem dX12_odds_45 : decode cX12_odds 45 = .ok (.iload 4, 2) := by decide +kernel
theorem dX12_odds_47 : decode cX12_odds 47 = .ok (.aload_n 0, 1) := by decide +kernel
theorem dX12_odds_48 : decode cX12_odds 48 = .ok (.iload 9, 2) := by decide +kernel
theorem dX12_odds_50 : decode cX12_odds 50 = .ok (.iconst (-1), 1) := by decide +kernel
theorem dX12_odds_51 : decode cX12_odds 51 = .ok (.invokevirtual 247, 3) := by decide +kernel
theorem dX12_odds_54 : decode cX12_odds 54 = .ok (.imul, 1) := by decide +kernel
theorem dX12_odds_55 : decode cX12_odds 55 = .ok (.aload_n 0, 1) := by decide +kernel
theorem dX12_odds_56 : decode cX12_odds 56 = .ok (.iload_n 3, 1) := by decide +kernel
theorem dX12_odds_57 : decode cX12_odds 57 = .ok (.invokevirtual 229, 3) := by decide +kernel
theorem dX12_odds_60 : decode cX12_odds 60 = .ok (.if_icmp .ge 6, 3) := by decide +kernel
theorem dX12_odds_63 : decode cX12_odds 63 = .ok (.goto 83, 3) := by decide +kernel
theorem dX12_odds_66 : decode cX12_odds 66 = .ok (.lconst 1, 1) := by decide +kernel
theorem dX12_odds_67 : decode cX12_odds 67 = .ok (.lstore 10, 2) := by decide +kernel
theorem dX12_odds_69 : decode cX12_odds 69 = .ok (.iconst 0, 1) := by decide +kernel
theorem dX12_odds_70 : decode cX12_odds 70 = .ok (.istore 12, 2) := by decide +kernel
theorem dX12_odds_72 : decode cX12_odds 72 = .ok (.iload 12, 2) := by decide +kernel
theorem dX12_odds_74 : decode cX12_odds 74 = .ok (.aload_n 0, 1) := by decide +kernel
theorem dX12_odds_75 : decode cX12_odds 75 = .ok (.getfield 211, 3) := by decide +kernel
theorem dX12_odds_78 : decode cX12_odds 78 = .ok (.if_icmp .ge 61, 3) := by decide +kernel
theorem dX12_odds_81 : decode cX12_odds 81 = .ok (.aload_n 0, 1) := by decide +kernel
theorem dX12_odds_82 : decode cX12_odds 82 = .ok (.iload 12, 2) := by decide +kernel
theorem dX12_odds_84 : decode cX12_odds 84 = .ok (.invokevirtual 217, 3) := by decide +kernel
theorem dX12_odds_87 : decode cX12_odds 87 = .ok (.bipush 10, 2) := by decide +kernel
theorem dX12_odds_89 : decode cX12_odds 89 = .ok (.idiv, 1) := by decide +kernel
theorem dX12_odds_90 : decode cX12_odds 90 = .ok (.istore 13, 2) := by decide +kernel
theorem dX12_odds_92 : decode cX12_odds 92 = .ok (.lload 10, 2) := by decide +kernel
theorem dX12_odds_94 : decode cX12_odds 94 = .ok (.iload 6, 2) := by decide +kernel
theorem dX12_odds_96 : decode cX12_odds 96 = .ok (.iload 12, 2) := by decide +kernel
theorem dX12_odds_98 : decode cX12_odds 98 = .ok (.invokestatic 235, 3) := by decide +kernel
theorem dX12_odds_101 : decode cX12_odds 101 = .ok (.ifCond .ne 7, 3) := by decide +kernel
theorem dX12_odds_104 : decode cX12_odds 104 = .ok (.lconst 1, 1) := by decide +kernel
theorem dX12_odds_105 : decode cX12_odds 105 = .ok (.goto 25, 3) := by decide +kernel
theorem dX12_odds_108 : decode cX12_odds 108 = .ok (.iload 9, 2) := by decide +kernel
theorem dX12_odds_110 : decode cX12_odds 110 = .ok (.iload 12, 2) := by decide +kernel
theorem dX12_odds_112 : decode cX12_odds 112 = .ok (.invokestatic 235, 3) := by decide +kernel
theorem dX12_odds_115 : decode cX12_odds 115 = .ok (.ifCond .eq 12, 3) := by decide +kernel
theorem dX12_odds_118 : decode cX12_odds 118 = .ok (.bipush 10, 2) := by decide +kernel
theorem dX12_odds_120 : decode cX12_odds 120 = .ok (.iload 13, 2) := by decide +kernel
theorem dX12_odds_122 : decode cX12_odds 122 = .ok (.isub, 1) := by decide +kernel
theorem dX12_odds_123 : decode cX12_odds 123 = .ok (.i2l, 1) := by decide +kernel
theorem dX12_odds_124 : decode cX12_odds 124 = .ok (.goto 6, 3) := by decide +kernel
theorem dX12_odds_127 : decode cX12_odds 127 = .ok (.iload 13, 2) := by decide +kernel
theorem dX12_odds_129 : decode cX12_odds 129 = .ok (.i2l, 1) := by decide +kernel
theorem dX12_odds_130 : decode cX12_odds 130 = .ok (.lmul, 1) := by decide +kernel
theorem dX12_odds_131 : decode cX12_odds 131 = .ok (.lstore 10, 2) := by decide +kernel
theorem dX12_odds_133 : decode cX12_odds 133 = .ok (.iinc 12 1, 3) := by decide +kernel
theorem dX12_odds_136 : decode cX12_odds 136 = .ok (.goto (-64), 3) := by decide +kernel
theorem dX12_odds_139 : decode cX12_odds 139 = .ok (.lload 7, 2) := by decide +kernel
theorem dX12_odds_141 : decode cX12_odds 141 = .ok (.lload 10, 2) := by decide +kernel
theorem dX12_odds_143 : decode cX12_odds 143 = .ok (.ladd, 1) := by decide +kernel
theorem dX12_odds_144 : decode cX12_odds 144 = .ok (.lstore 7, 2) := by decide +kernel
theorem dX12_odds_146 : decode cX12_odds 146 = .ok (.iinc 9 (-1), 3) := by decide +kernel
theorem dX12_odds_149 : decode cX12_odds 149 = .ok (.goto (-119), 3) := by decide +kernel
theorem dX12_odds_152 : decode cX12_odds 152 = .ok (.lload 7, 2) := by decide +kernel
theorem dX12_odds_154 : decode cX12_odds 154 = .ok (.iload 6, 2) := by decide +kernel
theorem dX12_odds_156 : decode cX12_odds 156 = .ok (.invokestatic 183, 3) := by decide +kernel
theorem dX12_odds_159 : decode cX12_odds 159 = .ok (.invokestatic 308, 3) := by decide +kernel
theorem dX12_odds_162 : decode cX12_odds 162 = .ok (.iload 5, 2) := by decide +kernel
theorem dX12_odds_164 : decode cX12_odds 164 = .ok (.invokestatic 312, 3) := by decide +kernel
theorem dX12_odds_167 : decode cX12_odds 167 = .ok (.lreturn, 1) := by decide +kernel
theorem dX12_rowsOf_0 : decode cX12_rowsOf 0 = .ok (.lconst 1, 1) := by decide +kernel
theorem dX12_rowsOf_1 : decode cX12_rowsOf 1 = .ok (.lstore_n 1, 1) := by decide +kernel
theorem dX12_rowsOf_2 : decode cX12_rowsOf 2 = .ok (.iconst 2, 1) := by decide +kernel
theorem dX12_rowsOf_3 : decode cX12_rowsOf 3 = .ok (.istore_n 3, 1) := by decide +kernel
theorem dX12_rowsOf_4 : decode cX12_rowsOf 4 = .ok (.iload_n 3, 1) := by decide +kernel
theorem dX12_rowsOf_5 : decode cX12_rowsOf 5 = .ok (.iload_n 0, 1) := by decide +kernel
theorem dX12_rowsOf_6 : decode cX12_rowsOf 6 = .ok (.if_icmp .gt 14, 3) := by decide +kernel
theorem dX12_rowsOf_9 : decode cX12_rowsOf 9 = .ok (.lload_n 1, 1) := by decide +kernel
theorem dX12_rowsOf_10 : decode cX12_rowsOf 10 = .ok (.iload_n 3, 1) := by decide +kernel
theorem dX12_rowsOf_11 : decode cX12_rowsOf 11 = .ok (.i2l, 1) := by decide +kernel
theorem dX12_rowsOf_12 : decode cX12_rowsOf 12 = .ok (.lmul, 1) := by decide +kernel
theorem dX12_rowsOf_13 : decode cX12_rowsOf 13 = .ok (.lstore_n 1, 1) := by decide +kernel
theorem dX12_rowsOf_14 : decode cX12_rowsOf 14 = .ok (.iinc 3 1, 3) := by decide +kernel
theorem dX12_rowsOf_17 : decode cX12_rowsOf 17 = .ok (.goto (-13), 3) := by decide +kernel
theorem dX12_rowsOf_20 : decode cX12_rowsOf 20 = .ok (.lload_n 1, 1) := by decide +kernel
theorem dX12_rowsOf_21 : decode cX12_rowsOf 21 = .ok (.lreturn, 1) := by decide +kernel
theorem dX12_power_0 : decode cX12_power 0 = .ok (.aload_n 0, 1) := by decide +kernel
theorem dX12_power_1 : decode cX12_power 1 = .ok (.iload_n 1, 1) := by decide +kernel
theorem dX12_power_2 : decode cX12_power 2 = .ok (.iload_n 2, 1) := by decide +kernel
theorem dX12_power_3 : decode cX12_power 3 = .ok (.iload_n 3, 1) := by decide +kernel
theorem dX12_power_4 : decode cX12_power 4 = .ok (.iload 4, 2) := by decide +kernel
theorem dX12_power_6 : decode cX12_power 6 = .ok (.invokevirtual 250, 3) := by decide +kernel
theorem dX12_power_9 : decode cX12_power 9 = .ok (.ifCond .eq 25, 3) := by decide +kernel
theorem dX12_power_12 : decode cX12_power 12 = .ok (.aload_n 0, 1) := by decide +kernel
theorem dX12_power_13 : decode cX12_power 13 = .ok (.iload 5, 2) := by decide +kernel
theorem dX12_power_15 : decode cX12_power 15 = .ok (.invokevirtual 223, 3) := by decide +kernel
theorem dX12_power_18 : decode cX12_power 18 = .ok (.ifCond .eq 16, 3) := by decide +kernel
theorem dX12_power_21 : decode cX12_power 21 = .ok (.aload_n 0, 1) := by decide +kernel
theorem dX12_power_22 : decode cX12_power 22 = .ok (.iload_n 2, 1) := by decide +kernel
theorem dX12_power_23 : decode cX12_power 23 = .ok (.invokevirtual 244, 3) := by decide +kernel
theorem dX12_power_26 : decode cX12_power 26 = .ok (.iload 5, 2) := by decide +kernel
theorem dX12_power_28 : decode cX12_power 28 = .ok (.invokestatic 235, 3) := by decide +kernel
theorem dX12_power_31 : decode cX12_power 31 = .ok (.ifCond .ne 7, 3) := by decide +kernel
theorem dX12_power_34 : decode cX12_power 34 = .ok (.ldc2_w 306, 3) := by decide +kernel
theorem dX12_power_37 : decode cX12_power 37 = .ok (.lreturn, 1) := by decide +kernel
theorem dX12_power_38 : decode cX12_power 38 = .ok (.aload_n 0, 1) := by decide +kernel
theorem dX12_power_39 : decode cX12_power 39 = .ok (.iload_n 2, 1) := by decide +kernel
theorem dX12_power_40 : decode cX12_power 40 = .ok (.invokevirtual 244, 3) := by decide +kernel
theorem dX12_power_43 : decode cX12_power 43 = .ok (.iconst 1, 1) := by decide +kernel
theorem dX12_power_44 : decode cX12_power 44 = .ok (.iload 5, 2) := by decide +kernel
theorem dX12_power_46 : decode cX12_power 46 = .ok (.ishl, 1) := by decide +kernel
theorem dX12_power_47 : decode cX12_power 47 = .ok (.iconst (-1), 1) := by decide +kernel
theorem dX12_power_48 : decode cX12_power 48 = .ok (.ixor, 1) := by decide +kernel
theorem dX12_power_49 : decode cX12_power 49 = .ok (.iand, 1) := by decide +kernel
theorem dX12_power_50 : decode cX12_power 50 = .ok (.istore 7, 2) := by decide +kernel
theorem dX12_power_52 : decode cX12_power 52 = .ok (.lconst 0, 1) := by decide +kernel
theorem dX12_power_53 : decode cX12_power 53 = .ok (.lstore 8, 2) := by decide +kernel
theorem dX12_power_55 : decode cX12_power 55 = .ok (.iload 7, 2) := by decide +kernel
theorem dX12_power_57 : decode cX12_power 57 = .ok (.istore 10, 2) := by decide +kernel
theorem dX12_power_59 : decode cX12_power 59 = .ok (.iload 10, 2) := by decide +kernel
theorem dX12_power_61 : decode cX12_power 61 = .ok (.ifCond .lt 107, 3) := by decide +kernel
theorem dX12_power_64 : decode cX12_power 64 = .ok (.iload 10, 2) := by decide +kernel
theorem dX12_power_66 : decode cX12_power 66 = .ok (.iload 7, 2) := by decide +kernel
theorem dX12_power_68 : decode cX12_power 68 = .ok (.iconst (-1), 1) := by decide +kernel
theorem dX12_power_69 : decode cX12_power 69 = .ok (.ixor, 1) := by decide +kernel
theorem dX12_power_70 : decode cX12_power 70 = .ok (.iand, 1) := by decide +kernel
theorem dX12_power_71 : decode cX12_power 71 = .ok (.ifCond .eq 6, 3) := by decide +kernel
theorem dX12_power_74 : decode cX12_power 74 = .ok (.goto 88, 3) := by decide +kernel
theorem dX12_power_77 : decode cX12_power 77 = .ok (.iload 4, 2) := by decide +kernel
theorem dX12_power_79 : decode cX12_power 79 = .ok (.aload_n 0, 1) := by decide +kernel
theorem dX12_power_80 : decode cX12_power 80 = .ok (.iload 10, 2) := by decide +kernel
theorem dX12_power_82 : decode cX12_power 82 = .ok (.iconst (-1), 1) := by decide +kernel
theorem dX12_power_83 : decode cX12_power 83 = .ok (.invokevirtual 247, 3) := by decide +kernel
theorem dX12_power_86 : decode cX12_power 86 = .ok (.imul, 1) := by decide +kernel
theorem dX12_power_87 : decode cX12_power 87 = .ok (.aload_n 0, 1) := by decide +kernel
theorem dX12_power_88 : decode cX12_power 88 = .ok (.iload_n 3, 1) := by decide +kernel
theorem dX12_power_89 : decode cX12_power 89 = .ok (.invokevirtual 229, 3) := by decide +kernel
theorem dX12_power_92 : decode cX12_power 92 = .ok (.if_icmp .ge 30, 3) := by decide +kernel
theorem dX12_power_95 : decode cX12_power 95 = .ok (.iload 4, 2) := by decide +kernel
theorem dX12_power_97 : decode cX12_power 97 = .ok (.aload_n 0, 1) := by decide +kernel
theorem dX12_power_98 : decode cX12_power 98 = .ok (.iload 10, 2) := by decide +kernel
theorem dX12_power_100 : decode cX12_power 100 = .ok (.iconst 1, 1) := by decide +kernel
theorem dX12_power_101 : decode cX12_power 101 = .ok (.iload 5, 2) := by decide +kernel
theorem dX12_power_103 : decode cX12_power 103 = .ok (.ishl, 1) := by decide +kernel
theorem dX12_power_104 : decode cX12_power 104 = .ok (.ior, 1) := by decide +kernel
theorem dX12_power_105 : decode cX12_power 105 = .ok (.iconst (-1), 1) := by decide +kernel
theorem dX12_power_106 : decode cX12_power 106 = .ok (.invokevirtual 247, 3) := by decide +kernel
theorem dX12_power_109 : decode cX12_power 109 = .ok (.imul, 1) := by decide +kernel
theorem dX12_power_110 : decode cX12_power 110 = .ok (.aload_n 0, 1) := by decide +kernel
theorem dX12_power_111 : decode cX12_power 111 = .ok (.iload_n 3, 1) := by decide +kernel
theorem dX12_power_112 : decode cX12_power 112 = .ok (.invokevirtual 229, 3) := by decide +kernel
theorem dX12_power_115 : decode cX12_power 115 = .ok (.if_icmp .lt 7, 3) := by decide +kernel
theorem dX12_power_118 : decode cX12_power 118 = .ok (.iconst 1, 1) := by decide +kernel
theorem dX12_power_119 : decode cX12_power 119 = .ok (.goto 4, 3) := by decide +kernel
theorem dX12_power_122 : decode cX12_power 122 = .ok (.iconst 0, 1) := by decide +kernel
theorem dX12_power_123 : decode cX12_power 123 = .ok (.istore 11, 2) := by decide +kernel
theorem dX12_power_125 : decode cX12_power 125 = .ok (.lload 8, 2) := by decide +kernel
theorem dX12_power_127 : decode cX12_power 127 = .ok (.iload 11, 2) := by decide +kernel
theorem dX12_power_129 : decode cX12_power 129 = .ok (.ifCond .eq 29, 3) := by decide +kernel
theorem dX12_power_132 : decode cX12_power 132 = .ok (.iload 10, 2) := by decide +kernel
theorem dX12_power_134 : decode cX12_power 134 = .ok (.invokestatic 183, 3) := by decide +kernel
theorem dX12_power_137 : decode cX12_power 137 = .ok (.invokestatic 316, 3) := by decide +kernel
theorem dX12_power_140 : decode cX12_power 140 = .ok (.iload 7, 2) := by decide +kernel
theorem dX12_power_142 : decode cX12_power 142 = .ok (.invokestatic 183, 3) := by decide +kernel
theorem dX12_power_145 : decode cX12_power 145 = .ok (.iload 10, 2) := by decide +kernel
theorem dX12_power_147 : decode cX12_power 147 = .ok (.invokestatic 183, 3) := by decide +kernel
theorem dX12_power_150 : decode cX12_power 150 = .ok (.isub, 1) := by decide +kernel
theorem dX12_power_151 : decode cX12_power 151 = .ok (.invokestatic 316, 3) := by decide +kernel
theorem dX12_power_154 : decode cX12_power 154 = .ok (.lmul, 1) := by decide +kernel
theorem dX12_power_155 : decode cX12_power 155 = .ok (.goto 4, 3) := by decide +kernel
theorem dX12_power_158 : decode cX12_power 158 = .ok (.lconst 0, 1) := by decide +kernel
theorem dX12_power_159 : decode cX12_power 159 = .ok (.ladd, 1) := by decide +kernel
theorem dX12_power_160 : decode cX12_power 160 = .ok (.lstore 8, 2) := by decide +kernel
theorem dX12_power_162 : decode cX12_power 162 = .ok (.iinc 10 (-1), 3) := by decide +kernel
theorem dX12_power_165 : decode cX12_power 165 = .ok (.goto (-106), 3) := by decide +kernel
theorem dX12_power_168 : decode cX12_power 168 = .ok (.lload 8, 2) := by decide +kernel
theorem dX12_power_170 : decode cX12_power 170 = .ok (.iload 7, 2) := by decide +kernel
theorem dX12_power_172 : decode cX12_power 172 = .ok (.invokestatic 183, 3) := by decide +kernel
theorem dX12_power_175 : decode cX12_power 175 = .ok (.iconst 1, 1) := by decide +kernel
theorem dX12_power_176 : decode cX12_power 176 = .ok (.iadd, 1) := by decide +kernel
theorem dX12_power_177 : decode cX12_power 177 = .ok (.invokestatic 316, 3) := by decide +kernel
theorem dX12_power_180 : decode cX12_power 180 = .ok (.iload 6, 2) := by decide +kernel
theorem dX12_power_182 : decode cX12_power 182 = .ok (.invokestatic 312, 3) := by decide +kernel
theorem dX12_power_185 : decode cX12_power 185 = .ok (.lreturn, 1) := by decide +kernel
theorem dX12_laysKin_0 : decode cX12_laysKin 0 = .ok (.iconst 0, 1) := by decide +kernel
theorem dX12_laysKin_1 : decode cX12_laysKin 1 = .ok (.istore_n 1, 1) := by decide +kernel
theorem dX12_laysKin_2 : decode cX12_laysKin 2 = .ok (.iload_n 1, 1) := by decide +kernel
theorem dX12_laysKin_3 : decode cX12_laysKin 3 = .ok (.aload_n 0, 1) := by decide +kernel
theorem dX12_laysKin_4 : decode cX12_laysKin 4 = .ok (.getfield 211, 3) := by decide +kernel
theorem dX12_laysKin_7 : decode cX12_laysKin 7 = .ok (.if_icmp .ge 173, 3) := by decide +kernel
theorem dX12_laysKin_10 : decode cX12_laysKin 10 = .ok (.iconst 0, 1) := by decide +kernel
theorem dX12_laysKin_11 : decode cX12_laysKin 11 = .ok (.istore_n 2, 1) := by decide +kernel
theorem dX12_laysKin_12 : decode cX12_laysKin 12 = .ok (.iload_n 2, 1) := by decide +kernel
theorem dX12_laysKin_13 : decode cX12_laysKin 13 = .ok (.iload_n 1, 1) := by decide +kernel
theorem dX12_laysKin_14 : decode cX12_laysKin 14 = .ok (.if_icmp .ge 90, 3) := by decide +kernel
theorem dX12_laysKin_17 : decode cX12_laysKin 17 = .ok (.lconst 0, 1) := by decide +kernel
theorem dX12_laysKin_18 : decode cX12_laysKin 18 = .ok (.lstore_n 3, 1) := by decide +kernel
theorem dX12_laysKin_19 : decode cX12_laysKin 19 = .ok (.iconst 0, 1) := by decide +kernel
theorem dX12_laysKin_20 : decode cX12_laysKin 20 = .ok (.istore 5, 2) := by decide +kernel
theorem dX12_laysKin_22 : decode cX12_laysKin 22 = .ok (.iload 5, 2) := by decide +kernel
theorem dX12_laysKin_24 : decode cX12_laysKin 24 = .ok (.iload_n 1, 1) := by decide +kernel
theorem dX12_laysKin_25 : decode cX12_laysKin 25 = .ok (.if_icmp .ge 41, 3) := by decide +kernel
theorem dX12_laysKin_28 : decode cX12_laysKin 28 = .ok (.lload_n 3, 1) := by decide +kernel
theorem dX12_laysKin_29 : decode cX12_laysKin 29 = .ok (.aload_n 0, 1) := by decide +kernel
theorem dX12_laysKin_30 : decode cX12_laysKin 30 = .ok (.iload_n 1, 1) := by decide +kernel
theorem dX12_laysKin_31 : decode cX12_laysKin 31 = .ok (.invokevirtual 319, 3) := by decide +kernel
theorem dX12_laysKin_34 : decode cX12_laysKin 34 = .ok (.iload 5, 2) := by decide +kernel
theorem dX12_laysKin_36 : decode cX12_laysKin 36 = .ok (.invokestatic 235, 3) := by decide +kernel
theorem dX12_laysKin_39 : decode cX12_laysKin 39 = .ok (.ifCond .eq 18, 3) := by decide +kernel
theorem dX12_laysKin_42 : decode cX12_laysKin 42 = .ok (.aload_n 0, 1) := by decide +kernel
theorem dX12_laysKin_43 : decode cX12_laysKin 43 = .ok (.getfield 45, 3) := by decide +kernel
theorem dX12_laysKin_46 : decode cX12_laysKin 46 = .ok (.bipush 10, 2) := by decide +kernel
theorem dX12_laysKin_48 : decode cX12_laysKin 48 = .ok (.iload 5, 2) := by decide +kernel
theorem dX12_laysKin_50 : decode cX12_laysKin 50 = .ok (.imul, 1) := by decide +kernel
theorem dX12_laysKin_51 : decode cX12_laysKin 51 = .ok (.iload_n 2, 1) := by decide +kernel
theorem dX12_laysKin_52 : decode cX12_laysKin 52 = .ok (.iadd, 1) := by decide +kernel
theorem dX12_laysKin_53 : decode cX12_laysKin 53 = .ok (.laload, 1) := by decide +kernel
theorem dX12_laysKin_54 : decode cX12_laysKin 54 = .ok (.goto 4, 3) := by decide +kernel
theorem dX12_laysKin_57 : decode cX12_laysKin 57 = .ok (.lconst 0, 1) := by decide +kernel
theorem dX12_laysKin_58 : decode cX12_laysKin 58 = .ok (.ladd, 1) := by decide +kernel
theorem dX12_laysKin_59 : decode cX12_laysKin 59 = .ok (.lstore_n 3, 1) := by decide +kernel
theorem dX12_laysKin_60 : decode cX12_laysKin 60 = .ok (.iinc 5 1, 3) := by decide +kernel
theorem dX12_laysKin_63 : decode cX12_laysKin 63 = .ok (.goto (-41), 3) := by decide +kernel
theorem dX12_laysKin_66 : decode cX12_laysKin 66 = .ok (.aload_n 0, 1) := by decide +kernel
theorem dX12_laysKin_67 : decode cX12_laysKin 67 = .ok (.getfield 45, 3) := by decide +kernel
theorem dX12_laysKin_70 : decode cX12_laysKin 70 = .ok (.bipush 10, 2) := by decide +kernel
theorem dX12_laysKin_72 : decode cX12_laysKin 72 = .ok (.iload_n 1, 1) := by decide +kernel
theorem dX12_laysKin_73 : decode cX12_laysKin 73 = .ok (.imul, 1) := by decide +kernel
theorem dX12_laysKin_74 : decode cX12_laysKin 74 = .ok (.iload_n 2, 1) := by decide +kernel
theorem dX12_laysKin_75 : decode cX12_laysKin 75 = .ok (.iadd, 1) := by decide +kernel
theorem dX12_laysKin_76 : decode cX12_laysKin 76 = .ok (.lload_n 3, 1) := by decide +kernel
theorem dX12_laysKin_77 : decode cX12_laysKin 77 = .ok (.ldc2_w 322, 3) := by decide +kernel
theorem dX12_laysKin_80 : decode cX12_laysKin 80 = .ok (.ldiv, 1) := by decide +kernel
theorem dX12_laysKin_81 : decode cX12_laysKin 81 = .ok (.lastore, 1) := by decide +kernel
theorem dX12_laysKin_82 : decode cX12_laysKin 82 = .ok (.aload_n 0, 1) := by decide +kernel
theorem dX12_laysKin_83 : decode cX12_laysKin 83 = .ok (.getfield 45, 3) := by decide +kernel
theorem dX12_laysKin_86 : decode cX12_laysKin 86 = .ok (.bipush 10, 2) := by decide +kernel
theorem dX12_laysKin_88 : decode cX12_laysKin 88 = .ok (.iload_n 2, 1) := by decide +kernel
theorem dX12_laysKin_89 : decode cX12_laysKin 89 = .ok (.imul, 1) := by decide +kernel
theorem dX12_laysKin_90 : decode cX12_laysKin 90 = .ok (.iload_n 1, 1) := by decide +kernel
theorem dX12_laysKin_91 : decode cX12_laysKin 91 = .ok (.iadd, 1) := by decide +kernel
theorem dX12_laysKin_92 : decode cX12_laysKin 92 = .ok (.lload_n 3, 1) := by decide +kernel
theorem dX12_laysKin_93 : decode cX12_laysKin 93 = .ok (.ldc2_w 322, 3) := by decide +kernel
theorem dX12_laysKin_96 : decode cX12_laysKin 96 = .ok (.ldiv, 1) := by decide +kernel
theorem dX12_laysKin_97 : decode cX12_laysKin 97 = .ok (.lastore, 1) := by decide +kernel
theorem dX12_laysKin_98 : decode cX12_laysKin 98 = .ok (.iinc 2 1, 3) := by decide +kernel
theorem dX12_laysKin_101 : decode cX12_laysKin 101 = .ok (.goto (-89), 3) := by decide +kernel
theorem dX12_laysKin_104 : decode cX12_laysKin 104 = .ok (.aload_n 0, 1) := by decide +kernel
theorem dX12_laysKin_105 : decode cX12_laysKin 105 = .ok (.iload_n 1, 1) := by decide +kernel
theorem dX12_laysKin_106 : decode cX12_laysKin 106 = .ok (.invokevirtual 319, 3) := by decide +kernel
theorem dX12_laysKin_109 : decode cX12_laysKin 109 = .ok (.invokestatic 183, 3) := by decide +kernel
theorem dX12_laysKin_112 : decode cX12_laysKin 112 = .ok (.iconst 2, 1) := by decide +kernel
theorem dX12_laysKin_113 : decode cX12_laysKin 113 = .ok (.if_icmp .ne 7, 3) := by decide +kernel
theorem dX12_laysKin_116 : decode cX12_laysKin 116 = .ok (.iconst 1, 1) := by decide +kernel
theorem dX12_laysKin_117 : decode cX12_laysKin 117 = .ok (.goto 4, 3) := by decide +kernel
theorem dX12_laysKin_120 : decode cX12_laysKin 120 = .ok (.iconst 0, 1) := by decide +kernel
theorem dX12_laysKin_121 : decode cX12_laysKin 121 = .ok (.istore_n 2, 1) := by decide +kernel
theorem dX12_laysKin_122 : decode cX12_laysKin 122 = .ok (.aload_n 0, 1) := by decide +kernel
theorem dX12_laysKin_123 : decode cX12_laysKin 123 = .ok (.getfield 45, 3) := by decide +kernel
theorem dX12_laysKin_126 : decode cX12_laysKin 126 = .ok (.bipush 11, 2) := by decide +kernel
theorem dX12_laysKin_128 : decode cX12_laysKin 128 = .ok (.iload_n 1, 1) := by decide +kernel
theorem dX12_laysKin_129 : decode cX12_laysKin 129 = .ok (.imul, 1) := by decide +kernel
theorem dX12_laysKin_130 : decode cX12_laysKin 130 = .ok (.ldc2_w 324, 3) := by decide +kernel
theorem dX12_laysKin_133 : decode cX12_laysKin 133 = .ok (.iload_n 2, 1) := by decide +kernel
theorem dX12_laysKin_134 : decode cX12_laysKin 134 = .ok (.ifCond .eq 37, 3) := by decide +kernel
theorem dX12_laysKin_137 : decode cX12_laysKin 137 = .ok (.aload_n 0, 1) := by decide +kernel
theorem dX12_laysKin_138 : decode cX12_laysKin 138 = .ok (.getfield 45, 3) := by decide +kernel
theorem dX12_laysKin_141 : decode cX12_laysKin 141 = .ok (.bipush 10, 2) := by decide +kernel
theorem dX12_laysKin_143 : decode cX12_laysKin 143 = .ok (.aload_n 0, 1) := by decide +kernel
theorem dX12_laysKin_144 : decode cX12_laysKin 144 = .ok (.iload_n 1, 1) := by decide +kernel
theorem dX12_laysKin_145 : decode cX12_laysKin 145 = .ok (.invokevirtual 319, 3) := by decide +kernel
theorem dX12_laysKin_148 : decode cX12_laysKin 148 = .ok (.iconst 0, 1) := by decide +kernel
theorem dX12_laysKin_149 : decode cX12_laysKin 149 = .ok (.invokestatic 257, 3) := by decide +kernel
theorem dX12_laysKin_152 : decode cX12_laysKin 152 = .ok (.imul, 1) := by decide +kernel
theorem dX12_laysKin_153 : decode cX12_laysKin 153 = .ok (.aload_n 0, 1) := by decide +kernel
theorem dX12_laysKin_154 : decode cX12_laysKin 154 = .ok (.iload_n 1, 1) := by decide +kernel
theorem dX12_laysKin_155 : decode cX12_laysKin 155 = .ok (.invokevirtual 319, 3) := by decide +kernel
theorem dX12_laysKin_158 : decode cX12_laysKin 158 = .ok (.iconst 1, 1) := by decide +kernel
theorem dX12_laysKin_159 : decode cX12_laysKin 159 = .ok (.invokestatic 257, 3) := by decide +kernel
theorem dX12_laysKin_162 : decode cX12_laysKin 162 = .ok (.iadd, 1) := by decide +kernel
theorem dX12_laysKin_163 : decode cX12_laysKin 163 = .ok (.laload, 1) := by decide +kernel
theorem dX12_laysKin_164 : decode cX12_laysKin 164 = .ok (.ldc2_w 322, 3) := by decide +kernel
theorem dX12_laysKin_167 : decode cX12_laysKin 167 = .ok (.ldiv, 1) := by decide +kernel
theorem dX12_laysKin_168 : decode cX12_laysKin 168 = .ok (.goto 4, 3) := by decide +kernel
theorem dX12_laysKin_171 : decode cX12_laysKin 171 = .ok (.lconst 0, 1) := by decide +kernel
theorem dX12_laysKin_172 : decode cX12_laysKin 172 = .ok (.ladd, 1) := by decide +kernel
theorem dX12_laysKin_173 : decode cX12_laysKin 173 = .ok (.lastore, 1) := by decide +kernel
theorem dX12_laysKin_174 : decode cX12_laysKin 174 = .ok (.iinc 1 1, 3) := by decide +kernel
theorem dX12_laysKin_177 : decode cX12_laysKin 177 = .ok (.goto (-175), 3) := by decide +kernel
theorem dX12_laysKin_180 : decode cX12_laysKin 180 = .ok (.return_, 1) := by decide +kernel
theorem dX12_kinship_0 : decode cX12_kinship 0 = .ok (.aload_n 0, 1) := by decide +kernel
theorem dX12_kinship_1 : decode cX12_kinship 1 = .ok (.iload_n 1, 1) := by decide +kernel
theorem dX12_kinship_2 : decode cX12_kinship 2 = .ok (.invokevirtual 220, 3) := by decide +kernel
theorem dX12_kinship_5 : decode cX12_kinship 5 = .ok (.ifCond .eq 19, 3) := by decide +kernel
theorem dX12_kinship_8 : decode cX12_kinship 8 = .ok (.aload_n 0, 1) := by decide +kernel
theorem dX12_kinship_9 : decode cX12_kinship 9 = .ok (.iload_n 2, 1) := by decide +kernel
theorem dX12_kinship_10 : decode cX12_kinship 10 = .ok (.invokevirtual 223, 3) := by decide +kernel
theorem dX12_kinship_13 : decode cX12_kinship 13 = .ok (.ifCond .eq 11, 3) := by decide +kernel
theorem dX12_kinship_16 : decode cX12_kinship 16 = .ok (.aload_n 0, 1) := by decide +kernel
theorem dX12_kinship_17 : decode cX12_kinship 17 = .ok (.iload_n 3, 1) := by decide +kernel
theorem dX12_kinship_18 : decode cX12_kinship 18 = .ok (.invokevirtual 223, 3) := by decide +kernel
theorem dX12_kinship_21 : decode cX12_kinship 21 = .ok (.ifCond .ne 7, 3) := by decide +kernel
theorem dX12_kinship_24 : decode cX12_kinship 24 = .ok (.ldc2_w 306, 3) := by decide +kernel
theorem dX12_kinship_27 : decode cX12_kinship 27 = .ok (.lreturn, 1) := by decide +kernel
theorem dX12_kinship_28 : decode cX12_kinship 28 = .ok (.aload_n 0, 1) := by decide +kernel
theorem dX12_kinship_29 : decode cX12_kinship 29 = .ok (.invokevirtual 326, 3) := by decide +kernel
theorem dX12_kinship_32 : decode cX12_kinship 32 = .ok (.aload_n 0, 1) := by decide +kernel
theorem dX12_kinship_33 : decode cX12_kinship 33 = .ok (.getfield 45, 3) := by decide +kernel
theorem dX12_kinship_36 : decode cX12_kinship 36 = .ok (.bipush 10, 2) := by decide +kernel
theorem dX12_kinship_38 : decode cX12_kinship 38 = .ok (.iload_n 2, 1) := by decide +kernel
theorem dX12_kinship_39 : decode cX12_kinship 39 = .ok (.imul, 1) := by decide +kernel
theorem dX12_kinship_40 : decode cX12_kinship 40 = .ok (.iload_n 3, 1) := by decide +kernel
theorem dX12_kinship_41 : decode cX12_kinship 41 = .ok (.iadd, 1) := by decide +kernel
theorem dX12_kinship_42 : decode cX12_kinship 42 = .ok (.laload, 1) := by decide +kernel
theorem dX12_kinship_43 : decode cX12_kinship 43 = .ok (.ldc2_w 329, 3) := by decide +kernel
theorem dX12_kinship_46 : decode cX12_kinship 46 = .ok (.iload 4, 2) := by decide +kernel
theorem dX12_kinship_48 : decode cX12_kinship 48 = .ok (.invokestatic 312, 3) := by decide +kernel
theorem dX12_kinship_51 : decode cX12_kinship 51 = .ok (.lreturn, 1) := by decide +kernel
theorem dX12_wedding_0 : decode cX12_wedding 0 = .ok (.aload_n 0, 1) := by decide +kernel
theorem dX12_wedding_1 : decode cX12_wedding 1 = .ok (.iload_n 1, 1) := by decide +kernel
theorem dX12_wedding_2 : decode cX12_wedding 2 = .ok (.invokevirtual 220, 3) := by decide +kernel
theorem dX12_wedding_5 : decode cX12_wedding 5 = .ok (.ifCond .eq 24, 3) := by decide +kernel
theorem dX12_wedding_8 : decode cX12_wedding 8 = .ok (.aload_n 0, 1) := by decide +kernel
theorem dX12_wedding_9 : decode cX12_wedding 9 = .ok (.iload_n 2, 1) := by decide +kernel
theorem dX12_wedding_10 : decode cX12_wedding 10 = .ok (.invokevirtual 223, 3) := by decide +kernel
theorem dX12_wedding_13 : decode cX12_wedding 13 = .ok (.ifCond .eq 16, 3) := by decide +kernel
theorem dX12_wedding_16 : decode cX12_wedding 16 = .ok (.aload_n 0, 1) := by decide +kernel
theorem dX12_wedding_17 : decode cX12_wedding 17 = .ok (.iload_n 3, 1) := by decide +kernel
theorem dX12_wedding_18 : decode cX12_wedding 18 = .ok (.invokevirtual 223, 3) := by decide +kernel
theorem dX12_wedding_21 : decode cX12_wedding 21 = .ok (.ifCond .eq 8, 3) := by decide +kernel
theorem dX12_wedding_24 : decode cX12_wedding 24 = .ok (.iload_n 2, 1) := by decide +kernel
theorem dX12_wedding_25 : decode cX12_wedding 25 = .ok (.iload_n 3, 1) := by decide +kernel
theorem dX12_wedding_26 : decode cX12_wedding 26 = .ok (.if_icmp .ne 5, 3) := by decide +kernel
theorem dX12_wedding_29 : decode cX12_wedding 29 = .ok (.iconst (-1), 1) := by decide +kernel
theorem dX12_wedding_30 : decode cX12_wedding 30 = .ok (.ireturn, 1) := by decide +kernel
theorem dX12_wedding_31 : decode cX12_wedding 31 = .ok (.aload_n 0, 1) := by decide +kernel
theorem dX12_wedding_32 : decode cX12_wedding 32 = .ok (.invokevirtual 326, 3) := by decide +kernel
theorem dX12_wedding_35 : decode cX12_wedding 35 = .ok (.aload_n 0, 1) := by decide +kernel
theorem dX12_wedding_36 : decode cX12_wedding 36 = .ok (.iload_n 2, 1) := by decide +kernel
theorem dX12_wedding_37 : decode cX12_wedding 37 = .ok (.invokevirtual 217, 3) := by decide +kernel
theorem dX12_wedding_40 : decode cX12_wedding 40 = .ok (.bipush 16, 2) := by decide +kernel
theorem dX12_wedding_42 : decode cX12_wedding 42 = .ok (.if_icmp .lt 39, 3) := by decide +kernel
theorem dX12_wedding_45 : decode cX12_wedding 45 = .ok (.aload_n 0, 1) := by decide +kernel
theorem dX12_wedding_46 : decode cX12_wedding 46 = .ok (.iload_n 3, 1) := by decide +kernel
theorem dX12_wedding_47 : decode cX12_wedding 47 = .ok (.invokevirtual 217, 3) := by decide +kernel
theorem dX12_wedding_50 : decode cX12_wedding 50 = .ok (.bipush 16, 2) := by decide +kernel
theorem dX12_wedding_52 : decode cX12_wedding 52 = .ok (.if_icmp .lt 29, 3) := by decide +kernel
theorem dX12_wedding_55 : decode cX12_wedding 55 = .ok (.aload_n 0, 1) := by decide +kernel
theorem dX12_wedding_56 : decode cX12_wedding 56 = .ok (.getfield 45, 3) := by decide +kernel
theorem dX12_wedding_59 : decode cX12_wedding 59 = .ok (.bipush 10, 2) := by decide +kernel
theorem dX12_wedding_61 : decode cX12_wedding 61 = .ok (.iload_n 2, 1) := by decide +kernel
theorem dX12_wedding_62 : decode cX12_wedding 62 = .ok (.imul, 1) := by decide +kernel
theorem dX12_wedding_63 : decode cX12_wedding 63 = .ok (.iload_n 3, 1) := by decide +kernel
theorem dX12_wedding_64 : decode cX12_wedding 64 = .ok (.iadd, 1) := by decide +kernel
theorem dX12_wedding_65 : decode cX12_wedding 65 = .ok (.laload, 1) := by decide +kernel
theorem dX12_wedding_66 : decode cX12_wedding 66 = .ok (.ldc2_w 331, 3) := by decide +kernel
theorem dX12_wedding_69 : decode cX12_wedding 69 = .ok (.lmul, 1) := by decide +kernel
theorem dX12_wedding_70 : decode cX12_wedding 70 = .ok (.ldc2_w 329, 3) := by decide +kernel
theorem dX12_wedding_73 : decode cX12_wedding 73 = .ok (.lcmp, 1) := by decide +kernel
theorem dX12_wedding_74 : decode cX12_wedding 74 = .ok (.ifCond .ge 7, 3) := by decide +kernel
theorem dX12_wedding_77 : decode cX12_wedding 77 = .ok (.iconst 1, 1) := by decide +kernel
theorem dX12_wedding_78 : decode cX12_wedding 78 = .ok (.goto 4, 3) := by decide +kernel
theorem dX12_wedding_81 : decode cX12_wedding 81 = .ok (.iconst 0, 1) := by decide +kernel
theorem dX12_wedding_82 : decode cX12_wedding 82 = .ok (.ireturn, 1) := by decide +kernel
theorem dX12_laysLines_0 : decode cX12_laysLines 0 = .ok (.iconst 0, 1) := by decide +kernel
theorem dX12_laysLines_1 : decode cX12_laysLines 1 = .ok (.istore_n 1, 1) := by decide +kernel
theorem dX12_laysLines_2 : decode cX12_laysLines 2 = .ok (.aload_n 0, 1) := by decide +kernel
theorem dX12_laysLines_3 : decode cX12_laysLines 3 = .ok (.getfield 211, 3) := by decide +kernel
theorem dX12_laysLines_6 : decode cX12_laysLines 6 = .ok (.iconst 1, 1) := by decide +kernel
theorem dX12_laysLines_7 : decode cX12_laysLines 7 = .ok (.isub, 1) := by decide +kernel
theorem dX12_laysLines_8 : decode cX12_laysLines 8 = .ok (.istore_n 2, 1) := by decide +kernel
theorem dX12_laysLines_9 : decode cX12_laysLines 9 = .ok (.iload_n 2, 1) := by decide +kernel
theorem dX12_laysLines_10 : decode cX12_laysLines 10 = .ok (.ifCond .lt 96, 3) := by decide +kernel
theorem dX12_laysLines_13 : decode cX12_laysLines 13 = .ok (.aload_n 0, 1) := by decide +kernel
theorem dX12_laysLines_14 : decode cX12_laysLines 14 = .ok (.getfield 49, 3) := by decide +kernel
theorem dX12_laysLines_17 : decode cX12_laysLines 17 = .ok (.iload_n 2, 1) := by decide +kernel
theorem dX12_laysLines_18 : decode cX12_laysLines 18 = .ok (.iconst 1, 1) := by decide +kernel
theorem dX12_laysLines_19 : decode cX12_laysLines 19 = .ok (.iastore, 1) := by decide +kernel
theorem dX12_laysLines_20 : decode cX12_laysLines 20 = .ok (.iload_n 2, 1) := by decide +kernel
theorem dX12_laysLines_21 : decode cX12_laysLines 21 = .ok (.iconst 1, 1) := by decide +kernel
theorem dX12_laysLines_22 : decode cX12_laysLines 22 = .ok (.iadd, 1) := by decide +kernel
theorem dX12_laysLines_23 : decode cX12_laysLines 23 = .ok (.istore_n 3, 1) := by decide +kernel
theorem dX12_laysLines_24 : decode cX12_laysLines 24 = .ok (.iload_n 3, 1) := by decide +kernel
theorem dX12_laysLines_25 : decode cX12_laysLines 25 = .ok (.aload_n 0, 1) := by decide +kernel
theorem dX12_laysLines_26 : decode cX12_laysLines 26 = .ok (.getfield 211, 3) := by decide +kernel
theorem dX12_laysLines_29 : decode cX12_laysLines 29 = .ok (.if_icmp .ge 50, 3) := by decide +kernel
theorem dX12_laysLines_32 : decode cX12_laysLines 32 = .ok (.aload_n 0, 1) := by decide +kernel
theorem dX12_laysLines_33 : decode cX12_laysLines 33 = .ok (.iload_n 3, 1) := by decide +kernel
theorem dX12_laysLines_34 : decode cX12_laysLines 34 = .ok (.invokevirtual 319, 3) := by decide +kernel
theorem dX12_laysLines_37 : decode cX12_laysLines 37 = .ok (.iload_n 2, 1) := by decide +kernel
theorem dX12_laysLines_38 : decode cX12_laysLines 38 = .ok (.invokestatic 235, 3) := by decide +kernel
theorem dX12_laysLines_41 : decode cX12_laysLines 41 = .ok (.ifCond .eq 32, 3) := by decide +kernel
theorem dX12_laysLines_44 : decode cX12_laysLines 44 = .ok (.aload_n 0, 1) := by decide +kernel
theorem dX12_laysLines_45 : decode cX12_laysLines 45 = .ok (.getfield 49, 3) := by decide +kernel
theorem dX12_laysLines_48 : decode cX12_laysLines 48 = .ok (.iload_n 3, 1) := by decide +kernel
theorem dX12_laysLines_49 : decode cX12_laysLines 49 = .ok (.iaload, 1) := by decide +kernel
theorem dX12_laysLines_50 : decode cX12_laysLines 50 = .ok (.aload_n 0, 1) := by decide +kernel
theorem dX12_laysLines_51 : decode cX12_laysLines 51 = .ok (.getfield 49, 3) := by decide +kernel
theorem dX12_laysLines_54 : decode cX12_laysLines 54 = .ok (.iload_n 2, 1) := by decide +kernel
theorem dX12_laysLines_55 : decode cX12_laysLines 55 = .ok (.iaload, 1) := by decide +kernel
theorem dX12_laysLines_56 : decode cX12_laysLines 56 = .ok (.if_icmp .lt 17, 3) := by decide +kernel
theorem dX12_laysLines_59 : decode cX12_laysLines 59 = .ok (.aload_n 0, 1) := by decide +kernel
theorem dX12_laysLines_60 : decode cX12_laysLines 60 = .ok (.getfield 49, 3) := by decide +kernel
theorem dX12_laysLines_63 : decode cX12_laysLines 63 = .ok (.iload_n 2, 1) := by decide +kernel
theorem dX12_laysLines_64 : decode cX12_laysLines 64 = .ok (.iconst 1, 1) := by decide +kernel
theorem dX12_laysLines_65 : decode cX12_laysLines 65 = .ok (.aload_n 0, 1) := by decide +kernel
theorem dX12_laysLines_66 : decode cX12_laysLines 66 = .ok (.getfield 49, 3) := by decide +kernel
theorem dX12_laysLines_69 : decode cX12_laysLines 69 = .ok (.iload_n 3, 1) := by decide +kernel
theorem dX12_laysLines_70 : decode cX12_laysLines 70 = .ok (.iaload, 1) := by decide +kernel
theorem dX12_laysLines_71 : decode cX12_laysLines 71 = .ok (.iadd, 1) := by decide +kernel
theorem dX12_laysLines_72 : decode cX12_laysLines 72 = .ok (.iastore, 1) := by decide +kernel
theorem dX12_laysLines_73 : decode cX12_laysLines 73 = .ok (.iinc 3 1, 3) := by decide +kernel
theorem dX12_laysLines_76 : decode cX12_laysLines 76 = .ok (.goto (-52), 3) := by decide +kernel
theorem dX12_laysLines_79 : decode cX12_laysLines 79 = .ok (.aload_n 0, 1) := by decide +kernel
theorem dX12_laysLines_80 : decode cX12_laysLines 80 = .ok (.getfield 49, 3) := by decide +kernel
theorem dX12_laysLines_83 : decode cX12_laysLines 83 = .ok (.iload_n 2, 1) := by decide +kernel
theorem dX12_laysLines_84 : decode cX12_laysLines 84 = .ok (.iaload, 1) := by decide +kernel
theorem dX12_laysLines_85 : decode cX12_laysLines 85 = .ok (.iload_n 1, 1) := by decide +kernel
theorem dX12_laysLines_86 : decode cX12_laysLines 86 = .ok (.if_icmp .le 12, 3) := by decide +kernel
theorem dX12_laysLines_89 : decode cX12_laysLines 89 = .ok (.aload_n 0, 1) := by decide +kernel
theorem dX12_laysLines_90 : decode cX12_laysLines 90 = .ok (.getfield 49, 3) := by decide +kernel
theorem dX12_laysLines_93 : decode cX12_laysLines 93 = .ok (.iload_n 2, 1) := by decide +kernel
theorem dX12_laysLines_94 : decode cX12_laysLines 94 = .ok (.iaload, 1) := by decide +kernel
theorem dX12_laysLines_95 : decode cX12_laysLines 95 = .ok (.goto 4, 3) := by decide +kernel
theorem dX12_laysLines_98 : decode cX12_laysLines 98 = .ok (.iload_n 1, 1) := by decide +kernel
theorem dX12_laysLines_99 : decode cX12_laysLines 99 = .ok (.istore_n 1, 1) := by decide +kernel
theorem dX12_laysLines_100 : decode cX12_laysLines 100 = .ok (.iinc 2 (-1), 3) := by decide +kernel
theorem dX12_laysLines_103 : decode cX12_laysLines 103 = .ok (.goto (-94), 3) := by decide +kernel
theorem dX12_laysLines_106 : decode cX12_laysLines 106 = .ok (.iload_n 1, 1) := by decide +kernel
theorem dX12_laysLines_107 : decode cX12_laysLines 107 = .ok (.ireturn, 1) := by decide +kernel
theorem dX12_line_0 : decode cX12_line 0 = .ok (.aload_n 0, 1) := by decide +kernel
theorem dX12_line_1 : decode cX12_line 1 = .ok (.iload_n 1, 1) := by decide +kernel
theorem dX12_line_2 : decode cX12_line 2 = .ok (.invokevirtual 220, 3) := by decide +kernel
theorem dX12_line_5 : decode cX12_line 5 = .ok (.ifCond .eq 8, 3) := by decide +kernel
theorem dX12_line_8 : decode cX12_line 8 = .ok (.iload_n 2, 1) := by decide +kernel
theorem dX12_line_9 : decode cX12_line 9 = .ok (.iconst (-1), 1) := by decide +kernel
theorem dX12_line_10 : decode cX12_line 10 = .ok (.if_icmp .ge 5, 3) := by decide +kernel
theorem dX12_line_13 : decode cX12_line 13 = .ok (.iconst (-1), 1) := by decide +kernel
theorem dX12_line_14 : decode cX12_line 14 = .ok (.ireturn, 1) := by decide +kernel
theorem dX12_line_15 : decode cX12_line 15 = .ok (.aload_n 0, 1) := by decide +kernel
theorem dX12_line_16 : decode cX12_line 16 = .ok (.invokevirtual 333, 3) := by decide +kernel
theorem dX12_line_19 : decode cX12_line 19 = .ok (.istore_n 3, 1) := by decide +kernel
theorem dX12_line_20 : decode cX12_line 20 = .ok (.iload_n 2, 1) := by decide +kernel
theorem dX12_line_21 : decode cX12_line 21 = .ok (.iconst (-1), 1) := by decide +kernel
theorem dX12_line_22 : decode cX12_line 22 = .ok (.if_icmp .ne 5, 3) := by decide +kernel
theorem dX12_line_25 : decode cX12_line 25 = .ok (.iload_n 3, 1) := by decide +kernel
theorem dX12_line_26 : decode cX12_line 26 = .ok (.ireturn, 1) := by decide +kernel
theorem dX12_line_27 : decode cX12_line 27 = .ok (.iload_n 2, 1) := by decide +kernel
theorem dX12_line_28 : decode cX12_line 28 = .ok (.iload_n 3, 1) := by decide +kernel
theorem dX12_line_29 : decode cX12_line 29 = .ok (.if_icmp .lt 5, 3) := by decide +kernel
theorem dX12_line_32 : decode cX12_line 32 = .ok (.iconst (-1), 1) := by decide +kernel
theorem dX12_line_33 : decode cX12_line 33 = .ok (.ireturn, 1) := by decide +kernel
theorem dX12_line_34 : decode cX12_line 34 = .ok (.iconst (-1), 1) := by decide +kernel
theorem dX12_line_35 : decode cX12_line 35 = .ok (.istore 4, 2) := by decide +kernel
theorem dX12_line_37 : decode cX12_line 37 = .ok (.iconst 0, 1) := by decide +kernel
theorem dX12_line_38 : decode cX12_line 38 = .ok (.istore 5, 2) := by decide +kernel
theorem dX12_line_40 : decode cX12_line 40 = .ok (.iload 5, 2) := by decide +kernel
theorem dX12_line_42 : decode cX12_line 42 = .ok (.iload_n 2, 1) := by decide +kernel
theorem dX12_line_43 : decode cX12_line 43 = .ok (.if_icmp .gt 56, 3) := by decide +kernel
theorem dX12_line_46 : decode cX12_line 46 = .ok (.iconst 0, 1) := by decide +kernel
theorem dX12_line_47 : decode cX12_line 47 = .ok (.istore 6, 2) := by decide +kernel
theorem dX12_line_49 : decode cX12_line 49 = .ok (.aload_n 0, 1) := by decide +kernel
theorem dX12_line_50 : decode cX12_line 50 = .ok (.getfield 49, 3) := by decide +kernel
theorem dX12_line_53 : decode cX12_line 53 = .ok (.iload 6, 2) := by decide +kernel
theorem dX12_line_55 : decode cX12_line 55 = .ok (.iaload, 1) := by decide +kernel
theorem dX12_line_56 : decode cX12_line 56 = .ok (.iload_n 3, 1) := by decide +kernel
theorem dX12_line_57 : decode cX12_line 57 = .ok (.iload 5, 2) := by decide +kernel
theorem dX12_line_59 : decode cX12_line 59 = .ok (.isub, 1) := by decide +kernel
theorem dX12_line_60 : decode cX12_line 60 = .ok (.if_icmp .ne 23, 3) := by decide +kernel
theorem dX12_line_63 : decode cX12_line 63 = .ok (.iload 4, 2) := by decide +kernel
theorem dX12_line_65 : decode cX12_line 65 = .ok (.iconst (-1), 1) := by decide +kernel
theorem dX12_line_66 : decode cX12_line 66 = .ok (.if_icmp .eq 23, 3) := by decide +kernel
theorem dX12_line_69 : decode cX12_line 69 = .ok (.aload_n 0, 1) := by decide +kernel
theorem dX12_line_70 : decode cX12_line 70 = .ok (.iload 6, 2) := by decide +kernel
theorem dX12_line_72 : decode cX12_line 72 = .ok (.invokevirtual 319, 3) := by decide +kernel
theorem dX12_line_75 : decode cX12_line 75 = .ok (.iload 4, 2) := by decide +kernel
theorem dX12_line_77 : decode cX12_line 77 = .ok (.invokestatic 235, 3) := by decide +kernel
theorem dX12_line_80 : decode cX12_line 80 = .ok (.ifCond .ne 9, 3) := by decide +kernel
theorem dX12_line_83 : decode cX12_line 83 = .ok (.iinc 6 1, 3) := by decide +kernel
theorem dX12_line_86 : decode cX12_line 86 = .ok (.goto (-37), 3) := by decide +kernel
theorem dX12_line_89 : decode cX12_line 89 = .ok (.iload 6, 2) := by decide +kernel
theorem dX12_line_91 : decode cX12_line 91 = .ok (.istore 4, 2) := by decide +kernel
theorem dX12_line_93 : decode cX12_line 93 = .ok (.iinc 5 1, 3) := by decide +kernel
theorem dX12_line_96 : decode cX12_line 96 = .ok (.goto (-56), 3) := by decide +kernel
theorem dX12_line_99 : decode cX12_line 99 = .ok (.iload 4, 2) := by decide +kernel
theorem dX12_line_101 : decode cX12_line 101 = .ok (.ireturn, 1) := by decide +kernel
theorem dX12_eldersOf_0 : decode cX12_eldersOf 0 = .ok (.aload_n 0, 1) := by decide +kernel
theorem dX12_eldersOf_1 : decode cX12_eldersOf 1 = .ok (.iload_n 1, 1) := by decide +kernel
theorem dX12_eldersOf_2 : decode cX12_eldersOf 2 = .ok (.invokevirtual 319, 3) := by decide +kernel
theorem dX12_eldersOf_5 : decode cX12_eldersOf 5 = .ok (.istore_n 2, 1) := by decide +kernel
theorem dX12_eldersOf_6 : decode cX12_eldersOf 6 = .ok (.iload_n 1, 1) := by decide +kernel
theorem dX12_eldersOf_7 : decode cX12_eldersOf 7 = .ok (.iconst 1, 1) := by decide +kernel
theorem dX12_eldersOf_8 : decode cX12_eldersOf 8 = .ok (.isub, 1) := by decide +kernel
theorem dX12_eldersOf_9 : decode cX12_eldersOf 9 = .ok (.istore_n 3, 1) := by decide +kernel
theorem dX12_eldersOf_10 : decode cX12_eldersOf 10 = .ok (.iload_n 3, 1) := by decide +kernel
theorem dX12_eldersOf_11 : decode cX12_eldersOf 11 = .ok (.ifCond .lt 29, 3) := by decide +kernel
theorem dX12_eldersOf_14 : decode cX12_eldersOf 14 = .ok (.iload_n 2, 1) := by decide +kernel
theorem dX12_eldersOf_15 : decode cX12_eldersOf 15 = .ok (.iload_n 2, 1) := by decide +kernel
theorem dX12_eldersOf_16 : decode cX12_eldersOf 16 = .ok (.iload_n 3, 1) := by decide +kernel
theorem dX12_eldersOf_17 : decode cX12_eldersOf 17 = .ok (.invokestatic 235, 3) := by decide +kernel
theorem dX12_eldersOf_20 : decode cX12_eldersOf 20 = .ok (.ifCond .eq 11, 3) := by decide +kernel
theorem dX12_eldersOf_23 : decode cX12_eldersOf 23 = .ok (.aload_n 0, 1) := by decide +kernel
theorem dX12_eldersOf_24 : decode cX12_eldersOf 24 = .ok (.iload_n 3, 1) := by decide +kernel
theorem dX12_eldersOf_25 : decode cX12_eldersOf 25 = .ok (.invokevirtual 319, 3) := by decide +kernel
theorem dX12_eldersOf_28 : decode cX12_eldersOf 28 = .ok (.goto 4, 3) := by decide +kernel
theorem dX12_eldersOf_31 : decode cX12_eldersOf 31 = .ok (.iconst 0, 1) := by decide +kernel
theorem dX12_eldersOf_32 : decode cX12_eldersOf 32 = .ok (.ior, 1) := by decide +kernel
theorem dX12_eldersOf_33 : decode cX12_eldersOf 33 = .ok (.istore_n 2, 1) := by decide +kernel
theorem dX12_eldersOf_34 : decode cX12_eldersOf 34 = .ok (.iinc 3 (-1), 3) := by decide +kernel
theorem dX12_eldersOf_37 : decode cX12_eldersOf 37 = .ok (.goto (-27), 3) := by decide +kernel
theorem dX12_eldersOf_40 : decode cX12_eldersOf 40 = .ok (.iload_n 2, 1) := by decide +kernel
theorem dX12_eldersOf_41 : decode cX12_eldersOf 41 = .ok (.ireturn, 1) := by decide +kernel
theorem dX12_elders_0 : decode cX12_elders 0 = .ok (.aload_n 0, 1) := by decide +kernel
theorem dX12_elders_1 : decode cX12_elders 1 = .ok (.iload_n 1, 1) := by decide +kernel
theorem dX12_elders_2 : decode cX12_elders 2 = .ok (.invokevirtual 220, 3) := by decide +kernel
theorem dX12_elders_5 : decode cX12_elders 5 = .ok (.ifCond .eq 11, 3) := by decide +kernel
theorem dX12_elders_8 : decode cX12_elders 8 = .ok (.aload_n 0, 1) := by decide +kernel
theorem dX12_elders_9 : decode cX12_elders 9 = .ok (.iload_n 2, 1) := by decide +kernel
theorem dX12_elders_10 : decode cX12_elders 10 = .ok (.invokevirtual 223, 3) := by decide +kernel
theorem dX12_elders_13 : decode cX12_elders 13 = .ok (.ifCond .ne 5, 3) := by decide +kernel
theorem dX12_elders_16 : decode cX12_elders 16 = .ok (.iconst (-1), 1) := by decide +kernel
theorem dX12_elders_17 : decode cX12_elders 17 = .ok (.ireturn, 1) := by decide +kernel
theorem dX12_elders_18 : decode cX12_elders 18 = .ok (.iload_n 3, 1) := by decide +kernel
theorem dX12_elders_19 : decode cX12_elders 19 = .ok (.ifCond .ne 9, 3) := by decide +kernel
theorem dX12_elders_22 : decode cX12_elders 22 = .ok (.aload_n 0, 1) := by decide +kernel
theorem dX12_elders_23 : decode cX12_elders 23 = .ok (.iload_n 2, 1) := by decide +kernel
theorem dX12_elders_24 : decode cX12_elders 24 = .ok (.invokevirtual 337, 3) := by decide +kernel
theorem dX12_elders_27 : decode cX12_elders 27 = .ok (.ireturn, 1) := by decide +kernel
theorem dX12_elders_28 : decode cX12_elders 28 = .ok (.iconst 0, 1) := by decide +kernel
theorem dX12_elders_29 : decode cX12_elders 29 = .ok (.istore 4, 2) := by decide +kernel
theorem dX12_elders_31 : decode cX12_elders 31 = .ok (.iconst 0, 1) := by decide +kernel
theorem dX12_elders_32 : decode cX12_elders 32 = .ok (.istore 5, 2) := by decide +kernel
theorem dX12_elders_34 : decode cX12_elders 34 = .ok (.iload 5, 2) := by decide +kernel
theorem dX12_elders_36 : decode cX12_elders 36 = .ok (.aload_n 0, 1) := by decide +kernel
theorem dX12_elders_37 : decode cX12_elders 37 = .ok (.getfield 211, 3) := by decide +kernel
theorem dX12_elders_40 : decode cX12_elders 40 = .ok (.if_icmp .ge 35, 3) := by decide +kernel
theorem dX12_elders_43 : decode cX12_elders 43 = .ok (.iload 4, 2) := by decide +kernel
theorem dX12_elders_45 : decode cX12_elders 45 = .ok (.aload_n 0, 1) := by decide +kernel
theorem dX12_elders_46 : decode cX12_elders 46 = .ok (.iload 5, 2) := by decide +kernel
theorem dX12_elders_48 : decode cX12_elders 48 = .ok (.invokevirtual 337, 3) := by decide +kernel
theorem dX12_elders_51 : decode cX12_elders 51 = .ok (.iload_n 2, 1) := by decide +kernel
theorem dX12_elders_52 : decode cX12_elders 52 = .ok (.invokestatic 235, 3) := by decide +kernel
theorem dX12_elders_55 : decode cX12_elders 55 = .ok (.ifCond .eq 10, 3) := by decide +kernel
theorem dX12_elders_58 : decode cX12_elders 58 = .ok (.iconst 1, 1) := by decide +kernel
theorem dX12_elders_59 : decode cX12_elders 59 = .ok (.iload 5, 2) := by decide +kernel
theorem dX12_elders_61 : decode cX12_elders 61 = .ok (.ishl, 1) := by decide +kernel
theorem dX12_elders_62 : decode cX12_elders 62 = .ok (.goto 4, 3) := by decide +kernel
theorem dX12_elders_65 : decode cX12_elders 65 = .ok (.iconst 0, 1) := by decide +kernel
theorem dX12_elders_66 : decode cX12_elders 66 = .ok (.ior, 1) := by decide +kernel
theorem dX12_elders_67 : decode cX12_elders 67 = .ok (.istore 4, 2) := by decide +kernel
theorem dX12_elders_69 : decode cX12_elders 69 = .ok (.iinc 5 1, 3) := by decide +kernel
theorem dX12_elders_72 : decode cX12_elders 72 = .ok (.goto (-38), 3) := by decide +kernel
theorem dX12_elders_75 : decode cX12_elders 75 = .ok (.iload 4, 2) := by decide +kernel
theorem dX12_elders_77 : decode cX12_elders 77 = .ok (.ireturn, 1) := by decide +kernel
theorem dX12_nextTo_0 : decode cX12_nextTo 0 = .ok (.iconst 0, 1) := by decide +kernel
theorem dX12_nextTo_1 : decode cX12_nextTo 1 = .ok (.istore_n 2, 1) := by decide +kernel
theorem dX12_nextTo_2 : decode cX12_nextTo 2 = .ok (.iconst 0, 1) := by decide +kernel
theorem dX12_nextTo_3 : decode cX12_nextTo 3 = .ok (.istore_n 3, 1) := by decide +kernel
theorem dX12_nextTo_4 : decode cX12_nextTo 4 = .ok (.iload_n 3, 1) := by decide +kernel
theorem dX12_nextTo_5 : decode cX12_nextTo 5 = .ok (.aload_n 0, 1) := by decide +kernel
theorem dX12_nextTo_6 : decode cX12_nextTo 6 = .ok (.getfield 211, 3) := by decide +kernel
theorem dX12_nextTo_9 : decode cX12_nextTo 9 = .ok (.if_icmp .ge 41, 3) := by decide +kernel
theorem dX12_nextTo_12 : decode cX12_nextTo 12 = .ok (.iload_n 1, 1) := by decide +kernel
theorem dX12_nextTo_13 : decode cX12_nextTo 13 = .ok (.iload_n 3, 1) := by decide +kernel
theorem dX12_nextTo_14 : decode cX12_nextTo 14 = .ok (.invokestatic 235, 3) := by decide +kernel
theorem dX12_nextTo_17 : decode cX12_nextTo 17 = .ok (.ifCond .eq 11, 3) := by decide +kernel
theorem dX12_nextTo_20 : decode cX12_nextTo 20 = .ok (.iload_n 2, 1) := by decide +kernel
theorem dX12_nextTo_21 : decode cX12_nextTo 21 = .ok (.aload_n 0, 1) := by decide +kernel
theorem dX12_nextTo_22 : decode cX12_nextTo 22 = .ok (.iload_n 3, 1) := by decide +kernel
theorem dX12_nextTo_23 : decode cX12_nextTo 23 = .ok (.invokevirtual 319, 3) := by decide +kernel
theorem dX12_nextTo_26 : decode cX12_nextTo 26 = .ok (.ior, 1) := by decide +kernel
theorem dX12_nextTo_27 : decode cX12_nextTo 27 = .ok (.istore_n 2, 1) := by decide +kernel
theorem dX12_nextTo_28 : decode cX12_nextTo 28 = .ok (.aload_n 0, 1) := by decide +kernel
theorem dX12_nextTo_29 : decode cX12_nextTo 29 = .ok (.iload_n 3, 1) := by decide +kernel
theorem dX12_nextTo_30 : decode cX12_nextTo 30 = .ok (.invokevirtual 319, 3) := by decide +kernel
theorem dX12_nextTo_33 : decode cX12_nextTo 33 = .ok (.iload_n 1, 1) := by decide +kernel
theorem dX12_nextTo_34 : decode cX12_nextTo 34 = .ok (.iand, 1) := by decide +kernel
theorem dX12_nextTo_35 : decode cX12_nextTo 35 = .ok (.ifCond .eq 9, 3) := by decide +kernel
theorem dX12_nextTo_38 : decode cX12_nextTo 38 = .ok (.iload_n 2, 1) := by decide +kernel
theorem dX12_nextTo_39 : decode cX12_nextTo 39 = .ok (.iconst 1, 1) := by decide +kernel
theorem dX12_nextTo_40 : decode cX12_nextTo 40 = .ok (.iload_n 3, 1) := by decide +kernel
theorem dX12_nextTo_41 : decode cX12_nextTo 41 = .ok (.ishl, 1) := by decide +kernel
theorem dX12_nextTo_42 : decode cX12_nextTo 42 = .ok (.ior, 1) := by decide +kernel
theorem dX12_nextTo_43 : decode cX12_nextTo 43 = .ok (.istore_n 2, 1) := by decide +kernel
theorem dX12_nextTo_44 : decode cX12_nextTo 44 = .ok (.iinc 3 1, 3) := by decide +kernel
theorem dX12_nextTo_47 : decode cX12_nextTo 47 = .ok (.goto (-43), 3) := by decide +kernel
theorem dX12_nextTo_50 : decode cX12_nextTo 50 = .ok (.iload_n 2, 1) := by decide +kernel
theorem dX12_nextTo_51 : decode cX12_nextTo 51 = .ok (.ireturn, 1) := by decide +kernel
theorem dX12_apart_0 : decode cX12_apart 0 = .ok (.aload_n 0, 1) := by decide +kernel
theorem dX12_apart_1 : decode cX12_apart 1 = .ok (.iload_n 1, 1) := by decide +kernel
theorem dX12_apart_2 : decode cX12_apart 2 = .ok (.invokevirtual 220, 3) := by decide +kernel
theorem dX12_apart_5 : decode cX12_apart 5 = .ok (.ifCond .eq 19, 3) := by decide +kernel
theorem dX12_apart_8 : decode cX12_apart 8 = .ok (.aload_n 0, 1) := by decide +kernel
theorem dX12_apart_9 : decode cX12_apart 9 = .ok (.iload_n 2, 1) := by decide +kernel
theorem dX12_apart_10 : decode cX12_apart 10 = .ok (.invokevirtual 223, 3) := by decide +kernel
theorem dX12_apart_13 : decode cX12_apart 13 = .ok (.ifCond .eq 11, 3) := by decide +kernel
theorem dX12_apart_16 : decode cX12_apart 16 = .ok (.aload_n 0, 1) := by decide +kernel
theorem dX12_apart_17 : decode cX12_apart 17 = .ok (.iload_n 3, 1) := by decide +kernel
theorem dX12_apart_18 : decode cX12_apart 18 = .ok (.invokevirtual 223, 3) := by decide +kernel
theorem dX12_apart_21 : decode cX12_apart 21 = .ok (.ifCond .ne 5, 3) := by decide +kernel
theorem dX12_apart_24 : decode cX12_apart 24 = .ok (.iconst (-1), 1) := by decide +kernel
theorem dX12_apart_25 : decode cX12_apart 25 = .ok (.ireturn, 1) := by decide +kernel
theorem dX12_apart_26 : decode cX12_apart 26 = .ok (.iconst 1, 1) := by decide +kernel
theorem dX12_apart_27 : decode cX12_apart 27 = .ok (.iload_n 2, 1) := by decide +kernel
theorem dX12_apart_28 : decode cX12_apart 28 = .ok (.ishl, 1) := by decide +kernel
theorem dX12_apart_29 : decode cX12_apart 29 = .ok (.istore 4, 2) := by decide +kernel
theorem dX12_apart_31 : decode cX12_apart 31 = .ok (.iconst 0, 1) := by decide +kernel
theorem dX12_apart_32 : decode cX12_apart 32 = .ok (.istore 5, 2) := by decide +kernel
theorem dX12_apart_34 : decode cX12_apart 34 = .ok (.iload 5, 2) := by decide +kernel
theorem dX12_apart_36 : decode cX12_apart 36 = .ok (.bipush 10, 2) := by decide +kernel
theorem dX12_apart_38 : decode cX12_apart 38 = .ok (.if_icmp .ge 32, 3) := by decide +kernel
theorem dX12_apart_41 : decode cX12_apart 41 = .ok (.iload 4, 2) := by decide +kernel
theorem dX12_apart_43 : decode cX12_apart 43 = .ok (.iload_n 3, 1) := by decide +kernel
theorem dX12_apart_44 : decode cX12_apart 44 = .ok (.invokestatic 235, 3) := by decide +kernel
theorem dX12_apart_47 : decode cX12_apart 47 = .ok (.ifCond .eq 6, 3) := by decide +kernel
theorem dX12_apart_50 : decode cX12_apart 50 = .ok (.iload 5, 2) := by decide +kernel
theorem dX12_apart_52 : decode cX12_apart 52 = .ok (.ireturn, 1) := by decide +kernel
theorem dX12_apart_53 : decode cX12_apart 53 = .ok (.iload 4, 2) := by decide +kernel
theorem dX12_apart_55 : decode cX12_apart 55 = .ok (.aload_n 0, 1) := by decide +kernel
theorem dX12_apart_56 : decode cX12_apart 56 = .ok (.iload 4, 2) := by decide +kernel
theorem dX12_apart_58 : decode cX12_apart 58 = .ok (.invokevirtual 340, 3) := by decide +kernel
theorem dX12_apart_61 : decode cX12_apart 61 = .ok (.ior, 1) := by decide +kernel
theorem dX12_apart_62 : decode cX12_apart 62 = .ok (.istore 4, 2) := by decide +kernel
theorem dX12_apart_64 : decode cX12_apart 64 = .ok (.iinc 5 1, 3) := by decide +kernel
theorem dX12_apart_67 : decode cX12_apart 67 = .ok (.goto (-33), 3) := by decide +kernel
theorem dX12_apart_70 : decode cX12_apart 70 = .ok (.iconst (-1), 1) := by decide +kernel
theorem dX12_apart_71 : decode cX12_apart 71 = .ok (.ireturn, 1) := by decide +kernel
theorem dX12_houseOf_0 : decode cX12_houseOf 0 = .ok (.iconst 1, 1) := by decide +kernel
theorem dX12_houseOf_1 : decode cX12_houseOf 1 = .ok (.iload_n 1, 1) := by decide +kernel
theorem dX12_houseOf_2 : decode cX12_houseOf 2 = .ok (.ishl, 1) := by decide +kernel
theorem dX12_houseOf_3 : decode cX12_houseOf 3 = .ok (.istore_n 2, 1) := by decide +kernel
theorem dX12_houseOf_4 : decode cX12_houseOf 4 = .ok (.iconst 0, 1) := by decide +kernel
theorem dX12_houseOf_5 : decode cX12_houseOf 5 = .ok (.istore_n 3, 1) := by decide +kernel
theorem dX12_houseOf_6 : decode cX12_houseOf 6 = .ok (.iload_n 3, 1) := by decide +kernel
theorem dX12_houseOf_7 : decode cX12_houseOf 7 = .ok (.bipush 10, 2) := by decide +kernel
theorem dX12_houseOf_9 : decode cX12_houseOf 9 = .ok (.if_icmp .ge 17, 3) := by decide +kernel
theorem dX12_houseOf_12 : decode cX12_houseOf 12 = .ok (.iload_n 2, 1) := by decide +kernel
theorem dX12_houseOf_13 : decode cX12_houseOf 13 = .ok (.aload_n 0, 1) := by decide +kernel
theorem dX12_houseOf_14 : decode cX12_houseOf 14 = .ok (.iload_n 2, 1) := by decide +kernel
theorem dX12_houseOf_15 : decode cX12_houseOf 15 = .ok (.invokevirtual 340, 3) := by decide +kernel
theorem dX12_houseOf_18 : decode cX12_houseOf 18 = .ok (.ior, 1) := by decide +kernel
theorem dX12_houseOf_19 : decode cX12_houseOf 19 = .ok (.istore_n 2, 1) := by decide +kernel
theorem dX12_houseOf_20 : decode cX12_houseOf 20 = .ok (.iinc 3 1, 3) := by decide +kernel
theorem dX12_houseOf_23 : decode cX12_houseOf 23 = .ok (.goto (-17), 3) := by decide +kernel
theorem dX12_houseOf_26 : decode cX12_houseOf 26 = .ok (.iload_n 2, 1) := by decide +kernel
theorem dX12_houseOf_27 : decode cX12_houseOf 27 = .ok (.ireturn, 1) := by decide +kernel
theorem dX12_housesOf_0 : decode cX12_housesOf 0 = .ok (.iconst 0, 1) := by decide +kernel
theorem dX12_housesOf_1 : decode cX12_housesOf 1 = .ok (.istore_n 2, 1) := by decide +kernel
theorem dX12_housesOf_2 : decode cX12_housesOf 2 = .ok (.iconst 0, 1) := by decide +kernel
theorem dX12_housesOf_3 : decode cX12_housesOf 3 = .ok (.istore_n 3, 1) := by decide +kernel
theorem dX12_housesOf_4 : decode cX12_housesOf 4 = .ok (.iconst 0, 1) := by decide +kernel
theorem dX12_housesOf_5 : decode cX12_housesOf 5 = .ok (.istore 4, 2) := by decide +kernel
theorem dX12_housesOf_7 : decode cX12_housesOf 7 = .ok (.iload 4, 2) := by decide +kernel
theorem dX12_housesOf_9 : decode cX12_housesOf 9 = .ok (.aload_n 0, 1) := by decide +kernel
theorem dX12_housesOf_10 : decode cX12_housesOf 10 = .ok (.getfield 211, 3) := by decide +kernel
theorem dX12_housesOf_13 : decode cX12_housesOf 13 = .ok (.if_icmp .ge 56, 3) := by decide +kernel
theorem dX12_housesOf_16 : decode cX12_housesOf 16 = .ok (.aload_n 0, 1) := by decide +kernel
theorem dX12_housesOf_17 : decode cX12_housesOf 17 = .ok (.iload 4, 2) := by decide +kernel
theorem dX12_housesOf_19 : decode cX12_housesOf 19 = .ok (.invokevirtual 343, 3) := by decide +kernel
theorem dX12_housesOf_22 : decode cX12_housesOf 22 = .ok (.istore 5, 2) := by decide +kernel
theorem dX12_housesOf_24 : decode cX12_housesOf 24 = .ok (.iload_n 2, 1) := by decide +kernel
theorem dX12_housesOf_25 : decode cX12_housesOf 25 = .ok (.iload 5, 2) := by decide +kernel
theorem dX12_housesOf_27 : decode cX12_housesOf 27 = .ok (.iconst 1, 1) := by decide +kernel
theorem dX12_housesOf_28 : decode cX12_housesOf 28 = .ok (.iload 4, 2) := by decide +kernel
theorem dX12_housesOf_30 : decode cX12_housesOf 30 = .ok (.ishl, 1) := by decide +kernel
theorem dX12_housesOf_31 : decode cX12_housesOf 31 = .ok (.iconst 1, 1) := by decide +kernel
theorem dX12_housesOf_32 : decode cX12_housesOf 32 = .ok (.isub, 1) := by decide +kernel
theorem dX12_housesOf_33 : decode cX12_housesOf 33 = .ok (.iand, 1) := by decide +kernel
theorem dX12_housesOf_34 : decode cX12_housesOf 34 = .ok (.ifCond .ne 7, 3) := by decide +kernel
theorem dX12_housesOf_37 : decode cX12_housesOf 37 = .ok (.iconst 1, 1) := by decide +kernel
theorem dX12_housesOf_38 : decode cX12_housesOf 38 = .ok (.goto 4, 3) := by decide +kernel
theorem dX12_housesOf_41 : decode cX12_housesOf 41 = .ok (.iconst 0, 1) := by decide +kernel
theorem dX12_housesOf_42 : decode cX12_housesOf 42 = .ok (.iadd, 1) := by decide +kernel
theorem dX12_housesOf_43 : decode cX12_housesOf 43 = .ok (.istore_n 2, 1) := by decide +kernel
theorem dX12_housesOf_44 : decode cX12_housesOf 44 = .ok (.iload 5, 2) := by decide +kernel
theorem dX12_housesOf_46 : decode cX12_housesOf 46 = .ok (.invokestatic 183, 3) := by decide +kernel
theorem dX12_housesOf_49 : decode cX12_housesOf 49 = .ok (.iload_n 3, 1) := by decide +kernel
theorem dX12_housesOf_50 : decode cX12_housesOf 50 = .ok (.if_icmp .le 11, 3) := by decide +kernel
theorem dX12_housesOf_53 : decode cX12_housesOf 53 = .ok (.iload 5, 2) := by decide +kernel
theorem dX12_housesOf_55 : decode cX12_housesOf 55 = .ok (.invokestatic 183, 3) := by decide +kernel
theorem dX12_housesOf_58 : decode cX12_housesOf 58 = .ok (.goto 4, 3) := by decide +kernel
theorem dX12_housesOf_61 : decode cX12_housesOf 61 = .ok (.iload_n 3, 1) := by decide +kernel
theorem dX12_housesOf_62 : decode cX12_housesOf 62 = .ok (.istore_n 3, 1) := by decide +kernel
theorem dX12_housesOf_63 : decode cX12_housesOf 63 = .ok (.iinc 4 1, 3) := by decide +kernel
theorem dX12_housesOf_66 : decode cX12_housesOf 66 = .ok (.goto (-59), 3) := by decide +kernel
theorem dX12_housesOf_69 : decode cX12_housesOf 69 = .ok (.iload_n 1, 1) := by decide +kernel
theorem dX12_housesOf_70 : decode cX12_housesOf 70 = .ok (.ifCond .eq 7, 3) := by decide +kernel
theorem dX12_housesOf_73 : decode cX12_housesOf 73 = .ok (.iload_n 3, 1) := by decide +kernel
theorem dX12_housesOf_74 : decode cX12_housesOf 74 = .ok (.goto 4, 3) := by decide +kernel
theorem dX12_housesOf_77 : decode cX12_housesOf 77 = .ok (.iload_n 2, 1) := by decide +kernel
theorem dX12_housesOf_78 : decode cX12_housesOf 78 = .ok (.ireturn, 1) := by decide +kernel
theorem dX12_rootsOf_0 : decode cX12_rootsOf 0 = .ok (.iconst 0, 1) := by decide +kernel
theorem dX12_rootsOf_1 : decode cX12_rootsOf 1 = .ok (.istore_n 2, 1) := by decide +kernel
theorem dX12_rootsOf_2 : decode cX12_rootsOf 2 = .ok (.iconst 0, 1) := by decide +kernel
theorem dX12_rootsOf_3 : decode cX12_rootsOf 3 = .ok (.istore_n 3, 1) := by decide +kernel
theorem dX12_rootsOf_4 : decode cX12_rootsOf 4 = .ok (.iload_n 3, 1) := by decide +kernel
theorem dX12_rootsOf_5 : decode cX12_rootsOf 5 = .ok (.aload_n 0, 1) := by decide +kernel
theorem dX12_rootsOf_6 : decode cX12_rootsOf 6 = .ok (.getfield 211, 3) := by decide +kernel
theorem dX12_rootsOf_9 : decode cX12_rootsOf 9 = .ok (.if_icmp .ge 50, 3) := by decide +kernel
theorem dX12_rootsOf_12 : decode cX12_rootsOf 12 = .ok (.iload_n 2, 1) := by decide +kernel
theorem dX12_rootsOf_13 : decode cX12_rootsOf 13 = .ok (.iload_n 1, 1) := by decide +kernel
theorem dX12_rootsOf_14 : decode cX12_rootsOf 14 = .ok (.ifCond .eq 22, 3) := by decide +kernel
theorem dX12_rootsOf_17 : decode cX12_rootsOf 17 = .ok (.aload_n 0, 1) := by decide +kernel
theorem dX12_rootsOf_18 : decode cX12_rootsOf 18 = .ok (.iload_n 3, 1) := by decide +kernel
theorem dX12_rootsOf_19 : decode cX12_rootsOf 19 = .ok (.invokevirtual 241, 3) := by decide +kernel
theorem dX12_rootsOf_22 : decode cX12_rootsOf 22 = .ok (.ifCond .eq 28, 3) := by decide +kernel
theorem dX12_rootsOf_25 : decode cX12_rootsOf 25 = .ok (.aload_n 0, 1) := by decide +kernel
theorem dX12_rootsOf_26 : decode cX12_rootsOf 26 = .ok (.iload_n 3, 1) := by decide +kernel
theorem dX12_rootsOf_27 : decode cX12_rootsOf 27 = .ok (.invokevirtual 244, 3) := by decide +kernel
theorem dX12_rootsOf_30 : decode cX12_rootsOf 30 = .ok (.ifCond .ne 20, 3) := by decide +kernel
theorem dX12_rootsOf_33 : decode cX12_rootsOf 33 = .ok (.goto 11, 3) := by decide +kernel
theorem dX12_rootsOf_36 : decode cX12_rootsOf 36 = .ok (.aload_n 0, 1) := by decide +kernel
theorem dX12_rootsOf_37 : decode cX12_rootsOf 37 = .ok (.iload_n 3, 1) := by decide +kernel
theorem dX12_rootsOf_38 : decode cX12_rootsOf 38 = .ok (.invokevirtual 319, 3) := by decide +kernel
theorem dX12_rootsOf_41 : decode cX12_rootsOf 41 = .ok (.ifCond .ne 9, 3) := by decide +kernel
theorem dX12_rootsOf_44 : decode cX12_rootsOf 44 = .ok (.iconst 1, 1) := by decide +kernel
theorem dX12_rootsOf_45 : decode cX12_rootsOf 45 = .ok (.iload_n 3, 1) := by decide +kernel
theorem dX12_rootsOf_46 : decode cX12_rootsOf 46 = .ok (.ishl, 1) := by decide +kernel
theorem dX12_rootsOf_47 : decode cX12_rootsOf 47 = .ok (.goto 4, 3) := by decide +kernel
theorem dX12_rootsOf_50 : decode cX12_rootsOf 50 = .ok (.iconst 0, 1) := by decide +kernel
theorem dX12_rootsOf_51 : decode cX12_rootsOf 51 = .ok (.ior, 1) := by decide +kernel
theorem dX12_rootsOf_52 : decode cX12_rootsOf 52 = .ok (.istore_n 2, 1) := by decide +kernel
theorem dX12_rootsOf_53 : decode cX12_rootsOf 53 = .ok (.iinc 3 1, 3) := by decide +kernel
theorem dX12_rootsOf_56 : decode cX12_rootsOf 56 = .ok (.goto (-52), 3) := by decide +kernel
theorem dX12_rootsOf_59 : decode cX12_rootsOf 59 = .ok (.iload_n 2, 1) := by decide +kernel
theorem dX12_rootsOf_60 : decode cX12_rootsOf 60 = .ok (.ireturn, 1) := by decide +kernel
theorem dX12_cousinsOf_0 : decode cX12_cousinsOf 0 = .ok (.iconst 0, 1) := by decide +kernel
theorem dX12_cousinsOf_1 : decode cX12_cousinsOf 1 = .ok (.istore_n 1, 1) := by decide +kernel
theorem dX12_cousinsOf_2 : decode cX12_cousinsOf 2 = .ok (.iconst 0, 1) := by decide +kernel
theorem dX12_cousinsOf_3 : decode cX12_cousinsOf 3 = .ok (.istore_n 2, 1) := by decide +kernel
theorem dX12_cousinsOf_4 : decode cX12_cousinsOf 4 = .ok (.iload_n 2, 1) := by decide +kernel
theorem dX12_cousinsOf_5 : decode cX12_cousinsOf 5 = .ok (.aload_n 0, 1) := by decide +kernel
theorem dX12_cousinsOf_6 : decode cX12_cousinsOf 6 = .ok (.getfield 211, 3) := by decide +kernel
theorem dX12_cousinsOf_9 : decode cX12_cousinsOf 9 = .ok (.if_icmp .ge 58, 3) := by decide +kernel
theorem dX12_cousinsOf_12 : decode cX12_cousinsOf 12 = .ok (.iconst 0, 1) := by decide +kernel
theorem dX12_cousinsOf_13 : decode cX12_cousinsOf 13 = .ok (.istore_n 3, 1) := by decide +kernel
theorem dX12_cousinsOf_14 : decode cX12_cousinsOf 14 = .ok (.iload_n 3, 1) := by decide +kernel
theorem dX12_cousinsOf_15 : decode cX12_cousinsOf 15 = .ok (.iload_n 2, 1) := by decide +kernel
theorem dX12_cousinsOf_16 : decode cX12_cousinsOf 16 = .ok (.if_icmp .ge 45, 3) := by decide +kernel
theorem dX12_cousinsOf_19 : decode cX12_cousinsOf 19 = .ok (.iload_n 1, 1) := by decide +kernel
theorem dX12_cousinsOf_20 : decode cX12_cousinsOf 20 = .ok (.aload_n 0, 1) := by decide +kernel
theorem dX12_cousinsOf_21 : decode cX12_cousinsOf 21 = .ok (.iload_n 2, 1) := by decide +kernel
theorem dX12_cousinsOf_22 : decode cX12_cousinsOf 22 = .ok (.invokevirtual 244, 3) := by decide +kernel
theorem dX12_cousinsOf_25 : decode cX12_cousinsOf 25 = .ok (.aload_n 0, 1) := by decide +kernel
theorem dX12_cousinsOf_26 : decode cX12_cousinsOf 26 = .ok (.iload_n 3, 1) := by decide +kernel
theorem dX12_cousinsOf_27 : decode cX12_cousinsOf 27 = .ok (.invokevirtual 244, 3) := by decide +kernel
theorem dX12_cousinsOf_30 : decode cX12_cousinsOf 30 = .ok (.iand, 1) := by decide +kernel
theorem dX12_cousinsOf_31 : decode cX12_cousinsOf 31 = .ok (.ifCond .eq 21, 3) := by decide +kernel
theorem dX12_cousinsOf_34 : decode cX12_cousinsOf 34 = .ok (.aload_n 0, 1) := by decide +kernel
theorem dX12_cousinsOf_35 : decode cX12_cousinsOf 35 = .ok (.iload_n 2, 1) := by decide +kernel
theorem dX12_cousinsOf_36 : decode cX12_cousinsOf 36 = .ok (.invokevirtual 319, 3) := by decide +kernel
theorem dX12_cousinsOf_39 : decode cX12_cousinsOf 39 = .ok (.aload_n 0, 1) := by decide +kernel
theorem dX12_cousinsOf_40 : decode cX12_cousinsOf 40 = .ok (.iload_n 3, 1) := by decide +kernel
theorem dX12_cousinsOf_41 : decode cX12_cousinsOf 41 = .ok (.invokevirtual 319, 3) := by decide +kernel
theorem dX12_cousinsOf_44 : decode cX12_cousinsOf 44 = .ok (.iand, 1) := by decide +kernel
theorem dX12_cousinsOf_45 : decode cX12_cousinsOf 45 = .ok (.ifCond .ne 7, 3) := by decide +kernel
theorem dX12_cousinsOf_48 : decode cX12_cousinsOf 48 = .ok (.iconst 1, 1) := by decide +kernel
theorem dX12_cousinsOf_49 : decode cX12_cousinsOf 49 = .ok (.goto 4, 3) := by decide +kernel
theorem dX12_cousinsOf_52 : decode cX12_cousinsOf 52 = .ok (.iconst 0, 1) := by decide +kernel
theorem dX12_cousinsOf_53 : decode cX12_cousinsOf 53 = .ok (.iadd, 1) := by decide +kernel
theorem dX12_cousinsOf_54 : decode cX12_cousinsOf 54 = .ok (.istore_n 1, 1) := by decide +kernel
theorem dX12_cousinsOf_55 : decode cX12_cousinsOf 55 = .ok (.iinc 3 1, 3) := by decide +kernel
theorem dX12_cousinsOf_58 : decode cX12_cousinsOf 58 = .ok (.goto (-44), 3) := by decide +kernel
theorem dX12_cousinsOf_61 : decode cX12_cousinsOf 61 = .ok (.iinc 2 1, 3) := by decide +kernel
