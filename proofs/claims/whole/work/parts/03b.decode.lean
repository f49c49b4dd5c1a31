theorem dX5_nextToken_76 : decode cX5_nextToken 76 = .ok (.invokevirtual 120, 3) := by decide +kernel
theorem dX5_nextToken_79 : decode cX5_nextToken 79 = .ok (.istore_n 1, 1) := by decide +kernel
theorem dX5_nextToken_80 : decode cX5_nextToken 80 = .ok (.aload_n 0, 1) := by decide +kernel
theorem dX5_nextToken_81 : decode cX5_nextToken 81 = .ok (.dup, 1) := by decide +kernel
theorem dX5_nextToken_82 : decode cX5_nextToken 82 = .ok (.getfield 64, 3) := by decide +kernel
theorem dX5_nextToken_85 : decode cX5_nextToken 85 = .ok (.iconst 1, 1) := by decide +kernel
theorem dX5_nextToken_86 : decode cX5_nextToken 86 = .ok (.iadd, 1) := by decide +kernel
theorem dX5_nextToken_87 : decode cX5_nextToken 87 = .ok (.putfield 64, 3) := by decide +kernel
theorem dX5_nextToken_90 : decode cX5_nextToken 90 = .ok (.iload_n 1, 1) := by decide +kernel
theorem dX5_nextToken_91 : decode cX5_nextToken 91 = .ok (.bipush 59, 2) := by decide +kernel
theorem dX5_nextToken_93 : decode cX5_nextToken 93 = .ok (.if_icmp .ne 5, 3) := by decide +kernel
theorem dX5_nextToken_96 : decode cX5_nextToken 96 = .ok (.iconst 3, 1) := by decide +kernel
theorem dX5_nextToken_97 : decode cX5_nextToken 97 = .ok (.ireturn, 1) := by decide +kernel
theorem dX5_nextToken_98 : decode cX5_nextToken 98 = .ok (.iload_n 1, 1) := by decide +kernel
theorem dX5_nextToken_99 : decode cX5_nextToken 99 = .ok (.invokestatic 123, 3) := by decide +kernel
theorem dX5_nextToken_102 : decode cX5_nextToken 102 = .ok (.ifCond .eq 43, 3) := by decide +kernel
theorem dX5_nextToken_105 : decode cX5_nextToken 105 = .ok (.aload_n 0, 1) := by decide +kernel
theorem dX5_nextToken_106 : decode cX5_nextToken 106 = .ok (.getfield 64, 3) := by decide +kernel
theorem dX5_nextToken_109 : decode cX5_nextToken 109 = .ok (.aload_n 0, 1) := by decide +kernel
theorem dX5_nextToken_110 : decode cX5_nextToken 110 = .ok (.getfield 58, 3) := by decide +kernel
theorem dX5_nextToken_113 : decode cX5_nextToken 113 = .ok (.if_icmp .ge 30, 3) := by decide +kernel
theorem dX5_nextToken_116 : decode cX5_nextToken 116 = .ok (.aload_n 0, 1) := by decide +kernel
theorem dX5_nextToken_117 : decode cX5_nextToken 117 = .ok (.aload_n 0, 1) := by decide +kernel
theorem dX5_nextToken_118 : decode cX5_nextToken 118 = .ok (.getfield 64, 3) := by decide +kernel
theorem dX5_nextToken_121 : decode cX5_nextToken 121 = .ok (.invokevirtual 120, 3) := by decide +kernel
theorem dX5_nextToken_124 : decode cX5_nextToken 124 = .ok (.invokestatic 123, 3) := by decide +kernel
theorem dX5_nextToken_127 : decode cX5_nextToken 127 = .ok (.ifCond .eq 16, 3) := by decide +kernel
theorem dX5_nextToken_130 : decode cX5_nextToken 130 = .ok (.aload_n 0, 1) := by decide +kernel
theorem dX5_nextToken_131 : decode cX5_nextToken 131 = .ok (.dup, 1) := by decide +kernel
theorem dX5_nextToken_132 : decode cX5_nextToken 132 = .ok (.getfield 64, 3) := by decide +kernel
theorem dX5_nextToken_135 : decode cX5_nextToken 135 = .ok (.iconst 1, 1) := by decide +kernel
theorem dX5_nextToken_136 : decode cX5_nextToken 136 = .ok (.iadd, 1) := by decide +kernel
theorem dX5_nextToken_137 : decode cX5_nextToken 137 = .ok (.putfield 64, 3) := by decide +kernel
theorem dX5_nextToken_140 : decode cX5_nextToken 140 = .ok (.goto (-35), 3) := by decide +kernel
theorem dX5_nextToken_143 : decode cX5_nextToken 143 = .ok (.iconst 1, 1) := by decide +kernel
theorem dX5_nextToken_144 : decode cX5_nextToken 144 = .ok (.ireturn, 1) := by decide +kernel
theorem dX5_nextToken_145 : decode cX5_nextToken 145 = .ok (.iload_n 1, 1) := by decide +kernel
theorem dX5_nextToken_146 : decode cX5_nextToken 146 = .ok (.invokestatic 127, 3) := by decide +kernel
theorem dX5_nextToken_149 : decode cX5_nextToken 149 = .ok (.ifCond .eq 60, 3) := by decide +kernel
theorem dX5_nextToken_152 : decode cX5_nextToken 152 = .ok (.aload_n 0, 1) := by decide +kernel
theorem dX5_nextToken_153 : decode cX5_nextToken 153 = .ok (.getfield 64, 3) := by decide +kernel
theorem dX5_nextToken_156 : decode cX5_nextToken 156 = .ok (.aload_n 0, 1) := by decide +kernel
theorem dX5_nextToken_157 : decode cX5_nextToken 157 = .ok (.getfield 58, 3) := by decide +kernel
theorem dX5_nextToken_160 : decode cX5_nextToken 160 = .ok (.if_icmp .ge 30, 3) := by decide +kernel
theorem dX5_nextToken_163 : decode cX5_nextToken 163 = .ok (.aload_n 0, 1) := by decide +kernel
theorem dX5_nextToken_164 : decode cX5_nextToken 164 = .ok (.aload_n 0, 1) := by decide +kernel
theorem dX5_nextToken_165 : decode cX5_nextToken 165 = .ok (.getfield 64, 3) := by decide +kernel
theorem dX5_nextToken_168 : decode cX5_nextToken 168 = .ok (.invokevirtual 120, 3) := by decide +kernel
theorem dX5_nextToken_171 : decode cX5_nextToken 171 = .ok (.invokestatic 127, 3) := by decide +kernel
theorem dX5_nextToken_174 : decode cX5_nextToken 174 = .ok (.ifCond .eq 16, 3) := by decide +kernel
theorem dX5_nextToken_177 : decode cX5_nextToken 177 = .ok (.aload_n 0, 1) := by decide +kernel
theorem dX5_nextToken_178 : decode cX5_nextToken 178 = .ok (.dup, 1) := by decide +kernel
theorem dX5_nextToken_179 : decode cX5_nextToken 179 = .ok (.getfield 64, 3) := by decide +kernel
theorem dX5_nextToken_182 : decode cX5_nextToken 182 = .ok (.iconst 1, 1) := by decide +kernel
theorem dX5_nextToken_183 : decode cX5_nextToken 183 = .ok (.iadd, 1) := by decide +kernel
theorem dX5_nextToken_184 : decode cX5_nextToken 184 = .ok (.putfield 64, 3) := by decide +kernel
theorem dX5_nextToken_187 : decode cX5_nextToken 187 = .ok (.goto (-35), 3) := by decide +kernel
theorem dX5_nextToken_190 : decode cX5_nextToken 190 = .ok (.aload_n 0, 1) := by decide +kernel
theorem dX5_nextToken_191 : decode cX5_nextToken 191 = .ok (.getfield 64, 3) := by decide +kernel
theorem dX5_nextToken_194 : decode cX5_nextToken 194 = .ok (.aload_n 0, 1) := by decide +kernel
theorem dX5_nextToken_195 : decode cX5_nextToken 195 = .ok (.getfield 96, 3) := by decide +kernel
theorem dX5_nextToken_198 : decode cX5_nextToken 198 = .ok (.isub, 1) := by decide +kernel
theorem dX5_nextToken_199 : decode cX5_nextToken 199 = .ok (.iconst 2, 1) := by decide +kernel
theorem dX5_nextToken_200 : decode cX5_nextToken 200 = .ok (.if_icmp .gt 7, 3) := by decide +kernel
theorem dX5_nextToken_203 : decode cX5_nextToken 203 = .ok (.iconst 2, 1) := by decide +kernel
theorem dX5_nextToken_204 : decode cX5_nextToken 204 = .ok (.goto 4, 3) := by decide +kernel
theorem dX5_nextToken_207 : decode cX5_nextToken 207 = .ok (.iconst 4, 1) := by decide +kernel
theorem dX5_nextToken_208 : decode cX5_nextToken 208 = .ok (.ireturn, 1) := by decide +kernel
theorem dX5_nextToken_209 : decode cX5_nextToken 209 = .ok (.iconst 4, 1) := by decide +kernel
theorem dX5_nextToken_210 : decode cX5_nextToken 210 = .ok (.ireturn, 1) := by decide +kernel
theorem dX5_numberRead_0 : decode cX5_numberRead 0 = .ok (.iconst 0, 1) := by decide +kernel
theorem dX5_numberRead_1 : decode cX5_numberRead 1 = .ok (.istore_n 1, 1) := by decide +kernel
theorem dX5_numberRead_2 : decode cX5_numberRead 2 = .ok (.aload_n 0, 1) := by decide +kernel
theorem dX5_numberRead_3 : decode cX5_numberRead 3 = .ok (.getfield 96, 3) := by decide +kernel
theorem dX5_numberRead_6 : decode cX5_numberRead 6 = .ok (.istore_n 2, 1) := by decide +kernel
theorem dX5_numberRead_7 : decode cX5_numberRead 7 = .ok (.iload_n 2, 1) := by decide +kernel
theorem dX5_numberRead_8 : decode cX5_numberRead 8 = .ok (.aload_n 0, 1) := by decide +kernel
theorem dX5_numberRead_9 : decode cX5_numberRead 9 = .ok (.getfield 64, 3) := by decide +kernel
theorem dX5_numberRead_12 : decode cX5_numberRead 12 = .ok (.if_icmp .ge 23, 3) := by decide +kernel
theorem dX5_numberRead_15 : decode cX5_numberRead 15 = .ok (.iload_n 1, 1) := by decide +kernel
theorem dX5_numberRead_16 : decode cX5_numberRead 16 = .ok (.bipush 10, 2) := by decide +kernel
theorem dX5_numberRead_18 : decode cX5_numberRead 18 = .ok (.imul, 1) := by decide +kernel
theorem dX5_numberRead_19 : decode cX5_numberRead 19 = .ok (.aload_n 0, 1) := by decide +kernel
theorem dX5_numberRead_20 : decode cX5_numberRead 20 = .ok (.iload_n 2, 1) := by decide +kernel
theorem dX5_numberRead_21 : decode cX5_numberRead 21 = .ok (.invokevirtual 120, 3) := by decide +kernel
theorem dX5_numberRead_24 : decode cX5_numberRead 24 = .ok (.bipush 48, 2) := by decide +kernel
theorem dX5_numberRead_26 : decode cX5_numberRead 26 = .ok (.isub, 1) := by decide +kernel
theorem dX5_numberRead_27 : decode cX5_numberRead 27 = .ok (.iadd, 1) := by decide +kernel
theorem dX5_numberRead_28 : decode cX5_numberRead 28 = .ok (.istore_n 1, 1) := by decide +kernel
theorem dX5_numberRead_29 : decode cX5_numberRead 29 = .ok (.iinc 2 1, 3) := by decide +kernel
theorem dX5_numberRead_32 : decode cX5_numberRead 32 = .ok (.goto (-25), 3) := by decide +kernel
theorem dX5_numberRead_35 : decode cX5_numberRead 35 = .ok (.iload_n 1, 1) := by decide +kernel
theorem dX5_numberRead_36 : decode cX5_numberRead 36 = .ok (.ireturn, 1) := by decide +kernel
theorem dX5_isWord_0 : decode cX5_isWord 0 = .ok (.aload_n 1, 1) := by decide +kernel
theorem dX5_isWord_1 : decode cX5_isWord 1 = .ok (.ifnull 19, 3) := by decide +kernel
theorem dX5_isWord_4 : decode cX5_isWord 4 = .ok (.aload_n 0, 1) := by decide +kernel
theorem dX5_isWord_5 : decode cX5_isWord 5 = .ok (.getfield 64, 3) := by decide +kernel
theorem dX5_isWord_8 : decode cX5_isWord 8 = .ok (.aload_n 0, 1) := by decide +kernel
theorem dX5_isWord_9 : decode cX5_isWord 9 = .ok (.getfield 96, 3) := by decide +kernel
theorem dX5_isWord_12 : decode cX5_isWord 12 = .ok (.isub, 1) := by decide +kernel
theorem dX5_isWord_13 : decode cX5_isWord 13 = .ok (.aload_n 1, 1) := by decide +kernel
theorem dX5_isWord_14 : decode cX5_isWord 14 = .ok (.invokevirtual 130, 3) := by decide +kernel
theorem dX5_isWord_17 : decode cX5_isWord 17 = .ok (.if_icmp .eq 5, 3) := by decide +kernel
theorem dX5_isWord_20 : decode cX5_isWord 20 = .ok (.iconst 0, 1) := by decide +kernel
theorem dX5_isWord_21 : decode cX5_isWord 21 = .ok (.ireturn, 1) := by decide +kernel
theorem dX5_isWord_22 : decode cX5_isWord 22 = .ok (.iconst 0, 1) := by decide +kernel
theorem dX5_isWord_23 : decode cX5_isWord 23 = .ok (.istore_n 2, 1) := by decide +kernel
theorem dX5_isWord_24 : decode cX5_isWord 24 = .ok (.iload_n 2, 1) := by decide +kernel
theorem dX5_isWord_25 : decode cX5_isWord 25 = .ok (.aload_n 1, 1) := by decide +kernel
theorem dX5_isWord_26 : decode cX5_isWord 26 = .ok (.invokevirtual 130, 3) := by decide +kernel
theorem dX5_isWord_29 : decode cX5_isWord 29 = .ok (.if_icmp .ge 29, 3) := by decide +kernel
theorem dX5_isWord_32 : decode cX5_isWord 32 = .ok (.aload_n 0, 1) := by decide +kernel
theorem dX5_isWord_33 : decode cX5_isWord 33 = .ok (.aload_n 0, 1) := by decide +kernel
theorem dX5_isWord_34 : decode cX5_isWord 34 = .ok (.getfield 96, 3) := by decide +kernel
theorem dX5_isWord_37 : decode cX5_isWord 37 = .ok (.iload_n 2, 1) := by decide +kernel
theorem dX5_isWord_38 : decode cX5_isWord 38 = .ok (.iadd, 1) := by decide +kernel
theorem dX5_isWord_39 : decode cX5_isWord 39 = .ok (.invokevirtual 120, 3) := by decide +kernel
theorem dX5_isWord_42 : decode cX5_isWord 42 = .ok (.aload_n 1, 1) := by decide +kernel
theorem dX5_isWord_43 : decode cX5_isWord 43 = .ok (.iload_n 2, 1) := by decide +kernel
theorem dX5_isWord_44 : decode cX5_isWord 44 = .ok (.invokevirtual 134, 3) := by decide +kernel
theorem dX5_isWord_47 : decode cX5_isWord 47 = .ok (.if_icmp .eq 5, 3) := by decide +kernel
theorem dX5_isWord_50 : decode cX5_isWord 50 = .ok (.iconst 0, 1) := by decide +kernel
theorem dX5_isWord_51 : decode cX5_isWord 51 = .ok (.ireturn, 1) := by decide +kernel
theorem dX5_isWord_52 : decode cX5_isWord 52 = .ok (.iinc 2 1, 3) := by decide +kernel
theorem dX5_isWord_55 : decode cX5_isWord 55 = .ok (.goto (-31), 3) := by decide +kernel
theorem dX5_isWord_58 : decode cX5_isWord 58 = .ok (.iconst 1, 1) := by decide +kernel
theorem dX5_isWord_59 : decode cX5_isWord 59 = .ok (.ireturn, 1) := by decide +kernel
theorem dX5_kindOfLine_0 : decode cX5_kindOfLine 0 = .ok (.aload_n 0, 1) := by decide +kernel
theorem dX5_kindOfLine_1 : decode cX5_kindOfLine 1 = .ok (.getfield 61, 3) := by decide +kernel
theorem dX5_kindOfLine_4 : decode cX5_kindOfLine 4 = .ok (.ifCond .ne 8, 3) := by decide +kernel
theorem dX5_kindOfLine_7 : decode cX5_kindOfLine 7 = .ok (.aload_n 0, 1) := by decide +kernel
theorem dX5_kindOfLine_8 : decode cX5_kindOfLine 8 = .ok (.invokevirtual 138, 3) := by decide +kernel
theorem dX5_kindOfLine_11 : decode cX5_kindOfLine 11 = .ok (.ireturn, 1) := by decide +kernel
theorem dX5_kindOfLine_12 : decode cX5_kindOfLine 12 = .ok (.aload_n 0, 1) := by decide +kernel
theorem dX5_kindOfLine_13 : decode cX5_kindOfLine 13 = .ok (.getfield 61, 3) := by decide +kernel
theorem dX5_kindOfLine_16 : decode cX5_kindOfLine 16 = .ok (.iconst 1, 1) := by decide +kernel
theorem dX5_kindOfLine_17 : decode cX5_kindOfLine 17 = .ok (.if_icmp .ne 8, 3) := by decide +kernel
theorem dX5_kindOfLine_20 : decode cX5_kindOfLine 20 = .ok (.aload_n 0, 1) := by decide +kernel
theorem dX5_kindOfLine_21 : decode cX5_kindOfLine 21 = .ok (.invokevirtual 141, 3) := by decide +kernel
theorem dX5_kindOfLine_24 : decode cX5_kindOfLine 24 = .ok (.ireturn, 1) := by decide +kernel
theorem dX5_kindOfLine_25 : decode cX5_kindOfLine 25 = .ok (.aload_n 0, 1) := by decide +kernel
theorem dX5_kindOfLine_26 : decode cX5_kindOfLine 26 = .ok (.ldc 144, 2) := by decide +kernel
theorem dX5_kindOfLine_28 : decode cX5_kindOfLine 28 = .ok (.invokevirtual 145, 3) := by decide +kernel
theorem dX5_kindOfLine_31 : decode cX5_kindOfLine 31 = .ok (.ifCond .eq 5, 3) := by decide +kernel
theorem dX5_kindOfLine_34 : decode cX5_kindOfLine 34 = .ok (.iconst 0, 1) := by decide +kernel
theorem dX5_kindOfLine_35 : decode cX5_kindOfLine 35 = .ok (.ireturn, 1) := by decide +kernel
theorem dX5_kindOfLine_36 : decode cX5_kindOfLine 36 = .ok (.aload_n 0, 1) := by decide +kernel
theorem dX5_kindOfLine_37 : decode cX5_kindOfLine 37 = .ok (.ldc 149, 2) := by decide +kernel
theorem dX5_kindOfLine_39 : decode cX5_kindOfLine 39 = .ok (.invokevirtual 145, 3) := by decide +kernel
theorem dX5_kindOfLine_42 : decode cX5_kindOfLine 42 = .ok (.ifCond .eq 7, 3) := by decide +kernel
theorem dX5_kindOfLine_45 : decode cX5_kindOfLine 45 = .ok (.iconst 1, 1) := by decide +kernel
theorem dX5_kindOfLine_46 : decode cX5_kindOfLine 46 = .ok (.goto 4, 3) := by decide +kernel
theorem dX5_kindOfLine_49 : decode cX5_kindOfLine 49 = .ok (.iconst (-1), 1) := by decide +kernel
theorem dX5_kindOfLine_50 : decode cX5_kindOfLine 50 = .ok (.ireturn, 1) := by decide +kernel
theorem dX5_kindOfValleyLine_0 : decode cX5_kindOfValleyLine 0 = .ok (.aload_n 0, 1) := by decide +kernel
theorem dX5_kindOfValleyLine_1 : decode cX5_kindOfValleyLine 1 = .ok (.ldc 151, 2) := by decide +kernel
theorem dX5_kindOfValleyLine_3 : decode cX5_kindOfValleyLine 3 = .ok (.invokevirtual 145, 3) := by decide +kernel
theorem dX5_kindOfValleyLine_6 : decode cX5_kindOfValleyLine 6 = .ok (.ifCond .eq 5, 3) := by decide +kernel
theorem dX5_kindOfValleyLine_9 : decode cX5_kindOfValleyLine 9 = .ok (.iconst 0, 1) := by decide +kernel
theorem dX5_kindOfValleyLine_10 : decode cX5_kindOfValleyLine 10 = .ok (.ireturn, 1) := by decide +kernel
theorem dX5_kindOfValleyLine_11 : decode cX5_kindOfValleyLine 11 = .ok (.aload_n 0, 1) := by decide +kernel
theorem dX5_kindOfValleyLine_12 : decode cX5_kindOfValleyLine 12 = .ok (.ldc 153, 2) := by decide +kernel
theorem dX5_kindOfValleyLine_14 : decode cX5_kindOfValleyLine 14 = .ok (.invokevirtual 145, 3) := by decide +kernel
theorem dX5_kindOfValleyLine_17 : decode cX5_kindOfValleyLine 17 = .ok (.ifCond .eq 5, 3) := by decide +kernel
theorem dX5_kindOfValleyLine_20 : decode cX5_kindOfValleyLine 20 = .ok (.iconst 1, 1) := by decide +kernel
theorem dX5_kindOfValleyLine_21 : decode cX5_kindOfValleyLine 21 = .ok (.ireturn, 1) := by decide +kernel
theorem dX5_kindOfValleyLine_22 : decode cX5_kindOfValleyLine 22 = .ok (.aload_n 0, 1) := by decide +kernel
theorem dX5_kindOfValleyLine_23 : decode cX5_kindOfValleyLine 23 = .ok (.ldc 155, 2) := by decide +kernel
theorem dX5_kindOfValleyLine_25 : decode cX5_kindOfValleyLine 25 = .ok (.invokevirtual 145, 3) := by decide +kernel
theorem dX5_kindOfValleyLine_28 : decode cX5_kindOfValleyLine 28 = .ok (.ifCond .eq 5, 3) := by decide +kernel
theorem dX5_kindOfValleyLine_31 : decode cX5_kindOfValleyLine 31 = .ok (.iconst 2, 1) := by decide +kernel
theorem dX5_kindOfValleyLine_32 : decode cX5_kindOfValleyLine 32 = .ok (.ireturn, 1) := by decide +kernel
theorem dX5_kindOfValleyLine_33 : decode cX5_kindOfValleyLine 33 = .ok (.aload_n 0, 1) := by decide +kernel
theorem dX5_kindOfValleyLine_34 : decode cX5_kindOfValleyLine 34 = .ok (.ldc 157, 2) := by decide +kernel
theorem dX5_kindOfValleyLine_36 : decode cX5_kindOfValleyLine 36 = .ok (.invokevirtual 145, 3) := by decide +kernel
theorem dX5_kindOfValleyLine_39 : decode cX5_kindOfValleyLine 39 = .ok (.ifCond .eq 7, 3) := by decide +kernel
theorem dX5_kindOfValleyLine_42 : decode cX5_kindOfValleyLine 42 = .ok (.iconst 3, 1) := by decide +kernel
theorem dX5_kindOfValleyLine_43 : decode cX5_kindOfValleyLine 43 = .ok (.goto 4, 3) := by decide +kernel
theorem dX5_kindOfValleyLine_46 : decode cX5_kindOfValleyLine 46 = .ok (.iconst (-1), 1) := by decide +kernel
theorem dX5_kindOfValleyLine_47 : decode cX5_kindOfValleyLine 47 = .ok (.ireturn, 1) := by decide +kernel
theorem dX5_kindOfDeed_0 : decode cX5_kindOfDeed 0 = .ok (.aload_n 0, 1) := by decide +kernel
theorem dX5_kindOfDeed_1 : decode cX5_kindOfDeed 1 = .ok (.ldc 159, 2) := by decide +kernel
theorem dX5_kindOfDeed_3 : decode cX5_kindOfDeed 3 = .ok (.invokevirtual 145, 3) := by decide +kernel
theorem dX5_kindOfDeed_6 : decode cX5_kindOfDeed 6 = .ok (.ifCond .eq 5, 3) := by decide +kernel
theorem dX5_kindOfDeed_9 : decode cX5_kindOfDeed 9 = .ok (.iconst 0, 1) := by decide +kernel
theorem dX5_kindOfDeed_10 : decode cX5_kindOfDeed 10 = .ok (.ireturn, 1) := by decide +kernel
theorem dX5_kindOfDeed_11 : decode cX5_kindOfDeed 11 = .ok (.aload_n 0, 1) := by decide +kernel
theorem dX5_kindOfDeed_12 : decode cX5_kindOfDeed 12 = .ok (.ldc 161, 2) := by decide +kernel
theorem dX5_kindOfDeed_14 : decode cX5_kindOfDeed 14 = .ok (.invokevirtual 145, 3) := by decide +kernel
theorem dX5_kindOfDeed_17 : decode cX5_kindOfDeed 17 = .ok (.ifCond .eq 5, 3) := by decide +kernel
theorem dX5_kindOfDeed_20 : decode cX5_kindOfDeed 20 = .ok (.iconst 1, 1) := by decide +kernel
theorem dX5_kindOfDeed_21 : decode cX5_kindOfDeed 21 = .ok (.ireturn, 1) := by decide +kernel
theorem dX5_kindOfDeed_22 : decode cX5_kindOfDeed 22 = .ok (.aload_n 0, 1) := by decide +kernel
theorem dX5_kindOfDeed_23 : decode cX5_kindOfDeed 23 = .ok (.ldc 163, 2) := by decide +kernel
theorem dX5_kindOfDeed_25 : decode cX5_kindOfDeed 25 = .ok (.invokevirtual 145, 3) := by decide +kernel
theorem dX5_kindOfDeed_28 : decode cX5_kindOfDeed 28 = .ok (.ifCond .eq 5, 3) := by decide +kernel
theorem dX5_kindOfDeed_31 : decode cX5_kindOfDeed 31 = .ok (.iconst 2, 1) := by decide +kernel
theorem dX5_kindOfDeed_32 : decode cX5_kindOfDeed 32 = .ok (.ireturn, 1) := by decide +kernel
theorem dX5_kindOfDeed_33 : decode cX5_kindOfDeed 33 = .ok (.aload_n 0, 1) := by decide +kernel
theorem dX5_kindOfDeed_34 : decode cX5_kindOfDeed 34 = .ok (.ldc 165, 2) := by decide +kernel
theorem dX5_kindOfDeed_36 : decode cX5_kindOfDeed 36 = .ok (.invokevirtual 145, 3) := by decide +kernel
theorem dX5_kindOfDeed_39 : decode cX5_kindOfDeed 39 = .ok (.ifCond .eq 5, 3) := by decide +kernel
theorem dX5_kindOfDeed_42 : decode cX5_kindOfDeed 42 = .ok (.iconst 3, 1) := by decide +kernel
theorem dX5_kindOfDeed_43 : decode cX5_kindOfDeed 43 = .ok (.ireturn, 1) := by decide +kernel
theorem dX5_kindOfDeed_44 : decode cX5_kindOfDeed 44 = .ok (.aload_n 0, 1) := by decide +kernel
theorem dX5_kindOfDeed_45 : decode cX5_kindOfDeed 45 = .ok (.ldc 167, 2) := by decide +kernel
theorem dX5_kindOfDeed_47 : decode cX5_kindOfDeed 47 = .ok (.invokevirtual 145, 3) := by decide +kernel
theorem dX5_kindOfDeed_50 : decode cX5_kindOfDeed 50 = .ok (.ifCond .eq 7, 3) := by decide +kernel
theorem dX5_kindOfDeed_53 : decode cX5_kindOfDeed 53 = .ok (.iconst 4, 1) := by decide +kernel
theorem dX5_kindOfDeed_54 : decode cX5_kindOfDeed 54 = .ok (.goto 4, 3) := by decide +kernel
theorem dX5_kindOfDeed_57 : decode cX5_kindOfDeed 57 = .ok (.iconst (-1), 1) := by decide +kernel
theorem dX5_kindOfDeed_58 : decode cX5_kindOfDeed 58 = .ok (.ireturn, 1) := by decide +kernel
theorem dX5_numbersOf_0 : decode cX5_numbersOf 0 = .ok (.aload_n 0, 1) := by decide +kernel
theorem dX5_numbersOf_1 : decode cX5_numbersOf 1 = .ok (.getfield 61, 3) := by decide +kernel
theorem dX5_numbersOf_4 : decode cX5_numbersOf 4 = .ok (.ifCond .ne 14, 3) := by decide +kernel
theorem dX5_numbersOf_7 : decode cX5_numbersOf 7 = .ok (.iload_n 1, 1) := by decide +kernel
theorem dX5_numbersOf_8 : decode cX5_numbersOf 8 = .ok (.iconst 3, 1) := by decide +kernel
theorem dX5_numbersOf_9 : decode cX5_numbersOf 9 = .ok (.if_icmp .ne 7, 3) := by decide +kernel
theorem dX5_numbersOf_12 : decode cX5_numbersOf 12 = .ok (.iconst 1, 1) := by decide +kernel
theorem dX5_numbersOf_13 : decode cX5_numbersOf 13 = .ok (.goto 4, 3) := by decide +kernel
theorem dX5_numbersOf_16 : decode cX5_numbersOf 16 = .ok (.iconst 2, 1) := by decide +kernel
theorem dX5_numbersOf_17 : decode cX5_numbersOf 17 = .ok (.ireturn, 1) := by decide +kernel
theorem dX5_numbersOf_18 : decode cX5_numbersOf 18 = .ok (.aload_n 0, 1) := by decide +kernel
theorem dX5_numbersOf_19 : decode cX5_numbersOf 19 = .ok (.getfield 61, 3) := by decide +kernel
theorem dX5_numbersOf_22 : decode cX5_numbersOf 22 = .ok (.iconst 2, 1) := by decide +kernel
theorem dX5_numbersOf_23 : decode cX5_numbersOf 23 = .ok (.if_icmp .ne 13, 3) := by decide +kernel
theorem dX5_numbersOf_26 : decode cX5_numbersOf 26 = .ok (.iload_n 1, 1) := by decide +kernel
theorem dX5_numbersOf_27 : decode cX5_numbersOf 27 = .ok (.ifCond .ne 7, 3) := by decide +kernel
theorem dX5_numbersOf_30 : decode cX5_numbersOf 30 = .ok (.iconst 1, 1) := by decide +kernel
theorem dX5_numbersOf_31 : decode cX5_numbersOf 31 = .ok (.goto 4, 3) := by decide +kernel
theorem dX5_numbersOf_34 : decode cX5_numbersOf 34 = .ok (.iconst 2, 1) := by decide +kernel
theorem dX5_numbersOf_35 : decode cX5_numbersOf 35 = .ok (.ireturn, 1) := by decide +kernel
theorem dX5_numbersOf_36 : decode cX5_numbersOf 36 = .ok (.iload_n 1, 1) := by decide +kernel
theorem dX5_numbersOf_37 : decode cX5_numbersOf 37 = .ok (.ifCond .ne 5, 3) := by decide +kernel
theorem dX5_numbersOf_40 : decode cX5_numbersOf 40 = .ok (.iconst 3, 1) := by decide +kernel
theorem dX5_numbersOf_41 : decode cX5_numbersOf 41 = .ok (.ireturn, 1) := by decide +kernel
theorem dX5_numbersOf_42 : decode cX5_numbersOf 42 = .ok (.iload_n 1, 1) := by decide +kernel
theorem dX5_numbersOf_43 : decode cX5_numbersOf 43 = .ok (.iconst 1, 1) := by decide +kernel
theorem dX5_numbersOf_44 : decode cX5_numbersOf 44 = .ok (.if_icmp .ne 5, 3) := by decide +kernel
theorem dX5_numbersOf_47 : decode cX5_numbersOf 47 = .ok (.iconst 2, 1) := by decide +kernel
theorem dX5_numbersOf_48 : decode cX5_numbersOf 48 = .ok (.ireturn, 1) := by decide +kernel
theorem dX5_numbersOf_49 : decode cX5_numbersOf 49 = .ok (.iload_n 1, 1) := by decide +kernel
theorem dX5_numbersOf_50 : decode cX5_numbersOf 50 = .ok (.iconst 4, 1) := by decide +kernel
theorem dX5_numbersOf_51 : decode cX5_numbersOf 51 = .ok (.if_icmp .ne 7, 3) := by decide +kernel
theorem dX5_numbersOf_54 : decode cX5_numbersOf 54 = .ok (.iconst 0, 1) := by decide +kernel
theorem dX5_numbersOf_55 : decode cX5_numbersOf 55 = .ok (.goto 4, 3) := by decide +kernel
theorem dX5_numbersOf_58 : decode cX5_numbersOf 58 = .ok (.iconst 1, 1) := by decide +kernel
theorem dX5_numbersOf_59 : decode cX5_numbersOf 59 = .ok (.ireturn, 1) := by decide +kernel
theorem dX5_judgeLine_0 : decode cX5_judgeLine 0 = .ok (.aload_n 0, 1) := by decide +kernel
theorem dX5_judgeLine_1 : decode cX5_judgeLine 1 = .ok (.iload_n 1, 1) := by decide +kernel
theorem dX5_judgeLine_2 : decode cX5_judgeLine 2 = .ok (.invokevirtual 169, 3) := by decide +kernel
theorem dX5_judgeLine_5 : decode cX5_judgeLine 5 = .ok (.ifCond .eq 9, 3) := by decide +kernel
theorem dX5_judgeLine_8 : decode cX5_judgeLine 8 = .ok (.aload_n 0, 1) := by decide +kernel
theorem dX5_judgeLine_9 : decode cX5_judgeLine 9 = .ok (.iconst 3, 1) := by decide +kernel
theorem dX5_judgeLine_10 : decode cX5_judgeLine 10 = .ok (.iload_n 3, 1) := by decide +kernel
theorem dX5_judgeLine_11 : decode cX5_judgeLine 11 = .ok (.invokevirtual 172, 3) := by decide +kernel
theorem dX5_judgeLine_14 : decode cX5_judgeLine 14 = .ok (.iconst 0, 1) := by decide +kernel
theorem dX5_judgeLine_15 : decode cX5_judgeLine 15 = .ok (.istore 4, 2) := by decide +kernel
theorem dX5_judgeLine_17 : decode cX5_judgeLine 17 = .ok (.iload 4, 2) := by decide +kernel
theorem dX5_judgeLine_19 : decode cX5_judgeLine 19 = .ok (.iload_n 2, 1) := by decide +kernel
theorem dX5_judgeLine_20 : decode cX5_judgeLine 20 = .ok (.if_icmp .ge 37, 3) := by decide +kernel
theorem dX5_judgeLine_23 : decode cX5_judgeLine 23 = .ok (.iload 4, 2) := by decide +kernel
theorem dX5_judgeLine_25 : decode cX5_judgeLine 25 = .ok (.iconst 3, 1) := by decide +kernel
theorem dX5_judgeLine_26 : decode cX5_judgeLine 26 = .ok (.if_icmp .ge 31, 3) := by decide +kernel
theorem dX5_judgeLine_29 : decode cX5_judgeLine 29 = .ok (.aload_n 0, 1) := by decide +kernel
theorem dX5_judgeLine_30 : decode cX5_judgeLine 30 = .ok (.iload_n 1, 1) := by decide +kernel
theorem dX5_judgeLine_31 : decode cX5_judgeLine 31 = .ok (.iload 4, 2) := by decide +kernel
theorem dX5_judgeLine_33 : decode cX5_judgeLine 33 = .ok (.invokevirtual 176, 3) := by decide +kernel
theorem dX5_judgeLine_36 : decode cX5_judgeLine 36 = .ok (.ifCond .ne 15, 3) := by decide +kernel
theorem dX5_judgeLine_39 : decode cX5_judgeLine 39 = .ok (.aload_n 0, 1) := by decide +kernel
theorem dX5_judgeLine_40 : decode cX5_judgeLine 40 = .ok (.iconst 2, 1) := by decide +kernel
theorem dX5_judgeLine_41 : decode cX5_judgeLine 41 = .ok (.aload_n 0, 1) := by decide +kernel
theorem dX5_judgeLine_42 : decode cX5_judgeLine 42 = .ok (.getfield 46, 3) := by decide +kernel
theorem dX5_judgeLine_45 : decode cX5_judgeLine 45 = .ok (.iload 4, 2) := by decide +kernel
theorem dX5_judgeLine_47 : decode cX5_judgeLine 47 = .ok (.iaload, 1) := by decide +kernel
theorem dX5_judgeLine_48 : decode cX5_judgeLine 48 = .ok (.invokevirtual 172, 3) := by decide +kernel
theorem dX5_judgeLine_51 : decode cX5_judgeLine 51 = .ok (.iinc 4 1, 3) := by decide +kernel
theorem dX5_judgeLine_54 : decode cX5_judgeLine 54 = .ok (.goto (-37), 3) := by decide +kernel
theorem dX5_judgeLine_57 : decode cX5_judgeLine 57 = .ok (.return_, 1) := by decide +kernel
theorem dX5_note_0 : decode cX5_note 0 = .ok (.aload_n 0, 1) := by decide +kernel
theorem dX5_note_1 : decode cX5_note 1 = .ok (.getfield 32, 3) := by decide +kernel
theorem dX5_note_4 : decode cX5_note 4 = .ok (.ifCond .ne 13, 3) := by decide +kernel
theorem dX5_note_7 : decode cX5_note 7 = .ok (.aload_n 0, 1) := by decide +kernel
theorem dX5_note_8 : decode cX5_note 8 = .ok (.iload_n 1, 1) := by decide +kernel
theorem dX5_note_9 : decode cX5_note 9 = .ok (.putfield 32, 3) := by decide +kernel
theorem dX5_note_12 : decode cX5_note 12 = .ok (.aload_n 0, 1) := by decide +kernel
theorem dX5_note_13 : decode cX5_note 13 = .ok (.iload_n 2, 1) := by decide +kernel
theorem dX5_note_14 : decode cX5_note 14 = .ok (.putfield 36, 3) := by decide +kernel
theorem dX5_note_17 : decode cX5_note 17 = .ok (.return_, 1) := by decide +kernel
theorem dX5_isOneTooMany_0 : decode cX5_isOneTooMany 0 = .ok (.aload_n 0, 1) := by decide +kernel
theorem dX5_isOneTooMany_1 : decode cX5_isOneTooMany 1 = .ok (.getfield 61, 3) := by decide +kernel
theorem dX5_isOneTooMany_4 : decode cX5_isOneTooMany 4 = .ok (.iconst 1, 1) := by decide +kernel
theorem dX5_isOneTooMany_5 : decode cX5_isOneTooMany 5 = .ok (.if_icmp .ne 21, 3) := by decide +kernel
theorem dX5_isOneTooMany_8 : decode cX5_isOneTooMany 8 = .ok (.aload_n 0, 1) := by decide +kernel
theorem dX5_isOneTooMany_9 : decode cX5_isOneTooMany 9 = .ok (.getfield 21, 3) := by decide +kernel
theorem dX5_isOneTooMany_12 : decode cX5_isOneTooMany 12 = .ok (.getfield 73, 3) := by decide +kernel
theorem dX5_isOneTooMany_15 : decode cX5_isOneTooMany 15 = .ok (.bipush 40, 2) := by decide +kernel
theorem dX5_isOneTooMany_17 : decode cX5_isOneTooMany 17 = .ok (.if_icmp .lt 7, 3) := by decide +kernel
theorem dX5_isOneTooMany_20 : decode cX5_isOneTooMany 20 = .ok (.iconst 1, 1) := by decide +kernel
theorem dX5_isOneTooMany_21 : decode cX5_isOneTooMany 21 = .ok (.goto 4, 3) := by decide +kernel
theorem dX5_isOneTooMany_24 : decode cX5_isOneTooMany 24 = .ok (.iconst 0, 1) := by decide +kernel
theorem dX5_isOneTooMany_25 : decode cX5_isOneTooMany 25 = .ok (.ireturn, 1) := by decide +kernel
theorem dX5_isOneTooMany_26 : decode cX5_isOneTooMany 26 = .ok (.aload_n 0, 1) := by decide +kernel
theorem dX5_isOneTooMany_27 : decode cX5_isOneTooMany 27 = .ok (.getfield 61, 3) := by decide +kernel
theorem dX5_isOneTooMany_30 : decode cX5_isOneTooMany 30 = .ok (.iconst 2, 1) := by decide +kernel
theorem dX5_isOneTooMany_31 : decode cX5_isOneTooMany 31 = .ok (.if_icmp .ne 26, 3) := by decide +kernel
theorem dX5_isOneTooMany_34 : decode cX5_isOneTooMany 34 = .ok (.iload_n 1, 1) := by decide +kernel
theorem dX5_isOneTooMany_35 : decode cX5_isOneTooMany 35 = .ok (.iconst 1, 1) := by decide +kernel
theorem dX5_isOneTooMany_36 : decode cX5_isOneTooMany 36 = .ok (.if_icmp .ne 19, 3) := by decide +kernel
theorem dX5_isOneTooMany_39 : decode cX5_isOneTooMany 39 = .ok (.aload_n 0, 1) := by decide +kernel
theorem dX5_isOneTooMany_40 : decode cX5_isOneTooMany 40 = .ok (.getfield 28, 3) := by decide +kernel
theorem dX5_isOneTooMany_43 : decode cX5_isOneTooMany 43 = .ok (.getfield 79, 3) := by decide +kernel
theorem dX5_isOneTooMany_46 : decode cX5_isOneTooMany 46 = .ok (.bipush 8, 2) := by decide +kernel
theorem dX5_isOneTooMany_48 : decode cX5_isOneTooMany 48 = .ok (.if_icmp .lt 7, 3) := by decide +kernel
theorem dX5_isOneTooMany_51 : decode cX5_isOneTooMany 51 = .ok (.iconst 1, 1) := by decide +kernel
theorem dX5_isOneTooMany_52 : decode cX5_isOneTooMany 52 = .ok (.goto 4, 3) := by decide +kernel
theorem dX5_isOneTooMany_55 : decode cX5_isOneTooMany 55 = .ok (.iconst 0, 1) := by decide +kernel
theorem dX5_isOneTooMany_56 : decode cX5_isOneTooMany 56 = .ok (.ireturn, 1) := by decide +kernel
theorem dX5_isOneTooMany_57 : decode cX5_isOneTooMany 57 = .ok (.iload_n 1, 1) := by decide +kernel
theorem dX5_isOneTooMany_58 : decode cX5_isOneTooMany 58 = .ok (.ifCond .ne 21, 3) := by decide +kernel
theorem dX5_isOneTooMany_61 : decode cX5_isOneTooMany 61 = .ok (.aload_n 0, 1) := by decide +kernel
theorem dX5_isOneTooMany_62 : decode cX5_isOneTooMany 62 = .ok (.getfield 12, 3) := by decide +kernel
theorem dX5_isOneTooMany_65 : decode cX5_isOneTooMany 65 = .ok (.getfield 180, 3) := by decide +kernel
theorem dX5_isOneTooMany_68 : decode cX5_isOneTooMany 68 = .ok (.bipush 10, 2) := by decide +kernel
theorem dX5_isOneTooMany_70 : decode cX5_isOneTooMany 70 = .ok (.if_icmp .lt 7, 3) := by decide +kernel
theorem dX5_isOneTooMany_73 : decode cX5_isOneTooMany 73 = .ok (.iconst 1, 1) := by decide +kernel
theorem dX5_isOneTooMany_74 : decode cX5_isOneTooMany 74 = .ok (.goto 4, 3) := by decide +kernel
theorem dX5_isOneTooMany_77 : decode cX5_isOneTooMany 77 = .ok (.iconst 0, 1) := by decide +kernel
theorem dX5_isOneTooMany_78 : decode cX5_isOneTooMany 78 = .ok (.ireturn, 1) := by decide +kernel
theorem dX5_isOneTooMany_79 : decode cX5_isOneTooMany 79 = .ok (.iload_n 1, 1) := by decide +kernel
theorem dX5_isOneTooMany_80 : decode cX5_isOneTooMany 80 = .ok (.iconst 2, 1) := by decide +kernel
theorem dX5_isOneTooMany_81 : decode cX5_isOneTooMany 81 = .ok (.if_icmp .ne 19, 3) := by decide +kernel
theorem dX5_isOneTooMany_84 : decode cX5_isOneTooMany 84 = .ok (.aload_n 0, 1) := by decide +kernel
theorem dX5_isOneTooMany_85 : decode cX5_isOneTooMany 85 = .ok (.getfield 12, 3) := by decide +kernel
theorem dX5_isOneTooMany_88 : decode cX5_isOneTooMany 88 = .ok (.getfield 182, 3) := by decide +kernel
theorem dX5_isOneTooMany_91 : decode cX5_isOneTooMany 91 = .ok (.bipush 6, 2) := by decide +kernel
theorem dX5_isOneTooMany_93 : decode cX5_isOneTooMany 93 = .ok (.if_icmp .lt 7, 3) := by decide +kernel
theorem dX5_isOneTooMany_96 : decode cX5_isOneTooMany 96 = .ok (.iconst 1, 1) := by decide +kernel
theorem dX5_isOneTooMany_97 : decode cX5_isOneTooMany 97 = .ok (.goto 4, 3) := by decide +kernel
theorem dX5_isOneTooMany_100 : decode cX5_isOneTooMany 100 = .ok (.iconst 0, 1) := by decide +kernel
theorem dX5_isOneTooMany_101 : decode cX5_isOneTooMany 101 = .ok (.ireturn, 1) := by decide +kernel
theorem dX5_canBe_0 : decode cX5_canBe 0 = .ok (.iload_n 2, 1) := by decide +kernel
theorem dX5_canBe_1 : decode cX5_canBe 1 = .ok (.ifCond .lt 17, 3) := by decide +kernel
theorem dX5_canBe_4 : decode cX5_canBe 4 = .ok (.iload_n 2, 1) := by decide +kernel
theorem dX5_canBe_5 : decode cX5_canBe 5 = .ok (.iconst 3, 1) := by decide +kernel
theorem dX5_canBe_6 : decode cX5_canBe 6 = .ok (.if_icmp .ge 12, 3) := by decide +kernel
theorem dX5_canBe_9 : decode cX5_canBe 9 = .ok (.aload_n 0, 1) := by decide +kernel
theorem dX5_canBe_10 : decode cX5_canBe 10 = .ok (.getfield 43, 3) := by decide +kernel
theorem dX5_canBe_13 : decode cX5_canBe 13 = .ok (.iload_n 2, 1) := by decide +kernel
theorem dX5_canBe_14 : decode cX5_canBe 14 = .ok (.iaload, 1) := by decide +kernel
theorem dX5_canBe_15 : decode cX5_canBe 15 = .ok (.goto 4, 3) := by decide +kernel
theorem dX5_canBe_18 : decode cX5_canBe 18 = .ok (.iconst (-1), 1) := by decide +kernel
theorem dX5_canBe_19 : decode cX5_canBe 19 = .ok (.istore_n 3, 1) := by decide +kernel
theorem dX5_canBe_20 : decode cX5_canBe 20 = .ok (.aload_n 0, 1) := by decide +kernel
theorem dX5_canBe_21 : decode cX5_canBe 21 = .ok (.getfield 61, 3) := by decide +kernel
theorem dX5_canBe_24 : decode cX5_canBe 24 = .ok (.ifCond .ne 11, 3) := by decide +kernel
theorem dX5_canBe_27 : decode cX5_canBe 27 = .ok (.aload_n 0, 1) := by decide +kernel
theorem dX5_canBe_28 : decode cX5_canBe 28 = .ok (.iload_n 1, 1) := by decide +kernel
theorem dX5_canBe_29 : decode cX5_canBe 29 = .ok (.iload_n 2, 1) := by decide +kernel
theorem dX5_canBe_30 : decode cX5_canBe 30 = .ok (.iload_n 3, 1) := by decide +kernel
theorem dX5_canBe_31 : decode cX5_canBe 31 = .ok (.invokevirtual 185, 3) := by decide +kernel
theorem dX5_canBe_34 : decode cX5_canBe 34 = .ok (.ireturn, 1) := by decide +kernel
theorem dX5_canBe_35 : decode cX5_canBe 35 = .ok (.aload_n 0, 1) := by decide +kernel
theorem dX5_canBe_36 : decode cX5_canBe 36 = .ok (.getfield 61, 3) := by decide +kernel
theorem dX5_canBe_39 : decode cX5_canBe 39 = .ok (.iconst 1, 1) := by decide +kernel
theorem dX5_canBe_40 : decode cX5_canBe 40 = .ok (.if_icmp .ne 11, 3) := by decide +kernel
theorem dX5_canBe_43 : decode cX5_canBe 43 = .ok (.aload_n 0, 1) := by decide +kernel
theorem dX5_canBe_44 : decode cX5_canBe 44 = .ok (.iload_n 1, 1) := by decide +kernel
theorem dX5_canBe_45 : decode cX5_canBe 45 = .ok (.iload_n 2, 1) := by decide +kernel
theorem dX5_canBe_46 : decode cX5_canBe 46 = .ok (.iload_n 3, 1) := by decide +kernel
theorem dX5_canBe_47 : decode cX5_canBe 47 = .ok (.invokevirtual 189, 3) := by decide +kernel
theorem dX5_canBe_50 : decode cX5_canBe 50 = .ok (.ireturn, 1) := by decide +kernel
theorem dX5_canBe_51 : decode cX5_canBe 51 = .ok (.iload_n 1, 1) := by decide +kernel
theorem dX5_canBe_52 : decode cX5_canBe 52 = .ok (.ifCond .ne 20, 3) := by decide +kernel
theorem dX5_canBe_55 : decode cX5_canBe 55 = .ok (.iload_n 3, 1) := by decide +kernel
theorem dX5_canBe_56 : decode cX5_canBe 56 = .ok (.iconst 1, 1) := by decide +kernel
theorem dX5_canBe_57 : decode cX5_canBe 57 = .ok (.if_icmp .lt 13, 3) := by decide +kernel
theorem dX5_canBe_60 : decode cX5_canBe 60 = .ok (.iload_n 3, 1) := by decide +kernel
theorem dX5_canBe_61 : decode cX5_canBe 61 = .ok (.bipush 9, 2) := by decide +kernel
theorem dX5_canBe_63 : decode cX5_canBe 63 = .ok (.if_icmp .gt 7, 3) := by decide +kernel
theorem dX5_canBe_66 : decode cX5_canBe 66 = .ok (.iconst 1, 1) := by decide +kernel
theorem dX5_canBe_67 : decode cX5_canBe 67 = .ok (.goto 4, 3) := by decide +kernel
theorem dX5_canBe_70 : decode cX5_canBe 70 = .ok (.iconst 0, 1) := by decide +kernel
theorem dX5_canBe_71 : decode cX5_canBe 71 = .ok (.ireturn, 1) := by decide +kernel
theorem dX5_canBe_72 : decode cX5_canBe 72 = .ok (.iload_n 2, 1) := by decide +kernel
theorem dX5_canBe_73 : decode cX5_canBe 73 = .ok (.ifCond .ne 17, 3) := by decide +kernel
theorem dX5_canBe_76 : decode cX5_canBe 76 = .ok (.iload_n 3, 1) := by decide +kernel
theorem dX5_canBe_77 : decode cX5_canBe 77 = .ok (.bipush 6, 2) := by decide +kernel
theorem dX5_canBe_79 : decode cX5_canBe 79 = .ok (.if_icmp .ge 7, 3) := by decide +kernel
theorem dX5_canBe_82 : decode cX5_canBe 82 = .ok (.iconst 1, 1) := by decide +kernel
theorem dX5_canBe_83 : decode cX5_canBe 83 = .ok (.goto 18, 3) := by decide +kernel
theorem dX5_canBe_86 : decode cX5_canBe 86 = .ok (.iconst 0, 1) := by decide +kernel
theorem dX5_canBe_87 : decode cX5_canBe 87 = .ok (.goto 14, 3) := by decide +kernel
theorem dX5_canBe_90 : decode cX5_canBe 90 = .ok (.iload_n 3, 1) := by decide +kernel
theorem dX5_canBe_91 : decode cX5_canBe 91 = .ok (.bipush 30, 2) := by decide +kernel
theorem dX5_canBe_93 : decode cX5_canBe 93 = .ok (.if_icmp .gt 7, 3) := by decide +kernel
theorem dX5_canBe_96 : decode cX5_canBe 96 = .ok (.iconst 1, 1) := by decide +kernel
theorem dX5_canBe_97 : decode cX5_canBe 97 = .ok (.goto 4, 3) := by decide +kernel
theorem dX5_canBe_100 : decode cX5_canBe 100 = .ok (.iconst 0, 1) := by decide +kernel
theorem dX5_canBe_101 : decode cX5_canBe 101 = .ok (.ireturn, 1) := by decide +kernel
theorem dX5_canBeInValley_0 : decode cX5_canBeInValley 0 = .ok (.iload_n 1, 1) := by decide +kernel
theorem dX5_canBeInValley_1 : decode cX5_canBeInValley 1 = .ok (.tableswitch 112 0 2 #[27, 43, 77], 27) := by decide +kernel
theorem dX5_canBeInValley_28 : decode cX5_canBeInValley 28 = .ok (.iload_n 2, 1) := by decide +kernel
theorem dX5_canBeInValley_29 : decode cX5_canBeInValley 29 = .ok (.ifCond .eq 9, 3) := by decide +kernel
theorem dX5_canBeInValley_32 : decode cX5_canBeInValley 32 = .ok (.iload_n 3, 1) := by decide +kernel
theorem dX5_canBeInValley_33 : decode cX5_canBeInValley 33 = .ok (.bipush 9, 2) := by decide +kernel
theorem dX5_canBeInValley_35 : decode cX5_canBeInValley 35 = .ok (.if_icmp .gt 7, 3) := by decide +kernel
theorem dX5_canBeInValley_38 : decode cX5_canBeInValley 38 = .ok (.iconst 1, 1) := by decide +kernel
theorem dX5_canBeInValley_39 : decode cX5_canBeInValley 39 = .ok (.goto 4, 3) := by decide +kernel
theorem dX5_canBeInValley_42 : decode cX5_canBeInValley 42 = .ok (.iconst 0, 1) := by decide +kernel
theorem dX5_canBeInValley_43 : decode cX5_canBeInValley 43 = .ok (.ireturn, 1) := by decide +kernel
theorem dX5_canBeInValley_44 : decode cX5_canBeInValley 44 = .ok (.iload_n 2, 1) := by decide +kernel
theorem dX5_canBeInValley_45 : decode cX5_canBeInValley 45 = .ok (.ifCond .ne 17, 3) := by decide +kernel
theorem dX5_canBeInValley_48 : decode cX5_canBeInValley 48 = .ok (.iload_n 3, 1) := by decide +kernel
theorem dX5_canBeInValley_49 : decode cX5_canBeInValley 49 = .ok (.bipush 10, 2) := by decide +kernel
theorem dX5_canBeInValley_51 : decode cX5_canBeInValley 51 = .ok (.if_icmp .ge 7, 3) := by decide +kernel
theorem dX5_canBeInValley_54 : decode cX5_canBeInValley 54 = .ok (.iconst 1, 1) := by decide +kernel
theorem dX5_canBeInValley_55 : decode cX5_canBeInValley 55 = .ok (.goto 22, 3) := by decide +kernel
theorem dX5_canBeInValley_58 : decode cX5_canBeInValley 58 = .ok (.iconst 0, 1) := by decide +kernel
theorem dX5_canBeInValley_59 : decode cX5_canBeInValley 59 = .ok (.goto 18, 3) := by decide +kernel
theorem dX5_canBeInValley_62 : decode cX5_canBeInValley 62 = .ok (.iload_n 3, 1) := by decide +kernel
theorem dX5_canBeInValley_63 : decode cX5_canBeInValley 63 = .ok (.aload_n 0, 1) := by decide +kernel
theorem dX5_canBeInValley_64 : decode cX5_canBeInValley 64 = .ok (.getfield 43, 3) := by decide +kernel
theorem dX5_canBeInValley_67 : decode cX5_canBeInValley 67 = .ok (.iconst 0, 1) := by decide +kernel
theorem dX5_canBeInValley_68 : decode cX5_canBeInValley 68 = .ok (.iaload, 1) := by decide +kernel
theorem dX5_canBeInValley_69 : decode cX5_canBeInValley 69 = .ok (.if_icmp .ge 7, 3) := by decide +kernel
theorem dX5_canBeInValley_72 : decode cX5_canBeInValley 72 = .ok (.iconst 1, 1) := by decide +kernel
theorem dX5_canBeInValley_73 : decode cX5_canBeInValley 73 = .ok (.goto 4, 3) := by decide +kernel
theorem dX5_canBeInValley_76 : decode cX5_canBeInValley 76 = .ok (.iconst 0, 1) := by decide +kernel
theorem dX5_canBeInValley_77 : decode cX5_canBeInValley 77 = .ok (.ireturn, 1) := by decide +kernel
theorem dX5_canBeInValley_78 : decode cX5_canBeInValley 78 = .ok (.iload_n 2, 1) := by decide +kernel
theorem dX5_canBeInValley_79 : decode cX5_canBeInValley 79 = .ok (.ifCond .ne 22, 3) := by decide +kernel
theorem dX5_canBeInValley_82 : decode cX5_canBeInValley 82 = .ok (.iload_n 3, 1) := by decide +kernel
theorem dX5_canBeInValley_83 : decode cX5_canBeInValley 83 = .ok (.iconst 1, 1) := by decide +kernel
theorem dX5_canBeInValley_84 : decode cX5_canBeInValley 84 = .ok (.if_icmp .lt 13, 3) := by decide +kernel
theorem dX5_canBeInValley_87 : decode cX5_canBeInValley 87 = .ok (.iload_n 3, 1) := by decide +kernel
theorem dX5_canBeInValley_88 : decode cX5_canBeInValley 88 = .ok (.bipush 30, 2) := by decide +kernel
theorem dX5_canBeInValley_90 : decode cX5_canBeInValley 90 = .ok (.if_icmp .gt 7, 3) := by decide +kernel
theorem dX5_canBeInValley_93 : decode cX5_canBeInValley 93 = .ok (.iconst 1, 1) := by decide +kernel
theorem dX5_canBeInValley_94 : decode cX5_canBeInValley 94 = .ok (.goto 18, 3) := by decide +kernel
theorem dX5_canBeInValley_97 : decode cX5_canBeInValley 97 = .ok (.iconst 0, 1) := by decide +kernel
theorem dX5_canBeInValley_98 : decode cX5_canBeInValley 98 = .ok (.goto 14, 3) := by decide +kernel
theorem dX5_canBeInValley_101 : decode cX5_canBeInValley 101 = .ok (.iload_n 3, 1) := by decide +kernel
theorem dX5_canBeInValley_102 : decode cX5_canBeInValley 102 = .ok (.bipush 20, 2) := by decide +kernel
theorem dX5_canBeInValley_104 : decode cX5_canBeInValley 104 = .ok (.if_icmp .gt 7, 3) := by decide +kernel
theorem dX5_canBeInValley_107 : decode cX5_canBeInValley 107 = .ok (.iconst 1, 1) := by decide +kernel
theorem dX5_canBeInValley_108 : decode cX5_canBeInValley 108 = .ok (.goto 4, 3) := by decide +kernel
theorem dX5_canBeInValley_111 : decode cX5_canBeInValley 111 = .ok (.iconst 0, 1) := by decide +kernel
theorem dX5_canBeInValley_112 : decode cX5_canBeInValley 112 = .ok (.ireturn, 1) := by decide +kernel
theorem dX5_canBeInValley_113 : decode cX5_canBeInValley 113 = .ok (.iload_n 3, 1) := by decide +kernel
theorem dX5_canBeInValley_114 : decode cX5_canBeInValley 114 = .ok (.iconst 1, 1) := by decide +kernel
theorem dX5_canBeInValley_115 : decode cX5_canBeInValley 115 = .ok (.if_icmp .lt 13, 3) := by decide +kernel
theorem dX5_canBeInValley_118 : decode cX5_canBeInValley 118 = .ok (.iload_n 3, 1) := by decide +kernel
theorem dX5_canBeInValley_119 : decode cX5_canBeInValley 119 = .ok (.bipush 30, 2) := by decide +kernel
theorem dX5_canBeInValley_121 : decode cX5_canBeInValley 121 = .ok (.if_icmp .gt 7, 3) := by decide +kernel
theorem dX5_canBeInValley_124 : decode cX5_canBeInValley 124 = .ok (.iconst 1, 1) := by decide +kernel
theorem dX5_canBeInValley_125 : decode cX5_canBeInValley 125 = .ok (.goto 4, 3) := by decide +kernel
theorem dX5_canBeInValley_128 : decode cX5_canBeInValley 128 = .ok (.iconst 0, 1) := by decide +kernel
theorem dX5_canBeInValley_129 : decode cX5_canBeInValley 129 = .ok (.ireturn, 1) := by decide +kernel
theorem dX5_canBeInDeed_0 : decode cX5_canBeInDeed 0 = .ok (.iload_n 2, 1) := by decide +kernel
theorem dX5_canBeInDeed_1 : decode cX5_canBeInDeed 1 = .ok (.ifCond .ne 15, 3) := by decide +kernel
theorem dX5_canBeInDeed_4 : decode cX5_canBeInDeed 4 = .ok (.iload_n 3, 1) := by decide +kernel
theorem dX5_canBeInDeed_5 : decode cX5_canBeInDeed 5 = .ok (.bipush 10, 2) := by decide +kernel
theorem dX5_canBeInDeed_7 : decode cX5_canBeInDeed 7 = .ok (.if_icmp .ge 7, 3) := by decide +kernel
theorem dX5_canBeInDeed_10 : decode cX5_canBeInDeed 10 = .ok (.iconst 1, 1) := by decide +kernel
theorem dX5_canBeInDeed_11 : decode cX5_canBeInDeed 11 = .ok (.goto 4, 3) := by decide +kernel
theorem dX5_canBeInDeed_14 : decode cX5_canBeInDeed 14 = .ok (.iconst 0, 1) := by decide +kernel
theorem dX5_canBeInDeed_15 : decode cX5_canBeInDeed 15 = .ok (.ireturn, 1) := by decide +kernel
theorem dX5_canBeInDeed_16 : decode cX5_canBeInDeed 16 = .ok (.iload_n 1, 1) := by decide +kernel
theorem dX5_canBeInDeed_17 : decode cX5_canBeInDeed 17 = .ok (.iconst 1, 1) := by decide +kernel
theorem dX5_canBeInDeed_18 : decode cX5_canBeInDeed 18 = .ok (.if_icmp .ne 15, 3) := by decide +kernel
theorem dX5_canBeInDeed_21 : decode cX5_canBeInDeed 21 = .ok (.iload_n 3, 1) := by decide +kernel
theorem dX5_canBeInDeed_22 : decode cX5_canBeInDeed 22 = .ok (.bipush 9, 2) := by decide +kernel
theorem dX5_canBeInDeed_24 : decode cX5_canBeInDeed 24 = .ok (.if_icmp .gt 7, 3) := by decide +kernel
theorem dX5_canBeInDeed_27 : decode cX5_canBeInDeed 27 = .ok (.iconst 1, 1) := by decide +kernel
theorem dX5_canBeInDeed_28 : decode cX5_canBeInDeed 28 = .ok (.goto 4, 3) := by decide +kernel
theorem dX5_canBeInDeed_31 : decode cX5_canBeInDeed 31 = .ok (.iconst 0, 1) := by decide +kernel
theorem dX5_canBeInDeed_32 : decode cX5_canBeInDeed 32 = .ok (.ireturn, 1) := by decide +kernel
theorem dX5_canBeInDeed_33 : decode cX5_canBeInDeed 33 = .ok (.iload_n 2, 1) := by decide +kernel
theorem dX5_canBeInDeed_34 : decode cX5_canBeInDeed 34 = .ok (.iconst 1, 1) := by decide +kernel
theorem dX5_canBeInDeed_35 : decode cX5_canBeInDeed 35 = .ok (.if_icmp .ne 17, 3) := by decide +kernel
theorem dX5_canBeInDeed_38 : decode cX5_canBeInDeed 38 = .ok (.iload_n 3, 1) := by decide +kernel
theorem dX5_canBeInDeed_39 : decode cX5_canBeInDeed 39 = .ok (.bipush 6, 2) := by decide +kernel
theorem dX5_canBeInDeed_41 : decode cX5_canBeInDeed 41 = .ok (.if_icmp .ge 7, 3) := by decide +kernel
theorem dX5_canBeInDeed_44 : decode cX5_canBeInDeed 44 = .ok (.iconst 1, 1) := by decide +kernel
theorem dX5_canBeInDeed_45 : decode cX5_canBeInDeed 45 = .ok (.goto 23, 3) := by decide +kernel
theorem dX5_canBeInDeed_48 : decode cX5_canBeInDeed 48 = .ok (.iconst 0, 1) := by decide +kernel
theorem dX5_canBeInDeed_49 : decode cX5_canBeInDeed 49 = .ok (.goto 19, 3) := by decide +kernel
theorem dX5_canBeInDeed_52 : decode cX5_canBeInDeed 52 = .ok (.iload_n 3, 1) := by decide +kernel
theorem dX5_canBeInDeed_53 : decode cX5_canBeInDeed 53 = .ok (.iconst 1, 1) := by decide +kernel
theorem dX5_canBeInDeed_54 : decode cX5_canBeInDeed 54 = .ok (.if_icmp .lt 13, 3) := by decide +kernel
theorem dX5_canBeInDeed_57 : decode cX5_canBeInDeed 57 = .ok (.iload_n 3, 1) := by decide +kernel
theorem dX5_canBeInDeed_58 : decode cX5_canBeInDeed 58 = .ok (.bipush 9, 2) := by decide +kernel
theorem dX5_canBeInDeed_60 : decode cX5_canBeInDeed 60 = .ok (.if_icmp .gt 7, 3) := by decide +kernel
theorem dX5_canBeInDeed_63 : decode cX5_canBeInDeed 63 = .ok (.iconst 1, 1) := by decide +kernel
theorem dX5_canBeInDeed_64 : decode cX5_canBeInDeed 64 = .ok (.goto 4, 3) := by decide +kernel
theorem dX5_canBeInDeed_67 : decode cX5_canBeInDeed 67 = .ok (.iconst 0, 1) := by decide +kernel
theorem dX5_canBeInDeed_68 : decode cX5_canBeInDeed 68 = .ok (.ireturn, 1) := by decide +kernel
theorem dX5_tellLine_0 : decode cX5_tellLine 0 = .ok (.aload_n 0, 1) := by decide +kernel
theorem dX5_tellLine_1 : decode cX5_tellLine 1 = .ok (.getfield 61, 3) := by decide +kernel
theorem dX5_tellLine_4 : decode cX5_tellLine 4 = .ok (.ifCond .ne 11, 3) := by decide +kernel
theorem dX5_tellLine_7 : decode cX5_tellLine 7 = .ok (.aload_n 0, 1) := by decide +kernel
theorem dX5_tellLine_8 : decode cX5_tellLine 8 = .ok (.iload_n 1, 1) := by decide +kernel
theorem dX5_tellLine_9 : decode cX5_tellLine 9 = .ok (.invokevirtual 192, 3) := by decide +kernel
theorem dX5_tellLine_12 : decode cX5_tellLine 12 = .ok (.goto 116, 3) := by decide +kernel
theorem dX5_tellLine_15 : decode cX5_tellLine 15 = .ok (.aload_n 0, 1) := by decide +kernel
theorem dX5_tellLine_16 : decode cX5_tellLine 16 = .ok (.getfield 61, 3) := by decide +kernel
theorem dX5_tellLine_19 : decode cX5_tellLine 19 = .ok (.iconst 1, 1) := by decide +kernel
theorem dX5_tellLine_20 : decode cX5_tellLine 20 = .ok (.if_icmp .ne 11, 3) := by decide +kernel
theorem dX5_tellLine_23 : decode cX5_tellLine 23 = .ok (.aload_n 0, 1) := by decide +kernel
theorem dX5_tellLine_24 : decode cX5_tellLine 24 = .ok (.iload_n 1, 1) := by decide +kernel
theorem dX5_tellLine_25 : decode cX5_tellLine 25 = .ok (.invokevirtual 195, 3) := by decide +kernel
theorem dX5_tellLine_28 : decode cX5_tellLine 28 = .ok (.goto 100, 3) := by decide +kernel
theorem dX5_tellLine_31 : decode cX5_tellLine 31 = .ok (.iload_n 1, 1) := by decide +kernel
theorem dX5_tellLine_32 : decode cX5_tellLine 32 = .ok (.ifCond .ne 19, 3) := by decide +kernel
theorem dX5_tellLine_35 : decode cX5_tellLine 35 = .ok (.aload_n 0, 1) := by decide +kernel
theorem dX5_tellLine_36 : decode cX5_tellLine 36 = .ok (.getfield 28, 3) := by decide +kernel
theorem dX5_tellLine_39 : decode cX5_tellLine 39 = .ok (.aload_n 0, 1) := by decide +kernel
theorem dX5_tellLine_40 : decode cX5_tellLine 40 = .ok (.getfield 43, 3) := by decide +kernel
theorem dX5_tellLine_43 : decode cX5_tellLine 43 = .ok (.iconst 0, 1) := by decide +kernel
theorem dX5_tellLine_44 : decode cX5_tellLine 44 = .ok (.iaload, 1) := by decide +kernel
theorem dX5_tellLine_45 : decode cX5_tellLine 45 = .ok (.putfield 76, 3) := by decide +kernel
theorem dX5_tellLine_48 : decode cX5_tellLine 48 = .ok (.goto 80, 3) := by decide +kernel
theorem dX5_tellLine_51 : decode cX5_tellLine 51 = .ok (.aload_n 0, 1) := by decide +kernel
theorem dX5_tellLine_52 : decode cX5_tellLine 52 = .ok (.getfield 28, 3) := by decide +kernel
theorem dX5_tellLine_55 : decode cX5_tellLine 55 = .ok (.getfield 79, 3) := by decide +kernel
theorem dX5_tellLine_58 : decode cX5_tellLine 58 = .ok (.ifCond .lt 70, 3) := by decide +kernel
theorem dX5_tellLine_61 : decode cX5_tellLine 61 = .ok (.aload_n 0, 1) := by decide +kernel
theorem dX5_tellLine_62 : decode cX5_tellLine 62 = .ok (.getfield 28, 3) := by decide +kernel
theorem dX5_tellLine_65 : decode cX5_tellLine 65 = .ok (.getfield 79, 3) := by decide +kernel
theorem dX5_tellLine_68 : decode cX5_tellLine 68 = .ok (.bipush 8, 2) := by decide +kernel
theorem dX5_tellLine_70 : decode cX5_tellLine 70 = .ok (.if_icmp .ge 58, 3) := by decide +kernel
theorem dX5_tellLine_73 : decode cX5_tellLine 73 = .ok (.aload_n 0, 1) := by decide +kernel
theorem dX5_tellLine_74 : decode cX5_tellLine 74 = .ok (.getfield 28, 3) := by decide +kernel
theorem dX5_tellLine_77 : decode cX5_tellLine 77 = .ok (.getfield 198, 3) := by decide +kernel
theorem dX5_tellLine_80 : decode cX5_tellLine 80 = .ok (.aload_n 0, 1) := by decide +kernel
theorem dX5_tellLine_81 : decode cX5_tellLine 81 = .ok (.getfield 28, 3) := by decide +kernel
theorem dX5_tellLine_84 : decode cX5_tellLine 84 = .ok (.getfield 79, 3) := by decide +kernel
theorem dX5_tellLine_87 : decode cX5_tellLine 87 = .ok (.aload_n 0, 1) := by decide +kernel
theorem dX5_tellLine_88 : decode cX5_tellLine 88 = .ok (.getfield 43, 3) := by decide +kernel
theorem dX5_tellLine_91 : decode cX5_tellLine 91 = .ok (.iconst 0, 1) := by decide +kernel
theorem dX5_tellLine_92 : decode cX5_tellLine 92 = .ok (.iaload, 1) := by decide +kernel
theorem dX5_tellLine_93 : decode cX5_tellLine 93 = .ok (.iastore, 1) := by decide +kernel
theorem dX5_tellLine_94 : decode cX5_tellLine 94 = .ok (.aload_n 0, 1) := by decide +kernel
theorem dX5_tellLine_95 : decode cX5_tellLine 95 = .ok (.getfield 28, 3) := by decide +kernel
theorem dX5_tellLine_98 : decode cX5_tellLine 98 = .ok (.getfield 200, 3) := by decide +kernel
theorem dX5_tellLine_101 : decode cX5_tellLine 101 = .ok (.aload_n 0, 1) := by decide +kernel
theorem dX5_tellLine_102 : decode cX5_tellLine 102 = .ok (.getfield 28, 3) := by decide +kernel
theorem dX5_tellLine_105 : decode cX5_tellLine 105 = .ok (.getfield 79, 3) := by decide +kernel
theorem dX5_tellLine_108 : decode cX5_tellLine 108 = .ok (.aload_n 0, 1) := by decide +kernel
theorem dX5_tellLine_109 : decode cX5_tellLine 109 = .ok (.getfield 43, 3) := by decide +kernel
theorem dX5_tellLine_112 : decode cX5_tellLine 112 = .ok (.iconst 1, 1) := by decide +kernel
theorem dX5_tellLine_113 : decode cX5_tellLine 113 = .ok (.iaload, 1) := by decide +kernel
theorem dX5_tellLine_114 : decode cX5_tellLine 114 = .ok (.iastore, 1) := by decide +kernel
theorem dX5_tellLine_115 : decode cX5_tellLine 115 = .ok (.aload_n 0, 1) := by decide +kernel
theorem dX5_tellLine_116 : decode cX5_tellLine 116 = .ok (.getfield 28, 3) := by decide +kernel
theorem dX5_tellLine_119 : decode cX5_tellLine 119 = .ok (.dup, 1) := by decide +kernel
theorem dX5_tellLine_120 : decode cX5_tellLine 120 = .ok (.getfield 79, 3) := by decide +kernel
theorem dX5_tellLine_123 : decode cX5_tellLine 123 = .ok (.iconst 1, 1) := by decide +kernel
theorem dX5_tellLine_124 : decode cX5_tellLine 124 = .ok (.iadd, 1) := by decide +kernel
theorem dX5_tellLine_125 : decode cX5_tellLine 125 = .ok (.putfield 79, 3) := by decide +kernel
theorem dX5_tellLine_128 : decode cX5_tellLine 128 = .ok (.return_, 1) := by decide +kernel
theorem dX5_tellOfValley_0 : decode cX5_tellOfValley 0 = .ok (.aload_n 0, 1) := by decide +kernel
theorem dX5_tellOfValley_1 : decode cX5_tellOfValley 1 = .ok (.getfield 43, 3) := by decide +kernel
theorem dX5_tellOfValley_4 : decode cX5_tellOfValley 4 = .ok (.iconst 0, 1) := by decide +kernel
theorem dX5_tellOfValley_5 : decode cX5_tellOfValley 5 = .ok (.iaload, 1) := by decide +kernel
theorem dX5_tellOfValley_6 : decode cX5_tellOfValley 6 = .ok (.istore_n 2, 1) := by decide +kernel
theorem dX5_tellOfValley_7 : decode cX5_tellOfValley 7 = .ok (.aload_n 0, 1) := by decide +kernel
theorem dX5_tellOfValley_8 : decode cX5_tellOfValley 8 = .ok (.getfield 43, 3) := by decide +kernel
theorem dX5_tellOfValley_11 : decode cX5_tellOfValley 11 = .ok (.iconst 1, 1) := by decide +kernel
theorem dX5_tellOfValley_12 : decode cX5_tellOfValley 12 = .ok (.iaload, 1) := by decide +kernel
theorem dX5_tellOfValley_13 : decode cX5_tellOfValley 13 = .ok (.istore_n 3, 1) := by decide +kernel
theorem dX5_tellOfValley_14 : decode cX5_tellOfValley 14 = .ok (.iload_n 1, 1) := by decide +kernel
theorem dX5_tellOfValley_15 : decode cX5_tellOfValley 15 = .ok (.iconst 3, 1) := by decide +kernel
theorem dX5_tellOfValley_16 : decode cX5_tellOfValley 16 = .ok (.if_icmp .ne 14, 3) := by decide +kernel
theorem dX5_tellOfValley_19 : decode cX5_tellOfValley 19 = .ok (.aload_n 0, 1) := by decide +kernel
theorem dX5_tellOfValley_20 : decode cX5_tellOfValley 20 = .ok (.getfield 12, 3) := by decide +kernel
theorem dX5_tellOfValley_23 : decode cX5_tellOfValley 23 = .ok (.iload_n 2, 1) := by decide +kernel
theorem dX5_tellOfValley_24 : decode cX5_tellOfValley 24 = .ok (.putfield 203, 3) := by decide +kernel
theorem dX5_tellOfValley_27 : decode cX5_tellOfValley 27 = .ok (.goto 198, 3) := by decide +kernel
theorem dX5_tellOfValley_30 : decode cX5_tellOfValley 30 = .ok (.iload_n 1, 1) := by decide +kernel
theorem dX5_tellOfValley_31 : decode cX5_tellOfValley 31 = .ok (.iconst 1, 1) := by decide +kernel
theorem dX5_tellOfValley_32 : decode cX5_tellOfValley 32 = .ok (.if_icmp .ne 52, 3) := by decide +kernel
theorem dX5_tellOfValley_35 : decode cX5_tellOfValley 35 = .ok (.iload_n 2, 1) := by decide +kernel
theorem dX5_tellOfValley_36 : decode cX5_tellOfValley 36 = .ok (.ifCond .lt 189, 3) := by decide +kernel
theorem dX5_tellOfValley_39 : decode cX5_tellOfValley 39 = .ok (.iload_n 2, 1) := by decide +kernel
theorem dX5_tellOfValley_40 : decode cX5_tellOfValley 40 = .ok (.bipush 10, 2) := by decide +kernel
theorem dX5_tellOfValley_42 : decode cX5_tellOfValley 42 = .ok (.if_icmp .ge 183, 3) := by decide +kernel
theorem dX5_tellOfValley_45 : decode cX5_tellOfValley 45 = .ok (.iload_n 3, 1) := by decide +kernel
theorem dX5_tellOfValley_46 : decode cX5_tellOfValley 46 = .ok (.ifCond .lt 179, 3) := by decide +kernel
theorem dX5_tellOfValley_49 : decode cX5_tellOfValley 49 = .ok (.iload_n 3, 1) := by decide +kernel
theorem dX5_tellOfValley_50 : decode cX5_tellOfValley 50 = .ok (.iload_n 2, 1) := by decide +kernel
theorem dX5_tellOfValley_51 : decode cX5_tellOfValley 51 = .ok (.if_icmp .ge 174, 3) := by decide +kernel
theorem dX5_tellOfValley_54 : decode cX5_tellOfValley 54 = .ok (.aload_n 0, 1) := by decide +kernel
theorem dX5_tellOfValley_55 : decode cX5_tellOfValley 55 = .ok (.getfield 12, 3) := by decide +kernel
theorem dX5_tellOfValley_58 : decode cX5_tellOfValley 58 = .ok (.getfield 205, 3) := by decide +kernel
theorem dX5_tellOfValley_61 : decode cX5_tellOfValley 61 = .ok (.iload_n 2, 1) := by decide +kernel
theorem dX5_tellOfValley_62 : decode cX5_tellOfValley 62 = .ok (.dup2, 1) := by decide +kernel
theorem dX5_tellOfValley_63 : decode cX5_tellOfValley 63 = .ok (.iaload, 1) := by decide +kernel
theorem dX5_tellOfValley_64 : decode cX5_tellOfValley 64 = .ok (.iconst 1, 1) := by decide +kernel
theorem dX5_tellOfValley_65 : decode cX5_tellOfValley 65 = .ok (.iload_n 3, 1) := by decide +kernel
theorem dX5_tellOfValley_66 : decode cX5_tellOfValley 66 = .ok (.ishl, 1) := by decide +kernel
theorem dX5_tellOfValley_67 : decode cX5_tellOfValley 67 = .ok (.ior, 1) := by decide +kernel
theorem dX5_tellOfValley_68 : decode cX5_tellOfValley 68 = .ok (.iastore, 1) := by decide +kernel
theorem dX5_tellOfValley_69 : decode cX5_tellOfValley 69 = .ok (.aload_n 0, 1) := by decide +kernel
theorem dX5_tellOfValley_70 : decode cX5_tellOfValley 70 = .ok (.dup, 1) := by decide +kernel
theorem dX5_tellOfValley_71 : decode cX5_tellOfValley 71 = .ok (.getfield 67, 3) := by decide +kernel
theorem dX5_tellOfValley_74 : decode cX5_tellOfValley 74 = .ok (.iconst 1, 1) := by decide +kernel
theorem dX5_tellOfValley_75 : decode cX5_tellOfValley 75 = .ok (.iload_n 2, 1) := by decide +kernel
theorem dX5_tellOfValley_76 : decode cX5_tellOfValley 76 = .ok (.ishl, 1) := by decide +kernel
theorem dX5_tellOfValley_77 : decode cX5_tellOfValley 77 = .ok (.ior, 1) := by decide +kernel
theorem dX5_tellOfValley_78 : decode cX5_tellOfValley 78 = .ok (.putfield 67, 3) := by decide +kernel
theorem dX5_tellOfValley_81 : decode cX5_tellOfValley 81 = .ok (.goto 144, 3) := by decide +kernel
theorem dX5_tellOfValley_84 : decode cX5_tellOfValley 84 = .ok (.iload_n 1, 1) := by decide +kernel
theorem dX5_tellOfValley_85 : decode cX5_tellOfValley 85 = .ok (.ifCond .ne 73, 3) := by decide +kernel
theorem dX5_tellOfValley_88 : decode cX5_tellOfValley 88 = .ok (.aload_n 0, 1) := by decide +kernel
theorem dX5_tellOfValley_89 : decode cX5_tellOfValley 89 = .ok (.getfield 12, 3) := by decide +kernel
theorem dX5_tellOfValley_92 : decode cX5_tellOfValley 92 = .ok (.getfield 180, 3) := by decide +kernel
theorem dX5_tellOfValley_95 : decode cX5_tellOfValley 95 = .ok (.ifCond .lt 130, 3) := by decide +kernel
theorem dX5_tellOfValley_98 : decode cX5_tellOfValley 98 = .ok (.aload_n 0, 1) := by decide +kernel
theorem dX5_tellOfValley_99 : decode cX5_tellOfValley 99 = .ok (.getfield 12, 3) := by decide +kernel
theorem dX5_tellOfValley_102 : decode cX5_tellOfValley 102 = .ok (.getfield 180, 3) := by decide +kernel
theorem dX5_tellOfValley_105 : decode cX5_tellOfValley 105 = .ok (.bipush 10, 2) := by decide +kernel
theorem dX5_tellOfValley_107 : decode cX5_tellOfValley 107 = .ok (.if_icmp .ge 118, 3) := by decide +kernel
theorem dX5_tellOfValley_110 : decode cX5_tellOfValley 110 = .ok (.aload_n 0, 1) := by decide +kernel
theorem dX5_tellOfValley_111 : decode cX5_tellOfValley 111 = .ok (.getfield 12, 3) := by decide +kernel
theorem dX5_tellOfValley_114 : decode cX5_tellOfValley 114 = .ok (.getfield 208, 3) := by decide +kernel
theorem dX5_tellOfValley_117 : decode cX5_tellOfValley 117 = .ok (.aload_n 0, 1) := by decide +kernel
theorem dX5_tellOfValley_118 : decode cX5_tellOfValley 118 = .ok (.getfield 12, 3) := by decide +kernel
theorem dX5_tellOfValley_121 : decode cX5_tellOfValley 121 = .ok (.getfield 180, 3) := by decide +kernel
theorem dX5_tellOfValley_124 : decode cX5_tellOfValley 124 = .ok (.iload_n 2, 1) := by decide +kernel
theorem dX5_tellOfValley_125 : decode cX5_tellOfValley 125 = .ok (.iastore, 1) := by decide +kernel
theorem dX5_tellOfValley_126 : decode cX5_tellOfValley 126 = .ok (.aload_n 0, 1) := by decide +kernel
theorem dX5_tellOfValley_127 : decode cX5_tellOfValley 127 = .ok (.getfield 12, 3) := by decide +kernel
theorem dX5_tellOfValley_130 : decode cX5_tellOfValley 130 = .ok (.getfield 211, 3) := by decide +kernel
theorem dX5_tellOfValley_133 : decode cX5_tellOfValley 133 = .ok (.aload_n 0, 1) := by decide +kernel
theorem dX5_tellOfValley_134 : decode cX5_tellOfValley 134 = .ok (.getfield 12, 3) := by decide +kernel
theorem dX5_tellOfValley_137 : decode cX5_tellOfValley 137 = .ok (.getfield 180, 3) := by decide +kernel
theorem dX5_tellOfValley_140 : decode cX5_tellOfValley 140 = .ok (.iload_n 3, 1) := by decide +kernel
theorem dX5_tellOfValley_141 : decode cX5_tellOfValley 141 = .ok (.iastore, 1) := by decide +kernel
theorem dX5_tellOfValley_142 : decode cX5_tellOfValley 142 = .ok (.aload_n 0, 1) := by decide +kernel
theorem dX5_tellOfValley_143 : decode cX5_tellOfValley 143 = .ok (.getfield 12, 3) := by decide +kernel
theorem dX5_tellOfValley_146 : decode cX5_tellOfValley 146 = .ok (.dup, 1) := by decide +kernel
theorem dX5_tellOfValley_147 : decode cX5_tellOfValley 147 = .ok (.getfield 180, 3) := by decide +kernel
theorem dX5_tellOfValley_150 : decode cX5_tellOfValley 150 = .ok (.iconst 1, 1) := by decide +kernel
theorem dX5_tellOfValley_151 : decode cX5_tellOfValley 151 = .ok (.iadd, 1) := by decide +kernel
theorem dX5_tellOfValley_152 : decode cX5_tellOfValley 152 = .ok (.putfield 180, 3) := by decide +kernel
theorem dX5_tellOfValley_155 : decode cX5_tellOfValley 155 = .ok (.goto 70, 3) := by decide +kernel
theorem dX5_tellOfValley_158 : decode cX5_tellOfValley 158 = .ok (.aload_n 0, 1) := by decide +kernel
theorem dX5_tellOfValley_159 : decode cX5_tellOfValley 159 = .ok (.getfield 12, 3) := by decide +kernel
theorem dX5_tellOfValley_162 : decode cX5_tellOfValley 162 = .ok (.getfield 182, 3) := by decide +kernel
theorem dX5_tellOfValley_165 : decode cX5_tellOfValley 165 = .ok (.ifCond .lt 60, 3) := by decide +kernel
theorem dX5_tellOfValley_168 : decode cX5_tellOfValley 168 = .ok (.aload_n 0, 1) := by decide +kernel
theorem dX5_tellOfValley_169 : decode cX5_tellOfValley 169 = .ok (.getfield 12, 3) := by decide +kernel
theorem dX5_tellOfValley_172 : decode cX5_tellOfValley 172 = .ok (.getfield 182, 3) := by decide +kernel
theorem dX5_tellOfValley_175 : decode cX5_tellOfValley 175 = .ok (.bipush 6, 2) := by decide +kernel
theorem dX5_tellOfValley_177 : decode cX5_tellOfValley 177 = .ok (.if_icmp .ge 48, 3) := by decide +kernel
theorem dX5_tellOfValley_180 : decode cX5_tellOfValley 180 = .ok (.aload_n 0, 1) := by decide +kernel
theorem dX5_tellOfValley_181 : decode cX5_tellOfValley 181 = .ok (.getfield 12, 3) := by decide +kernel
theorem dX5_tellOfValley_184 : decode cX5_tellOfValley 184 = .ok (.getfield 214, 3) := by decide +kernel
theorem dX5_tellOfValley_187 : decode cX5_tellOfValley 187 = .ok (.aload_n 0, 1) := by decide +kernel
theorem dX5_tellOfValley_188 : decode cX5_tellOfValley 188 = .ok (.getfield 12, 3) := by decide +kernel
theorem dX5_tellOfValley_191 : decode cX5_tellOfValley 191 = .ok (.getfield 182, 3) := by decide +kernel
theorem dX5_tellOfValley_194 : decode cX5_tellOfValley 194 = .ok (.iload_n 2, 1) := by decide +kernel
theorem dX5_tellOfValley_195 : decode cX5_tellOfValley 195 = .ok (.iastore, 1) := by decide +kernel
theorem dX5_tellOfValley_196 : decode cX5_tellOfValley 196 = .ok (.aload_n 0, 1) := by decide +kernel
theorem dX5_tellOfValley_197 : decode cX5_tellOfValley 197 = .ok (.getfield 12, 3) := by decide +kernel
theorem dX5_tellOfValley_200 : decode cX5_tellOfValley 200 = .ok (.getfield 217, 3) := by decide +kernel
theorem dX5_tellOfValley_203 : decode cX5_tellOfValley 203 = .ok (.aload_n 0, 1) := by decide +kernel
theorem dX5_tellOfValley_204 : decode cX5_tellOfValley 204 = .ok (.getfield 12, 3) := by decide +kernel
theorem dX5_tellOfValley_207 : decode cX5_tellOfValley 207 = .ok (.getfield 182, 3) := by decide +kernel
theorem dX5_tellOfValley_210 : decode cX5_tellOfValley 210 = .ok (.iload_n 3, 1) := by decide +kernel
theorem dX5_tellOfValley_211 : decode cX5_tellOfValley 211 = .ok (.iastore, 1) := by decide +kernel
theorem dX5_tellOfValley_212 : decode cX5_tellOfValley 212 = .ok (.aload_n 0, 1) := by decide +kernel
theorem dX5_tellOfValley_213 : decode cX5_tellOfValley 213 = .ok (.getfield 12, 3) := by decide +kernel
theorem dX5_tellOfValley_216 : decode cX5_tellOfValley 216 = .ok (.dup, 1) := by decide +kernel
theorem dX5_tellOfValley_217 : decode cX5_tellOfValley 217 = .ok (.getfield 182, 3) := by decide +kernel
theorem dX5_tellOfValley_220 : decode cX5_tellOfValley 220 = .ok (.iconst 1, 1) := by decide +kernel
theorem dX5_tellOfValley_221 : decode cX5_tellOfValley 221 = .ok (.iadd, 1) := by decide +kernel
theorem dX5_tellOfValley_222 : decode cX5_tellOfValley 222 = .ok (.putfield 182, 3) := by decide +kernel
theorem dX5_tellOfValley_225 : decode cX5_tellOfValley 225 = .ok (.return_, 1) := by decide +kernel
theorem dX5_tellDeed_0 : decode cX5_tellDeed 0 = .ok (.aload_n 0, 1) := by decide +kernel
theorem dX5_tellDeed_1 : decode cX5_tellDeed 1 = .ok (.getfield 21, 3) := by decide +kernel
theorem dX5_tellDeed_4 : decode cX5_tellDeed 4 = .ok (.getfield 73, 3) := by decide +kernel
theorem dX5_tellDeed_7 : decode cX5_tellDeed 7 = .ok (.istore_n 2, 1) := by decide +kernel
theorem dX5_tellDeed_8 : decode cX5_tellDeed 8 = .ok (.iload_n 2, 1) := by decide +kernel
theorem dX5_tellDeed_9 : decode cX5_tellDeed 9 = .ok (.ifCond .lt 77, 3) := by decide +kernel
theorem dX5_tellDeed_12 : decode cX5_tellDeed 12 = .ok (.iload_n 2, 1) := by decide +kernel
theorem dX5_tellDeed_13 : decode cX5_tellDeed 13 = .ok (.bipush 40, 2) := by decide +kernel
theorem dX5_tellDeed_15 : decode cX5_tellDeed 15 = .ok (.if_icmp .ge 71, 3) := by decide +kernel
theorem dX5_tellDeed_18 : decode cX5_tellDeed 18 = .ok (.aload_n 0, 1) := by decide +kernel
theorem dX5_tellDeed_19 : decode cX5_tellDeed 19 = .ok (.getfield 21, 3) := by decide +kernel
theorem dX5_tellDeed_22 : decode cX5_tellDeed 22 = .ok (.getfield 220, 3) := by decide +kernel
theorem dX5_tellDeed_25 : decode cX5_tellDeed 25 = .ok (.iload_n 2, 1) := by decide +kernel
theorem dX5_tellDeed_26 : decode cX5_tellDeed 26 = .ok (.iload_n 1, 1) := by decide +kernel
theorem dX5_tellDeed_27 : decode cX5_tellDeed 27 = .ok (.iastore, 1) := by decide +kernel
theorem dX5_tellDeed_28 : decode cX5_tellDeed 28 = .ok (.aload_n 0, 1) := by decide +kernel
theorem dX5_tellDeed_29 : decode cX5_tellDeed 29 = .ok (.getfield 21, 3) := by decide +kernel
theorem dX5_tellDeed_32 : decode cX5_tellDeed 32 = .ok (.getfield 223, 3) := by decide +kernel
theorem dX5_tellDeed_35 : decode cX5_tellDeed 35 = .ok (.iload_n 2, 1) := by decide +kernel
theorem dX5_tellDeed_36 : decode cX5_tellDeed 36 = .ok (.aload_n 0, 1) := by decide +kernel
theorem dX5_tellDeed_37 : decode cX5_tellDeed 37 = .ok (.getfield 43, 3) := by decide +kernel
theorem dX5_tellDeed_40 : decode cX5_tellDeed 40 = .ok (.iconst 0, 1) := by decide +kernel
theorem dX5_tellDeed_41 : decode cX5_tellDeed 41 = .ok (.iaload, 1) := by decide +kernel
theorem dX5_tellDeed_42 : decode cX5_tellDeed 42 = .ok (.iastore, 1) := by decide +kernel
theorem dX5_tellDeed_43 : decode cX5_tellDeed 43 = .ok (.aload_n 0, 1) := by decide +kernel
theorem dX5_tellDeed_44 : decode cX5_tellDeed 44 = .ok (.getfield 21, 3) := by decide +kernel
theorem dX5_tellDeed_47 : decode cX5_tellDeed 47 = .ok (.getfield 226, 3) := by decide +kernel
theorem dX5_tellDeed_50 : decode cX5_tellDeed 50 = .ok (.iload_n 2, 1) := by decide +kernel
theorem dX5_tellDeed_51 : decode cX5_tellDeed 51 = .ok (.aload_n 0, 1) := by decide +kernel
theorem dX5_tellDeed_52 : decode cX5_tellDeed 52 = .ok (.getfield 43, 3) := by decide +kernel
theorem dX5_tellDeed_55 : decode cX5_tellDeed 55 = .ok (.iconst 1, 1) := by decide +kernel
theorem dX5_tellDeed_56 : decode cX5_tellDeed 56 = .ok (.iaload, 1) := by decide +kernel
theorem dX5_tellDeed_57 : decode cX5_tellDeed 57 = .ok (.iastore, 1) := by decide +kernel
theorem dX5_tellDeed_58 : decode cX5_tellDeed 58 = .ok (.aload_n 0, 1) := by decide +kernel
theorem dX5_tellDeed_59 : decode cX5_tellDeed 59 = .ok (.getfield 21, 3) := by decide +kernel
theorem dX5_tellDeed_62 : decode cX5_tellDeed 62 = .ok (.getfield 229, 3) := by decide +kernel
theorem dX5_tellDeed_65 : decode cX5_tellDeed 65 = .ok (.iload_n 2, 1) := by decide +kernel
theorem dX5_tellDeed_66 : decode cX5_tellDeed 66 = .ok (.aload_n 0, 1) := by decide +kernel
theorem dX5_tellDeed_67 : decode cX5_tellDeed 67 = .ok (.getfield 43, 3) := by decide +kernel
theorem dX5_tellDeed_70 : decode cX5_tellDeed 70 = .ok (.iconst 2, 1) := by decide +kernel
theorem dX5_tellDeed_71 : decode cX5_tellDeed 71 = .ok (.iaload, 1) := by decide +kernel
theorem dX5_tellDeed_72 : decode cX5_tellDeed 72 = .ok (.iastore, 1) := by decide +kernel
theorem dX5_tellDeed_73 : decode cX5_tellDeed 73 = .ok (.aload_n 0, 1) := by decide +kernel
theorem dX5_tellDeed_74 : decode cX5_tellDeed 74 = .ok (.getfield 21, 3) := by decide +kernel
theorem dX5_tellDeed_77 : decode cX5_tellDeed 77 = .ok (.dup, 1) := by decide +kernel
theorem dX5_tellDeed_78 : decode cX5_tellDeed 78 = .ok (.getfield 73, 3) := by decide +kernel
theorem dX5_tellDeed_81 : decode cX5_tellDeed 81 = .ok (.iconst 1, 1) := by decide +kernel
theorem dX5_tellDeed_82 : decode cX5_tellDeed 82 = .ok (.iadd, 1) := by decide +kernel
theorem dX5_tellDeed_83 : decode cX5_tellDeed 83 = .ok (.putfield 73, 3) := by decide +kernel
theorem dX5_tellDeed_86 : decode cX5_tellDeed 86 = .ok (.return_, 1) := by decide +kernel
theorem dX5_judgeValley_0 : decode cX5_judgeValley 0 = .ok (.iconst 0, 1) := by decide +kernel
theorem dX5_judgeValley_1 : decode cX5_judgeValley 1 = .ok (.istore_n 1, 1) := by decide +kernel
theorem dX5_judgeValley_2 : decode cX5_judgeValley 2 = .ok (.iload_n 1, 1) := by decide +kernel
theorem dX5_judgeValley_3 : decode cX5_judgeValley 3 = .ok (.bipush 10, 2) := by decide +kernel
theorem dX5_judgeValley_5 : decode cX5_judgeValley 5 = .ok (.if_icmp .ge 40, 3) := by decide +kernel
theorem dX5_judgeValley_8 : decode cX5_judgeValley 8 = .ok (.aload_n 0, 1) := by decide +kernel
theorem dX5_judgeValley_9 : decode cX5_judgeValley 9 = .ok (.getfield 67, 3) := by decide +kernel
theorem dX5_judgeValley_12 : decode cX5_judgeValley 12 = .ok (.iload_n 1, 1) := by decide +kernel
theorem dX5_judgeValley_13 : decode cX5_judgeValley 13 = .ok (.ishr, 1) := by decide +kernel
theorem dX5_judgeValley_14 : decode cX5_judgeValley 14 = .ok (.iconst 1, 1) := by decide +kernel
theorem dX5_judgeValley_15 : decode cX5_judgeValley 15 = .ok (.iand, 1) := by decide +kernel
theorem dX5_judgeValley_16 : decode cX5_judgeValley 16 = .ok (.ifCond .eq 23, 3) := by decide +kernel
theorem dX5_judgeValley_19 : decode cX5_judgeValley 19 = .ok (.iload_n 1, 1) := by decide +kernel
theorem dX5_judgeValley_20 : decode cX5_judgeValley 20 = .ok (.aload_n 0, 1) := by decide +kernel
theorem dX5_judgeValley_21 : decode cX5_judgeValley 21 = .ok (.getfield 12, 3) := by decide +kernel
theorem dX5_judgeValley_24 : decode cX5_judgeValley 24 = .ok (.getfield 180, 3) := by decide +kernel
theorem dX5_judgeValley_27 : decode cX5_judgeValley 27 = .ok (.if_icmp .lt 12, 3) := by decide +kernel
theorem dX5_judgeValley_30 : decode cX5_judgeValley 30 = .ok (.aload_n 0, 1) := by decide +kernel
theorem dX5_judgeValley_31 : decode cX5_judgeValley 31 = .ok (.iconst 4, 1) := by decide +kernel
theorem dX5_judgeValley_32 : decode cX5_judgeValley 32 = .ok (.aload_n 0, 1) := by decide +kernel
theorem dX5_judgeValley_33 : decode cX5_judgeValley 33 = .ok (.getfield 58, 3) := by decide +kernel
theorem dX5_judgeValley_36 : decode cX5_judgeValley 36 = .ok (.invokevirtual 172, 3) := by decide +kernel
theorem dX5_judgeValley_39 : decode cX5_judgeValley 39 = .ok (.iinc 1 1, 3) := by decide +kernel
theorem dX5_judgeValley_42 : decode cX5_judgeValley 42 = .ok (.goto (-40), 3) := by decide +kernel
theorem dX5_judgeValley_45 : decode cX5_judgeValley 45 = .ok (.iconst 0, 1) := by decide +kernel
theorem dX5_judgeValley_46 : decode cX5_judgeValley 46 = .ok (.istore_n 1, 1) := by decide +kernel
theorem dX5_judgeValley_47 : decode cX5_judgeValley 47 = .ok (.iload_n 1, 1) := by decide +kernel
theorem dX5_judgeValley_48 : decode cX5_judgeValley 48 = .ok (.bipush 10, 2) := by decide +kernel
theorem dX5_judgeValley_50 : decode cX5_judgeValley 50 = .ok (.if_icmp .ge 34, 3) := by decide +kernel
theorem dX5_judgeValley_53 : decode cX5_judgeValley 53 = .ok (.aload_n 0, 1) := by decide +kernel
theorem dX5_judgeValley_54 : decode cX5_judgeValley 54 = .ok (.getfield 12, 3) := by decide +kernel
theorem dX5_judgeValley_57 : decode cX5_judgeValley 57 = .ok (.getfield 205, 3) := by decide +kernel
theorem dX5_judgeValley_60 : decode cX5_judgeValley 60 = .ok (.iload_n 1, 1) := by decide +kernel
theorem dX5_judgeValley_61 : decode cX5_judgeValley 61 = .ok (.iaload, 1) := by decide +kernel
theorem dX5_judgeValley_62 : decode cX5_judgeValley 62 = .ok (.invokestatic 232, 3) := by decide +kernel
theorem dX5_judgeValley_65 : decode cX5_judgeValley 65 = .ok (.iconst 2, 1) := by decide +kernel
theorem dX5_judgeValley_66 : decode cX5_judgeValley 66 = .ok (.if_icmp .le 12, 3) := by decide +kernel
theorem dX5_judgeValley_69 : decode cX5_judgeValley 69 = .ok (.aload_n 0, 1) := by decide +kernel
theorem dX5_judgeValley_70 : decode cX5_judgeValley 70 = .ok (.iconst 5, 1) := by decide +kernel
theorem dX5_judgeValley_71 : decode cX5_judgeValley 71 = .ok (.aload_n 0, 1) := by decide +kernel
theorem dX5_judgeValley_72 : decode cX5_judgeValley 72 = .ok (.getfield 58, 3) := by decide +kernel
theorem dX5_judgeValley_75 : decode cX5_judgeValley 75 = .ok (.invokevirtual 172, 3) := by decide +kernel
theorem dX5_judgeValley_78 : decode cX5_judgeValley 78 = .ok (.iinc 1 1, 3) := by decide +kernel
theorem dX5_judgeValley_81 : decode cX5_judgeValley 81 = .ok (.goto (-34), 3) := by decide +kernel
theorem dX5_judgeValley_84 : decode cX5_judgeValley 84 = .ok (.return_, 1) := by decide +kernel
theorem dX6_init_0 : decode cX6_init 0 = .ok (.aload_n 0, 1) := by decide +kernel
theorem dX6_init_1 : decode cX6_init 1 = .ok (.invokespecial 3, 3) := by decide +kernel
theorem dX6_init_4 : decode cX6_init 4 = .ok (.aload_n 0, 1) := by decide +kernel
theorem dX6_init_5 : decode cX6_init 5 = .ok (.bipush 8, 2) := by decide +kernel
theorem dX6_init_7 : decode cX6_init 7 = .ok (.newarray .int, 2) := by decide +kernel
theorem dX6_init_9 : decode cX6_init 9 = .ok (.putfield 9, 3) := by decide +kernel
theorem dX6_init_12 : decode cX6_init 12 = .ok (.aload_n 0, 1) := by decide +kernel
theorem dX6_init_13 : decode cX6_init 13 = .ok (.bipush 8, 2) := by decide +kernel
theorem dX6_init_15 : decode cX6_init 15 = .ok (.newarray .int, 2) := by decide +kernel
theorem dX6_init_17 : decode cX6_init 17 = .ok (.putfield 15, 3) := by decide +kernel
theorem dX6_init_20 : decode cX6_init 20 = .ok (.aload_n 0, 1) := by decide +kernel
theorem dX6_init_21 : decode cX6_init 21 = .ok (.iconst 1, 1) := by decide +kernel
theorem dX6_init_22 : decode cX6_init 22 = .ok (.putfield 18, 3) := by decide +kernel
theorem dX6_init_25 : decode cX6_init 25 = .ok (.aload_n 0, 1) := by decide +kernel
theorem dX6_init_26 : decode cX6_init 26 = .ok (.iconst 0, 1) := by decide +kernel
theorem dX6_init_27 : decode cX6_init 27 = .ok (.putfield 22, 3) := by decide +kernel
theorem dX6_init_30 : decode cX6_init 30 = .ok (.return_, 1) := by decide +kernel
theorem dX6_copyFrom_0 : decode cX6_copyFrom 0 = .ok (.aload_n 1, 1) := by decide +kernel
theorem dX6_copyFrom_1 : decode cX6_copyFrom 1 = .ok (.ifnonnull 4, 3) := by decide +kernel
theorem dX6_copyFrom_4 : decode cX6_copyFrom 4 = .ok (.return_, 1) := by decide +kernel
theorem dX6_copyFrom_5 : decode cX6_copyFrom 5 = .ok (.aload_n 0, 1) := by decide +kernel
theorem dX6_copyFrom_6 : decode cX6_copyFrom 6 = .ok (.aload_n 1, 1) := by decide +kernel
theorem dX6_copyFrom_7 : decode cX6_copyFrom 7 = .ok (.getfield 18, 3) := by decide +kernel
theorem dX6_copyFrom_10 : decode cX6_copyFrom 10 = .ok (.putfield 18, 3) := by decide +kernel
theorem dX6_copyFrom_13 : decode cX6_copyFrom 13 = .ok (.aload_n 0, 1) := by decide +kernel
theorem dX6_copyFrom_14 : decode cX6_copyFrom 14 = .ok (.aload_n 1, 1) := by decide +kernel
theorem dX6_copyFrom_15 : decode cX6_copyFrom 15 = .ok (.getfield 22, 3) := by decide +kernel
theorem dX6_copyFrom_18 : decode cX6_copyFrom 18 = .ok (.putfield 22, 3) := by decide +kernel
theorem dX6_copyFrom_21 : decode cX6_copyFrom 21 = .ok (.aload_n 1, 1) := by decide +kernel
theorem dX6_copyFrom_22 : decode cX6_copyFrom 22 = .ok (.getfield 9, 3) := by decide +kernel
theorem dX6_copyFrom_25 : decode cX6_copyFrom 25 = .ok (.iconst 0, 1) := by decide +kernel
theorem dX6_copyFrom_26 : decode cX6_copyFrom 26 = .ok (.aload_n 0, 1) := by decide +kernel
theorem dX6_copyFrom_27 : decode cX6_copyFrom 27 = .ok (.getfield 9, 3) := by decide +kernel
theorem dX6_copyFrom_30 : decode cX6_copyFrom 30 = .ok (.iconst 0, 1) := by decide +kernel
theorem dX6_copyFrom_31 : decode cX6_copyFrom 31 = .ok (.bipush 8, 2) := by decide +kernel
theorem dX6_copyFrom_33 : decode cX6_copyFrom 33 = .ok (.invokestatic 25, 3) := by decide +kernel
theorem dX6_copyFrom_36 : decode cX6_copyFrom 36 = .ok (.aload_n 1, 1) := by decide +kernel
theorem dX6_copyFrom_37 : decode cX6_copyFrom 37 = .ok (.getfield 15, 3) := by decide +kernel
theorem dX6_copyFrom_40 : decode cX6_copyFrom 40 = .ok (.iconst 0, 1) := by decide +kernel
theorem dX6_copyFrom_41 : decode cX6_copyFrom 41 = .ok (.aload_n 0, 1) := by decide +kernel
theorem dX6_copyFrom_42 : decode cX6_copyFrom 42 = .ok (.getfield 15, 3) := by decide +kernel
theorem dX6_copyFrom_45 : decode cX6_copyFrom 45 = .ok (.iconst 0, 1) := by decide +kernel
theorem dX6_copyFrom_46 : decode cX6_copyFrom 46 = .ok (.bipush 8, 2) := by decide +kernel
theorem dX6_copyFrom_48 : decode cX6_copyFrom 48 = .ok (.invokestatic 25, 3) := by decide +kernel
theorem dX6_copyFrom_51 : decode cX6_copyFrom 51 = .ok (.return_, 1) := by decide +kernel
theorem dX6_hasFact_0 : decode cX6_hasFact 0 = .ok (.iload_n 1, 1) := by decide +kernel
theorem dX6_hasFact_1 : decode cX6_hasFact 1 = .ok (.ifCond .lt 21, 3) := by decide +kernel
theorem dX6_hasFact_4 : decode cX6_hasFact 4 = .ok (.iload_n 1, 1) := by decide +kernel
theorem dX6_hasFact_5 : decode cX6_hasFact 5 = .ok (.aload_n 0, 1) := by decide +kernel
theorem dX6_hasFact_6 : decode cX6_hasFact 6 = .ok (.getfield 22, 3) := by decide +kernel
theorem dX6_hasFact_9 : decode cX6_hasFact 9 = .ok (.if_icmp .ge 13, 3) := by decide +kernel
theorem dX6_hasFact_12 : decode cX6_hasFact 12 = .ok (.iload_n 1, 1) := by decide +kernel
theorem dX6_hasFact_13 : decode cX6_hasFact 13 = .ok (.bipush 8, 2) := by decide +kernel
theorem dX6_hasFact_15 : decode cX6_hasFact 15 = .ok (.if_icmp .ge 7, 3) := by decide +kernel
theorem dX6_hasFact_18 : decode cX6_hasFact 18 = .ok (.iconst 1, 1) := by decide +kernel
theorem dX6_hasFact_19 : decode cX6_hasFact 19 = .ok (.goto 4, 3) := by decide +kernel
theorem dX6_hasFact_22 : decode cX6_hasFact 22 = .ok (.iconst 0, 1) := by decide +kernel
theorem dX6_hasFact_23 : decode cX6_hasFact 23 = .ok (.ireturn, 1) := by decide +kernel
theorem dX6_look_0 : decode cX6_look 0 = .ok (.iload_n 1, 1) := by decide +kernel
theorem dX6_look_1 : decode cX6_look 1 = .ok (.ifCond .ne 8, 3) := by decide +kernel
theorem dX6_look_4 : decode cX6_look 4 = .ok (.aload_n 0, 1) := by decide +kernel
theorem dX6_look_5 : decode cX6_look 5 = .ok (.getfield 18, 3) := by decide +kernel
theorem dX6_look_8 : decode cX6_look 8 = .ok (.ireturn, 1) := by decide +kernel
theorem dX6_look_9 : decode cX6_look 9 = .ok (.iload_n 1, 1) := by decide +kernel
theorem dX6_look_10 : decode cX6_look 10 = .ok (.iconst 1, 1) := by decide +kernel
theorem dX6_look_11 : decode cX6_look 11 = .ok (.if_icmp .ne 8, 3) := by decide +kernel
theorem dX6_look_14 : decode cX6_look 14 = .ok (.aload_n 0, 1) := by decide +kernel
theorem dX6_look_15 : decode cX6_look 15 = .ok (.getfield 22, 3) := by decide +kernel
theorem dX6_look_18 : decode cX6_look 18 = .ok (.ireturn, 1) := by decide +kernel
theorem dX6_look_19 : decode cX6_look 19 = .ok (.aload_n 0, 1) := by decide +kernel
theorem dX6_look_20 : decode cX6_look 20 = .ok (.iload_n 1, 1) := by decide +kernel
theorem dX6_look_21 : decode cX6_look 21 = .ok (.bipush 10, 2) := by decide +kernel
theorem dX6_look_23 : decode cX6_look 23 = .ok (.isub, 1) := by decide +kernel
theorem dX6_look_24 : decode cX6_look 24 = .ok (.invokevirtual 31, 3) := by decide +kernel
theorem dX6_look_27 : decode cX6_look 27 = .ok (.ifCond .eq 13, 3) := by decide +kernel
theorem dX6_look_30 : decode cX6_look 30 = .ok (.aload_n 0, 1) := by decide +kernel
theorem dX6_look_31 : decode cX6_look 31 = .ok (.getfield 9, 3) := by decide +kernel
theorem dX6_look_34 : decode cX6_look 34 = .ok (.iload_n 1, 1) := by decide +kernel
theorem dX6_look_35 : decode cX6_look 35 = .ok (.bipush 10, 2) := by decide +kernel
theorem dX6_look_37 : decode cX6_look 37 = .ok (.isub, 1) := by decide +kernel
theorem dX6_look_38 : decode cX6_look 38 = .ok (.iaload, 1) := by decide +kernel
theorem dX6_look_39 : decode cX6_look 39 = .ok (.ireturn, 1) := by decide +kernel
theorem dX6_look_40 : decode cX6_look 40 = .ok (.aload_n 0, 1) := by decide +kernel
theorem dX6_look_41 : decode cX6_look 41 = .ok (.iload_n 1, 1) := by decide +kernel
theorem dX6_look_42 : decode cX6_look 42 = .ok (.bipush 20, 2) := by decide +kernel
theorem dX6_look_44 : decode cX6_look 44 = .ok (.isub, 1) := by decide +kernel
theorem dX6_look_45 : decode cX6_look 45 = .ok (.invokevirtual 31, 3) := by decide +kernel
theorem dX6_look_48 : decode cX6_look 48 = .ok (.ifCond .eq 15, 3) := by decide +kernel
theorem dX6_look_51 : decode cX6_look 51 = .ok (.aload_n 0, 1) := by decide +kernel
theorem dX6_look_52 : decode cX6_look 52 = .ok (.getfield 15, 3) := by decide +kernel
theorem dX6_look_55 : decode cX6_look 55 = .ok (.iload_n 1, 1) := by decide +kernel
theorem dX6_look_56 : decode cX6_look 56 = .ok (.bipush 20, 2) := by decide +kernel
theorem dX6_look_58 : decode cX6_look 58 = .ok (.isub, 1) := by decide +kernel
theorem dX6_look_59 : decode cX6_look 59 = .ok (.iaload, 1) := by decide +kernel
theorem dX6_look_60 : decode cX6_look 60 = .ok (.goto 4, 3) := by decide +kernel
theorem dX6_look_63 : decode cX6_look 63 = .ok (.iconst (-1), 1) := by decide +kernel
theorem dX6_look_64 : decode cX6_look 64 = .ok (.ireturn, 1) := by decide +kernel
theorem dX7_init_0 : decode cX7_init 0 = .ok (.aload_n 0, 1) := by decide +kernel
theorem dX7_init_1 : decode cX7_init 1 = .ok (.invokespecial 3, 3) := by decide +kernel
theorem dX7_init_4 : decode cX7_init 4 = .ok (.aload_n 0, 1) := by decide +kernel
theorem dX7_init_5 : decode cX7_init 5 = .ok (.bipush 6, 2) := by decide +kernel
theorem dX7_init_7 : decode cX7_init 7 = .ok (.newarray .int, 2) := by decide +kernel
theorem dX7_init_9 : decode cX7_init 9 = .ok (.putfield 9, 3) := by decide +kernel
theorem dX7_init_12 : decode cX7_init 12 = .ok (.aload_n 0, 1) := by decide +kernel
theorem dX7_init_13 : decode cX7_init 13 = .ok (.bipush 64, 2) := by decide +kernel
theorem dX7_init_15 : decode cX7_init 15 = .ok (.newarray .int, 2) := by decide +kernel
theorem dX7_init_17 : decode cX7_init 17 = .ok (.putfield 15, 3) := by decide +kernel
theorem dX7_init_20 : decode cX7_init 20 = .ok (.return_, 1) := by decide +kernel
theorem dX7_hear_0 : decode cX7_hear 0 = .ok (.aload_n 1, 1) := by decide +kernel
theorem dX7_hear_1 : decode cX7_hear 1 = .ok (.ifnonnull 4, 3) := by decide +kernel
theorem dX7_hear_4 : decode cX7_hear 4 = .ok (.return_, 1) := by decide +kernel
theorem dX7_hear_5 : decode cX7_hear 5 = .ok (.iconst 0, 1) := by decide +kernel
theorem dX7_hear_6 : decode cX7_hear 6 = .ok (.istore_n 3, 1) := by decide +kernel
theorem dX7_hear_7 : decode cX7_hear 7 = .ok (.iload_n 3, 1) := by decide +kernel
theorem dX7_hear_8 : decode cX7_hear 8 = .ok (.bipush 6, 2) := by decide +kernel
theorem dX7_hear_10 : decode cX7_hear 10 = .ok (.if_icmp .ge 65, 3) := by decide +kernel
theorem dX7_hear_13 : decode cX7_hear 13 = .ok (.aload_n 0, 1) := by decide +kernel
theorem dX7_hear_14 : decode cX7_hear 14 = .ok (.getfield 9, 3) := by decide +kernel
theorem dX7_hear_17 : decode cX7_hear 17 = .ok (.iload_n 3, 1) := by decide +kernel
theorem dX7_hear_18 : decode cX7_hear 18 = .ok (.iconst 0, 1) := by decide +kernel
theorem dX7_hear_19 : decode cX7_hear 19 = .ok (.iastore, 1) := by decide +kernel
theorem dX7_hear_20 : decode cX7_hear 20 = .ok (.iconst 0, 1) := by decide +kernel
theorem dX7_hear_21 : decode cX7_hear 21 = .ok (.istore 4, 2) := by decide +kernel
theorem dX7_hear_23 : decode cX7_hear 23 = .ok (.iload 4, 2) := by decide +kernel
theorem dX7_hear_25 : decode cX7_hear 25 = .ok (.aload_n 1, 1) := by decide +kernel
theorem dX7_hear_26 : decode cX7_hear 26 = .ok (.getfield 18, 3) := by decide +kernel
theorem dX7_hear_29 : decode cX7_hear 29 = .ok (.if_icmp .ge 40, 3) := by decide +kernel
theorem dX7_hear_32 : decode cX7_hear 32 = .ok (.iload 4, 2) := by decide +kernel
theorem dX7_hear_34 : decode cX7_hear 34 = .ok (.bipush 10, 2) := by decide +kernel
theorem dX7_hear_36 : decode cX7_hear 36 = .ok (.if_icmp .ge 33, 3) := by decide +kernel
theorem dX7_hear_39 : decode cX7_hear 39 = .ok (.aload_n 1, 1) := by decide +kernel
theorem dX7_hear_40 : decode cX7_hear 40 = .ok (.iload 4, 2) := by decide +kernel
theorem dX7_hear_42 : decode cX7_hear 42 = .ok (.iload_n 3, 1) := by decide +kernel
theorem dX7_hear_43 : decode cX7_hear 43 = .ok (.iload_n 2, 1) := by decide +kernel
theorem dX7_hear_44 : decode cX7_hear 44 = .ok (.invokevirtual 24, 3) := by decide +kernel
theorem dX7_hear_47 : decode cX7_hear 47 = .ok (.ifCond .eq 16, 3) := by decide +kernel
theorem dX7_hear_50 : decode cX7_hear 50 = .ok (.aload_n 0, 1) := by decide +kernel
theorem dX7_hear_51 : decode cX7_hear 51 = .ok (.getfield 9, 3) := by decide +kernel
theorem dX7_hear_54 : decode cX7_hear 54 = .ok (.iload_n 3, 1) := by decide +kernel
theorem dX7_hear_55 : decode cX7_hear 55 = .ok (.dup2, 1) := by decide +kernel
theorem dX7_hear_56 : decode cX7_hear 56 = .ok (.iaload, 1) := by decide +kernel
theorem dX7_hear_57 : decode cX7_hear 57 = .ok (.iconst 1, 1) := by decide +kernel
theorem dX7_hear_58 : decode cX7_hear 58 = .ok (.iload 4, 2) := by decide +kernel
theorem dX7_hear_60 : decode cX7_hear 60 = .ok (.ishl, 1) := by decide +kernel
theorem dX7_hear_61 : decode cX7_hear 61 = .ok (.ior, 1) := by decide +kernel
theorem dX7_hear_62 : decode cX7_hear 62 = .ok (.iastore, 1) := by decide +kernel
theorem dX7_hear_63 : decode cX7_hear 63 = .ok (.iinc 4 1, 3) := by decide +kernel
theorem dX7_hear_66 : decode cX7_hear 66 = .ok (.goto (-43), 3) := by decide +kernel
theorem dX7_hear_69 : decode cX7_hear 69 = .ok (.iinc 3 1, 3) := by decide +kernel
theorem dX7_hear_72 : decode cX7_hear 72 = .ok (.goto (-65), 3) := by decide +kernel
theorem dX7_hear_75 : decode cX7_hear 75 = .ok (.iconst 0, 1) := by decide +kernel
theorem dX7_hear_76 : decode cX7_hear 76 = .ok (.istore_n 3, 1) := by decide +kernel
theorem dX7_hear_77 : decode cX7_hear 77 = .ok (.iload_n 3, 1) := by decide +kernel
theorem dX7_hear_78 : decode cX7_hear 78 = .ok (.bipush 64, 2) := by decide +kernel
theorem dX7_hear_80 : decode cX7_hear 80 = .ok (.if_icmp .ge 57, 3) := by decide +kernel
theorem dX7_hear_83 : decode cX7_hear 83 = .ok (.aload_n 0, 1) := by decide +kernel
theorem dX7_hear_84 : decode cX7_hear 84 = .ok (.getfield 15, 3) := by decide +kernel
theorem dX7_hear_87 : decode cX7_hear 87 = .ok (.iload_n 3, 1) := by decide +kernel
theorem dX7_hear_88 : decode cX7_hear 88 = .ok (.iconst 0, 1) := by decide +kernel
theorem dX7_hear_89 : decode cX7_hear 89 = .ok (.iastore, 1) := by decide +kernel
theorem dX7_hear_90 : decode cX7_hear 90 = .ok (.iconst 0, 1) := by decide +kernel
theorem dX7_hear_91 : decode cX7_hear 91 = .ok (.istore 4, 2) := by decide +kernel
theorem dX7_hear_93 : decode cX7_hear 93 = .ok (.iload 4, 2) := by decide +kernel
theorem dX7_hear_95 : decode cX7_hear 95 = .ok (.bipush 6, 2) := by decide +kernel
theorem dX7_hear_97 : decode cX7_hear 97 = .ok (.if_icmp .ge 34, 3) := by decide +kernel
theorem dX7_hear_100 : decode cX7_hear 100 = .ok (.iload_n 3, 1) := by decide +kernel
theorem dX7_hear_101 : decode cX7_hear 101 = .ok (.iload 4, 2) := by decide +kernel
theorem dX7_hear_103 : decode cX7_hear 103 = .ok (.ishr, 1) := by decide +kernel
theorem dX7_hear_104 : decode cX7_hear 104 = .ok (.iconst 1, 1) := by decide +kernel
theorem dX7_hear_105 : decode cX7_hear 105 = .ok (.iand, 1) := by decide +kernel
theorem dX7_hear_106 : decode cX7_hear 106 = .ok (.ifCond .eq 19, 3) := by decide +kernel
theorem dX7_hear_109 : decode cX7_hear 109 = .ok (.aload_n 0, 1) := by decide +kernel
theorem dX7_hear_110 : decode cX7_hear 110 = .ok (.getfield 15, 3) := by decide +kernel
theorem dX7_hear_113 : decode cX7_hear 113 = .ok (.iload_n 3, 1) := by decide +kernel
theorem dX7_hear_114 : decode cX7_hear 114 = .ok (.dup2, 1) := by decide +kernel
theorem dX7_hear_115 : decode cX7_hear 115 = .ok (.iaload, 1) := by decide +kernel
theorem dX7_hear_116 : decode cX7_hear 116 = .ok (.aload_n 0, 1) := by decide +kernel
theorem dX7_hear_117 : decode cX7_hear 117 = .ok (.getfield 9, 3) := by decide +kernel
theorem dX7_hear_120 : decode cX7_hear 120 = .ok (.iload 4, 2) := by decide +kernel
theorem dX7_hear_122 : decode cX7_hear 122 = .ok (.iaload, 1) := by decide +kernel
theorem dX7_hear_123 : decode cX7_hear 123 = .ok (.ior, 1) := by decide +kernel
theorem dX7_hear_124 : decode cX7_hear 124 = .ok (.iastore, 1) := by decide +kernel
theorem dX7_hear_125 : decode cX7_hear 125 = .ok (.iinc 4 1, 3) := by decide +kernel
theorem dX7_hear_128 : decode cX7_hear 128 = .ok (.goto (-35), 3) := by decide +kernel
theorem dX7_hear_131 : decode cX7_hear 131 = .ok (.iinc 3 1, 3) := by decide +kernel
theorem dX7_hear_134 : decode cX7_hear 134 = .ok (.goto (-57), 3) := by decide +kernel
theorem dX7_hear_137 : decode cX7_hear 137 = .ok (.return_, 1) := by decide +kernel
theorem dX7_canSay_0 : decode cX7_canSay 0 = .ok (.iconst 1, 1) := by decide +kernel
theorem dX7_canSay_1 : decode cX7_canSay 1 = .ok (.istore_n 3, 1) := by decide +kernel
theorem dX7_canSay_2 : decode cX7_canSay 2 = .ok (.iload_n 3, 1) := by decide +kernel
theorem dX7_canSay_3 : decode cX7_canSay 3 = .ok (.bipush 64, 2) := by decide +kernel
theorem dX7_canSay_5 : decode cX7_canSay 5 = .ok (.if_icmp .ge 49, 3) := by decide +kernel
theorem dX7_canSay_8 : decode cX7_canSay 8 = .ok (.iload_n 3, 1) := by decide +kernel
theorem dX7_canSay_9 : decode cX7_canSay 9 = .ok (.iload_n 1, 1) := by decide +kernel
theorem dX7_canSay_10 : decode cX7_canSay 10 = .ok (.iconst (-1), 1) := by decide +kernel
theorem dX7_canSay_11 : decode cX7_canSay 11 = .ok (.ixor, 1) := by decide +kernel
theorem dX7_canSay_12 : decode cX7_canSay 12 = .ok (.iand, 1) := by decide +kernel
theorem dX7_canSay_13 : decode cX7_canSay 13 = .ok (.ifCond .ne 7, 3) := by decide +kernel
theorem dX7_canSay_16 : decode cX7_canSay 16 = .ok (.iconst 1, 1) := by decide +kernel
theorem dX7_canSay_17 : decode cX7_canSay 17 = .ok (.goto 4, 3) := by decide +kernel
theorem dX7_canSay_20 : decode cX7_canSay 20 = .ok (.iconst 0, 1) := by decide +kernel
theorem dX7_canSay_21 : decode cX7_canSay 21 = .ok (.istore 4, 2) := by decide +kernel
theorem dX7_canSay_23 : decode cX7_canSay 23 = .ok (.iload 4, 2) := by decide +kernel
theorem dX7_canSay_25 : decode cX7_canSay 25 = .ok (.ifCond .eq 23, 3) := by decide +kernel
theorem dX7_canSay_28 : decode cX7_canSay 28 = .ok (.aload_n 0, 1) := by decide +kernel
theorem dX7_canSay_29 : decode cX7_canSay 29 = .ok (.getfield 15, 3) := by decide +kernel
theorem dX7_canSay_32 : decode cX7_canSay 32 = .ok (.iload_n 3, 1) := by decide +kernel
theorem dX7_canSay_33 : decode cX7_canSay 33 = .ok (.iaload, 1) := by decide +kernel
theorem dX7_canSay_34 : decode cX7_canSay 34 = .ok (.iload_n 2, 1) := by decide +kernel
theorem dX7_canSay_35 : decode cX7_canSay 35 = .ok (.iand, 1) := by decide +kernel
theorem dX7_canSay_36 : decode cX7_canSay 36 = .ok (.invokestatic 28, 3) := by decide +kernel
theorem dX7_canSay_39 : decode cX7_canSay 39 = .ok (.iload_n 3, 1) := by decide +kernel
theorem dX7_canSay_40 : decode cX7_canSay 40 = .ok (.invokestatic 28, 3) := by decide +kernel
theorem dX7_canSay_43 : decode cX7_canSay 43 = .ok (.if_icmp .ge 5, 3) := by decide +kernel
theorem dX7_canSay_46 : decode cX7_canSay 46 = .ok (.iconst 0, 1) := by decide +kernel
theorem dX7_canSay_47 : decode cX7_canSay 47 = .ok (.ireturn, 1) := by decide +kernel
theorem dX7_canSay_48 : decode cX7_canSay 48 = .ok (.iinc 3 1, 3) := by decide +kernel
theorem dX7_canSay_51 : decode cX7_canSay 51 = .ok (.goto (-49), 3) := by decide +kernel
theorem dX7_canSay_54 : decode cX7_canSay 54 = .ok (.iconst 1, 1) := by decide +kernel
theorem dX7_canSay_55 : decode cX7_canSay 55 = .ok (.ireturn, 1) := by decide +kernel
theorem dX7_speakerOf_0 : decode cX7_speakerOf 0 = .ok (.iload_n 1, 1) := by decide +kernel
theorem dX7_speakerOf_1 : decode cX7_speakerOf 1 = .ok (.istore_n 3, 1) := by decide +kernel
theorem dX7_speakerOf_2 : decode cX7_speakerOf 2 = .ok (.sipush 1023, 3) := by decide +kernel
theorem dX7_speakerOf_5 : decode cX7_speakerOf 5 = .ok (.istore 4, 2) := by decide +kernel
theorem dX7_speakerOf_7 : decode cX7_speakerOf 7 = .ok (.iconst 0, 1) := by decide +kernel
theorem dX7_speakerOf_8 : decode cX7_speakerOf 8 = .ok (.istore 5, 2) := by decide +kernel
theorem dX7_speakerOf_10 : decode cX7_speakerOf 10 = .ok (.iconst 0, 1) := by decide +kernel
theorem dX7_speakerOf_11 : decode cX7_speakerOf 11 = .ok (.istore 6, 2) := by decide +kernel
theorem dX7_speakerOf_13 : decode cX7_speakerOf 13 = .ok (.iload 6, 2) := by decide +kernel
theorem dX7_speakerOf_15 : decode cX7_speakerOf 15 = .ok (.bipush 6, 2) := by decide +kernel
theorem dX7_speakerOf_17 : decode cX7_speakerOf 17 = .ok (.if_icmp .ge 67, 3) := by decide +kernel
theorem dX7_speakerOf_20 : decode cX7_speakerOf 20 = .ok (.iload_n 1, 1) := by decide +kernel
theorem dX7_speakerOf_21 : decode cX7_speakerOf 21 = .ok (.iload 6, 2) := by decide +kernel
theorem dX7_speakerOf_23 : decode cX7_speakerOf 23 = .ok (.ishr, 1) := by decide +kernel
theorem dX7_speakerOf_24 : decode cX7_speakerOf 24 = .ok (.iconst 1, 1) := by decide +kernel
theorem dX7_speakerOf_25 : decode cX7_speakerOf 25 = .ok (.iand, 1) := by decide +kernel
theorem dX7_speakerOf_26 : decode cX7_speakerOf 26 = .ok (.ifCond .eq 52, 3) := by decide +kernel
theorem dX7_speakerOf_29 : decode cX7_speakerOf 29 = .ok (.iload_n 3, 1) := by decide +kernel
theorem dX7_speakerOf_30 : decode cX7_speakerOf 30 = .ok (.iconst 1, 1) := by decide +kernel
theorem dX7_speakerOf_31 : decode cX7_speakerOf 31 = .ok (.iload 6, 2) := by decide +kernel
theorem dX7_speakerOf_33 : decode cX7_speakerOf 33 = .ok (.ishl, 1) := by decide +kernel
theorem dX7_speakerOf_34 : decode cX7_speakerOf 34 = .ok (.iconst (-1), 1) := by decide +kernel
theorem dX7_speakerOf_35 : decode cX7_speakerOf 35 = .ok (.ixor, 1) := by decide +kernel
theorem dX7_speakerOf_36 : decode cX7_speakerOf 36 = .ok (.iand, 1) := by decide +kernel
theorem dX7_speakerOf_37 : decode cX7_speakerOf 37 = .ok (.istore_n 3, 1) := by decide +kernel
theorem dX7_speakerOf_38 : decode cX7_speakerOf 38 = .ok (.aload_n 0, 1) := by decide +kernel
theorem dX7_speakerOf_39 : decode cX7_speakerOf 39 = .ok (.iload 6, 2) := by decide +kernel
theorem dX7_speakerOf_41 : decode cX7_speakerOf 41 = .ok (.iload_n 3, 1) := by decide +kernel
theorem dX7_speakerOf_42 : decode cX7_speakerOf 42 = .ok (.iload 4, 2) := by decide +kernel
theorem dX7_speakerOf_44 : decode cX7_speakerOf 44 = .ok (.invokevirtual 34, 3) := by decide +kernel
theorem dX7_speakerOf_47 : decode cX7_speakerOf 47 = .ok (.istore 7, 2) := by decide +kernel
theorem dX7_speakerOf_49 : decode cX7_speakerOf 49 = .ok (.iload 7, 2) := by decide +kernel
theorem dX7_speakerOf_51 : decode cX7_speakerOf 51 = .ok (.iconst (-1), 1) := by decide +kernel
theorem dX7_speakerOf_52 : decode cX7_speakerOf 52 = .ok (.if_icmp .eq 9, 3) := by decide +kernel
theorem dX7_speakerOf_55 : decode cX7_speakerOf 55 = .ok (.iload 5, 2) := by decide +kernel
theorem dX7_speakerOf_57 : decode cX7_speakerOf 57 = .ok (.iload_n 2, 1) := by decide +kernel
theorem dX7_speakerOf_58 : decode cX7_speakerOf 58 = .ok (.if_icmp .ne 6, 3) := by decide +kernel
theorem dX7_speakerOf_61 : decode cX7_speakerOf 61 = .ok (.iload 7, 2) := by decide +kernel
theorem dX7_speakerOf_63 : decode cX7_speakerOf 63 = .ok (.ireturn, 1) := by decide +kernel
theorem dX7_speakerOf_64 : decode cX7_speakerOf 64 = .ok (.iload 4, 2) := by decide +kernel
theorem dX7_speakerOf_66 : decode cX7_speakerOf 66 = .ok (.iconst 1, 1) := by decide +kernel
theorem dX7_speakerOf_67 : decode cX7_speakerOf 67 = .ok (.iload 7, 2) := by decide +kernel
theorem dX7_speakerOf_69 : decode cX7_speakerOf 69 = .ok (.ishl, 1) := by decide +kernel
theorem dX7_speakerOf_70 : decode cX7_speakerOf 70 = .ok (.iconst (-1), 1) := by decide +kernel
theorem dX7_speakerOf_71 : decode cX7_speakerOf 71 = .ok (.ixor, 1) := by decide +kernel
theorem dX7_speakerOf_72 : decode cX7_speakerOf 72 = .ok (.iand, 1) := by decide +kernel
theorem dX7_speakerOf_73 : decode cX7_speakerOf 73 = .ok (.istore 4, 2) := by decide +kernel
theorem dX7_speakerOf_75 : decode cX7_speakerOf 75 = .ok (.iinc 5 1, 3) := by decide +kernel
theorem dX7_speakerOf_78 : decode cX7_speakerOf 78 = .ok (.iinc 6 1, 3) := by decide +kernel
theorem dX7_speakerOf_81 : decode cX7_speakerOf 81 = .ok (.goto (-68), 3) := by decide +kernel
theorem dX7_speakerOf_84 : decode cX7_speakerOf 84 = .ok (.iconst (-1), 1) := by decide +kernel
theorem dX7_speakerOf_85 : decode cX7_speakerOf 85 = .ok (.ireturn, 1) := by decide +kernel
theorem dX7_leastSpeaker_0 : decode cX7_leastSpeaker 0 = .ok (.iload_n 1, 1) := by decide +kernel
theorem dX7_leastSpeaker_1 : decode cX7_leastSpeaker 1 = .ok (.ifCond .lt 20, 3) := by decide +kernel
theorem dX7_leastSpeaker_4 : decode cX7_leastSpeaker 4 = .ok (.iload_n 1, 1) := by decide +kernel
theorem dX7_leastSpeaker_5 : decode cX7_leastSpeaker 5 = .ok (.bipush 6, 2) := by decide +kernel
theorem dX7_leastSpeaker_7 : decode cX7_leastSpeaker 7 = .ok (.if_icmp .ge 14, 3) := by decide +kernel
theorem dX7_leastSpeaker_10 : decode cX7_leastSpeaker 10 = .ok (.aload_n 0, 1) := by decide +kernel
theorem dX7_leastSpeaker_11 : decode cX7_leastSpeaker 11 = .ok (.getfield 9, 3) := by decide +kernel
theorem dX7_leastSpeaker_14 : decode cX7_leastSpeaker 14 = .ok (.iload_n 1, 1) := by decide +kernel
theorem dX7_leastSpeaker_15 : decode cX7_leastSpeaker 15 = .ok (.iaload, 1) := by decide +kernel
theorem dX7_leastSpeaker_16 : decode cX7_leastSpeaker 16 = .ok (.iload_n 3, 1) := by decide +kernel
theorem dX7_leastSpeaker_17 : decode cX7_leastSpeaker 17 = .ok (.iand, 1) := by decide +kernel
theorem dX7_leastSpeaker_18 : decode cX7_leastSpeaker 18 = .ok (.goto 4, 3) := by decide +kernel
theorem dX7_leastSpeaker_21 : decode cX7_leastSpeaker 21 = .ok (.iconst 0, 1) := by decide +kernel
theorem dX7_leastSpeaker_22 : decode cX7_leastSpeaker 22 = .ok (.istore 4, 2) := by decide +kernel
theorem dX7_leastSpeaker_24 : decode cX7_leastSpeaker 24 = .ok (.iconst 0, 1) := by decide +kernel
theorem dX7_leastSpeaker_25 : decode cX7_leastSpeaker 25 = .ok (.istore 5, 2) := by decide +kernel
theorem dX7_leastSpeaker_27 : decode cX7_leastSpeaker 27 = .ok (.iload 5, 2) := by decide +kernel
theorem dX7_leastSpeaker_29 : decode cX7_leastSpeaker 29 = .ok (.bipush 10, 2) := by decide +kernel
theorem dX7_leastSpeaker_31 : decode cX7_leastSpeaker 31 = .ok (.if_icmp .ge 38, 3) := by decide +kernel
theorem dX7_leastSpeaker_34 : decode cX7_leastSpeaker 34 = .ok (.iload 4, 2) := by decide +kernel
theorem dX7_leastSpeaker_36 : decode cX7_leastSpeaker 36 = .ok (.iload 5, 2) := by decide +kernel
theorem dX7_leastSpeaker_38 : decode cX7_leastSpeaker 38 = .ok (.ishr, 1) := by decide +kernel
theorem dX7_leastSpeaker_39 : decode cX7_leastSpeaker 39 = .ok (.iconst 1, 1) := by decide +kernel
theorem dX7_leastSpeaker_40 : decode cX7_leastSpeaker 40 = .ok (.iand, 1) := by decide +kernel
theorem dX7_leastSpeaker_41 : decode cX7_leastSpeaker 41 = .ok (.ifCond .eq 22, 3) := by decide +kernel
theorem dX7_leastSpeaker_44 : decode cX7_leastSpeaker 44 = .ok (.aload_n 0, 1) := by decide +kernel
theorem dX7_leastSpeaker_45 : decode cX7_leastSpeaker 45 = .ok (.iload_n 2, 1) := by decide +kernel
theorem dX7_leastSpeaker_46 : decode cX7_leastSpeaker 46 = .ok (.iload_n 3, 1) := by decide +kernel
theorem dX7_leastSpeaker_47 : decode cX7_leastSpeaker 47 = .ok (.iconst 1, 1) := by decide +kernel
theorem dX7_leastSpeaker_48 : decode cX7_leastSpeaker 48 = .ok (.iload 5, 2) := by decide +kernel
theorem dX7_leastSpeaker_50 : decode cX7_leastSpeaker 50 = .ok (.ishl, 1) := by decide +kernel
theorem dX7_leastSpeaker_51 : decode cX7_leastSpeaker 51 = .ok (.iconst (-1), 1) := by decide +kernel
theorem dX7_leastSpeaker_52 : decode cX7_leastSpeaker 52 = .ok (.ixor, 1) := by decide +kernel
theorem dX7_leastSpeaker_53 : decode cX7_leastSpeaker 53 = .ok (.iand, 1) := by decide +kernel
theorem dX7_leastSpeaker_54 : decode cX7_leastSpeaker 54 = .ok (.invokevirtual 38, 3) := by decide +kernel
theorem dX7_leastSpeaker_57 : decode cX7_leastSpeaker 57 = .ok (.ifCond .eq 6, 3) := by decide +kernel
theorem dX7_leastSpeaker_60 : decode cX7_leastSpeaker 60 = .ok (.iload 5, 2) := by decide +kernel
theorem dX7_leastSpeaker_62 : decode cX7_leastSpeaker 62 = .ok (.ireturn, 1) := by decide +kernel
theorem dX7_leastSpeaker_63 : decode cX7_leastSpeaker 63 = .ok (.iinc 5 1, 3) := by decide +kernel
theorem dX7_leastSpeaker_66 : decode cX7_leastSpeaker 66 = .ok (.goto (-39), 3) := by decide +kernel
theorem dX7_leastSpeaker_69 : decode cX7_leastSpeaker 69 = .ok (.iconst (-1), 1) := by decide +kernel
theorem dX7_leastSpeaker_70 : decode cX7_leastSpeaker 70 = .ok (.ireturn, 1) := by decide +kernel
theorem dX7_neverKept_0 : decode cX7_neverKept 0 = .ok (.iconst 0, 1) := by decide +kernel
theorem dX7_neverKept_1 : decode cX7_neverKept 1 = .ok (.istore_n 2, 1) := by decide +kernel
theorem dX7_neverKept_2 : decode cX7_neverKept 2 = .ok (.iconst 0, 1) := by decide +kernel
theorem dX7_neverKept_3 : decode cX7_neverKept 3 = .ok (.istore_n 3, 1) := by decide +kernel
theorem dX7_neverKept_4 : decode cX7_neverKept 4 = .ok (.iload_n 3, 1) := by decide +kernel
theorem dX7_neverKept_5 : decode cX7_neverKept 5 = .ok (.bipush 6, 2) := by decide +kernel
theorem dX7_neverKept_7 : decode cX7_neverKept 7 = .ok (.if_icmp .ge 36, 3) := by decide +kernel
theorem dX7_neverKept_10 : decode cX7_neverKept 10 = .ok (.aload_n 1, 1) := by decide +kernel
theorem dX7_neverKept_11 : decode cX7_neverKept 11 = .ok (.ifnull 26, 3) := by decide +kernel
theorem dX7_neverKept_14 : decode cX7_neverKept 14 = .ok (.aload_n 1, 1) := by decide +kernel
theorem dX7_neverKept_15 : decode cX7_neverKept 15 = .ok (.iload_n 3, 1) := by decide +kernel
theorem dX7_neverKept_16 : decode cX7_neverKept 16 = .ok (.invokevirtual 42, 3) := by decide +kernel
theorem dX7_neverKept_19 : decode cX7_neverKept 19 = .ok (.ifCond .eq 18, 3) := by decide +kernel
theorem dX7_neverKept_22 : decode cX7_neverKept 22 = .ok (.aload_n 0, 1) := by decide +kernel
theorem dX7_neverKept_23 : decode cX7_neverKept 23 = .ok (.getfield 9, 3) := by decide +kernel
theorem dX7_neverKept_26 : decode cX7_neverKept 26 = .ok (.iload_n 3, 1) := by decide +kernel
theorem dX7_neverKept_27 : decode cX7_neverKept 27 = .ok (.iaload, 1) := by decide +kernel
theorem dX7_neverKept_28 : decode cX7_neverKept 28 = .ok (.ifCond .ne 9, 3) := by decide +kernel
theorem dX7_neverKept_31 : decode cX7_neverKept 31 = .ok (.iload_n 2, 1) := by decide +kernel
theorem dX7_neverKept_32 : decode cX7_neverKept 32 = .ok (.iconst 1, 1) := by decide +kernel
theorem dX7_neverKept_33 : decode cX7_neverKept 33 = .ok (.iload_n 3, 1) := by decide +kernel
theorem dX7_neverKept_34 : decode cX7_neverKept 34 = .ok (.ishl, 1) := by decide +kernel
theorem dX7_neverKept_35 : decode cX7_neverKept 35 = .ok (.ior, 1) := by decide +kernel
theorem dX7_neverKept_36 : decode cX7_neverKept 36 = .ok (.istore_n 2, 1) := by decide +kernel
theorem dX7_neverKept_37 : decode cX7_neverKept 37 = .ok (.iinc 3 1, 3) := by decide +kernel
theorem dX7_neverKept_40 : decode cX7_neverKept 40 = .ok (.goto (-36), 3) := by decide +kernel
theorem dX7_neverKept_43 : decode cX7_neverKept 43 = .ok (.iload_n 2, 1) := by decide +kernel
theorem dX7_neverKept_44 : decode cX7_neverKept 44 = .ok (.ireturn, 1) := by decide +kernel
theorem dX7_mostWorks_0 : decode cX7_mostWorks 0 = .ok (.iconst 0, 1) := by decide +kernel
theorem dX7_mostWorks_1 : decode cX7_mostWorks 1 = .ok (.istore_n 2, 1) := by decide +kernel
theorem dX7_mostWorks_2 : decode cX7_mostWorks 2 = .ok (.aload_n 1, 1) := by decide +kernel
theorem dX7_mostWorks_3 : decode cX7_mostWorks 3 = .ok (.ifnonnull 7, 3) := by decide +kernel
theorem dX7_mostWorks_6 : decode cX7_mostWorks 6 = .ok (.iconst 0, 1) := by decide +kernel
theorem dX7_mostWorks_7 : decode cX7_mostWorks 7 = .ok (.goto 7, 3) := by decide +kernel
theorem dX7_mostWorks_10 : decode cX7_mostWorks 10 = .ok (.aload_n 1, 1) := by decide +kernel
theorem dX7_mostWorks_11 : decode cX7_mostWorks 11 = .ok (.invokevirtual 46, 3) := by decide +kernel
theorem dX7_mostWorks_14 : decode cX7_mostWorks 14 = .ok (.istore_n 3, 1) := by decide +kernel
theorem dX7_mostWorks_15 : decode cX7_mostWorks 15 = .ok (.iconst 0, 1) := by decide +kernel
theorem dX7_mostWorks_16 : decode cX7_mostWorks 16 = .ok (.istore 4, 2) := by decide +kernel
theorem dX7_mostWorks_18 : decode cX7_mostWorks 18 = .ok (.iload 4, 2) := by decide +kernel
theorem dX7_mostWorks_20 : decode cX7_mostWorks 20 = .ok (.iload_n 3, 1) := by decide +kernel
theorem dX7_mostWorks_21 : decode cX7_mostWorks 21 = .ok (.if_icmp .gt 43, 3) := by decide +kernel
theorem dX7_mostWorks_24 : decode cX7_mostWorks 24 = .ok (.iload 4, 2) := by decide +kernel
theorem dX7_mostWorks_26 : decode cX7_mostWorks 26 = .ok (.bipush 64, 2) := by decide +kernel
theorem dX7_mostWorks_28 : decode cX7_mostWorks 28 = .ok (.if_icmp .ge 36, 3) := by decide +kernel
theorem dX7_mostWorks_31 : decode cX7_mostWorks 31 = .ok (.iload 4, 2) := by decide +kernel
theorem dX7_mostWorks_33 : decode cX7_mostWorks 33 = .ok (.invokestatic 28, 3) := by decide +kernel
theorem dX7_mostWorks_36 : decode cX7_mostWorks 36 = .ok (.iload_n 2, 1) := by decide +kernel
theorem dX7_mostWorks_37 : decode cX7_mostWorks 37 = .ok (.if_icmp .le 21, 3) := by decide +kernel
theorem dX7_mostWorks_40 : decode cX7_mostWorks 40 = .ok (.aload_n 0, 1) := by decide +kernel
theorem dX7_mostWorks_41 : decode cX7_mostWorks 41 = .ok (.iload 4, 2) := by decide +kernel
theorem dX7_mostWorks_43 : decode cX7_mostWorks 43 = .ok (.sipush 1023, 3) := by decide +kernel
theorem dX7_mostWorks_46 : decode cX7_mostWorks 46 = .ok (.invokevirtual 38, 3) := by decide +kernel
theorem dX7_mostWorks_49 : decode cX7_mostWorks 49 = .ok (.ifCond .eq 9, 3) := by decide +kernel
theorem dX7_mostWorks_52 : decode cX7_mostWorks 52 = .ok (.iload 4, 2) := by decide +kernel
theorem dX7_mostWorks_54 : decode cX7_mostWorks 54 = .ok (.invokestatic 28, 3) := by decide +kernel
theorem dX7_mostWorks_57 : decode cX7_mostWorks 57 = .ok (.istore_n 2, 1) := by decide +kernel
theorem dX7_mostWorks_58 : decode cX7_mostWorks 58 = .ok (.iinc 4 1, 3) := by decide +kernel
theorem dX7_mostWorks_61 : decode cX7_mostWorks 61 = .ok (.goto (-43), 3) := by decide +kernel
theorem dX7_mostWorks_64 : decode cX7_mostWorks 64 = .ok (.iload_n 2, 1) := by decide +kernel
theorem dX7_mostWorks_65 : decode cX7_mostWorks 65 = .ok (.ireturn, 1) := by decide +kernel
theorem dX7_mostWorth_0 : decode cX7_mostWorth 0 = .ok (.iconst 0, 1) := by decide +kernel
theorem dX7_mostWorth_1 : decode cX7_mostWorth 1 = .ok (.istore_n 2, 1) := by decide +kernel
theorem dX7_mostWorth_2 : decode cX7_mostWorth 2 = .ok (.iconst 0, 1) := by decide +kernel
theorem dX7_mostWorth_3 : decode cX7_mostWorth 3 = .ok (.istore_n 3, 1) := by decide +kernel
theorem dX7_mostWorth_4 : decode cX7_mostWorth 4 = .ok (.aload_n 1, 1) := by decide +kernel
theorem dX7_mostWorth_5 : decode cX7_mostWorth 5 = .ok (.ifnull 88, 3) := by decide +kernel
theorem dX7_mostWorth_8 : decode cX7_mostWorth 8 = .ok (.iload_n 3, 1) := by decide +kernel
theorem dX7_mostWorth_9 : decode cX7_mostWorth 9 = .ok (.bipush 64, 2) := by decide +kernel
theorem dX7_mostWorth_11 : decode cX7_mostWorth 11 = .ok (.if_icmp .ge 82, 3) := by decide +kernel
theorem dX7_mostWorth_14 : decode cX7_mostWorth 14 = .ok (.iconst 0, 1) := by decide +kernel
theorem dX7_mostWorth_15 : decode cX7_mostWorth 15 = .ok (.istore 4, 2) := by decide +kernel
theorem dX7_mostWorth_17 : decode cX7_mostWorth 17 = .ok (.iconst 0, 1) := by decide +kernel
theorem dX7_mostWorth_18 : decode cX7_mostWorth 18 = .ok (.istore 5, 2) := by decide +kernel
theorem dX7_mostWorth_20 : decode cX7_mostWorth 20 = .ok (.iload 5, 2) := by decide +kernel
theorem dX7_mostWorth_22 : decode cX7_mostWorth 22 = .ok (.aload_n 1, 1) := by decide +kernel
theorem dX7_mostWorth_23 : decode cX7_mostWorth 23 = .ok (.getfield 50, 3) := by decide +kernel
theorem dX7_mostWorth_26 : decode cX7_mostWorth 26 = .ok (.if_icmp .ge 41, 3) := by decide +kernel
theorem dX7_mostWorth_29 : decode cX7_mostWorth 29 = .ok (.iload 5, 2) := by decide +kernel
theorem dX7_mostWorth_31 : decode cX7_mostWorth 31 = .ok (.bipush 6, 2) := by decide +kernel
theorem dX7_mostWorth_33 : decode cX7_mostWorth 33 = .ok (.if_icmp .ge 34, 3) := by decide +kernel
theorem dX7_mostWorth_36 : decode cX7_mostWorth 36 = .ok (.iload 4, 2) := by decide +kernel
theorem dX7_mostWorth_38 : decode cX7_mostWorth 38 = .ok (.iload_n 3, 1) := by decide +kernel
theorem dX7_mostWorth_39 : decode cX7_mostWorth 39 = .ok (.iload 5, 2) := by decide +kernel
theorem dX7_mostWorth_41 : decode cX7_mostWorth 41 = .ok (.ishr, 1) := by decide +kernel
theorem dX7_mostWorth_42 : decode cX7_mostWorth 42 = .ok (.iconst 1, 1) := by decide +kernel
theorem dX7_mostWorth_43 : decode cX7_mostWorth 43 = .ok (.iand, 1) := by decide +kernel
theorem dX7_mostWorth_44 : decode cX7_mostWorth 44 = .ok (.ifCond .eq 13, 3) := by decide +kernel
theorem dX7_mostWorth_47 : decode cX7_mostWorth 47 = .ok (.aload_n 1, 1) := by decide +kernel
theorem dX7_mostWorth_48 : decode cX7_mostWorth 48 = .ok (.getfield 53, 3) := by decide +kernel
theorem dX7_mostWorth_51 : decode cX7_mostWorth 51 = .ok (.iload 5, 2) := by decide +kernel
theorem dX7_mostWorth_53 : decode cX7_mostWorth 53 = .ok (.iaload, 1) := by decide +kernel
theorem dX7_mostWorth_54 : decode cX7_mostWorth 54 = .ok (.goto 4, 3) := by decide +kernel
theorem dX7_mostWorth_57 : decode cX7_mostWorth 57 = .ok (.iconst 0, 1) := by decide +kernel
theorem dX7_mostWorth_58 : decode cX7_mostWorth 58 = .ok (.iadd, 1) := by decide +kernel
theorem dX7_mostWorth_59 : decode cX7_mostWorth 59 = .ok (.istore 4, 2) := by decide +kernel
theorem dX7_mostWorth_61 : decode cX7_mostWorth 61 = .ok (.iinc 5 1, 3) := by decide +kernel
theorem dX7_mostWorth_64 : decode cX7_mostWorth 64 = .ok (.goto (-44), 3) := by decide +kernel
theorem dX7_mostWorth_67 : decode cX7_mostWorth 67 = .ok (.iload 4, 2) := by decide +kernel
theorem dX7_mostWorth_69 : decode cX7_mostWorth 69 = .ok (.iload_n 2, 1) := by decide +kernel
theorem dX7_mostWorth_70 : decode cX7_mostWorth 70 = .ok (.if_icmp .le 17, 3) := by decide +kernel
theorem dX7_mostWorth_73 : decode cX7_mostWorth 73 = .ok (.aload_n 0, 1) := by decide +kernel
theorem dX7_mostWorth_74 : decode cX7_mostWorth 74 = .ok (.iload_n 3, 1) := by decide +kernel
theorem dX7_mostWorth_75 : decode cX7_mostWorth 75 = .ok (.sipush 1023, 3) := by decide +kernel
theorem dX7_mostWorth_78 : decode cX7_mostWorth 78 = .ok (.invokevirtual 38, 3) := by decide +kernel
theorem dX7_mostWorth_81 : decode cX7_mostWorth 81 = .ok (.ifCond .eq 6, 3) := by decide +kernel
theorem dX7_mostWorth_84 : decode cX7_mostWorth 84 = .ok (.iload 4, 2) := by decide +kernel
theorem dX7_mostWorth_86 : decode cX7_mostWorth 86 = .ok (.istore_n 2, 1) := by decide +kernel
theorem dX7_mostWorth_87 : decode cX7_mostWorth 87 = .ok (.iinc 3 1, 3) := by decide +kernel
theorem dX7_mostWorth_90 : decode cX7_mostWorth 90 = .ok (.goto (-86), 3) := by decide +kernel
theorem dX7_mostWorth_93 : decode cX7_mostWorth 93 = .ok (.iload_n 2, 1) := by decide +kernel
theorem dX7_mostWorth_94 : decode cX7_mostWorth 94 = .ok (.ireturn, 1) := by decide +kernel
theorem dX7_leadOf_0 : decode cX7_leadOf 0 = .ok (.aload_n 1, 1) := by decide +kernel
theorem dX7_leadOf_1 : decode cX7_leadOf 1 = .ok (.aload_n 0, 1) := by decide +kernel
theorem dX7_leadOf_2 : decode cX7_leadOf 2 = .ok (.getfield 9, 3) := by decide +kernel
theorem dX7_leadOf_5 : decode cX7_leadOf 5 = .ok (.iload_n 2, 1) := by decide +kernel
theorem dX7_leadOf_6 : decode cX7_leadOf 6 = .ok (.iconst 0, 1) := by decide +kernel
theorem dX7_leadOf_7 : decode cX7_leadOf 7 = .ok (.iconst 0, 1) := by decide +kernel
theorem dX7_leadOf_8 : decode cX7_leadOf 8 = .ok (.invokestatic 56, 3) := by decide +kernel
theorem dX7_leadOf_11 : decode cX7_leadOf 11 = .ok (.ireturn, 1) := by decide +kernel
theorem dX7_firstTake_0 : decode cX7_firstTake 0 = .ok (.aload_n 1, 1) := by decide +kernel
theorem dX7_firstTake_1 : decode cX7_firstTake 1 = .ok (.ifnull 7, 3) := by decide +kernel
theorem dX7_firstTake_4 : decode cX7_firstTake 4 = .ok (.iload_n 2, 1) := by decide +kernel
theorem dX7_firstTake_5 : decode cX7_firstTake 5 = .ok (.ifCond .gt 5, 3) := by decide +kernel
theorem dX7_firstTake_8 : decode cX7_firstTake 8 = .ok (.iconst (-1), 1) := by decide +kernel
theorem dX7_firstTake_9 : decode cX7_firstTake 9 = .ok (.ireturn, 1) := by decide +kernel
theorem dX7_firstTake_10 : decode cX7_firstTake 10 = .ok (.bipush 6, 2) := by decide +kernel
theorem dX7_firstTake_12 : decode cX7_firstTake 12 = .ok (.istore_n 3, 1) := by decide +kernel
theorem dX7_firstTake_13 : decode cX7_firstTake 13 = .ok (.aload_n 1, 1) := by decide +kernel
theorem dX7_firstTake_14 : decode cX7_firstTake 14 = .ok (.aload_n 0, 1) := by decide +kernel
theorem dX7_firstTake_15 : decode cX7_firstTake 15 = .ok (.getfield 9, 3) := by decide +kernel
theorem dX7_firstTake_18 : decode cX7_firstTake 18 = .ok (.iload_n 2, 1) := by decide +kernel
theorem dX7_firstTake_19 : decode cX7_firstTake 19 = .ok (.iconst 1, 1) := by decide +kernel
theorem dX7_firstTake_20 : decode cX7_firstTake 20 = .ok (.isub, 1) := by decide +kernel
theorem dX7_firstTake_21 : decode cX7_firstTake 21 = .ok (.iconst 0, 1) := by decide +kernel
theorem dX7_firstTake_22 : decode cX7_firstTake 22 = .ok (.iconst 0, 1) := by decide +kernel
theorem dX7_firstTake_23 : decode cX7_firstTake 23 = .ok (.invokestatic 56, 3) := by decide +kernel
theorem dX7_firstTake_26 : decode cX7_firstTake 26 = .ok (.ineg, 1) := by decide +kernel
theorem dX7_firstTake_27 : decode cX7_firstTake 27 = .ok (.istore 4, 2) := by decide +kernel
theorem dX7_firstTake_29 : decode cX7_firstTake 29 = .ok (.iconst 5, 1) := by decide +kernel
theorem dX7_firstTake_30 : decode cX7_firstTake 30 = .ok (.istore 5, 2) := by decide +kernel
theorem dX7_firstTake_32 : decode cX7_firstTake 32 = .ok (.iload 5, 2) := by decide +kernel
theorem dX7_firstTake_34 : decode cX7_firstTake 34 = .ok (.ifCond .lt 87, 3) := by decide +kernel
theorem dX7_firstTake_37 : decode cX7_firstTake 37 = .ok (.aload_n 1, 1) := by decide +kernel
theorem dX7_firstTake_38 : decode cX7_firstTake 38 = .ok (.iload 5, 2) := by decide +kernel
theorem dX7_firstTake_40 : decode cX7_firstTake 40 = .ok (.invokevirtual 42, 3) := by decide +kernel
theorem dX7_firstTake_43 : decode cX7_firstTake 43 = .ok (.ifCond .eq 72, 3) := by decide +kernel
theorem dX7_firstTake_46 : decode cX7_firstTake 46 = .ok (.aload_n 0, 1) := by decide +kernel
theorem dX7_firstTake_47 : decode cX7_firstTake 47 = .ok (.getfield 9, 3) := by decide +kernel
theorem dX7_firstTake_50 : decode cX7_firstTake 50 = .ok (.iload 5, 2) := by decide +kernel
theorem dX7_firstTake_52 : decode cX7_firstTake 52 = .ok (.iaload, 1) := by decide +kernel
theorem dX7_firstTake_53 : decode cX7_firstTake 53 = .ok (.ifCond .eq 62, 3) := by decide +kernel
theorem dX7_firstTake_56 : decode cX7_firstTake 56 = .ok (.aload_n 0, 1) := by decide +kernel
theorem dX7_firstTake_57 : decode cX7_firstTake 57 = .ok (.getfield 9, 3) := by decide +kernel
theorem dX7_firstTake_60 : decode cX7_firstTake 60 = .ok (.iload 5, 2) := by decide +kernel
theorem dX7_firstTake_62 : decode cX7_firstTake 62 = .ok (.iaload, 1) := by decide +kernel
theorem dX7_firstTake_63 : decode cX7_firstTake 63 = .ok (.aload_n 0, 1) := by decide +kernel
theorem dX7_firstTake_64 : decode cX7_firstTake 64 = .ok (.getfield 9, 3) := by decide +kernel
theorem dX7_firstTake_67 : decode cX7_firstTake 67 = .ok (.iload 5, 2) := by decide +kernel
theorem dX7_firstTake_69 : decode cX7_firstTake 69 = .ok (.iaload, 1) := by decide +kernel
theorem dX7_firstTake_70 : decode cX7_firstTake 70 = .ok (.ineg, 1) := by decide +kernel
theorem dX7_firstTake_71 : decode cX7_firstTake 71 = .ok (.iand, 1) := by decide +kernel
theorem dX7_firstTake_72 : decode cX7_firstTake 72 = .ok (.istore 6, 2) := by decide +kernel
theorem dX7_firstTake_74 : decode cX7_firstTake 74 = .ok (.aload_n 1, 1) := by decide +kernel
theorem dX7_firstTake_75 : decode cX7_firstTake 75 = .ok (.getfield 53, 3) := by decide +kernel
theorem dX7_firstTake_78 : decode cX7_firstTake 78 = .ok (.iload 5, 2) := by decide +kernel
theorem dX7_firstTake_80 : decode cX7_firstTake 80 = .ok (.iaload, 1) := by decide +kernel
theorem dX7_firstTake_81 : decode cX7_firstTake 81 = .ok (.aload_n 1, 1) := by decide +kernel
theorem dX7_firstTake_82 : decode cX7_firstTake 82 = .ok (.aload_n 0, 1) := by decide +kernel
theorem dX7_firstTake_83 : decode cX7_firstTake 83 = .ok (.getfield 9, 3) := by decide +kernel
theorem dX7_firstTake_86 : decode cX7_firstTake 86 = .ok (.iload_n 2, 1) := by decide +kernel
theorem dX7_firstTake_87 : decode cX7_firstTake 87 = .ok (.iconst 1, 1) := by decide +kernel
theorem dX7_firstTake_88 : decode cX7_firstTake 88 = .ok (.isub, 1) := by decide +kernel
theorem dX7_firstTake_89 : decode cX7_firstTake 89 = .ok (.iconst 1, 1) := by decide +kernel
theorem dX7_firstTake_90 : decode cX7_firstTake 90 = .ok (.iload 5, 2) := by decide +kernel
theorem dX7_firstTake_92 : decode cX7_firstTake 92 = .ok (.ishl, 1) := by decide +kernel
theorem dX7_firstTake_93 : decode cX7_firstTake 93 = .ok (.iload 6, 2) := by decide +kernel
theorem dX7_firstTake_95 : decode cX7_firstTake 95 = .ok (.invokestatic 56, 3) := by decide +kernel
theorem dX7_firstTake_98 : decode cX7_firstTake 98 = .ok (.isub, 1) := by decide +kernel
theorem dX7_firstTake_99 : decode cX7_firstTake 99 = .ok (.istore 7, 2) := by decide +kernel
theorem dX7_firstTake_101 : decode cX7_firstTake 101 = .ok (.iload 7, 2) := by decide +kernel
theorem dX7_firstTake_103 : decode cX7_firstTake 103 = .ok (.iload 4, 2) := by decide +kernel
theorem dX7_firstTake_105 : decode cX7_firstTake 105 = .ok (.if_icmp .lt 10, 3) := by decide +kernel
theorem dX7_firstTake_108 : decode cX7_firstTake 108 = .ok (.iload 7, 2) := by decide +kernel
theorem dX7_firstTake_110 : decode cX7_firstTake 110 = .ok (.istore 4, 2) := by decide +kernel
theorem dX7_firstTake_112 : decode cX7_firstTake 112 = .ok (.iload 5, 2) := by decide +kernel
theorem dX7_firstTake_114 : decode cX7_firstTake 114 = .ok (.istore_n 3, 1) := by decide +kernel
theorem dX7_firstTake_115 : decode cX7_firstTake 115 = .ok (.iinc 5 (-1), 3) := by decide +kernel
theorem dX7_firstTake_118 : decode cX7_firstTake 118 = .ok (.goto (-86), 3) := by decide +kernel
theorem dX7_firstTake_121 : decode cX7_firstTake 121 = .ok (.iload_n 3, 1) := by decide +kernel
theorem dX7_firstTake_122 : decode cX7_firstTake 122 = .ok (.ireturn, 1) := by decide +kernel
theorem dX7_lead_0 : decode cX7_lead 0 = .ok (.aload_n 0, 1) := by decide +kernel
theorem dX7_lead_1 : decode cX7_lead 1 = .ok (.ifnull 16, 3) := by decide +kernel
theorem dX7_lead_4 : decode cX7_lead 4 = .ok (.aload_n 1, 1) := by decide +kernel
theorem dX7_lead_5 : decode cX7_lead 5 = .ok (.ifnull 12, 3) := by decide +kernel
theorem dX7_lead_8 : decode cX7_lead 8 = .ok (.iload_n 2, 1) := by decide +kernel
theorem dX7_lead_9 : decode cX7_lead 9 = .ok (.ifCond .le 8, 3) := by decide +kernel
theorem dX7_lead_12 : decode cX7_lead 12 = .ok (.iload_n 2, 1) := by decide +kernel
theorem dX7_lead_13 : decode cX7_lead 13 = .ok (.iconst 4, 1) := by decide +kernel
theorem dX7_lead_14 : decode cX7_lead 14 = .ok (.if_icmp .le 5, 3) := by decide +kernel
theorem dX7_lead_17 : decode cX7_lead 17 = .ok (.iconst 0, 1) := by decide +kernel
theorem dX7_lead_18 : decode cX7_lead 18 = .ok (.ireturn, 1) := by decide +kernel
theorem dX7_lead_19 : decode cX7_lead 19 = .ok (.aload_n 0, 1) := by decide +kernel
theorem dX7_lead_20 : decode cX7_lead 20 = .ok (.aload_n 1, 1) := by decide +kernel
theorem dX7_lead_21 : decode cX7_lead 21 = .ok (.iload_n 2, 1) := by decide +kernel
theorem dX7_lead_22 : decode cX7_lead 22 = .ok (.iconst 1, 1) := by decide +kernel
theorem dX7_lead_23 : decode cX7_lead 23 = .ok (.isub, 1) := by decide +kernel
theorem dX7_lead_24 : decode cX7_lead 24 = .ok (.iload_n 3, 1) := by decide +kernel
theorem dX7_lead_25 : decode cX7_lead 25 = .ok (.iload 4, 2) := by decide +kernel
theorem dX7_lead_27 : decode cX7_lead 27 = .ok (.invokestatic 56, 3) := by decide +kernel
theorem dX7_lead_30 : decode cX7_lead 30 = .ok (.ineg, 1) := by decide +kernel
theorem dX7_lead_31 : decode cX7_lead 31 = .ok (.istore 5, 2) := by decide +kernel
theorem dX7_lead_33 : decode cX7_lead 33 = .ok (.iconst 0, 1) := by decide +kernel
theorem dX7_lead_34 : decode cX7_lead 34 = .ok (.istore 6, 2) := by decide +kernel
theorem dX7_lead_36 : decode cX7_lead 36 = .ok (.iload 6, 2) := by decide +kernel
theorem dX7_lead_38 : decode cX7_lead 38 = .ok (.aload_n 0, 1) := by decide +kernel
theorem dX7_lead_39 : decode cX7_lead 39 = .ok (.getfield 50, 3) := by decide +kernel
theorem dX7_lead_42 : decode cX7_lead 42 = .ok (.if_icmp .ge 94, 3) := by decide +kernel
theorem dX7_lead_45 : decode cX7_lead 45 = .ok (.iload 6, 2) := by decide +kernel
theorem dX7_lead_47 : decode cX7_lead 47 = .ok (.bipush 6, 2) := by decide +kernel
theorem dX7_lead_49 : decode cX7_lead 49 = .ok (.if_icmp .ge 87, 3) := by decide +kernel
theorem dX7_lead_52 : decode cX7_lead 52 = .ok (.iload 6, 2) := by decide +kernel
theorem dX7_lead_54 : decode cX7_lead 54 = .ok (.aload_n 1, 1) := by decide +kernel
theorem dX7_lead_55 : decode cX7_lead 55 = .ok (.arraylength, 1) := by decide +kernel
theorem dX7_lead_56 : decode cX7_lead 56 = .ok (.if_icmp .ge 80, 3) := by decide +kernel
theorem dX7_lead_59 : decode cX7_lead 59 = .ok (.aload_n 1, 1) := by decide +kernel
theorem dX7_lead_60 : decode cX7_lead 60 = .ok (.iload 6, 2) := by decide +kernel
theorem dX7_lead_62 : decode cX7_lead 62 = .ok (.iaload, 1) := by decide +kernel
theorem dX7_lead_63 : decode cX7_lead 63 = .ok (.iload 4, 2) := by decide +kernel
theorem dX7_lead_65 : decode cX7_lead 65 = .ok (.iconst (-1), 1) := by decide +kernel
theorem dX7_lead_66 : decode cX7_lead 66 = .ok (.ixor, 1) := by decide +kernel
theorem dX7_lead_67 : decode cX7_lead 67 = .ok (.iand, 1) := by decide +kernel
theorem dX7_lead_68 : decode cX7_lead 68 = .ok (.istore 7, 2) := by decide +kernel
theorem dX7_lead_70 : decode cX7_lead 70 = .ok (.iload_n 3, 1) := by decide +kernel
theorem dX7_lead_71 : decode cX7_lead 71 = .ok (.iload 6, 2) := by decide +kernel
theorem dX7_lead_73 : decode cX7_lead 73 = .ok (.ishr, 1) := by decide +kernel
theorem dX7_lead_74 : decode cX7_lead 74 = .ok (.iconst 1, 1) := by decide +kernel
theorem dX7_lead_75 : decode cX7_lead 75 = .ok (.iand, 1) := by decide +kernel
theorem dX7_lead_76 : decode cX7_lead 76 = .ok (.ifCond .ne 54, 3) := by decide +kernel
theorem dX7_lead_79 : decode cX7_lead 79 = .ok (.iload 7, 2) := by decide +kernel
theorem dX7_lead_81 : decode cX7_lead 81 = .ok (.ifCond .eq 49, 3) := by decide +kernel
theorem dX7_lead_84 : decode cX7_lead 84 = .ok (.iload 4, 2) := by decide +kernel
theorem dX7_lead_86 : decode cX7_lead 86 = .ok (.iload 7, 2) := by decide +kernel
theorem dX7_lead_88 : decode cX7_lead 88 = .ok (.iload 7, 2) := by decide +kernel
theorem dX7_lead_90 : decode cX7_lead 90 = .ok (.ineg, 1) := by decide +kernel
theorem dX7_lead_91 : decode cX7_lead 91 = .ok (.iand, 1) := by decide +kernel
theorem dX7_lead_92 : decode cX7_lead 92 = .ok (.ior, 1) := by decide +kernel
theorem dX7_lead_93 : decode cX7_lead 93 = .ok (.istore 8, 2) := by decide +kernel
theorem dX7_lead_95 : decode cX7_lead 95 = .ok (.aload_n 0, 1) := by decide +kernel
theorem dX7_lead_96 : decode cX7_lead 96 = .ok (.getfield 53, 3) := by decide +kernel
theorem dX7_lead_99 : decode cX7_lead 99 = .ok (.iload 6, 2) := by decide +kernel
theorem dX7_lead_101 : decode cX7_lead 101 = .ok (.iaload, 1) := by decide +kernel
theorem dX7_lead_102 : decode cX7_lead 102 = .ok (.aload_n 0, 1) := by decide +kernel
theorem dX7_lead_103 : decode cX7_lead 103 = .ok (.aload_n 1, 1) := by decide +kernel
theorem dX7_lead_104 : decode cX7_lead 104 = .ok (.iload_n 2, 1) := by decide +kernel
theorem dX7_lead_105 : decode cX7_lead 105 = .ok (.iconst 1, 1) := by decide +kernel
theorem dX7_lead_106 : decode cX7_lead 106 = .ok (.isub, 1) := by decide +kernel
theorem dX7_lead_107 : decode cX7_lead 107 = .ok (.iload_n 3, 1) := by decide +kernel
theorem dX7_lead_108 : decode cX7_lead 108 = .ok (.iconst 1, 1) := by decide +kernel
theorem dX7_lead_109 : decode cX7_lead 109 = .ok (.iload 6, 2) := by decide +kernel
theorem dX7_lead_111 : decode cX7_lead 111 = .ok (.ishl, 1) := by decide +kernel
theorem dX7_lead_112 : decode cX7_lead 112 = .ok (.ior, 1) := by decide +kernel
theorem dX7_lead_113 : decode cX7_lead 113 = .ok (.iload 8, 2) := by decide +kernel
theorem dX7_lead_115 : decode cX7_lead 115 = .ok (.invokestatic 56, 3) := by decide +kernel
theorem dX7_lead_118 : decode cX7_lead 118 = .ok (.isub, 1) := by decide +kernel
theorem dX7_lead_119 : decode cX7_lead 119 = .ok (.istore 9, 2) := by decide +kernel
theorem dX7_lead_121 : decode cX7_lead 121 = .ok (.iload 5, 2) := by decide +kernel
theorem dX7_lead_123 : decode cX7_lead 123 = .ok (.iload 9, 2) := by decide +kernel
theorem dX7_lead_125 : decode cX7_lead 125 = .ok (.invokestatic 60, 3) := by decide +kernel
theorem dX7_lead_128 : decode cX7_lead 128 = .ok (.istore 5, 2) := by decide +kernel
theorem dX7_lead_130 : decode cX7_lead 130 = .ok (.iinc 6 1, 3) := by decide +kernel
theorem dX7_lead_133 : decode cX7_lead 133 = .ok (.goto (-97), 3) := by decide +kernel
theorem dX7_lead_136 : decode cX7_lead 136 = .ok (.iload 5, 2) := by decide +kernel
theorem dX7_lead_138 : decode cX7_lead 138 = .ok (.ireturn, 1) := by decide +kernel
theorem dX8_init_0 : decode cX8_init 0 = .ok (.aload_n 0, 1) := by decide +kernel
theorem dX8_init_1 : decode cX8_init 1 = .ok (.invokespecial 3, 3) := by decide +kernel
theorem dX8_init_4 : decode cX8_init 4 = .ok (.aload_n 0, 1) := by decide +kernel
theorem dX8_init_5 : decode cX8_init 5 = .ok (.sipush 600, 3) := by decide +kernel
theorem dX8_init_8 : decode cX8_init 8 = .ok (.newarray .int, 2) := by decide +kernel
theorem dX8_init_10 : decode cX8_init 10 = .ok (.putfield 9, 3) := by decide +kernel
theorem dX8_init_13 : decode cX8_init 13 = .ok (.aload_n 0, 1) := by decide +kernel
theorem dX8_init_14 : decode cX8_init 14 = .ok (.iconst 0, 1) := by decide +kernel
theorem dX8_init_15 : decode cX8_init 15 = .ok (.putfield 15, 3) := by decide +kernel
theorem dX8_init_18 : decode cX8_init 18 = .ok (.aload_n 0, 1) := by decide +kernel
theorem dX8_init_19 : decode cX8_init 19 = .ok (.iconst 0, 1) := by decide +kernel
theorem dX8_init_20 : decode cX8_init 20 = .ok (.putfield 19, 3) := by decide +kernel
theorem dX8_init_23 : decode cX8_init 23 = .ok (.aload_n 0, 1) := by decide +kernel
theorem dX8_init_24 : decode cX8_init 24 = .ok (.iconst (-1), 1) := by decide +kernel
theorem dX8_init_25 : decode cX8_init 25 = .ok (.putfield 22, 3) := by decide +kernel
theorem dX8_init_28 : decode cX8_init 28 = .ok (.aload_n 0, 1) := by decide +kernel
theorem dX8_init_29 : decode cX8_init 29 = .ok (.iconst 2, 1) := by decide +kernel
theorem dX8_init_30 : decode cX8_init 30 = .ok (.anewarray 25, 3) := by decide +kernel
theorem dX8_init_33 : decode cX8_init 33 = .ok (.putfield 27, 3) := by decide +kernel
theorem dX8_init_36 : decode cX8_init 36 = .ok (.aload_n 0, 1) := by decide +kernel
theorem dX8_init_37 : decode cX8_init 37 = .ok (.iconst 2, 1) := by decide +kernel
theorem dX8_init_38 : decode cX8_init 38 = .ok (.anewarray 31, 3) := by decide +kernel
theorem dX8_init_41 : decode cX8_init 41 = .ok (.putfield 33, 3) := by decide +kernel
theorem dX8_init_44 : decode cX8_init 44 = .ok (.aload_n 0, 1) := by decide +kernel
theorem dX8_init_45 : decode cX8_init 45 = .ok (.iconst 2, 1) := by decide +kernel
theorem dX8_init_46 : decode cX8_init 46 = .ok (.anewarray 37, 3) := by decide +kernel
theorem dX8_init_49 : decode cX8_init 49 = .ok (.putfield 39, 3) := by decide +kernel
theorem dX8_init_52 : decode cX8_init 52 = .ok (.iconst 0, 1) := by decide +kernel
theorem dX8_init_53 : decode cX8_init 53 = .ok (.istore_n 1, 1) := by decide +kernel
theorem dX8_init_54 : decode cX8_init 54 = .ok (.iload_n 1, 1) := by decide +kernel
theorem dX8_init_55 : decode cX8_init 55 = .ok (.iconst 2, 1) := by decide +kernel
theorem dX8_init_56 : decode cX8_init 56 = .ok (.if_icmp .ge 48, 3) := by decide +kernel
theorem dX8_init_59 : decode cX8_init 59 = .ok (.aload_n 0, 1) := by decide +kernel
theorem dX8_init_60 : decode cX8_init 60 = .ok (.getfield 27, 3) := by decide +kernel
theorem dX8_init_63 : decode cX8_init 63 = .ok (.iload_n 1, 1) := by decide +kernel
theorem dX8_init_64 : decode cX8_init 64 = .ok (.new 25, 3) := by decide +kernel
theorem dX8_init_67 : decode cX8_init 67 = .ok (.dup, 1) := by decide +kernel
theorem dX8_init_68 : decode cX8_init 68 = .ok (.invokespecial 43, 3) := by decide +kernel
theorem dX8_init_71 : decode cX8_init 71 = .ok (.aastore, 1) := by decide +kernel
theorem dX8_init_72 : decode cX8_init 72 = .ok (.aload_n 0, 1) := by decide +kernel
theorem dX8_init_73 : decode cX8_init 73 = .ok (.getfield 33, 3) := by decide +kernel
theorem dX8_init_76 : decode cX8_init 76 = .ok (.iload_n 1, 1) := by decide +kernel
theorem dX8_init_77 : decode cX8_init 77 = .ok (.new 31, 3) := by decide +kernel
theorem dX8_init_80 : decode cX8_init 80 = .ok (.dup, 1) := by decide +kernel
theorem dX8_init_81 : decode cX8_init 81 = .ok (.invokespecial 44, 3) := by decide +kernel
theorem dX8_init_84 : decode cX8_init 84 = .ok (.aastore, 1) := by decide +kernel
theorem dX8_init_85 : decode cX8_init 85 = .ok (.aload_n 0, 1) := by decide +kernel
theorem dX8_init_86 : decode cX8_init 86 = .ok (.getfield 39, 3) := by decide +kernel
theorem dX8_init_89 : decode cX8_init 89 = .ok (.iload_n 1, 1) := by decide +kernel
theorem dX8_init_90 : decode cX8_init 90 = .ok (.new 37, 3) := by decide +kernel
theorem dX8_init_93 : decode cX8_init 93 = .ok (.dup, 1) := by decide +kernel
theorem dX8_init_94 : decode cX8_init 94 = .ok (.invokespecial 45, 3) := by decide +kernel
theorem dX8_init_97 : decode cX8_init 97 = .ok (.aastore, 1) := by decide +kernel
theorem dX8_init_98 : decode cX8_init 98 = .ok (.iinc 1 1, 3) := by decide +kernel
theorem dX8_init_101 : decode cX8_init 101 = .ok (.goto (-47), 3) := by decide +kernel
theorem dX8_init_104 : decode cX8_init 104 = .ok (.aload_n 0, 1) := by decide +kernel
theorem dX8_init_105 : decode cX8_init 105 = .ok (.iconst 3, 1) := by decide +kernel
theorem dX8_init_106 : decode cX8_init 106 = .ok (.newarray .int, 2) := by decide +kernel
theorem dX8_init_108 : decode cX8_init 108 = .ok (.putfield 46, 3) := by decide +kernel
theorem dX8_init_111 : decode cX8_init 111 = .ok (.return_, 1) := by decide +kernel
theorem dX8_copyFrom_0 : decode cX8_copyFrom 0 = .ok (.aload_n 1, 1) := by decide +kernel
theorem dX8_copyFrom_1 : decode cX8_copyFrom 1 = .ok (.ifnonnull 4, 3) := by decide +kernel
theorem dX8_copyFrom_4 : decode cX8_copyFrom 4 = .ok (.return_, 1) := by decide +kernel
theorem dX8_copyFrom_5 : decode cX8_copyFrom 5 = .ok (.aload_n 1, 1) := by decide +kernel
theorem dX8_copyFrom_6 : decode cX8_copyFrom 6 = .ok (.getfield 9, 3) := by decide +kernel
theorem dX8_copyFrom_9 : decode cX8_copyFrom 9 = .ok (.iconst 0, 1) := by decide +kernel
theorem dX8_copyFrom_10 : decode cX8_copyFrom 10 = .ok (.aload_n 0, 1) := by decide +kernel
theorem dX8_copyFrom_11 : decode cX8_copyFrom 11 = .ok (.getfield 9, 3) := by decide +kernel
theorem dX8_copyFrom_14 : decode cX8_copyFrom 14 = .ok (.iconst 0, 1) := by decide +kernel
theorem dX8_copyFrom_15 : decode cX8_copyFrom 15 = .ok (.sipush 600, 3) := by decide +kernel
theorem dX8_copyFrom_18 : decode cX8_copyFrom 18 = .ok (.invokestatic 49, 3) := by decide +kernel
theorem dX8_copyFrom_21 : decode cX8_copyFrom 21 = .ok (.aload_n 0, 1) := by decide +kernel
theorem dX8_copyFrom_22 : decode cX8_copyFrom 22 = .ok (.aload_n 1, 1) := by decide +kernel
theorem dX8_copyFrom_23 : decode cX8_copyFrom 23 = .ok (.getfield 15, 3) := by decide +kernel
theorem dX8_copyFrom_26 : decode cX8_copyFrom 26 = .ok (.putfield 15, 3) := by decide +kernel
theorem dX8_copyFrom_29 : decode cX8_copyFrom 29 = .ok (.aload_n 0, 1) := by decide +kernel
theorem dX8_copyFrom_30 : decode cX8_copyFrom 30 = .ok (.aload_n 1, 1) := by decide +kernel
theorem dX8_copyFrom_31 : decode cX8_copyFrom 31 = .ok (.getfield 19, 3) := by decide +kernel
theorem dX8_copyFrom_34 : decode cX8_copyFrom 34 = .ok (.putfield 19, 3) := by decide +kernel
theorem dX8_copyFrom_37 : decode cX8_copyFrom 37 = .ok (.aload_n 0, 1) := by decide +kernel
theorem dX8_copyFrom_38 : decode cX8_copyFrom 38 = .ok (.aload_n 1, 1) := by decide +kernel
theorem dX8_copyFrom_39 : decode cX8_copyFrom 39 = .ok (.getfield 22, 3) := by decide +kernel
theorem dX8_copyFrom_42 : decode cX8_copyFrom 42 = .ok (.putfield 22, 3) := by decide +kernel
theorem dX8_copyFrom_45 : decode cX8_copyFrom 45 = .ok (.iconst 0, 1) := by decide +kernel
theorem dX8_copyFrom_46 : decode cX8_copyFrom 46 = .ok (.istore_n 2, 1) := by decide +kernel
theorem dX8_copyFrom_47 : decode cX8_copyFrom 47 = .ok (.iload_n 2, 1) := by decide +kernel
theorem dX8_copyFrom_48 : decode cX8_copyFrom 48 = .ok (.iconst 2, 1) := by decide +kernel
theorem dX8_copyFrom_49 : decode cX8_copyFrom 49 = .ok (.if_icmp .ge 54, 3) := by decide +kernel
theorem dX8_copyFrom_52 : decode cX8_copyFrom 52 = .ok (.aload_n 0, 1) := by decide +kernel
theorem dX8_copyFrom_53 : decode cX8_copyFrom 53 = .ok (.getfield 27, 3) := by decide +kernel
theorem dX8_copyFrom_56 : decode cX8_copyFrom 56 = .ok (.iload_n 2, 1) := by decide +kernel
theorem dX8_copyFrom_57 : decode cX8_copyFrom 57 = .ok (.aaload, 1) := by decide +kernel
theorem dX8_copyFrom_58 : decode cX8_copyFrom 58 = .ok (.aload_n 1, 1) := by decide +kernel
theorem dX8_copyFrom_59 : decode cX8_copyFrom 59 = .ok (.getfield 27, 3) := by decide +kernel
theorem dX8_copyFrom_62 : decode cX8_copyFrom 62 = .ok (.iload_n 2, 1) := by decide +kernel
theorem dX8_copyFrom_63 : decode cX8_copyFrom 63 = .ok (.aaload, 1) := by decide +kernel
theorem dX8_copyFrom_64 : decode cX8_copyFrom 64 = .ok (.invokevirtual 55, 3) := by decide +kernel
theorem dX8_copyFrom_67 : decode cX8_copyFrom 67 = .ok (.aload_n 0, 1) := by decide +kernel
theorem dX8_copyFrom_68 : decode cX8_copyFrom 68 = .ok (.getfield 33, 3) := by decide +kernel
theorem dX8_copyFrom_71 : decode cX8_copyFrom 71 = .ok (.iload_n 2, 1) := by decide +kernel
theorem dX8_copyFrom_72 : decode cX8_copyFrom 72 = .ok (.aaload, 1) := by decide +kernel
theorem dX8_copyFrom_73 : decode cX8_copyFrom 73 = .ok (.aload_n 1, 1) := by decide +kernel
theorem dX8_copyFrom_74 : decode cX8_copyFrom 74 = .ok (.getfield 33, 3) := by decide +kernel
theorem dX8_copyFrom_77 : decode cX8_copyFrom 77 = .ok (.iload_n 2, 1) := by decide +kernel
theorem dX8_copyFrom_78 : decode cX8_copyFrom 78 = .ok (.aaload, 1) := by decide +kernel
theorem dX8_copyFrom_79 : decode cX8_copyFrom 79 = .ok (.invokevirtual 59, 3) := by decide +kernel
theorem dX8_copyFrom_82 : decode cX8_copyFrom 82 = .ok (.aload_n 0, 1) := by decide +kernel
theorem dX8_copyFrom_83 : decode cX8_copyFrom 83 = .ok (.getfield 39, 3) := by decide +kernel
theorem dX8_copyFrom_86 : decode cX8_copyFrom 86 = .ok (.iload_n 2, 1) := by decide +kernel
theorem dX8_copyFrom_87 : decode cX8_copyFrom 87 = .ok (.aaload, 1) := by decide +kernel
theorem dX8_copyFrom_88 : decode cX8_copyFrom 88 = .ok (.aload_n 1, 1) := by decide +kernel
theorem dX8_copyFrom_89 : decode cX8_copyFrom 89 = .ok (.getfield 39, 3) := by decide +kernel
theorem dX8_copyFrom_92 : decode cX8_copyFrom 92 = .ok (.iload_n 2, 1) := by decide +kernel
theorem dX8_copyFrom_93 : decode cX8_copyFrom 93 = .ok (.aaload, 1) := by decide +kernel
theorem dX8_copyFrom_94 : decode cX8_copyFrom 94 = .ok (.invokevirtual 62, 3) := by decide +kernel
theorem dX8_copyFrom_97 : decode cX8_copyFrom 97 = .ok (.iinc 2 1, 3) := by decide +kernel
theorem dX8_copyFrom_100 : decode cX8_copyFrom 100 = .ok (.goto (-53), 3) := by decide +kernel
theorem dX8_copyFrom_103 : decode cX8_copyFrom 103 = .ok (.aload_n 1, 1) := by decide +kernel
theorem dX8_copyFrom_104 : decode cX8_copyFrom 104 = .ok (.getfield 46, 3) := by decide +kernel
theorem dX8_copyFrom_107 : decode cX8_copyFrom 107 = .ok (.iconst 0, 1) := by decide +kernel
theorem dX8_copyFrom_108 : decode cX8_copyFrom 108 = .ok (.aload_n 0, 1) := by decide +kernel
theorem dX8_copyFrom_109 : decode cX8_copyFrom 109 = .ok (.getfield 46, 3) := by decide +kernel
theorem dX8_copyFrom_112 : decode cX8_copyFrom 112 = .ok (.iconst 0, 1) := by decide +kernel
theorem dX8_copyFrom_113 : decode cX8_copyFrom 113 = .ok (.iconst 3, 1) := by decide +kernel
theorem dX8_copyFrom_114 : decode cX8_copyFrom 114 = .ok (.invokestatic 49, 3) := by decide +kernel
theorem dX8_copyFrom_117 : decode cX8_copyFrom 117 = .ok (.return_, 1) := by decide +kernel
theorem dX8_put_0 : decode cX8_put 0 = .ok (.bipush 24, 2) := by decide +kernel
theorem dX8_put_2 : decode cX8_put 2 = .ok (.istore_n 2, 1) := by decide +kernel
theorem dX8_put_3 : decode cX8_put 3 = .ok (.iload_n 2, 1) := by decide +kernel
theorem dX8_put_4 : decode cX8_put 4 = .ok (.ifCond .lt 52, 3) := by decide +kernel
theorem dX8_put_7 : decode cX8_put 7 = .ok (.aload_n 0, 1) := by decide +kernel
theorem dX8_put_8 : decode cX8_put 8 = .ok (.getfield 15, 3) := by decide +kernel
theorem dX8_put_11 : decode cX8_put 11 = .ok (.ifCond .lt 39, 3) := by decide +kernel
theorem dX8_put_14 : decode cX8_put 14 = .ok (.aload_n 0, 1) := by decide +kernel
theorem dX8_put_15 : decode cX8_put 15 = .ok (.getfield 15, 3) := by decide +kernel
theorem dX8_put_18 : decode cX8_put 18 = .ok (.sipush 600, 3) := by decide +kernel
theorem dX8_put_21 : decode cX8_put 21 = .ok (.if_icmp .ge 29, 3) := by decide +kernel
theorem dX8_put_24 : decode cX8_put 24 = .ok (.aload_n 0, 1) := by decide +kernel
theorem dX8_put_25 : decode cX8_put 25 = .ok (.getfield 9, 3) := by decide +kernel
theorem dX8_put_28 : decode cX8_put 28 = .ok (.aload_n 0, 1) := by decide +kernel
theorem dX8_put_29 : decode cX8_put 29 = .ok (.getfield 15, 3) := by decide +kernel
theorem dX8_put_32 : decode cX8_put 32 = .ok (.iload_n 1, 1) := by decide +kernel
theorem dX8_put_33 : decode cX8_put 33 = .ok (.iload_n 2, 1) := by decide +kernel
theorem dX8_put_34 : decode cX8_put 34 = .ok (.iushr, 1) := by decide +kernel
theorem dX8_put_35 : decode cX8_put 35 = .ok (.sipush 255, 3) := by decide +kernel
theorem dX8_put_38 : decode cX8_put 38 = .ok (.iand, 1) := by decide +kernel
theorem dX8_put_39 : decode cX8_put 39 = .ok (.iastore, 1) := by decide +kernel
theorem dX8_put_40 : decode cX8_put 40 = .ok (.aload_n 0, 1) := by decide +kernel
theorem dX8_put_41 : decode cX8_put 41 = .ok (.dup, 1) := by decide +kernel
theorem dX8_put_42 : decode cX8_put 42 = .ok (.getfield 15, 3) := by decide +kernel
theorem dX8_put_45 : decode cX8_put 45 = .ok (.iconst 1, 1) := by decide +kernel
theorem dX8_put_46 : decode cX8_put 46 = .ok (.iadd, 1) := by decide +kernel
theorem dX8_put_47 : decode cX8_put 47 = .ok (.putfield 15, 3) := by decide +kernel
theorem dX8_put_50 : decode cX8_put 50 = .ok (.iinc 2 (-8), 3) := by decide +kernel
theorem dX8_put_53 : decode cX8_put 53 = .ok (.goto (-50), 3) := by decide +kernel
theorem dX8_put_56 : decode cX8_put 56 = .ok (.return_, 1) := by decide +kernel
theorem dX8_howMany_0 : decode cX8_howMany 0 = .ok (.iload_n 1, 1) := by decide +kernel
theorem dX8_howMany_1 : decode cX8_howMany 1 = .ok (.ifCond .lt 17, 3) := by decide +kernel
theorem dX8_howMany_4 : decode cX8_howMany 4 = .ok (.iload_n 1, 1) := by decide +kernel
theorem dX8_howMany_5 : decode cX8_howMany 5 = .ok (.iconst 3, 1) := by decide +kernel
theorem dX8_howMany_6 : decode cX8_howMany 6 = .ok (.if_icmp .ge 12, 3) := by decide +kernel
theorem dX8_howMany_9 : decode cX8_howMany 9 = .ok (.aload_n 0, 1) := by decide +kernel
theorem dX8_howMany_10 : decode cX8_howMany 10 = .ok (.getfield 46, 3) := by decide +kernel
theorem dX8_howMany_13 : decode cX8_howMany 13 = .ok (.iload_n 1, 1) := by decide +kernel
theorem dX8_howMany_14 : decode cX8_howMany 14 = .ok (.iaload, 1) := by decide +kernel
theorem dX8_howMany_15 : decode cX8_howMany 15 = .ok (.goto 5, 3) := by decide +kernel
theorem dX8_howMany_18 : decode cX8_howMany 18 = .ok (.bipush (-2), 2) := by decide +kernel
theorem dX8_howMany_20 : decode cX8_howMany 20 = .ok (.ireturn, 1) := by decide +kernel
theorem dX8_has_0 : decode cX8_has 0 = .ok (.iload_n 2, 1) := by decide +kernel
theorem dX8_has_1 : decode cX8_has 1 = .ok (.ifCond .lt 21, 3) := by decide +kernel
theorem dX8_has_4 : decode cX8_has 4 = .ok (.iload_n 2, 1) := by decide +kernel
theorem dX8_has_5 : decode cX8_has 5 = .ok (.iconst 2, 1) := by decide +kernel
theorem dX8_has_6 : decode cX8_has 6 = .ok (.if_icmp .ge 16, 3) := by decide +kernel
theorem dX8_has_9 : decode cX8_has 9 = .ok (.iload_n 2, 1) := by decide +kernel
theorem dX8_has_10 : decode cX8_has 10 = .ok (.aload_n 0, 1) := by decide +kernel
theorem dX8_has_11 : decode cX8_has 11 = .ok (.iload_n 1, 1) := by decide +kernel
theorem dX8_has_12 : decode cX8_has 12 = .ok (.invokevirtual 65, 3) := by decide +kernel
theorem dX8_has_15 : decode cX8_has 15 = .ok (.if_icmp .ge 7, 3) := by decide +kernel
theorem dX8_has_18 : decode cX8_has 18 = .ok (.iconst 1, 1) := by decide +kernel
theorem dX8_has_19 : decode cX8_has 19 = .ok (.goto 4, 3) := by decide +kernel
theorem dX8_has_22 : decode cX8_has 22 = .ok (.iconst 0, 1) := by decide +kernel
theorem dX8_has_23 : decode cX8_has 23 = .ok (.ireturn, 1) := by decide +kernel
theorem dX8_valleyAt_0 : decode cX8_valleyAt 0 = .ok (.aload_n 0, 1) := by decide +kernel
theorem dX8_valleyAt_1 : decode cX8_valleyAt 1 = .ok (.iconst 0, 1) := by decide +kernel
theorem dX8_valleyAt_2 : decode cX8_valleyAt 2 = .ok (.iload_n 1, 1) := by decide +kernel
theorem dX8_valleyAt_3 : decode cX8_valleyAt 3 = .ok (.invokevirtual 69, 3) := by decide +kernel
theorem dX8_valleyAt_6 : decode cX8_valleyAt 6 = .ok (.ifCond .eq 12, 3) := by decide +kernel
theorem dX8_valleyAt_9 : decode cX8_valleyAt 9 = .ok (.aload_n 0, 1) := by decide +kernel
theorem dX8_valleyAt_10 : decode cX8_valleyAt 10 = .ok (.getfield 27, 3) := by decide +kernel
theorem dX8_valleyAt_13 : decode cX8_valleyAt 13 = .ok (.iload_n 1, 1) := by decide +kernel
theorem dX8_valleyAt_14 : decode cX8_valleyAt 14 = .ok (.aaload, 1) := by decide +kernel
theorem dX8_valleyAt_15 : decode cX8_valleyAt 15 = .ok (.goto 4, 3) := by decide +kernel
theorem dX8_valleyAt_18 : decode cX8_valleyAt 18 = .ok (.aconst_null, 1) := by decide +kernel
theorem dX8_valleyAt_19 : decode cX8_valleyAt 19 = .ok (.areturn, 1) := by decide +kernel
theorem dX8_lifeAt_0 : decode cX8_lifeAt 0 = .ok (.aload_n 0, 1) := by decide +kernel
theorem dX8_lifeAt_1 : decode cX8_lifeAt 1 = .ok (.iconst 1, 1) := by decide +kernel
theorem dX8_lifeAt_2 : decode cX8_lifeAt 2 = .ok (.iload_n 1, 1) := by decide +kernel
theorem dX8_lifeAt_3 : decode cX8_lifeAt 3 = .ok (.invokevirtual 69, 3) := by decide +kernel
theorem dX8_lifeAt_6 : decode cX8_lifeAt 6 = .ok (.ifCond .eq 12, 3) := by decide +kernel
theorem dX8_lifeAt_9 : decode cX8_lifeAt 9 = .ok (.aload_n 0, 1) := by decide +kernel
theorem dX8_lifeAt_10 : decode cX8_lifeAt 10 = .ok (.getfield 33, 3) := by decide +kernel
theorem dX8_lifeAt_13 : decode cX8_lifeAt 13 = .ok (.iload_n 1, 1) := by decide +kernel
theorem dX8_lifeAt_14 : decode cX8_lifeAt 14 = .ok (.aaload, 1) := by decide +kernel
theorem dX8_lifeAt_15 : decode cX8_lifeAt 15 = .ok (.goto 4, 3) := by decide +kernel
theorem dX8_lifeAt_18 : decode cX8_lifeAt 18 = .ok (.aconst_null, 1) := by decide +kernel
theorem dX8_lifeAt_19 : decode cX8_lifeAt 19 = .ok (.areturn, 1) := by decide +kernel
theorem dX8_sightAt_0 : decode cX8_sightAt 0 = .ok (.aload_n 0, 1) := by decide +kernel
theorem dX8_sightAt_1 : decode cX8_sightAt 1 = .ok (.iconst 2, 1) := by decide +kernel
theorem dX8_sightAt_2 : decode cX8_sightAt 2 = .ok (.iload_n 1, 1) := by decide +kernel
theorem dX8_sightAt_3 : decode cX8_sightAt 3 = .ok (.invokevirtual 69, 3) := by decide +kernel
theorem dX8_sightAt_6 : decode cX8_sightAt 6 = .ok (.ifCond .eq 12, 3) := by decide +kernel
theorem dX8_sightAt_9 : decode cX8_sightAt 9 = .ok (.aload_n 0, 1) := by decide +kernel
theorem dX8_sightAt_10 : decode cX8_sightAt 10 = .ok (.getfield 39, 3) := by decide +kernel
theorem dX8_sightAt_13 : decode cX8_sightAt 13 = .ok (.iload_n 1, 1) := by decide +kernel
theorem dX8_sightAt_14 : decode cX8_sightAt 14 = .ok (.aaload, 1) := by decide +kernel
theorem dX8_sightAt_15 : decode cX8_sightAt 15 = .ok (.goto 4, 3) := by decide +kernel
theorem dX8_sightAt_18 : decode cX8_sightAt 18 = .ok (.aconst_null, 1) := by decide +kernel
theorem dX8_sightAt_19 : decode cX8_sightAt 19 = .ok (.areturn, 1) := by decide +kernel
theorem dX8_take_0 : decode cX8_take 0 = .ok (.aload_n 3, 1) := by decide +kernel
theorem dX8_take_1 : decode cX8_take 1 = .ok (.ifnull 21, 3) := by decide +kernel
theorem dX8_take_4 : decode cX8_take 4 = .ok (.iload_n 2, 1) := by decide +kernel
theorem dX8_take_5 : decode cX8_take 5 = .ok (.ifCond .lt 17, 3) := by decide +kernel
theorem dX8_take_8 : decode cX8_take 8 = .ok (.iload_n 2, 1) := by decide +kernel
theorem dX8_take_9 : decode cX8_take 9 = .ok (.iconst 2, 1) := by decide +kernel
theorem dX8_take_10 : decode cX8_take 10 = .ok (.if_icmp .ge 12, 3) := by decide +kernel
theorem dX8_take_13 : decode cX8_take 13 = .ok (.iload_n 1, 1) := by decide +kernel
theorem dX8_take_14 : decode cX8_take 14 = .ok (.ifCond .lt 8, 3) := by decide +kernel
theorem dX8_take_17 : decode cX8_take 17 = .ok (.iload_n 1, 1) := by decide +kernel
theorem dX8_take_18 : decode cX8_take 18 = .ok (.iconst 3, 1) := by decide +kernel
theorem dX8_take_19 : decode cX8_take 19 = .ok (.if_icmp .lt 4, 3) := by decide +kernel
theorem dX8_take_22 : decode cX8_take 22 = .ok (.return_, 1) := by decide +kernel
theorem dX8_take_23 : decode cX8_take 23 = .ok (.iload_n 1, 1) := by decide +kernel
theorem dX8_take_24 : decode cX8_take 24 = .ok (.ifCond .ne 19, 3) := by decide +kernel
theorem dX8_take_27 : decode cX8_take 27 = .ok (.aload_n 0, 1) := by decide +kernel
theorem dX8_take_28 : decode cX8_take 28 = .ok (.getfield 27, 3) := by decide +kernel
theorem dX8_take_31 : decode cX8_take 31 = .ok (.iload_n 2, 1) := by decide +kernel
theorem dX8_take_32 : decode cX8_take 32 = .ok (.aaload, 1) := by decide +kernel
theorem dX8_take_33 : decode cX8_take 33 = .ok (.aload_n 3, 1) := by decide +kernel
theorem dX8_take_34 : decode cX8_take 34 = .ok (.getfield 73, 3) := by decide +kernel
theorem dX8_take_37 : decode cX8_take 37 = .ok (.invokevirtual 55, 3) := by decide +kernel
theorem dX8_take_40 : decode cX8_take 40 = .ok (.goto 37, 3) := by decide +kernel
theorem dX8_take_43 : decode cX8_take 43 = .ok (.iload_n 1, 1) := by decide +kernel
theorem dX8_take_44 : decode cX8_take 44 = .ok (.iconst 1, 1) := by decide +kernel
theorem dX8_take_45 : decode cX8_take 45 = .ok (.if_icmp .ne 19, 3) := by decide +kernel
theorem dX8_take_48 : decode cX8_take 48 = .ok (.aload_n 0, 1) := by decide +kernel
theorem dX8_take_49 : decode cX8_take 49 = .ok (.getfield 33, 3) := by decide +kernel
theorem dX8_take_52 : decode cX8_take 52 = .ok (.iload_n 2, 1) := by decide +kernel
theorem dX8_take_53 : decode cX8_take 53 = .ok (.aaload, 1) := by decide +kernel
theorem dX8_take_54 : decode cX8_take 54 = .ok (.aload_n 3, 1) := by decide +kernel
theorem dX8_take_55 : decode cX8_take 55 = .ok (.getfield 79, 3) := by decide +kernel
theorem dX8_take_58 : decode cX8_take 58 = .ok (.invokevirtual 59, 3) := by decide +kernel
theorem dX8_take_61 : decode cX8_take 61 = .ok (.goto 16, 3) := by decide +kernel
theorem dX8_take_64 : decode cX8_take 64 = .ok (.aload_n 0, 1) := by decide +kernel
theorem dX8_take_65 : decode cX8_take 65 = .ok (.getfield 39, 3) := by decide +kernel
theorem dX8_take_68 : decode cX8_take 68 = .ok (.iload_n 2, 1) := by decide +kernel
theorem dX8_take_69 : decode cX8_take 69 = .ok (.aaload, 1) := by decide +kernel
theorem dX8_take_70 : decode cX8_take 70 = .ok (.aload_n 3, 1) := by decide +kernel
theorem dX8_take_71 : decode cX8_take 71 = .ok (.getfield 83, 3) := by decide +kernel
theorem dX8_take_74 : decode cX8_take 74 = .ok (.invokevirtual 62, 3) := by decide +kernel
theorem dX8_take_77 : decode cX8_take 77 = .ok (.iload_n 2, 1) := by decide +kernel
theorem dX8_take_78 : decode cX8_take 78 = .ok (.aload_n 0, 1) := by decide +kernel
theorem dX8_take_79 : decode cX8_take 79 = .ok (.getfield 46, 3) := by decide +kernel
theorem dX8_take_82 : decode cX8_take 82 = .ok (.iload_n 1, 1) := by decide +kernel
theorem dX8_take_83 : decode cX8_take 83 = .ok (.iaload, 1) := by decide +kernel
theorem dX8_take_84 : decode cX8_take 84 = .ok (.if_icmp .lt 12, 3) := by decide +kernel
theorem dX8_take_87 : decode cX8_take 87 = .ok (.aload_n 0, 1) := by decide +kernel
theorem dX8_take_88 : decode cX8_take 88 = .ok (.getfield 46, 3) := by decide +kernel
theorem dX8_take_91 : decode cX8_take 91 = .ok (.iload_n 1, 1) := by decide +kernel
theorem dX8_take_92 : decode cX8_take 92 = .ok (.iload_n 2, 1) := by decide +kernel
theorem dX8_take_93 : decode cX8_take 93 = .ok (.iconst 1, 1) := by decide +kernel
theorem dX8_take_94 : decode cX8_take 94 = .ok (.iadd, 1) := by decide +kernel
theorem dX8_take_95 : decode cX8_take 95 = .ok (.iastore, 1) := by decide +kernel
theorem dX8_take_96 : decode cX8_take 96 = .ok (.return_, 1) := by decide +kernel
theorem dX9_init_0 : decode cX9_init 0 = .ok (.aload_n 0, 1) := by decide +kernel
theorem dX9_init_1 : decode cX9_init 1 = .ok (.invokespecial 3, 3) := by decide +kernel
theorem dX9_init_4 : decode cX9_init 4 = .ok (.aload_n 0, 1) := by decide +kernel
theorem dX9_init_5 : decode cX9_init 5 = .ok (.bipush 10, 2) := by decide +kernel
theorem dX9_init_7 : decode cX9_init 7 = .ok (.newarray .int, 2) := by decide +kernel
theorem dX9_init_9 : decode cX9_init 9 = .ok (.putfield 9, 3) := by decide +kernel
theorem dX9_init_12 : decode cX9_init 12 = .ok (.aload_n 0, 1) := by decide +kernel
theorem dX9_init_13 : decode cX9_init 13 = .ok (.bipush 10, 2) := by decide +kernel
theorem dX9_init_15 : decode cX9_init 15 = .ok (.newarray .int, 2) := by decide +kernel
theorem dX9_init_17 : decode cX9_init 17 = .ok (.putfield 15, 3) := by decide +kernel
theorem dX9_init_20 : decode cX9_init 20 = .ok (.aload_n 0, 1) := by decide +kernel
theorem dX9_init_21 : decode cX9_init 21 = .ok (.bipush 10, 2) := by decide +kernel
theorem dX9_init_23 : decode cX9_init 23 = .ok (.newarray .int, 2) := by decide +kernel
theorem dX9_init_25 : decode cX9_init 25 = .ok (.putfield 18, 3) := by decide +kernel
theorem dX9_init_28 : decode cX9_init 28 = .ok (.aload_n 0, 1) := by decide +kernel
theorem dX9_init_29 : decode cX9_init 29 = .ok (.bipush 10, 2) := by decide +kernel
theorem dX9_init_31 : decode cX9_init 31 = .ok (.newarray .int, 2) := by decide +kernel
theorem dX9_init_33 : decode cX9_init 33 = .ok (.putfield 21, 3) := by decide +kernel
theorem dX9_init_36 : decode cX9_init 36 = .ok (.aload_n 0, 1) := by decide +kernel
theorem dX9_init_37 : decode cX9_init 37 = .ok (.bipush 10, 2) := by decide +kernel
theorem dX9_init_39 : decode cX9_init 39 = .ok (.newarray .int, 2) := by decide +kernel
theorem dX9_init_41 : decode cX9_init 41 = .ok (.putfield 24, 3) := by decide +kernel
theorem dX9_init_44 : decode cX9_init 44 = .ok (.aload_n 0, 1) := by decide +kernel
theorem dX9_init_45 : decode cX9_init 45 = .ok (.bipush 6, 2) := by decide +kernel
theorem dX9_init_47 : decode cX9_init 47 = .ok (.newarray .int, 2) := by decide +kernel
theorem dX9_init_49 : decode cX9_init 49 = .ok (.putfield 27, 3) := by decide +kernel
theorem dX9_init_52 : decode cX9_init 52 = .ok (.aload_n 0, 1) := by decide +kernel
theorem dX9_init_53 : decode cX9_init 53 = .ok (.bipush 6, 2) := by decide +kernel
theorem dX9_init_55 : decode cX9_init 55 = .ok (.newarray .int, 2) := by decide +kernel
theorem dX9_init_57 : decode cX9_init 57 = .ok (.putfield 30, 3) := by decide +kernel
theorem dX9_init_60 : decode cX9_init 60 = .ok (.aload_n 0, 1) := by decide +kernel
theorem dX9_init_61 : decode cX9_init 61 = .ok (.iconst 0, 1) := by decide +kernel
theorem dX9_init_62 : decode cX9_init 62 = .ok (.putfield 33, 3) := by decide +kernel
theorem dX9_init_65 : decode cX9_init 65 = .ok (.aload_n 0, 1) := by decide +kernel
theorem dX9_init_66 : decode cX9_init 66 = .ok (.iconst 0, 1) := by decide +kernel
theorem dX9_init_67 : decode cX9_init 67 = .ok (.putfield 37, 3) := by decide +kernel
theorem dX9_init_70 : decode cX9_init 70 = .ok (.aload_n 0, 1) := by decide +kernel
theorem dX9_init_71 : decode cX9_init 71 = .ok (.bipush 20, 2) := by decide +kernel
theorem dX9_init_73 : decode cX9_init 73 = .ok (.putfield 40, 3) := by decide +kernel
theorem dX9_init_76 : decode cX9_init 76 = .ok (.return_, 1) := by decide +kernel
theorem dX9_clear_0 : decode cX9_clear 0 = .ok (.aload_n 0, 1) := by decide +kernel
theorem dX9_clear_1 : decode cX9_clear 1 = .ok (.iconst 0, 1) := by decide +kernel
theorem dX9_clear_2 : decode cX9_clear 2 = .ok (.putfield 33, 3) := by decide +kernel
theorem dX9_clear_5 : decode cX9_clear 5 = .ok (.aload_n 0, 1) := by decide +kernel
theorem dX9_clear_6 : decode cX9_clear 6 = .ok (.iconst 0, 1) := by decide +kernel
theorem dX9_clear_7 : decode cX9_clear 7 = .ok (.putfield 37, 3) := by decide +kernel
theorem dX9_clear_10 : decode cX9_clear 10 = .ok (.aload_n 0, 1) := by decide +kernel
theorem dX9_clear_11 : decode cX9_clear 11 = .ok (.bipush 20, 2) := by decide +kernel
theorem dX9_clear_13 : decode cX9_clear 13 = .ok (.putfield 40, 3) := by decide +kernel
theorem dX9_clear_16 : decode cX9_clear 16 = .ok (.iconst 0, 1) := by decide +kernel
theorem dX9_clear_17 : decode cX9_clear 17 = .ok (.istore_n 1, 1) := by decide +kernel
theorem dX9_clear_18 : decode cX9_clear 18 = .ok (.iload_n 1, 1) := by decide +kernel
theorem dX9_clear_19 : decode cX9_clear 19 = .ok (.bipush 10, 2) := by decide +kernel
theorem dX9_clear_21 : decode cX9_clear 21 = .ok (.if_icmp .ge 16, 3) := by decide +kernel
theorem dX9_clear_24 : decode cX9_clear 24 = .ok (.aload_n 0, 1) := by decide +kernel
theorem dX9_clear_25 : decode cX9_clear 25 = .ok (.getfield 18, 3) := by decide +kernel
theorem dX9_clear_28 : decode cX9_clear 28 = .ok (.iload_n 1, 1) := by decide +kernel
theorem dX9_clear_29 : decode cX9_clear 29 = .ok (.iconst 0, 1) := by decide +kernel
theorem dX9_clear_30 : decode cX9_clear 30 = .ok (.iastore, 1) := by decide +kernel
theorem dX9_clear_31 : decode cX9_clear 31 = .ok (.iinc 1 1, 3) := by decide +kernel
theorem dX9_clear_34 : decode cX9_clear 34 = .ok (.goto (-16), 3) := by decide +kernel
theorem dX9_clear_37 : decode cX9_clear 37 = .ok (.return_, 1) := by decide +kernel
theorem dX9_copyFrom_0 : decode cX9_copyFrom 0 = .ok (.aload_n 1, 1) := by decide +kernel
theorem dX9_copyFrom_1 : decode cX9_copyFrom 1 = .ok (.ifnonnull 4, 3) := by decide +kernel
theorem dX9_copyFrom_4 : decode cX9_copyFrom 4 = .ok (.return_, 1) := by decide +kernel
theorem dX9_copyFrom_5 : decode cX9_copyFrom 5 = .ok (.aload_n 0, 1) := by decide +kernel
theorem dX9_copyFrom_6 : decode cX9_copyFrom 6 = .ok (.aload_n 1, 1) := by decide +kernel
theorem dX9_copyFrom_7 : decode cX9_copyFrom 7 = .ok (.getfield 33, 3) := by decide +kernel
theorem dX9_copyFrom_10 : decode cX9_copyFrom 10 = .ok (.putfield 33, 3) := by decide +kernel
theorem dX9_copyFrom_13 : decode cX9_copyFrom 13 = .ok (.aload_n 0, 1) := by decide +kernel
theorem dX9_copyFrom_14 : decode cX9_copyFrom 14 = .ok (.aload_n 1, 1) := by decide +kernel
theorem dX9_copyFrom_15 : decode cX9_copyFrom 15 = .ok (.getfield 37, 3) := by decide +kernel
theorem dX9_copyFrom_18 : decode cX9_copyFrom 18 = .ok (.putfield 37, 3) := by decide +kernel
theorem dX9_copyFrom_21 : decode cX9_copyFrom 21 = .ok (.aload_n 0, 1) := by decide +kernel
theorem dX9_copyFrom_22 : decode cX9_copyFrom 22 = .ok (.aload_n 1, 1) := by decide +kernel
theorem dX9_copyFrom_23 : decode cX9_copyFrom 23 = .ok (.getfield 40, 3) := by decide +kernel
theorem dX9_copyFrom_26 : decode cX9_copyFrom 26 = .ok (.putfield 40, 3) := by decide +kernel
theorem dX9_copyFrom_29 : decode cX9_copyFrom 29 = .ok (.aload_n 1, 1) := by decide +kernel
theorem dX9_copyFrom_30 : decode cX9_copyFrom 30 = .ok (.getfield 9, 3) := by decide +kernel
theorem dX9_copyFrom_33 : decode cX9_copyFrom 33 = .ok (.iconst 0, 1) := by decide +kernel
theorem dX9_copyFrom_34 : decode cX9_copyFrom 34 = .ok (.aload_n 0, 1) := by decide +kernel
theorem dX9_copyFrom_35 : decode cX9_copyFrom 35 = .ok (.getfield 9, 3) := by decide +kernel
theorem dX9_copyFrom_38 : decode cX9_copyFrom 38 = .ok (.iconst 0, 1) := by decide +kernel
theorem dX9_copyFrom_39 : decode cX9_copyFrom 39 = .ok (.bipush 10, 2) := by decide +kernel
theorem dX9_copyFrom_41 : decode cX9_copyFrom 41 = .ok (.invokestatic 43, 3) := by decide +kernel
theorem dX9_copyFrom_44 : decode cX9_copyFrom 44 = .ok (.aload_n 1, 1) := by decide +kernel
theorem dX9_copyFrom_45 : decode cX9_copyFrom 45 = .ok (.getfield 15, 3) := by decide +kernel
theorem dX9_copyFrom_48 : decode cX9_copyFrom 48 = .ok (.iconst 0, 1) := by decide +kernel
theorem dX9_copyFrom_49 : decode cX9_copyFrom 49 = .ok (.aload_n 0, 1) := by decide +kernel
theorem dX9_copyFrom_50 : decode cX9_copyFrom 50 = .ok (.getfield 15, 3) := by decide +kernel
theorem dX9_copyFrom_53 : decode cX9_copyFrom 53 = .ok (.iconst 0, 1) := by decide +kernel
theorem dX9_copyFrom_54 : decode cX9_copyFrom 54 = .ok (.bipush 10, 2) := by decide +kernel
theorem dX9_copyFrom_56 : decode cX9_copyFrom 56 = .ok (.invokestatic 43, 3) := by decide +kernel
theorem dX9_copyFrom_59 : decode cX9_copyFrom 59 = .ok (.aload_n 1, 1) := by decide +kernel
theorem dX9_copyFrom_60 : decode cX9_copyFrom 60 = .ok (.getfield 18, 3) := by decide +kernel
theorem dX9_copyFrom_63 : decode cX9_copyFrom 63 = .ok (.iconst 0, 1) := by decide +kernel
theorem dX9_copyFrom_64 : decode cX9_copyFrom 64 = .ok (.aload_n 0, 1) := by decide +kernel
theorem dX9_copyFrom_65 : decode cX9_copyFrom 65 = .ok (.getfield 18, 3) := by decide +kernel
theorem dX9_copyFrom_68 : decode cX9_copyFrom 68 = .ok (.iconst 0, 1) := by decide +kernel
theorem dX9_copyFrom_69 : decode cX9_copyFrom 69 = .ok (.bipush 10, 2) := by decide +kernel
theorem dX9_copyFrom_71 : decode cX9_copyFrom 71 = .ok (.invokestatic 43, 3) := by decide +kernel
theorem dX9_copyFrom_74 : decode cX9_copyFrom 74 = .ok (.aload_n 1, 1) := by decide +kernel
theorem dX9_copyFrom_75 : decode cX9_copyFrom 75 = .ok (.getfield 21, 3) := by decide +kernel
theorem dX9_copyFrom_78 : decode cX9_copyFrom 78 = .ok (.iconst 0, 1) := by decide +kernel
theorem dX9_copyFrom_79 : decode cX9_copyFrom 79 = .ok (.aload_n 0, 1) := by decide +kernel
theorem dX9_copyFrom_80 : decode cX9_copyFrom 80 = .ok (.getfield 21, 3) := by decide +kernel
theorem dX9_copyFrom_83 : decode cX9_copyFrom 83 = .ok (.iconst 0, 1) := by decide +kernel
theorem dX9_copyFrom_84 : decode cX9_copyFrom 84 = .ok (.bipush 10, 2) := by decide +kernel
theorem dX9_copyFrom_86 : decode cX9_copyFrom 86 = .ok (.invokestatic 43, 3) := by decide +kernel
theorem dX9_copyFrom_89 : decode cX9_copyFrom 89 = .ok (.aload_n 1, 1) := by decide +kernel
theorem dX9_copyFrom_90 : decode cX9_copyFrom 90 = .ok (.getfield 24, 3) := by decide +kernel
theorem dX9_copyFrom_93 : decode cX9_copyFrom 93 = .ok (.iconst 0, 1) := by decide +kernel
theorem dX9_copyFrom_94 : decode cX9_copyFrom 94 = .ok (.aload_n 0, 1) := by decide +kernel
theorem dX9_copyFrom_95 : decode cX9_copyFrom 95 = .ok (.getfield 24, 3) := by decide +kernel
theorem dX9_copyFrom_98 : decode cX9_copyFrom 98 = .ok (.iconst 0, 1) := by decide +kernel
theorem dX9_copyFrom_99 : decode cX9_copyFrom 99 = .ok (.bipush 10, 2) := by decide +kernel
theorem dX9_copyFrom_101 : decode cX9_copyFrom 101 = .ok (.invokestatic 43, 3) := by decide +kernel
theorem dX9_copyFrom_104 : decode cX9_copyFrom 104 = .ok (.aload_n 1, 1) := by decide +kernel
theorem dX9_copyFrom_105 : decode cX9_copyFrom 105 = .ok (.getfield 27, 3) := by decide +kernel
theorem dX9_copyFrom_108 : decode cX9_copyFrom 108 = .ok (.iconst 0, 1) := by decide +kernel
theorem dX9_copyFrom_109 : decode cX9_copyFrom 109 = .ok (.aload_n 0, 1) := by decide +kernel
theorem dX9_copyFrom_110 : decode cX9_copyFrom 110 = .ok (.getfield 27, 3) := by decide +kernel
theorem dX9_copyFrom_113 : decode cX9_copyFrom 113 = .ok (.iconst 0, 1) := by decide +kernel
theorem dX9_copyFrom_114 : decode cX9_copyFrom 114 = .ok (.bipush 6, 2) := by decide +kernel
theorem dX9_copyFrom_116 : decode cX9_copyFrom 116 = .ok (.invokestatic 43, 3) := by decide +kernel
theorem dX9_copyFrom_119 : decode cX9_copyFrom 119 = .ok (.aload_n 1, 1) := by decide +kernel
theorem dX9_copyFrom_120 : decode cX9_copyFrom 120 = .ok (.getfield 30, 3) := by decide +kernel
theorem dX9_copyFrom_123 : decode cX9_copyFrom 123 = .ok (.iconst 0, 1) := by decide +kernel
theorem dX9_copyFrom_124 : decode cX9_copyFrom 124 = .ok (.aload_n 0, 1) := by decide +kernel
theorem dX9_copyFrom_125 : decode cX9_copyFrom 125 = .ok (.getfield 30, 3) := by decide +kernel
theorem dX9_copyFrom_128 : decode cX9_copyFrom 128 = .ok (.iconst 0, 1) := by decide +kernel
theorem dX9_copyFrom_129 : decode cX9_copyFrom 129 = .ok (.bipush 6, 2) := by decide +kernel
theorem dX9_copyFrom_131 : decode cX9_copyFrom 131 = .ok (.invokestatic 43, 3) := by decide +kernel
theorem dX9_copyFrom_134 : decode cX9_copyFrom 134 = .ok (.return_, 1) := by decide +kernel
theorem dX9_settle_0 : decode cX9_settle 0 = .ok (.iconst 0, 1) := by decide +kernel
theorem dX9_settle_1 : decode cX9_settle 1 = .ok (.istore_n 1, 1) := by decide +kernel
theorem dX9_settle_2 : decode cX9_settle 2 = .ok (.iload_n 1, 1) := by decide +kernel
theorem dX9_settle_3 : decode cX9_settle 3 = .ok (.bipush 10, 2) := by decide +kernel
theorem dX9_settle_5 : decode cX9_settle 5 = .ok (.if_icmp .ge 65, 3) := by decide +kernel
theorem dX9_settle_8 : decode cX9_settle 8 = .ok (.aload_n 0, 1) := by decide +kernel
theorem dX9_settle_9 : decode cX9_settle 9 = .ok (.getfield 21, 3) := by decide +kernel
theorem dX9_settle_12 : decode cX9_settle 12 = .ok (.iload_n 1, 1) := by decide +kernel
theorem dX9_settle_13 : decode cX9_settle 13 = .ok (.iconst 0, 1) := by decide +kernel
theorem dX9_settle_14 : decode cX9_settle 14 = .ok (.iastore, 1) := by decide +kernel
theorem dX9_settle_15 : decode cX9_settle 15 = .ok (.aload_n 0, 1) := by decide +kernel
theorem dX9_settle_16 : decode cX9_settle 16 = .ok (.getfield 24, 3) := by decide +kernel
theorem dX9_settle_19 : decode cX9_settle 19 = .ok (.iload_n 1, 1) := by decide +kernel
theorem dX9_settle_20 : decode cX9_settle 20 = .ok (.iconst 0, 1) := by decide +kernel
theorem dX9_settle_21 : decode cX9_settle 21 = .ok (.iastore, 1) := by decide +kernel
theorem dX9_settle_22 : decode cX9_settle 22 = .ok (.iconst 0, 1) := by decide +kernel
theorem dX9_settle_23 : decode cX9_settle 23 = .ok (.istore_n 2, 1) := by decide +kernel
theorem dX9_settle_24 : decode cX9_settle 24 = .ok (.iload_n 2, 1) := by decide +kernel
theorem dX9_settle_25 : decode cX9_settle 25 = .ok (.bipush 10, 2) := by decide +kernel
theorem dX9_settle_27 : decode cX9_settle 27 = .ok (.if_icmp .ge 37, 3) := by decide +kernel
theorem dX9_settle_30 : decode cX9_settle 30 = .ok (.aload_n 0, 1) := by decide +kernel
theorem dX9_settle_31 : decode cX9_settle 31 = .ok (.getfield 18, 3) := by decide +kernel
theorem dX9_settle_34 : decode cX9_settle 34 = .ok (.iload_n 1, 1) := by decide +kernel
theorem dX9_settle_35 : decode cX9_settle 35 = .ok (.iaload, 1) := by decide +kernel
theorem dX9_settle_36 : decode cX9_settle 36 = .ok (.iload_n 2, 1) := by decide +kernel
theorem dX9_settle_37 : decode cX9_settle 37 = .ok (.ishr, 1) := by decide +kernel
theorem dX9_settle_38 : decode cX9_settle 38 = .ok (.iconst 1, 1) := by decide +kernel
theorem dX9_settle_39 : decode cX9_settle 39 = .ok (.iand, 1) := by decide +kernel
theorem dX9_settle_40 : decode cX9_settle 40 = .ok (.ifCond .eq 18, 3) := by decide +kernel
theorem dX9_settle_43 : decode cX9_settle 43 = .ok (.aload_n 0, 1) := by decide +kernel
theorem dX9_settle_44 : decode cX9_settle 44 = .ok (.getfield 21, 3) := by decide +kernel
theorem dX9_settle_47 : decode cX9_settle 47 = .ok (.iload_n 1, 1) := by decide +kernel
theorem dX9_settle_48 : decode cX9_settle 48 = .ok (.dup2, 1) := by decide +kernel
theorem dX9_settle_49 : decode cX9_settle 49 = .ok (.iaload, 1) := by decide +kernel
theorem dX9_settle_50 : decode cX9_settle 50 = .ok (.aload_n 0, 1) := by decide +kernel
theorem dX9_settle_51 : decode cX9_settle 51 = .ok (.getfield 18, 3) := by decide +kernel
theorem dX9_settle_54 : decode cX9_settle 54 = .ok (.iload_n 2, 1) := by decide +kernel
theorem dX9_settle_55 : decode cX9_settle 55 = .ok (.iaload, 1) := by decide +kernel
theorem dX9_settle_56 : decode cX9_settle 56 = .ok (.ior, 1) := by decide +kernel
theorem dX9_settle_57 : decode cX9_settle 57 = .ok (.iastore, 1) := by decide +kernel
theorem dX9_settle_58 : decode cX9_settle 58 = .ok (.iinc 2 1, 3) := by decide +kernel
theorem dX9_settle_61 : decode cX9_settle 61 = .ok (.goto (-37), 3) := by decide +kernel
theorem dX9_settle_64 : decode cX9_settle 64 = .ok (.iinc 1 1, 3) := by decide +kernel
theorem dX9_settle_67 : decode cX9_settle 67 = .ok (.goto (-65), 3) := by decide +kernel
theorem dX9_settle_70 : decode cX9_settle 70 = .ok (.iconst 0, 1) := by decide +kernel
theorem dX9_settle_71 : decode cX9_settle 71 = .ok (.istore_n 1, 1) := by decide +kernel
theorem dX9_settle_72 : decode cX9_settle 72 = .ok (.iload_n 1, 1) := by decide +kernel
theorem dX9_settle_73 : decode cX9_settle 73 = .ok (.bipush 10, 2) := by decide +kernel
theorem dX9_settle_75 : decode cX9_settle 75 = .ok (.if_icmp .ge 59, 3) := by decide +kernel
theorem dX9_settle_78 : decode cX9_settle 78 = .ok (.iconst 0, 1) := by decide +kernel
theorem dX9_settle_79 : decode cX9_settle 79 = .ok (.istore_n 2, 1) := by decide +kernel
theorem dX9_settle_80 : decode cX9_settle 80 = .ok (.iload_n 2, 1) := by decide +kernel
theorem dX9_settle_81 : decode cX9_settle 81 = .ok (.aload_n 0, 1) := by decide +kernel
theorem dX9_settle_82 : decode cX9_settle 82 = .ok (.getfield 33, 3) := by decide +kernel
theorem dX9_settle_85 : decode cX9_settle 85 = .ok (.if_icmp .ge 43, 3) := by decide +kernel
theorem dX9_settle_88 : decode cX9_settle 88 = .ok (.iload_n 2, 1) := by decide +kernel
theorem dX9_settle_89 : decode cX9_settle 89 = .ok (.bipush 10, 2) := by decide +kernel
theorem dX9_settle_91 : decode cX9_settle 91 = .ok (.if_icmp .ge 37, 3) := by decide +kernel
theorem dX9_settle_94 : decode cX9_settle 94 = .ok (.aload_n 0, 1) := by decide +kernel
theorem dX9_settle_95 : decode cX9_settle 95 = .ok (.getfield 21, 3) := by decide +kernel
theorem dX9_settle_98 : decode cX9_settle 98 = .ok (.iload_n 1, 1) := by decide +kernel
theorem dX9_settle_99 : decode cX9_settle 99 = .ok (.iaload, 1) := by decide +kernel
theorem dX9_settle_100 : decode cX9_settle 100 = .ok (.iload_n 2, 1) := by decide +kernel
theorem dX9_settle_101 : decode cX9_settle 101 = .ok (.ishr, 1) := by decide +kernel
theorem dX9_settle_102 : decode cX9_settle 102 = .ok (.iconst 1, 1) := by decide +kernel
theorem dX9_settle_103 : decode cX9_settle 103 = .ok (.iand, 1) := by decide +kernel
theorem dX9_settle_104 : decode cX9_settle 104 = .ok (.ifCond .eq 18, 3) := by decide +kernel
theorem dX9_settle_107 : decode cX9_settle 107 = .ok (.aload_n 0, 1) := by decide +kernel
theorem dX9_settle_108 : decode cX9_settle 108 = .ok (.getfield 24, 3) := by decide +kernel
theorem dX9_settle_111 : decode cX9_settle 111 = .ok (.iload_n 1, 1) := by decide +kernel
theorem dX9_settle_112 : decode cX9_settle 112 = .ok (.dup2, 1) := by decide +kernel
theorem dX9_settle_113 : decode cX9_settle 113 = .ok (.iaload, 1) := by decide +kernel
theorem dX9_settle_114 : decode cX9_settle 114 = .ok (.aload_n 0, 1) := by decide +kernel
theorem dX9_settle_115 : decode cX9_settle 115 = .ok (.getfield 15, 3) := by decide +kernel
theorem dX9_settle_118 : decode cX9_settle 118 = .ok (.iload_n 2, 1) := by decide +kernel
theorem dX9_settle_119 : decode cX9_settle 119 = .ok (.iaload, 1) := by decide +kernel
theorem dX9_settle_120 : decode cX9_settle 120 = .ok (.iadd, 1) := by decide +kernel
theorem dX9_settle_121 : decode cX9_settle 121 = .ok (.iastore, 1) := by decide +kernel
theorem dX9_settle_122 : decode cX9_settle 122 = .ok (.iinc 2 1, 3) := by decide +kernel
theorem dX9_settle_125 : decode cX9_settle 125 = .ok (.goto (-45), 3) := by decide +kernel
theorem dX9_settle_128 : decode cX9_settle 128 = .ok (.iinc 1 1, 3) := by decide +kernel
theorem dX9_settle_131 : decode cX9_settle 131 = .ok (.goto (-59), 3) := by decide +kernel
theorem dX9_settle_134 : decode cX9_settle 134 = .ok (.return_, 1) := by decide +kernel
theorem dX9_hasFolk_0 : decode cX9_hasFolk 0 = .ok (.iload_n 1, 1) := by decide +kernel
theorem dX9_hasFolk_1 : decode cX9_hasFolk 1 = .ok (.ifCond .lt 21, 3) := by decide +kernel
theorem dX9_hasFolk_4 : decode cX9_hasFolk 4 = .ok (.iload_n 1, 1) := by decide +kernel
theorem dX9_hasFolk_5 : decode cX9_hasFolk 5 = .ok (.aload_n 0, 1) := by decide +kernel
theorem dX9_hasFolk_6 : decode cX9_hasFolk 6 = .ok (.getfield 33, 3) := by decide +kernel
theorem dX9_hasFolk_9 : decode cX9_hasFolk 9 = .ok (.if_icmp .ge 13, 3) := by decide +kernel
theorem dX9_hasFolk_12 : decode cX9_hasFolk 12 = .ok (.iload_n 1, 1) := by decide +kernel
theorem dX9_hasFolk_13 : decode cX9_hasFolk 13 = .ok (.bipush 10, 2) := by decide +kernel
theorem dX9_hasFolk_15 : decode cX9_hasFolk 15 = .ok (.if_icmp .ge 7, 3) := by decide +kernel
theorem dX9_hasFolk_18 : decode cX9_hasFolk 18 = .ok (.iconst 1, 1) := by decide +kernel
theorem dX9_hasFolk_19 : decode cX9_hasFolk 19 = .ok (.goto 4, 3) := by decide +kernel
theorem dX9_hasFolk_22 : decode cX9_hasFolk 22 = .ok (.iconst 0, 1) := by decide +kernel
theorem dX9_hasFolk_23 : decode cX9_hasFolk 23 = .ok (.ireturn, 1) := by decide +kernel
theorem dX9_hasWork_0 : decode cX9_hasWork 0 = .ok (.iload_n 1, 1) := by decide +kernel
theorem dX9_hasWork_1 : decode cX9_hasWork 1 = .ok (.ifCond .lt 21, 3) := by decide +kernel
theorem dX9_hasWork_4 : decode cX9_hasWork 4 = .ok (.iload_n 1, 1) := by decide +kernel
theorem dX9_hasWork_5 : decode cX9_hasWork 5 = .ok (.aload_n 0, 1) := by decide +kernel
theorem dX9_hasWork_6 : decode cX9_hasWork 6 = .ok (.getfield 37, 3) := by decide +kernel
theorem dX9_hasWork_9 : decode cX9_hasWork 9 = .ok (.if_icmp .ge 13, 3) := by decide +kernel
theorem dX9_hasWork_12 : decode cX9_hasWork 12 = .ok (.iload_n 1, 1) := by decide +kernel
theorem dX9_hasWork_13 : decode cX9_hasWork 13 = .ok (.bipush 6, 2) := by decide +kernel
theorem dX9_hasWork_15 : decode cX9_hasWork 15 = .ok (.if_icmp .ge 7, 3) := by decide +kernel
theorem dX9_hasWork_18 : decode cX9_hasWork 18 = .ok (.iconst 1, 1) := by decide +kernel
theorem dX9_hasWork_19 : decode cX9_hasWork 19 = .ok (.goto 4, 3) := by decide +kernel
theorem dX9_hasWork_22 : decode cX9_hasWork 22 = .ok (.iconst 0, 1) := by decide +kernel
theorem dX9_hasWork_23 : decode cX9_hasWork 23 = .ok (.ireturn, 1) := by decide +kernel
theorem dX9_allWorks_0 : decode cX9_allWorks 0 = .ok (.iconst 1, 1) := by decide +kernel
theorem dX9_allWorks_1 : decode cX9_allWorks 1 = .ok (.aload_n 0, 1) := by decide +kernel
theorem dX9_allWorks_2 : decode cX9_allWorks 2 = .ok (.getfield 37, 3) := by decide +kernel
theorem dX9_allWorks_5 : decode cX9_allWorks 5 = .ok (.ishl, 1) := by decide +kernel
theorem dX9_allWorks_6 : decode cX9_allWorks 6 = .ok (.iconst 1, 1) := by decide +kernel
theorem dX9_allWorks_7 : decode cX9_allWorks 7 = .ok (.isub, 1) := by decide +kernel
theorem dX9_allWorks_8 : decode cX9_allWorks 8 = .ok (.ireturn, 1) := by decide +kernel
theorem dX9_isChild_0 : decode cX9_isChild 0 = .ok (.aload_n 0, 1) := by decide +kernel
theorem dX9_isChild_1 : decode cX9_isChild 1 = .ok (.iload_n 1, 1) := by decide +kernel
theorem dX9_isChild_2 : decode cX9_isChild 2 = .ok (.invokevirtual 49, 3) := by decide +kernel
theorem dX9_isChild_5 : decode cX9_isChild 5 = .ok (.ifCond .eq 18, 3) := by decide +kernel
theorem dX9_isChild_8 : decode cX9_isChild 8 = .ok (.aload_n 0, 1) := by decide +kernel
theorem dX9_isChild_9 : decode cX9_isChild 9 = .ok (.getfield 9, 3) := by decide +kernel
theorem dX9_isChild_12 : decode cX9_isChild 12 = .ok (.iload_n 1, 1) := by decide +kernel
theorem dX9_isChild_13 : decode cX9_isChild 13 = .ok (.iaload, 1) := by decide +kernel
theorem dX9_isChild_14 : decode cX9_isChild 14 = .ok (.bipush 10, 2) := by decide +kernel
theorem dX9_isChild_16 : decode cX9_isChild 16 = .ok (.if_icmp .ge 7, 3) := by decide +kernel
theorem dX9_isChild_19 : decode cX9_isChild 19 = .ok (.iconst 1, 1) := by decide +kernel
theorem dX9_isChild_20 : decode cX9_isChild 20 = .ok (.goto 4, 3) := by decide +kernel
theorem dX9_isChild_23 : decode cX9_isChild 23 = .ok (.iconst 0, 1) := by decide +kernel
theorem dX9_isChild_24 : decode cX9_isChild 24 = .ok (.ireturn, 1) := by decide +kernel
theorem dX9_isGrandparent_0 : decode cX9_isGrandparent 0 = .ok (.aload_n 0, 1) := by decide +kernel
theorem dX9_isGrandparent_1 : decode cX9_isGrandparent 1 = .ok (.iload_n 1, 1) := by decide +kernel
theorem dX9_isGrandparent_2 : decode cX9_isGrandparent 2 = .ok (.invokevirtual 49, 3) := by decide +kernel
theorem dX9_isGrandparent_5 : decode cX9_isGrandparent 5 = .ok (.ifCond .eq 28, 3) := by decide +kernel
theorem dX9_isGrandparent_8 : decode cX9_isGrandparent 8 = .ok (.aload_n 0, 1) := by decide +kernel
theorem dX9_isGrandparent_9 : decode cX9_isGrandparent 9 = .ok (.iload_n 2, 1) := by decide +kernel
theorem dX9_isGrandparent_10 : decode cX9_isGrandparent 10 = .ok (.invokevirtual 49, 3) := by decide +kernel
theorem dX9_isGrandparent_13 : decode cX9_isGrandparent 13 = .ok (.ifCond .eq 20, 3) := by decide +kernel
theorem dX9_isGrandparent_16 : decode cX9_isGrandparent 16 = .ok (.aload_n 0, 1) := by decide +kernel
theorem dX9_isGrandparent_17 : decode cX9_isGrandparent 17 = .ok (.getfield 21, 3) := by decide +kernel
theorem dX9_isGrandparent_20 : decode cX9_isGrandparent 20 = .ok (.iload_n 2, 1) := by decide +kernel
theorem dX9_isGrandparent_21 : decode cX9_isGrandparent 21 = .ok (.iaload, 1) := by decide +kernel
theorem dX9_isGrandparent_22 : decode cX9_isGrandparent 22 = .ok (.iload_n 1, 1) := by decide +kernel
theorem dX9_isGrandparent_23 : decode cX9_isGrandparent 23 = .ok (.ishr, 1) := by decide +kernel
theorem dX9_isGrandparent_24 : decode cX9_isGrandparent 24 = .ok (.iconst 1, 1) := by decide +kernel
theorem dX9_isGrandparent_25 : decode cX9_isGrandparent 25 = .ok (.iand, 1) := by decide +kernel
theorem dX9_isGrandparent_26 : decode cX9_isGrandparent 26 = .ok (.ifCond .eq 7, 3) := by decide +kernel
theorem dX9_isGrandparent_29 : decode cX9_isGrandparent 29 = .ok (.iconst 1, 1) := by decide +kernel
theorem dX9_isGrandparent_30 : decode cX9_isGrandparent 30 = .ok (.goto 4, 3) := by decide +kernel
theorem dX9_isGrandparent_33 : decode cX9_isGrandparent 33 = .ok (.iconst 0, 1) := by decide +kernel
theorem dX9_isGrandparent_34 : decode cX9_isGrandparent 34 = .ok (.ireturn, 1) := by decide +kernel
theorem dX9_mayAskKeep_0 : decode cX9_mayAskKeep 0 = .ok (.aload_n 0, 1) := by decide +kernel
theorem dX9_mayAskKeep_1 : decode cX9_mayAskKeep 1 = .ok (.iload_n 1, 1) := by decide +kernel
theorem dX9_mayAskKeep_2 : decode cX9_mayAskKeep 2 = .ok (.invokevirtual 53, 3) := by decide +kernel
theorem dX9_mayAskKeep_5 : decode cX9_mayAskKeep 5 = .ok (.ifCond .eq 26, 3) := by decide +kernel
theorem dX9_mayAskKeep_8 : decode cX9_mayAskKeep 8 = .ok (.aload_n 0, 1) := by decide +kernel
theorem dX9_mayAskKeep_9 : decode cX9_mayAskKeep 9 = .ok (.iload_n 2, 1) := by decide +kernel
theorem dX9_mayAskKeep_10 : decode cX9_mayAskKeep 10 = .ok (.invokevirtual 56, 3) := by decide +kernel
theorem dX9_mayAskKeep_13 : decode cX9_mayAskKeep 13 = .ok (.ifCond .eq 18, 3) := by decide +kernel
theorem dX9_mayAskKeep_16 : decode cX9_mayAskKeep 16 = .ok (.iload_n 3, 1) := by decide +kernel
theorem dX9_mayAskKeep_17 : decode cX9_mayAskKeep 17 = .ok (.iconst 1, 1) := by decide +kernel
theorem dX9_mayAskKeep_18 : decode cX9_mayAskKeep 18 = .ok (.if_icmp .lt 13, 3) := by decide +kernel
theorem dX9_mayAskKeep_21 : decode cX9_mayAskKeep 21 = .ok (.iload_n 3, 1) := by decide +kernel
theorem dX9_mayAskKeep_22 : decode cX9_mayAskKeep 22 = .ok (.bipush 9, 2) := by decide +kernel
theorem dX9_mayAskKeep_24 : decode cX9_mayAskKeep 24 = .ok (.if_icmp .gt 7, 3) := by decide +kernel
theorem dX9_mayAskKeep_27 : decode cX9_mayAskKeep 27 = .ok (.iconst 1, 1) := by decide +kernel
theorem dX9_mayAskKeep_28 : decode cX9_mayAskKeep 28 = .ok (.goto 4, 3) := by decide +kernel
theorem dX9_mayAskKeep_31 : decode cX9_mayAskKeep 31 = .ok (.iconst 0, 1) := by decide +kernel
theorem dX9_mayAskKeep_32 : decode cX9_mayAskKeep 32 = .ok (.ireturn, 1) := by decide +kernel
theorem dX9_canKeep_0 : decode cX9_canKeep 0 = .ok (.aload_n 0, 1) := by decide +kernel
theorem dX9_canKeep_1 : decode cX9_canKeep 1 = .ok (.iload_n 1, 1) := by decide +kernel
theorem dX9_canKeep_2 : decode cX9_canKeep 2 = .ok (.invokevirtual 53, 3) := by decide +kernel
theorem dX9_canKeep_5 : decode cX9_canKeep 5 = .ok (.ifCond .eq 32, 3) := by decide +kernel
theorem dX9_canKeep_8 : decode cX9_canKeep 8 = .ok (.aload_n 0, 1) := by decide +kernel
theorem dX9_canKeep_9 : decode cX9_canKeep 9 = .ok (.iload_n 2, 1) := by decide +kernel
theorem dX9_canKeep_10 : decode cX9_canKeep 10 = .ok (.invokevirtual 56, 3) := by decide +kernel
theorem dX9_canKeep_13 : decode cX9_canKeep 13 = .ok (.ifCond .eq 24, 3) := by decide +kernel
theorem dX9_canKeep_16 : decode cX9_canKeep 16 = .ok (.iload_n 3, 1) := by decide +kernel
theorem dX9_canKeep_17 : decode cX9_canKeep 17 = .ok (.aload_n 0, 1) := by decide +kernel
theorem dX9_canKeep_18 : decode cX9_canKeep 18 = .ok (.getfield 24, 3) := by decide +kernel
theorem dX9_canKeep_21 : decode cX9_canKeep 21 = .ok (.iload_n 1, 1) := by decide +kernel
theorem dX9_canKeep_22 : decode cX9_canKeep 22 = .ok (.iaload, 1) := by decide +kernel
theorem dX9_canKeep_23 : decode cX9_canKeep 23 = .ok (.imul, 1) := by decide +kernel
theorem dX9_canKeep_24 : decode cX9_canKeep 24 = .ok (.aload_n 0, 1) := by decide +kernel
theorem dX9_canKeep_25 : decode cX9_canKeep 25 = .ok (.getfield 27, 3) := by decide +kernel
theorem dX9_canKeep_28 : decode cX9_canKeep 28 = .ok (.iload_n 2, 1) := by decide +kernel
theorem dX9_canKeep_29 : decode cX9_canKeep 29 = .ok (.iaload, 1) := by decide +kernel
theorem dX9_canKeep_30 : decode cX9_canKeep 30 = .ok (.if_icmp .lt 7, 3) := by decide +kernel
theorem dX9_canKeep_33 : decode cX9_canKeep 33 = .ok (.iconst 1, 1) := by decide +kernel
theorem dX9_canKeep_34 : decode cX9_canKeep 34 = .ok (.goto 4, 3) := by decide +kernel
theorem dX9_canKeep_37 : decode cX9_canKeep 37 = .ok (.iconst 0, 1) := by decide +kernel
theorem dX9_canKeep_38 : decode cX9_canKeep 38 = .ok (.ireturn, 1) := by decide +kernel
theorem dX9_totalStrength_0 : decode cX9_totalStrength 0 = .ok (.iconst 0, 1) := by decide +kernel
theorem dX9_totalStrength_1 : decode cX9_totalStrength 1 = .ok (.istore_n 1, 1) := by decide +kernel
theorem dX9_totalStrength_2 : decode cX9_totalStrength 2 = .ok (.iconst 0, 1) := by decide +kernel
theorem dX9_totalStrength_3 : decode cX9_totalStrength 3 = .ok (.istore_n 2, 1) := by decide +kernel
theorem dX9_totalStrength_4 : decode cX9_totalStrength 4 = .ok (.iload_n 2, 1) := by decide +kernel
theorem dX9_totalStrength_5 : decode cX9_totalStrength 5 = .ok (.aload_n 0, 1) := by decide +kernel
theorem dX9_totalStrength_6 : decode cX9_totalStrength 6 = .ok (.getfield 33, 3) := by decide +kernel
theorem dX9_totalStrength_9 : decode cX9_totalStrength 9 = .ok (.if_icmp .ge 24, 3) := by decide +kernel
theorem dX9_totalStrength_12 : decode cX9_totalStrength 12 = .ok (.iload_n 2, 1) := by decide +kernel
theorem dX9_totalStrength_13 : decode cX9_totalStrength 13 = .ok (.bipush 10, 2) := by decide +kernel
theorem dX9_totalStrength_15 : decode cX9_totalStrength 15 = .ok (.if_icmp .ge 18, 3) := by decide +kernel
theorem dX9_totalStrength_18 : decode cX9_totalStrength 18 = .ok (.iload_n 1, 1) := by decide +kernel
theorem dX9_totalStrength_19 : decode cX9_totalStrength 19 = .ok (.aload_n 0, 1) := by decide +kernel
theorem dX9_totalStrength_20 : decode cX9_totalStrength 20 = .ok (.getfield 15, 3) := by decide +kernel
theorem dX9_totalStrength_23 : decode cX9_totalStrength 23 = .ok (.iload_n 2, 1) := by decide +kernel
theorem dX9_totalStrength_24 : decode cX9_totalStrength 24 = .ok (.iaload, 1) := by decide +kernel
theorem dX9_totalStrength_25 : decode cX9_totalStrength 25 = .ok (.iadd, 1) := by decide +kernel
theorem dX9_totalStrength_26 : decode cX9_totalStrength 26 = .ok (.istore_n 1, 1) := by decide +kernel
theorem dX9_totalStrength_27 : decode cX9_totalStrength 27 = .ok (.iinc 2 1, 3) := by decide +kernel
theorem dX9_totalStrength_30 : decode cX9_totalStrength 30 = .ok (.goto (-26), 3) := by decide +kernel
theorem dX9_totalStrength_33 : decode cX9_totalStrength 33 = .ok (.iload_n 1, 1) := by decide +kernel
theorem dX9_totalStrength_34 : decode cX9_totalStrength 34 = .ok (.ireturn, 1) := by decide +kernel
theorem dX9_couplesLostWithout_0 : decode cX9_couplesLostWithout 0 = .ok (.iconst 0, 1) := by decide +kernel
theorem dX9_couplesLostWithout_1 : decode cX9_couplesLostWithout 1 = .ok (.istore_n 3, 1) := by decide +kernel
theorem dX9_couplesLostWithout_2 : decode cX9_couplesLostWithout 2 = .ok (.iconst 0, 1) := by decide +kernel
theorem dX9_couplesLostWithout_3 : decode cX9_couplesLostWithout 3 = .ok (.istore 4, 2) := by decide +kernel
theorem dX9_couplesLostWithout_5 : decode cX9_couplesLostWithout 5 = .ok (.iload 4, 2) := by decide +kernel
theorem dX9_couplesLostWithout_7 : decode cX9_couplesLostWithout 7 = .ok (.aload_n 0, 1) := by decide +kernel
theorem dX9_couplesLostWithout_8 : decode cX9_couplesLostWithout 8 = .ok (.getfield 33, 3) := by decide +kernel
theorem dX9_couplesLostWithout_11 : decode cX9_couplesLostWithout 11 = .ok (.if_icmp .ge 104, 3) := by decide +kernel
theorem dX9_couplesLostWithout_14 : decode cX9_couplesLostWithout 14 = .ok (.iload 4, 2) := by decide +kernel
theorem dX9_couplesLostWithout_16 : decode cX9_couplesLostWithout 16 = .ok (.bipush 10, 2) := by decide +kernel
theorem dX9_couplesLostWithout_18 : decode cX9_couplesLostWithout 18 = .ok (.if_icmp .ge 97, 3) := by decide +kernel
theorem dX9_couplesLostWithout_21 : decode cX9_couplesLostWithout 21 = .ok (.aload_n 0, 1) := by decide +kernel
theorem dX9_couplesLostWithout_22 : decode cX9_couplesLostWithout 22 = .ok (.iload_n 1, 1) := by decide +kernel
theorem dX9_couplesLostWithout_23 : decode cX9_couplesLostWithout 23 = .ok (.iload 4, 2) := by decide +kernel
theorem dX9_couplesLostWithout_25 : decode cX9_couplesLostWithout 25 = .ok (.invokevirtual 59, 3) := by decide +kernel
theorem dX9_couplesLostWithout_28 : decode cX9_couplesLostWithout 28 = .ok (.ifCond .eq 81, 3) := by decide +kernel
theorem dX9_couplesLostWithout_31 : decode cX9_couplesLostWithout 31 = .ok (.iconst 0, 1) := by decide +kernel
theorem dX9_couplesLostWithout_32 : decode cX9_couplesLostWithout 32 = .ok (.istore 5, 2) := by decide +kernel
theorem dX9_couplesLostWithout_34 : decode cX9_couplesLostWithout 34 = .ok (.iload 5, 2) := by decide +kernel
theorem dX9_couplesLostWithout_36 : decode cX9_couplesLostWithout 36 = .ok (.aload_n 0, 1) := by decide +kernel
theorem dX9_couplesLostWithout_37 : decode cX9_couplesLostWithout 37 = .ok (.getfield 37, 3) := by decide +kernel
theorem dX9_couplesLostWithout_40 : decode cX9_couplesLostWithout 40 = .ok (.if_icmp .ge 69, 3) := by decide +kernel
theorem dX9_couplesLostWithout_43 : decode cX9_couplesLostWithout 43 = .ok (.iload 5, 2) := by decide +kernel
theorem dX9_couplesLostWithout_45 : decode cX9_couplesLostWithout 45 = .ok (.bipush 6, 2) := by decide +kernel
theorem dX9_couplesLostWithout_47 : decode cX9_couplesLostWithout 47 = .ok (.if_icmp .ge 62, 3) := by decide +kernel
theorem dX9_couplesLostWithout_50 : decode cX9_couplesLostWithout 50 = .ok (.iload_n 2, 1) := by decide +kernel
theorem dX9_couplesLostWithout_51 : decode cX9_couplesLostWithout 51 = .ok (.aload_n 0, 1) := by decide +kernel
theorem dX9_couplesLostWithout_52 : decode cX9_couplesLostWithout 52 = .ok (.getfield 24, 3) := by decide +kernel
theorem dX9_couplesLostWithout_55 : decode cX9_couplesLostWithout 55 = .ok (.iload 4, 2) := by decide +kernel
theorem dX9_couplesLostWithout_57 : decode cX9_couplesLostWithout 57 = .ok (.iaload, 1) := by decide +kernel
theorem dX9_couplesLostWithout_58 : decode cX9_couplesLostWithout 58 = .ok (.aload_n 0, 1) := by decide +kernel
theorem dX9_couplesLostWithout_59 : decode cX9_couplesLostWithout 59 = .ok (.getfield 15, 3) := by decide +kernel
theorem dX9_couplesLostWithout_62 : decode cX9_couplesLostWithout 62 = .ok (.iload_n 1, 1) := by decide +kernel
theorem dX9_couplesLostWithout_63 : decode cX9_couplesLostWithout 63 = .ok (.iaload, 1) := by decide +kernel
theorem dX9_couplesLostWithout_64 : decode cX9_couplesLostWithout 64 = .ok (.isub, 1) := by decide +kernel
theorem dX9_couplesLostWithout_65 : decode cX9_couplesLostWithout 65 = .ok (.imul, 1) := by decide +kernel
theorem dX9_couplesLostWithout_66 : decode cX9_couplesLostWithout 66 = .ok (.aload_n 0, 1) := by decide +kernel
theorem dX9_couplesLostWithout_67 : decode cX9_couplesLostWithout 67 = .ok (.getfield 27, 3) := by decide +kernel
theorem dX9_couplesLostWithout_70 : decode cX9_couplesLostWithout 70 = .ok (.iload 5, 2) := by decide +kernel
theorem dX9_couplesLostWithout_72 : decode cX9_couplesLostWithout 72 = .ok (.iaload, 1) := by decide +kernel
theorem dX9_couplesLostWithout_73 : decode cX9_couplesLostWithout 73 = .ok (.if_icmp .lt 7, 3) := by decide +kernel
theorem dX9_couplesLostWithout_76 : decode cX9_couplesLostWithout 76 = .ok (.iconst 1, 1) := by decide +kernel
theorem dX9_couplesLostWithout_77 : decode cX9_couplesLostWithout 77 = .ok (.goto 4, 3) := by decide +kernel
theorem dX9_couplesLostWithout_80 : decode cX9_couplesLostWithout 80 = .ok (.iconst 0, 1) := by decide +kernel
theorem dX9_couplesLostWithout_81 : decode cX9_couplesLostWithout 81 = .ok (.istore 6, 2) := by decide +kernel
theorem dX9_couplesLostWithout_83 : decode cX9_couplesLostWithout 83 = .ok (.aload_n 0, 1) := by decide +kernel
theorem dX9_couplesLostWithout_84 : decode cX9_couplesLostWithout 84 = .ok (.iload 4, 2) := by decide +kernel
theorem dX9_couplesLostWithout_86 : decode cX9_couplesLostWithout 86 = .ok (.iload 5, 2) := by decide +kernel
theorem dX9_couplesLostWithout_88 : decode cX9_couplesLostWithout 88 = .ok (.iload_n 2, 1) := by decide +kernel
theorem dX9_couplesLostWithout_89 : decode cX9_couplesLostWithout 89 = .ok (.invokevirtual 63, 3) := by decide +kernel
theorem dX9_couplesLostWithout_92 : decode cX9_couplesLostWithout 92 = .ok (.ifCond .eq 11, 3) := by decide +kernel
theorem dX9_couplesLostWithout_95 : decode cX9_couplesLostWithout 95 = .ok (.iload 6, 2) := by decide +kernel
theorem dX9_couplesLostWithout_97 : decode cX9_couplesLostWithout 97 = .ok (.ifCond .ne 6, 3) := by decide +kernel
theorem dX9_couplesLostWithout_100 : decode cX9_couplesLostWithout 100 = .ok (.iinc 3 1, 3) := by decide +kernel
theorem dX9_couplesLostWithout_103 : decode cX9_couplesLostWithout 103 = .ok (.iinc 5 1, 3) := by decide +kernel
theorem dX9_couplesLostWithout_106 : decode cX9_couplesLostWithout 106 = .ok (.goto (-72), 3) := by decide +kernel
theorem dX9_couplesLostWithout_109 : decode cX9_couplesLostWithout 109 = .ok (.iinc 4 1, 3) := by decide +kernel
theorem dX9_couplesLostWithout_112 : decode cX9_couplesLostWithout 112 = .ok (.goto (-107), 3) := by decide +kernel
theorem dX9_couplesLostWithout_115 : decode cX9_couplesLostWithout 115 = .ok (.iload_n 3, 1) := by decide +kernel
theorem dX9_couplesLostWithout_116 : decode cX9_couplesLostWithout 116 = .ok (.ireturn, 1) := by decide +kernel
theorem dX9_look_0 : decode cX9_look 0 = .ok (.iload_n 1, 1) := by decide +kernel
theorem dX9_look_1 : decode cX9_look 1 = .ok (.ifCond .ne 8, 3) := by decide +kernel
theorem dX9_look_4 : decode cX9_look 4 = .ok (.aload_n 0, 1) := by decide +kernel
theorem dX9_look_5 : decode cX9_look 5 = .ok (.getfield 33, 3) := by decide +kernel
theorem dX9_look_8 : decode cX9_look 8 = .ok (.ireturn, 1) := by decide +kernel
theorem dX9_look_9 : decode cX9_look 9 = .ok (.iload_n 1, 1) := by decide +kernel
theorem dX9_look_10 : decode cX9_look 10 = .ok (.iconst 1, 1) := by decide +kernel
theorem dX9_look_11 : decode cX9_look 11 = .ok (.if_icmp .ne 8, 3) := by decide +kernel
theorem dX9_look_14 : decode cX9_look 14 = .ok (.aload_n 0, 1) := by decide +kernel
theorem dX9_look_15 : decode cX9_look 15 = .ok (.getfield 37, 3) := by decide +kernel
theorem dX9_look_18 : decode cX9_look 18 = .ok (.ireturn, 1) := by decide +kernel
theorem dX9_look_19 : decode cX9_look 19 = .ok (.iload_n 1, 1) := by decide +kernel
theorem dX9_look_20 : decode cX9_look 20 = .ok (.iconst 2, 1) := by decide +kernel
theorem dX9_look_21 : decode cX9_look 21 = .ok (.if_icmp .ne 8, 3) := by decide +kernel
theorem dX9_look_24 : decode cX9_look 24 = .ok (.aload_n 0, 1) := by decide +kernel
theorem dX9_look_25 : decode cX9_look 25 = .ok (.getfield 40, 3) := by decide +kernel
theorem dX9_look_28 : decode cX9_look 28 = .ok (.ireturn, 1) := by decide +kernel
theorem dX9_look_29 : decode cX9_look 29 = .ok (.aload_n 0, 1) := by decide +kernel
theorem dX9_look_30 : decode cX9_look 30 = .ok (.iload_n 1, 1) := by decide +kernel
theorem dX9_look_31 : decode cX9_look 31 = .ok (.bipush 10, 2) := by decide +kernel
theorem dX9_look_33 : decode cX9_look 33 = .ok (.isub, 1) := by decide +kernel
theorem dX9_look_34 : decode cX9_look 34 = .ok (.invokevirtual 49, 3) := by decide +kernel
theorem dX9_look_37 : decode cX9_look 37 = .ok (.ifCond .eq 13, 3) := by decide +kernel
theorem dX9_look_40 : decode cX9_look 40 = .ok (.aload_n 0, 1) := by decide +kernel
theorem dX9_look_41 : decode cX9_look 41 = .ok (.getfield 9, 3) := by decide +kernel
theorem dX9_look_44 : decode cX9_look 44 = .ok (.iload_n 1, 1) := by decide +kernel
theorem dX9_look_45 : decode cX9_look 45 = .ok (.bipush 10, 2) := by decide +kernel
theorem dX9_look_47 : decode cX9_look 47 = .ok (.isub, 1) := by decide +kernel
theorem dX9_look_48 : decode cX9_look 48 = .ok (.iaload, 1) := by decide +kernel
theorem dX9_look_49 : decode cX9_look 49 = .ok (.ireturn, 1) := by decide +kernel
theorem dX9_look_50 : decode cX9_look 50 = .ok (.aload_n 0, 1) := by decide +kernel
theorem dX9_look_51 : decode cX9_look 51 = .ok (.iload_n 1, 1) := by decide +kernel
theorem dX9_look_52 : decode cX9_look 52 = .ok (.bipush 20, 2) := by decide +kernel
theorem dX9_look_54 : decode cX9_look 54 = .ok (.isub, 1) := by decide +kernel
theorem dX9_look_55 : decode cX9_look 55 = .ok (.invokevirtual 49, 3) := by decide +kernel
theorem dX9_look_58 : decode cX9_look 58 = .ok (.ifCond .eq 13, 3) := by decide +kernel
theorem dX9_look_61 : decode cX9_look 61 = .ok (.aload_n 0, 1) := by decide +kernel
theorem dX9_look_62 : decode cX9_look 62 = .ok (.getfield 15, 3) := by decide +kernel
theorem dX9_look_65 : decode cX9_look 65 = .ok (.iload_n 1, 1) := by decide +kernel
theorem dX9_look_66 : decode cX9_look 66 = .ok (.bipush 20, 2) := by decide +kernel
theorem dX9_look_68 : decode cX9_look 68 = .ok (.isub, 1) := by decide +kernel
theorem dX9_look_69 : decode cX9_look 69 = .ok (.iaload, 1) := by decide +kernel
theorem dX9_look_70 : decode cX9_look 70 = .ok (.ireturn, 1) := by decide +kernel
theorem dX9_look_71 : decode cX9_look 71 = .ok (.aload_n 0, 1) := by decide +kernel
theorem dX9_look_72 : decode cX9_look 72 = .ok (.iload_n 1, 1) := by decide +kernel
theorem dX9_look_73 : decode cX9_look 73 = .ok (.bipush 30, 2) := by decide +kernel
theorem dX9_look_75 : decode cX9_look 75 = .ok (.isub, 1) := by decide +kernel
theorem dX9_look_76 : decode cX9_look 76 = .ok (.invokevirtual 49, 3) := by decide +kernel
theorem dX9_look_79 : decode cX9_look 79 = .ok (.ifCond .eq 13, 3) := by decide +kernel
theorem dX9_look_82 : decode cX9_look 82 = .ok (.aload_n 0, 1) := by decide +kernel
theorem dX9_look_83 : decode cX9_look 83 = .ok (.getfield 18, 3) := by decide +kernel
theorem dX9_look_86 : decode cX9_look 86 = .ok (.iload_n 1, 1) := by decide +kernel
theorem dX9_look_87 : decode cX9_look 87 = .ok (.bipush 30, 2) := by decide +kernel
theorem dX9_look_89 : decode cX9_look 89 = .ok (.isub, 1) := by decide +kernel
theorem dX9_look_90 : decode cX9_look 90 = .ok (.iaload, 1) := by decide +kernel
theorem dX9_look_91 : decode cX9_look 91 = .ok (.ireturn, 1) := by decide +kernel
theorem dX9_look_92 : decode cX9_look 92 = .ok (.aload_n 0, 1) := by decide +kernel
theorem dX9_look_93 : decode cX9_look 93 = .ok (.iload_n 1, 1) := by decide +kernel
theorem dX9_look_94 : decode cX9_look 94 = .ok (.bipush 40, 2) := by decide +kernel
theorem dX9_look_96 : decode cX9_look 96 = .ok (.isub, 1) := by decide +kernel
theorem dX9_look_97 : decode cX9_look 97 = .ok (.invokevirtual 49, 3) := by decide +kernel
theorem dX9_look_100 : decode cX9_look 100 = .ok (.ifCond .eq 13, 3) := by decide +kernel
theorem dX9_look_103 : decode cX9_look 103 = .ok (.aload_n 0, 1) := by decide +kernel
theorem dX9_look_104 : decode cX9_look 104 = .ok (.getfield 21, 3) := by decide +kernel
theorem dX9_look_107 : decode cX9_look 107 = .ok (.iload_n 1, 1) := by decide +kernel
theorem dX9_look_108 : decode cX9_look 108 = .ok (.bipush 40, 2) := by decide +kernel
theorem dX9_look_110 : decode cX9_look 110 = .ok (.isub, 1) := by decide +kernel
theorem dX9_look_111 : decode cX9_look 111 = .ok (.iaload, 1) := by decide +kernel
theorem dX9_look_112 : decode cX9_look 112 = .ok (.ireturn, 1) := by decide +kernel
theorem dX9_look_113 : decode cX9_look 113 = .ok (.aload_n 0, 1) := by decide +kernel
theorem dX9_look_114 : decode cX9_look 114 = .ok (.iload_n 1, 1) := by decide +kernel
theorem dX9_look_115 : decode cX9_look 115 = .ok (.bipush 50, 2) := by decide +kernel
theorem dX9_look_117 : decode cX9_look 117 = .ok (.isub, 1) := by decide +kernel
theorem dX9_look_118 : decode cX9_look 118 = .ok (.invokevirtual 56, 3) := by decide +kernel
theorem dX9_look_121 : decode cX9_look 121 = .ok (.ifCond .eq 13, 3) := by decide +kernel
theorem dX9_look_124 : decode cX9_look 124 = .ok (.aload_n 0, 1) := by decide +kernel
theorem dX9_look_125 : decode cX9_look 125 = .ok (.getfield 27, 3) := by decide +kernel
theorem dX9_look_128 : decode cX9_look 128 = .ok (.iload_n 1, 1) := by decide +kernel
theorem dX9_look_129 : decode cX9_look 129 = .ok (.bipush 50, 2) := by decide +kernel
theorem dX9_look_131 : decode cX9_look 131 = .ok (.isub, 1) := by decide +kernel
theorem dX9_look_132 : decode cX9_look 132 = .ok (.iaload, 1) := by decide +kernel
theorem dX9_look_133 : decode cX9_look 133 = .ok (.ireturn, 1) := by decide +kernel
theorem dX9_look_134 : decode cX9_look 134 = .ok (.aload_n 0, 1) := by decide +kernel
theorem dX9_look_135 : decode cX9_look 135 = .ok (.iload_n 1, 1) := by decide +kernel
theorem dX9_look_136 : decode cX9_look 136 = .ok (.bipush 60, 2) := by decide +kernel
theorem dX9_look_138 : decode cX9_look 138 = .ok (.isub, 1) := by decide +kernel
theorem dX9_look_139 : decode cX9_look 139 = .ok (.invokevirtual 56, 3) := by decide +kernel
theorem dX9_look_142 : decode cX9_look 142 = .ok (.ifCond .eq 15, 3) := by decide +kernel
theorem dX9_look_145 : decode cX9_look 145 = .ok (.aload_n 0, 1) := by decide +kernel
theorem dX9_look_146 : decode cX9_look 146 = .ok (.getfield 30, 3) := by decide +kernel
theorem dX9_look_149 : decode cX9_look 149 = .ok (.iload_n 1, 1) := by decide +kernel
theorem dX9_look_150 : decode cX9_look 150 = .ok (.bipush 60, 2) := by decide +kernel
theorem dX9_look_152 : decode cX9_look 152 = .ok (.isub, 1) := by decide +kernel
theorem dX9_look_153 : decode cX9_look 153 = .ok (.iaload, 1) := by decide +kernel
theorem dX9_look_154 : decode cX9_look 154 = .ok (.goto 4, 3) := by decide +kernel
theorem dX9_look_157 : decode cX9_look 157 = .ok (.iconst (-1), 1) := by decide +kernel
theorem dX9_look_158 : decode cX9_look 158 = .ok (.ireturn, 1) := by decide +kernel
theorem dX10_init_0 : decode cX10_init 0 = .ok (.aload_n 0, 1) := by decide +kernel
theorem dX10_init_1 : decode cX10_init 1 = .ok (.invokespecial 3, 3) := by decide +kernel
theorem dX10_init_4 : decode cX10_init 4 = .ok (.aload_n 0, 1) := by decide +kernel
theorem dX10_init_5 : decode cX10_init 5 = .ok (.bipush 10, 2) := by decide +kernel
theorem dX10_init_7 : decode cX10_init 7 = .ok (.newarray .int, 2) := by decide +kernel
theorem dX10_init_9 : decode cX10_init 9 = .ok (.putfield 9, 3) := by decide +kernel
theorem dX10_init_12 : decode cX10_init 12 = .ok (.aload_n 0, 1) := by decide +kernel
theorem dX10_init_13 : decode cX10_init 13 = .ok (.bipush 10, 2) := by decide +kernel
theorem dX10_init_15 : decode cX10_init 15 = .ok (.newarray .int, 2) := by decide +kernel
theorem dX10_init_17 : decode cX10_init 17 = .ok (.putfield 15, 3) := by decide +kernel
theorem dX10_init_20 : decode cX10_init 20 = .ok (.aload_n 0, 1) := by decide +kernel
theorem dX10_init_21 : decode cX10_init 21 = .ok (.bipush 10, 2) := by decide +kernel
theorem dX10_init_23 : decode cX10_init 23 = .ok (.newarray .int, 2) := by decide +kernel
theorem dX10_init_25 : decode cX10_init 25 = .ok (.putfield 18, 3) := by decide +kernel
theorem dX10_init_28 : decode cX10_init 28 = .ok (.aload_n 0, 1) := by decide +kernel
theorem dX10_init_29 : decode cX10_init 29 = .ok (.bipush 10, 2) := by decide +kernel
theorem dX10_init_31 : decode cX10_init 31 = .ok (.newarray .int, 2) := by decide +kernel
theorem dX10_init_33 : decode cX10_init 33 = .ok (.putfield 21, 3) := by decide +kernel
theorem dX10_init_36 : decode cX10_init 36 = .ok (.aload_n 0, 1) := by decide +kernel
theorem dX10_init_37 : decode cX10_init 37 = .ok (.bipush 10, 2) := by decide +kernel
theorem dX10_init_39 : decode cX10_init 39 = .ok (.newarray .int, 2) := by decide +kernel
theorem dX10_init_41 : decode cX10_init 41 = .ok (.putfield 24, 3) := by decide +kernel
theorem dX10_init_44 : decode cX10_init 44 = .ok (.aload_n 0, 1) := by decide +kernel
theorem dX10_init_45 : decode cX10_init 45 = .ok (.bipush 6, 2) := by decide +kernel
theorem dX10_init_47 : decode cX10_init 47 = .ok (.newarray .int, 2) := by decide +kernel
theorem dX10_init_49 : decode cX10_init 49 = .ok (.putfield 27, 3) := by decide +kernel
theorem dX10_init_52 : decode cX10_init 52 = .ok (.aload_n 0, 1) := by decide +kernel
theorem dX10_init_53 : decode cX10_init 53 = .ok (.bipush 6, 2) := by decide +kernel
theorem dX10_init_55 : decode cX10_init 55 = .ok (.newarray .int, 2) := by decide +kernel
theorem dX10_init_57 : decode cX10_init 57 = .ok (.putfield 30, 3) := by decide +kernel
theorem dX10_init_60 : decode cX10_init 60 = .ok (.aload_n 0, 1) := by decide +kernel
theorem dX10_init_61 : decode cX10_init 61 = .ok (.bipush 12, 2) := by decide +kernel
theorem dX10_init_63 : decode cX10_init 63 = .ok (.newarray .int, 2) := by decide +kernel
theorem dX10_init_65 : decode cX10_init 65 = .ok (.putfield 33, 3) := by decide +kernel
theorem dX10_init_68 : decode cX10_init 68 = .ok (.aload_n 0, 1) := by decide +kernel
theorem dX10_init_69 : decode cX10_init 69 = .ok (.bipush 12, 2) := by decide +kernel
theorem dX10_init_71 : decode cX10_init 71 = .ok (.newarray .int, 2) := by decide +kernel
theorem dX10_init_73 : decode cX10_init 73 = .ok (.putfield 36, 3) := by decide +kernel
theorem dX10_init_76 : decode cX10_init 76 = .ok (.aload_n 0, 1) := by decide +kernel
theorem dX10_init_77 : decode cX10_init 77 = .ok (.bipush 12, 2) := by decide +kernel
theorem dX10_init_79 : decode cX10_init 79 = .ok (.newarray .int, 2) := by decide +kernel
theorem dX10_init_81 : decode cX10_init 81 = .ok (.putfield 39, 3) := by decide +kernel
theorem dX10_init_84 : decode cX10_init 84 = .ok (.aload_n 0, 1) := by decide +kernel
theorem dX10_init_85 : decode cX10_init 85 = .ok (.bipush 12, 2) := by decide +kernel
theorem dX10_init_87 : decode cX10_init 87 = .ok (.newarray .int, 2) := by decide +kernel
theorem dX10_init_89 : decode cX10_init 89 = .ok (.putfield 42, 3) := by decide +kernel
theorem dX10_init_92 : decode cX10_init 92 = .ok (.return_, 1) := by decide +kernel
theorem dX10_begin_0 : decode cX10_begin 0 = .ok (.aload_n 1, 1) := by decide +kernel
theorem dX10_begin_1 : decode cX10_begin 1 = .ok (.ifnonnull 4, 3) := by decide +kernel
theorem dX10_begin_4 : decode cX10_begin 4 = .ok (.return_, 1) := by decide +kernel
theorem dX10_begin_5 : decode cX10_begin 5 = .ok (.aload_n 0, 1) := by decide +kernel
theorem dX10_begin_6 : decode cX10_begin 6 = .ok (.iconst 0, 1) := by decide +kernel
theorem dX10_begin_7 : decode cX10_begin 7 = .ok (.putfield 45, 3) := by decide +kernel
theorem dX10_begin_10 : decode cX10_begin 10 = .ok (.aload_n 0, 1) := by decide +kernel
theorem dX10_begin_11 : decode cX10_begin 11 = .ok (.iconst 0, 1) := by decide +kernel
theorem dX10_begin_12 : decode cX10_begin 12 = .ok (.aload_n 1, 1) := by decide +kernel
theorem dX10_begin_13 : decode cX10_begin 13 = .ok (.getfield 49, 3) := by decide +kernel
theorem dX10_begin_16 : decode cX10_begin 16 = .ok (.bipush 10, 2) := by decide +kernel
theorem dX10_begin_18 : decode cX10_begin 18 = .ok (.invokestatic 54, 3) := by decide +kernel
theorem dX10_begin_21 : decode cX10_begin 21 = .ok (.invokestatic 60, 3) := by decide +kernel
theorem dX10_begin_24 : decode cX10_begin 24 = .ok (.putfield 63, 3) := by decide +kernel
theorem dX10_begin_27 : decode cX10_begin 27 = .ok (.aload_n 0, 1) := by decide +kernel
theorem dX10_begin_28 : decode cX10_begin 28 = .ok (.iconst 0, 1) := by decide +kernel
theorem dX10_begin_29 : decode cX10_begin 29 = .ok (.aload_n 1, 1) := by decide +kernel
theorem dX10_begin_30 : decode cX10_begin 30 = .ok (.getfield 64, 3) := by decide +kernel
theorem dX10_begin_33 : decode cX10_begin 33 = .ok (.bipush 6, 2) := by decide +kernel
theorem dX10_begin_35 : decode cX10_begin 35 = .ok (.invokestatic 54, 3) := by decide +kernel
theorem dX10_begin_38 : decode cX10_begin 38 = .ok (.invokestatic 60, 3) := by decide +kernel
theorem dX10_begin_41 : decode cX10_begin 41 = .ok (.putfield 67, 3) := by decide +kernel
theorem dX10_begin_44 : decode cX10_begin 44 = .ok (.aload_n 0, 1) := by decide +kernel
theorem dX10_begin_45 : decode cX10_begin 45 = .ok (.aload_n 1, 1) := by decide +kernel
theorem dX10_begin_46 : decode cX10_begin 46 = .ok (.getfield 68, 3) := by decide +kernel
theorem dX10_begin_49 : decode cX10_begin 49 = .ok (.putfield 71, 3) := by decide +kernel
theorem dX10_begin_52 : decode cX10_begin 52 = .ok (.aload_n 0, 1) := by decide +kernel
theorem dX10_begin_53 : decode cX10_begin 53 = .ok (.iconst 1, 1) := by decide +kernel
theorem dX10_begin_54 : decode cX10_begin 54 = .ok (.aload_n 0, 1) := by decide +kernel
theorem dX10_begin_55 : decode cX10_begin 55 = .ok (.getfield 63, 3) := by decide +kernel
theorem dX10_begin_58 : decode cX10_begin 58 = .ok (.ishl, 1) := by decide +kernel
theorem dX10_begin_59 : decode cX10_begin 59 = .ok (.iconst 1, 1) := by decide +kernel
theorem dX10_begin_60 : decode cX10_begin 60 = .ok (.isub, 1) := by decide +kernel
theorem dX10_begin_61 : decode cX10_begin 61 = .ok (.putfield 72, 3) := by decide +kernel
theorem dX10_begin_64 : decode cX10_begin 64 = .ok (.aload_n 0, 1) := by decide +kernel
theorem dX10_begin_65 : decode cX10_begin 65 = .ok (.iconst 0, 1) := by decide +kernel
theorem dX10_begin_66 : decode cX10_begin 66 = .ok (.putfield 75, 3) := by decide +kernel
theorem dX10_begin_69 : decode cX10_begin 69 = .ok (.aload_n 0, 1) := by decide +kernel
theorem dX10_begin_70 : decode cX10_begin 70 = .ok (.iconst 0, 1) := by decide +kernel
theorem dX10_begin_71 : decode cX10_begin 71 = .ok (.putfield 78, 3) := by decide +kernel
theorem dX10_begin_74 : decode cX10_begin 74 = .ok (.aload_n 0, 1) := by decide +kernel
theorem dX10_begin_75 : decode cX10_begin 75 = .ok (.iconst (-1), 1) := by decide +kernel
theorem dX10_begin_76 : decode cX10_begin 76 = .ok (.putfield 81, 3) := by decide +kernel
theorem dX10_begin_79 : decode cX10_begin 79 = .ok (.aload_n 1, 1) := by decide +kernel
theorem dX10_begin_80 : decode cX10_begin 80 = .ok (.getfield 84, 3) := by decide +kernel
theorem dX10_begin_83 : decode cX10_begin 83 = .ok (.iconst 0, 1) := by decide +kernel
theorem dX10_begin_84 : decode cX10_begin 84 = .ok (.aload_n 0, 1) := by decide +kernel
theorem dX10_begin_85 : decode cX10_begin 85 = .ok (.getfield 9, 3) := by decide +kernel
theorem dX10_begin_88 : decode cX10_begin 88 = .ok (.iconst 0, 1) := by decide +kernel
theorem dX10_begin_89 : decode cX10_begin 89 = .ok (.bipush 10, 2) := by decide +kernel
theorem dX10_begin_91 : decode cX10_begin 91 = .ok (.invokestatic 85, 3) := by decide +kernel
theorem dX10_begin_94 : decode cX10_begin 94 = .ok (.aload_n 1, 1) := by decide +kernel
theorem dX10_begin_95 : decode cX10_begin 95 = .ok (.getfield 91, 3) := by decide +kernel
theorem dX10_begin_98 : decode cX10_begin 98 = .ok (.iconst 0, 1) := by decide +kernel
theorem dX10_begin_99 : decode cX10_begin 99 = .ok (.aload_n 0, 1) := by decide +kernel
theorem dX10_begin_100 : decode cX10_begin 100 = .ok (.getfield 15, 3) := by decide +kernel
theorem dX10_begin_103 : decode cX10_begin 103 = .ok (.iconst 0, 1) := by decide +kernel
theorem dX10_begin_104 : decode cX10_begin 104 = .ok (.bipush 10, 2) := by decide +kernel
theorem dX10_begin_106 : decode cX10_begin 106 = .ok (.invokestatic 85, 3) := by decide +kernel
theorem dX10_begin_109 : decode cX10_begin 109 = .ok (.aload_n 1, 1) := by decide +kernel
theorem dX10_begin_110 : decode cX10_begin 110 = .ok (.getfield 92, 3) := by decide +kernel
theorem dX10_begin_113 : decode cX10_begin 113 = .ok (.iconst 0, 1) := by decide +kernel
theorem dX10_begin_114 : decode cX10_begin 114 = .ok (.aload_n 0, 1) := by decide +kernel
theorem dX10_begin_115 : decode cX10_begin 115 = .ok (.getfield 18, 3) := by decide +kernel
theorem dX10_begin_118 : decode cX10_begin 118 = .ok (.iconst 0, 1) := by decide +kernel
theorem dX10_begin_119 : decode cX10_begin 119 = .ok (.bipush 10, 2) := by decide +kernel
theorem dX10_begin_121 : decode cX10_begin 121 = .ok (.invokestatic 85, 3) := by decide +kernel
theorem dX10_begin_124 : decode cX10_begin 124 = .ok (.aload_n 1, 1) := by decide +kernel
theorem dX10_begin_125 : decode cX10_begin 125 = .ok (.getfield 93, 3) := by decide +kernel
theorem dX10_begin_128 : decode cX10_begin 128 = .ok (.iconst 0, 1) := by decide +kernel
theorem dX10_begin_129 : decode cX10_begin 129 = .ok (.aload_n 0, 1) := by decide +kernel
theorem dX10_begin_130 : decode cX10_begin 130 = .ok (.getfield 21, 3) := by decide +kernel
theorem dX10_begin_133 : decode cX10_begin 133 = .ok (.iconst 0, 1) := by decide +kernel
theorem dX10_begin_134 : decode cX10_begin 134 = .ok (.bipush 10, 2) := by decide +kernel
theorem dX10_begin_136 : decode cX10_begin 136 = .ok (.invokestatic 85, 3) := by decide +kernel
theorem dX10_begin_139 : decode cX10_begin 139 = .ok (.aload_n 1, 1) := by decide +kernel
theorem dX10_begin_140 : decode cX10_begin 140 = .ok (.getfield 94, 3) := by decide +kernel
theorem dX10_begin_143 : decode cX10_begin 143 = .ok (.iconst 0, 1) := by decide +kernel
theorem dX10_begin_144 : decode cX10_begin 144 = .ok (.aload_n 0, 1) := by decide +kernel
theorem dX10_begin_145 : decode cX10_begin 145 = .ok (.getfield 27, 3) := by decide +kernel
theorem dX10_begin_148 : decode cX10_begin 148 = .ok (.iconst 0, 1) := by decide +kernel
theorem dX10_begin_149 : decode cX10_begin 149 = .ok (.bipush 6, 2) := by decide +kernel
theorem dX10_begin_151 : decode cX10_begin 151 = .ok (.invokestatic 85, 3) := by decide +kernel
theorem dX10_begin_154 : decode cX10_begin 154 = .ok (.iconst 0, 1) := by decide +kernel
theorem dX10_begin_155 : decode cX10_begin 155 = .ok (.istore_n 2, 1) := by decide +kernel
theorem dX10_begin_156 : decode cX10_begin 156 = .ok (.iload_n 2, 1) := by decide +kernel
theorem dX10_begin_157 : decode cX10_begin 157 = .ok (.bipush 10, 2) := by decide +kernel
theorem dX10_begin_159 : decode cX10_begin 159 = .ok (.if_icmp .ge 16, 3) := by decide +kernel
theorem dX10_begin_162 : decode cX10_begin 162 = .ok (.aload_n 0, 1) := by decide +kernel
theorem dX10_begin_163 : decode cX10_begin 163 = .ok (.getfield 24, 3) := by decide +kernel
theorem dX10_begin_166 : decode cX10_begin 166 = .ok (.iload_n 2, 1) := by decide +kernel
theorem dX10_begin_167 : decode cX10_begin 167 = .ok (.iconst 0, 1) := by decide +kernel
theorem dX10_begin_168 : decode cX10_begin 168 = .ok (.iastore, 1) := by decide +kernel
theorem dX10_begin_169 : decode cX10_begin 169 = .ok (.iinc 2 1, 3) := by decide +kernel
theorem dX10_begin_172 : decode cX10_begin 172 = .ok (.goto (-16), 3) := by decide +kernel
theorem dX10_begin_175 : decode cX10_begin 175 = .ok (.iconst 0, 1) := by decide +kernel
theorem dX10_begin_176 : decode cX10_begin 176 = .ok (.istore_n 2, 1) := by decide +kernel
theorem dX10_begin_177 : decode cX10_begin 177 = .ok (.iload_n 2, 1) := by decide +kernel
theorem dX10_begin_178 : decode cX10_begin 178 = .ok (.bipush 6, 2) := by decide +kernel
theorem dX10_begin_180 : decode cX10_begin 180 = .ok (.if_icmp .ge 16, 3) := by decide +kernel
theorem dX10_begin_183 : decode cX10_begin 183 = .ok (.aload_n 0, 1) := by decide +kernel
theorem dX10_begin_184 : decode cX10_begin 184 = .ok (.getfield 30, 3) := by decide +kernel
theorem dX10_begin_187 : decode cX10_begin 187 = .ok (.iload_n 2, 1) := by decide +kernel
theorem dX10_begin_188 : decode cX10_begin 188 = .ok (.iconst 0, 1) := by decide +kernel
theorem dX10_begin_189 : decode cX10_begin 189 = .ok (.iastore, 1) := by decide +kernel
theorem dX10_begin_190 : decode cX10_begin 190 = .ok (.iinc 2 1, 3) := by decide +kernel
theorem dX10_begin_193 : decode cX10_begin 193 = .ok (.goto (-16), 3) := by decide +kernel
theorem dX10_begin_196 : decode cX10_begin 196 = .ok (.return_, 1) := by decide +kernel
theorem dX10_live_0 : decode cX10_live 0 = .ok (.aload_n 0, 1) := by decide +kernel
theorem dX10_live_1 : decode cX10_live 1 = .ok (.aload_n 1, 1) := by decide +kernel
theorem dX10_live_2 : decode cX10_live 2 = .ok (.invokevirtual 95, 3) := by decide +kernel
theorem dX10_live_5 : decode cX10_live 5 = .ok (.aload_n 2, 1) := by decide +kernel
theorem dX10_live_6 : decode cX10_live 6 = .ok (.ifnonnull 5, 3) := by decide +kernel
theorem dX10_live_9 : decode cX10_live 9 = .ok (.iconst 0, 1) := by decide +kernel
theorem dX10_live_10 : decode cX10_live 10 = .ok (.ireturn, 1) := by decide +kernel
theorem dX10_live_11 : decode cX10_live 11 = .ok (.iconst 0, 1) := by decide +kernel
theorem dX10_live_12 : decode cX10_live 12 = .ok (.istore 4, 2) := by decide +kernel
theorem dX10_live_14 : decode cX10_live 14 = .ok (.iload 4, 2) := by decide +kernel
theorem dX10_live_16 : decode cX10_live 16 = .ok (.iload_n 3, 1) := by decide +kernel
theorem dX10_live_17 : decode cX10_live 17 = .ok (.if_icmp .ge 85, 3) := by decide +kernel
theorem dX10_live_20 : decode cX10_live 20 = .ok (.iload 4, 2) := by decide +kernel
theorem dX10_live_22 : decode cX10_live 22 = .ok (.aload_n 2, 1) := by decide +kernel
theorem dX10_live_23 : decode cX10_live 23 = .ok (.getfield 99, 3) := by decide +kernel
theorem dX10_live_26 : decode cX10_live 26 = .ok (.if_icmp .ge 76, 3) := by decide +kernel
theorem dX10_live_29 : decode cX10_live 29 = .ok (.iload 4, 2) := by decide +kernel
theorem dX10_live_31 : decode cX10_live 31 = .ok (.bipush 40, 2) := by decide +kernel
theorem dX10_live_33 : decode cX10_live 33 = .ok (.if_icmp .ge 69, 3) := by decide +kernel
theorem dX10_live_36 : decode cX10_live 36 = .ok (.aload_n 0, 1) := by decide +kernel
theorem dX10_live_37 : decode cX10_live 37 = .ok (.aload_n 2, 1) := by decide +kernel
theorem dX10_live_38 : decode cX10_live 38 = .ok (.getfield 104, 3) := by decide +kernel
theorem dX10_live_41 : decode cX10_live 41 = .ok (.iload 4, 2) := by decide +kernel
theorem dX10_live_43 : decode cX10_live 43 = .ok (.iaload, 1) := by decide +kernel
theorem dX10_live_44 : decode cX10_live 44 = .ok (.aload_n 2, 1) := by decide +kernel
theorem dX10_live_45 : decode cX10_live 45 = .ok (.getfield 107, 3) := by decide +kernel
theorem dX10_live_48 : decode cX10_live 48 = .ok (.iload 4, 2) := by decide +kernel
theorem dX10_live_50 : decode cX10_live 50 = .ok (.iaload, 1) := by decide +kernel
theorem dX10_live_51 : decode cX10_live 51 = .ok (.aload_n 2, 1) := by decide +kernel
theorem dX10_live_52 : decode cX10_live 52 = .ok (.getfield 110, 3) := by decide +kernel
theorem dX10_live_55 : decode cX10_live 55 = .ok (.iload 4, 2) := by decide +kernel
theorem dX10_live_57 : decode cX10_live 57 = .ok (.iaload, 1) := by decide +kernel
theorem dX10_live_58 : decode cX10_live 58 = .ok (.aload_n 2, 1) := by decide +kernel
theorem dX10_live_59 : decode cX10_live 59 = .ok (.getfield 113, 3) := by decide +kernel
theorem dX10_live_62 : decode cX10_live 62 = .ok (.iload 4, 2) := by decide +kernel
theorem dX10_live_64 : decode cX10_live 64 = .ok (.iaload, 1) := by decide +kernel
theorem dX10_live_65 : decode cX10_live 65 = .ok (.invokevirtual 116, 3) := by decide +kernel
theorem dX10_live_68 : decode cX10_live 68 = .ok (.ifCond .ne 6, 3) := by decide +kernel
theorem dX10_live_71 : decode cX10_live 71 = .ok (.iload 4, 2) := by decide +kernel
theorem dX10_live_73 : decode cX10_live 73 = .ok (.ireturn, 1) := by decide +kernel
theorem dX10_live_74 : decode cX10_live 74 = .ok (.aload_n 0, 1) := by decide +kernel
theorem dX10_live_75 : decode cX10_live 75 = .ok (.getfield 81, 3) := by decide +kernel
theorem dX10_live_78 : decode cX10_live 78 = .ok (.iconst (-1), 1) := by decide +kernel
theorem dX10_live_79 : decode cX10_live 79 = .ok (.if_icmp .ne 17, 3) := by decide +kernel
theorem dX10_live_82 : decode cX10_live 82 = .ok (.aload_n 0, 1) := by decide +kernel
theorem dX10_live_83 : decode cX10_live 83 = .ok (.iconst 1, 1) := by decide +kernel
theorem dX10_live_84 : decode cX10_live 84 = .ok (.invokevirtual 120, 3) := by decide +kernel
theorem dX10_live_87 : decode cX10_live 87 = .ok (.ifCond .le 9, 3) := by decide +kernel
theorem dX10_live_90 : decode cX10_live 90 = .ok (.aload_n 0, 1) := by decide +kernel
theorem dX10_live_91 : decode cX10_live 91 = .ok (.iload 4, 2) := by decide +kernel
theorem dX10_live_93 : decode cX10_live 93 = .ok (.putfield 81, 3) := by decide +kernel
theorem dX10_live_96 : decode cX10_live 96 = .ok (.iinc 4 1, 3) := by decide +kernel
theorem dX10_live_99 : decode cX10_live 99 = .ok (.goto (-85), 3) := by decide +kernel
theorem dX10_live_102 : decode cX10_live 102 = .ok (.iconst 0, 1) := by decide +kernel
theorem dX10_live_103 : decode cX10_live 103 = .ok (.iload_n 3, 1) := by decide +kernel
theorem dX10_live_104 : decode cX10_live 104 = .ok (.aload_n 2, 1) := by decide +kernel
theorem dX10_live_105 : decode cX10_live 105 = .ok (.getfield 99, 3) := by decide +kernel
theorem dX10_live_108 : decode cX10_live 108 = .ok (.invokestatic 54, 3) := by decide +kernel
theorem dX10_live_111 : decode cX10_live 111 = .ok (.invokestatic 60, 3) := by decide +kernel
theorem dX10_live_114 : decode cX10_live 114 = .ok (.ireturn, 1) := by decide +kernel
theorem dX10_liveBySeed_0 : decode cX10_liveBySeed 0 = .ok (.aload_n 0, 1) := by decide +kernel
theorem dX10_liveBySeed_1 : decode cX10_liveBySeed 1 = .ok (.aload_n 1, 1) := by decide +kernel
theorem dX10_liveBySeed_2 : decode cX10_liveBySeed 2 = .ok (.invokevirtual 95, 3) := by decide +kernel
theorem dX10_liveBySeed_5 : decode cX10_liveBySeed 5 = .ok (.aload_n 0, 1) := by decide +kernel
theorem dX10_liveBySeed_6 : decode cX10_liveBySeed 6 = .ok (.iload_n 2, 1) := by decide +kernel
theorem dX10_liveBySeed_7 : decode cX10_liveBySeed 7 = .ok (.putfield 124, 3) := by decide +kernel
theorem dX10_liveBySeed_10 : decode cX10_liveBySeed 10 = .ok (.iconst 0, 1) := by decide +kernel
theorem dX10_liveBySeed_11 : decode cX10_liveBySeed 11 = .ok (.istore 4, 2) := by decide +kernel
theorem dX10_liveBySeed_13 : decode cX10_liveBySeed 13 = .ok (.iload 4, 2) := by decide +kernel
theorem dX10_liveBySeed_15 : decode cX10_liveBySeed 15 = .ok (.iload_n 3, 1) := by decide +kernel
theorem dX10_liveBySeed_16 : decode cX10_liveBySeed 16 = .ok (.if_icmp .ge 20, 3) := by decide +kernel
theorem dX10_liveBySeed_19 : decode cX10_liveBySeed 19 = .ok (.iload 4, 2) := by decide +kernel
theorem dX10_liveBySeed_21 : decode cX10_liveBySeed 21 = .ok (.bipush 60, 2) := by decide +kernel
theorem dX10_liveBySeed_23 : decode cX10_liveBySeed 23 = .ok (.if_icmp .ge 13, 3) := by decide +kernel
theorem dX10_liveBySeed_26 : decode cX10_liveBySeed 26 = .ok (.aload_n 0, 1) := by decide +kernel
theorem dX10_liveBySeed_27 : decode cX10_liveBySeed 27 = .ok (.invokevirtual 127, 3) := by decide +kernel
theorem dX10_liveBySeed_30 : decode cX10_liveBySeed 30 = .ok (.iinc 4 1, 3) := by decide +kernel
theorem dX10_liveBySeed_33 : decode cX10_liveBySeed 33 = .ok (.goto (-20), 3) := by decide +kernel
theorem dX10_liveBySeed_36 : decode cX10_liveBySeed 36 = .ok (.return_, 1) := by decide +kernel
theorem dX10_draw_0 : decode cX10_draw 0 = .ok (.aload_n 0, 1) := by decide +kernel
theorem dX10_draw_1 : decode cX10_draw 1 = .ok (.aload_n 0, 1) := by decide +kernel
theorem dX10_draw_2 : decode cX10_draw 2 = .ok (.getfield 124, 3) := by decide +kernel
theorem dX10_draw_5 : decode cX10_draw 5 = .ok (.ldc 130, 2) := by decide +kernel
theorem dX10_draw_7 : decode cX10_draw 7 = .ok (.imul, 1) := by decide +kernel
theorem dX10_draw_8 : decode cX10_draw 8 = .ok (.sipush 12345, 3) := by decide +kernel
theorem dX10_draw_11 : decode cX10_draw 11 = .ok (.iadd, 1) := by decide +kernel
theorem dX10_draw_12 : decode cX10_draw 12 = .ok (.putfield 124, 3) := by decide +kernel
theorem dX10_draw_15 : decode cX10_draw 15 = .ok (.iload_n 1, 1) := by decide +kernel
theorem dX10_draw_16 : decode cX10_draw 16 = .ok (.ifCond .le 15, 3) := by decide +kernel
theorem dX10_draw_19 : decode cX10_draw 19 = .ok (.aload_n 0, 1) := by decide +kernel
theorem dX10_draw_20 : decode cX10_draw 20 = .ok (.getfield 124, 3) := by decide +kernel
theorem dX10_draw_23 : decode cX10_draw 23 = .ok (.bipush 16, 2) := by decide +kernel
theorem dX10_draw_25 : decode cX10_draw 25 = .ok (.iushr, 1) := by decide +kernel
theorem dX10_draw_26 : decode cX10_draw 26 = .ok (.iload_n 1, 1) := by decide +kernel
theorem dX10_draw_27 : decode cX10_draw 27 = .ok (.irem, 1) := by decide +kernel
theorem dX10_draw_28 : decode cX10_draw 28 = .ok (.goto 4, 3) := by decide +kernel
theorem dX10_draw_31 : decode cX10_draw 31 = .ok (.iconst 0, 1) := by decide +kernel
theorem dX10_draw_32 : decode cX10_draw 32 = .ok (.ireturn, 1) := by decide +kernel
theorem dX10_drawDeed_0 : decode cX10_drawDeed 0 = .ok (.aload_n 0, 1) := by decide +kernel
theorem dX10_drawDeed_1 : decode cX10_drawDeed 1 = .ok (.bipush 8, 2) := by decide +kernel
theorem dX10_drawDeed_3 : decode cX10_drawDeed 3 = .ok (.invokevirtual 131, 3) := by decide +kernel
theorem dX10_drawDeed_6 : decode cX10_drawDeed 6 = .ok (.istore_n 1, 1) := by decide +kernel
theorem dX10_drawDeed_7 : decode cX10_drawDeed 7 = .ok (.iload_n 1, 1) := by decide +kernel
theorem dX10_drawDeed_8 : decode cX10_drawDeed 8 = .ok (.iconst 5, 1) := by decide +kernel
theorem dX10_drawDeed_9 : decode cX10_drawDeed 9 = .ok (.if_icmp .lt 13, 3) := by decide +kernel
theorem dX10_drawDeed_12 : decode cX10_drawDeed 12 = .ok (.aload_n 0, 1) := by decide +kernel
theorem dX10_drawDeed_13 : decode cX10_drawDeed 13 = .ok (.iconst 4, 1) := by decide +kernel
theorem dX10_drawDeed_14 : decode cX10_drawDeed 14 = .ok (.iconst (-1), 1) := by decide +kernel
theorem dX10_drawDeed_15 : decode cX10_drawDeed 15 = .ok (.iconst (-1), 1) := by decide +kernel
theorem dX10_drawDeed_16 : decode cX10_drawDeed 16 = .ok (.iconst (-1), 1) := by decide +kernel
theorem dX10_drawDeed_17 : decode cX10_drawDeed 17 = .ok (.invokevirtual 116, 3) := by decide +kernel
theorem dX10_drawDeed_20 : decode cX10_drawDeed 20 = .ok (.pop, 1) := by decide +kernel
theorem dX10_drawDeed_21 : decode cX10_drawDeed 21 = .ok (.return_, 1) := by decide +kernel
theorem dX10_drawDeed_22 : decode cX10_drawDeed 22 = .ok (.aload_n 0, 1) := by decide +kernel
theorem dX10_drawDeed_23 : decode cX10_drawDeed 23 = .ok (.getfield 63, 3) := by decide +kernel
theorem dX10_drawDeed_26 : decode cX10_drawDeed 26 = .ok (.ifCond .eq 15, 3) := by decide +kernel
theorem dX10_drawDeed_29 : decode cX10_drawDeed 29 = .ok (.iload_n 1, 1) := by decide +kernel
theorem dX10_drawDeed_30 : decode cX10_drawDeed 30 = .ok (.iconst 1, 1) := by decide +kernel
theorem dX10_drawDeed_31 : decode cX10_drawDeed 31 = .ok (.if_icmp .gt 11, 3) := by decide +kernel
theorem dX10_drawDeed_34 : decode cX10_drawDeed 34 = .ok (.aload_n 0, 1) := by decide +kernel
theorem dX10_drawDeed_35 : decode cX10_drawDeed 35 = .ok (.getfield 67, 3) := by decide +kernel
theorem dX10_drawDeed_38 : decode cX10_drawDeed 38 = .ok (.ifCond .ne 4, 3) := by decide +kernel
theorem dX10_drawDeed_41 : decode cX10_drawDeed 41 = .ok (.return_, 1) := by decide +kernel
theorem dX10_drawDeed_42 : decode cX10_drawDeed 42 = .ok (.aload_n 0, 1) := by decide +kernel
theorem dX10_drawDeed_43 : decode cX10_drawDeed 43 = .ok (.aload_n 0, 1) := by decide +kernel
theorem dX10_drawDeed_44 : decode cX10_drawDeed 44 = .ok (.getfield 63, 3) := by decide +kernel
theorem dX10_drawDeed_47 : decode cX10_drawDeed 47 = .ok (.invokevirtual 131, 3) := by decide +kernel
theorem dX10_drawDeed_50 : decode cX10_drawDeed 50 = .ok (.istore_n 2, 1) := by decide +kernel
theorem dX10_drawDeed_51 : decode cX10_drawDeed 51 = .ok (.iload_n 1, 1) := by decide +kernel
theorem dX10_drawDeed_52 : decode cX10_drawDeed 52 = .ok (.iconst 1, 1) := by decide +kernel
theorem dX10_drawDeed_53 : decode cX10_drawDeed 53 = .ok (.if_icmp .gt 31, 3) := by decide +kernel
theorem dX10_drawDeed_56 : decode cX10_drawDeed 56 = .ok (.aload_n 0, 1) := by decide +kernel
theorem dX10_drawDeed_57 : decode cX10_drawDeed 57 = .ok (.aload_n 0, 1) := by decide +kernel
theorem dX10_drawDeed_58 : decode cX10_drawDeed 58 = .ok (.getfield 67, 3) := by decide +kernel
theorem dX10_drawDeed_61 : decode cX10_drawDeed 61 = .ok (.invokevirtual 131, 3) := by decide +kernel
theorem dX10_drawDeed_64 : decode cX10_drawDeed 64 = .ok (.istore_n 3, 1) := by decide +kernel
theorem dX10_drawDeed_65 : decode cX10_drawDeed 65 = .ok (.aload_n 0, 1) := by decide +kernel
theorem dX10_drawDeed_66 : decode cX10_drawDeed 66 = .ok (.iconst 0, 1) := by decide +kernel
theorem dX10_drawDeed_67 : decode cX10_drawDeed 67 = .ok (.iload_n 2, 1) := by decide +kernel
theorem dX10_drawDeed_68 : decode cX10_drawDeed 68 = .ok (.iload_n 3, 1) := by decide +kernel
theorem dX10_drawDeed_69 : decode cX10_drawDeed 69 = .ok (.iconst 1, 1) := by decide +kernel
theorem dX10_drawDeed_70 : decode cX10_drawDeed 70 = .ok (.aload_n 0, 1) := by decide +kernel
theorem dX10_drawDeed_71 : decode cX10_drawDeed 71 = .ok (.bipush 9, 2) := by decide +kernel
theorem dX10_drawDeed_73 : decode cX10_drawDeed 73 = .ok (.invokevirtual 131, 3) := by decide +kernel
theorem dX10_drawDeed_76 : decode cX10_drawDeed 76 = .ok (.iadd, 1) := by decide +kernel
theorem dX10_drawDeed_77 : decode cX10_drawDeed 77 = .ok (.invokevirtual 116, 3) := by decide +kernel
theorem dX10_drawDeed_80 : decode cX10_drawDeed 80 = .ok (.pop, 1) := by decide +kernel
theorem dX10_drawDeed_81 : decode cX10_drawDeed 81 = .ok (.goto 51, 3) := by decide +kernel
theorem dX10_drawDeed_84 : decode cX10_drawDeed 84 = .ok (.iload_n 1, 1) := by decide +kernel
theorem dX10_drawDeed_85 : decode cX10_drawDeed 85 = .ok (.iconst 2, 1) := by decide +kernel
theorem dX10_drawDeed_86 : decode cX10_drawDeed 86 = .ok (.if_icmp .ne 15, 3) := by decide +kernel
theorem dX10_drawDeed_89 : decode cX10_drawDeed 89 = .ok (.aload_n 0, 1) := by decide +kernel
theorem dX10_drawDeed_90 : decode cX10_drawDeed 90 = .ok (.iconst 2, 1) := by decide +kernel
theorem dX10_drawDeed_91 : decode cX10_drawDeed 91 = .ok (.iload_n 2, 1) := by decide +kernel
theorem dX10_drawDeed_92 : decode cX10_drawDeed 92 = .ok (.iconst (-1), 1) := by decide +kernel
theorem dX10_drawDeed_93 : decode cX10_drawDeed 93 = .ok (.iconst (-1), 1) := by decide +kernel
theorem dX10_drawDeed_94 : decode cX10_drawDeed 94 = .ok (.invokevirtual 116, 3) := by decide +kernel
theorem dX10_drawDeed_97 : decode cX10_drawDeed 97 = .ok (.pop, 1) := by decide +kernel
theorem dX10_drawDeed_98 : decode cX10_drawDeed 98 = .ok (.goto 34, 3) := by decide +kernel
theorem dX10_drawDeed_101 : decode cX10_drawDeed 101 = .ok (.iload_n 1, 1) := by decide +kernel
theorem dX10_drawDeed_102 : decode cX10_drawDeed 102 = .ok (.iconst 3, 1) := by decide +kernel
theorem dX10_drawDeed_103 : decode cX10_drawDeed 103 = .ok (.if_icmp .ne 15, 3) := by decide +kernel
theorem dX10_drawDeed_106 : decode cX10_drawDeed 106 = .ok (.aload_n 0, 1) := by decide +kernel
theorem dX10_drawDeed_107 : decode cX10_drawDeed 107 = .ok (.iconst 3, 1) := by decide +kernel
theorem dX10_drawDeed_108 : decode cX10_drawDeed 108 = .ok (.iload_n 2, 1) := by decide +kernel
theorem dX10_drawDeed_109 : decode cX10_drawDeed 109 = .ok (.iconst (-1), 1) := by decide +kernel
theorem dX10_drawDeed_110 : decode cX10_drawDeed 110 = .ok (.iconst (-1), 1) := by decide +kernel
theorem dX10_drawDeed_111 : decode cX10_drawDeed 111 = .ok (.invokevirtual 116, 3) := by decide +kernel
theorem dX10_drawDeed_114 : decode cX10_drawDeed 114 = .ok (.pop, 1) := by decide +kernel
theorem dX10_drawDeed_115 : decode cX10_drawDeed 115 = .ok (.goto 17, 3) := by decide +kernel
theorem dX10_drawDeed_118 : decode cX10_drawDeed 118 = .ok (.aload_n 0, 1) := by decide +kernel
theorem dX10_drawDeed_119 : decode cX10_drawDeed 119 = .ok (.iconst 1, 1) := by decide +kernel
theorem dX10_drawDeed_120 : decode cX10_drawDeed 120 = .ok (.iload_n 2, 1) := by decide +kernel
theorem dX10_drawDeed_121 : decode cX10_drawDeed 121 = .ok (.aload_n 0, 1) := by decide +kernel
theorem dX10_drawDeed_122 : decode cX10_drawDeed 122 = .ok (.bipush 10, 2) := by decide +kernel
theorem dX10_drawDeed_124 : decode cX10_drawDeed 124 = .ok (.invokevirtual 131, 3) := by decide +kernel
theorem dX10_drawDeed_127 : decode cX10_drawDeed 127 = .ok (.iconst (-1), 1) := by decide +kernel
theorem dX10_drawDeed_128 : decode cX10_drawDeed 128 = .ok (.invokevirtual 116, 3) := by decide +kernel
theorem dX10_drawDeed_131 : decode cX10_drawDeed 131 = .ok (.pop, 1) := by decide +kernel
theorem dX10_drawDeed_132 : decode cX10_drawDeed 132 = .ok (.return_, 1) := by decide +kernel
theorem dX10_tryDeed_0 : decode cX10_tryDeed 0 = .ok (.iload_n 1, 1) := by decide +kernel
theorem dX10_tryDeed_1 : decode cX10_tryDeed 1 = .ok (.tableswitch 68 0 4 #[35, 44, 51, 57, 63], 35) := by decide +kernel
theorem dX10_tryDeed_36 : decode cX10_tryDeed 36 = .ok (.aload_n 0, 1) := by decide +kernel
theorem dX10_tryDeed_37 : decode cX10_tryDeed 37 = .ok (.iload_n 2, 1) := by decide +kernel
theorem dX10_tryDeed_38 : decode cX10_tryDeed 38 = .ok (.iload_n 3, 1) := by decide +kernel
theorem dX10_tryDeed_39 : decode cX10_tryDeed 39 = .ok (.iload 4, 2) := by decide +kernel
theorem dX10_tryDeed_41 : decode cX10_tryDeed 41 = .ok (.invokevirtual 134, 3) := by decide +kernel
theorem dX10_tryDeed_44 : decode cX10_tryDeed 44 = .ok (.ireturn, 1) := by decide +kernel
theorem dX10_tryDeed_45 : decode cX10_tryDeed 45 = .ok (.aload_n 0, 1) := by decide +kernel
theorem dX10_tryDeed_46 : decode cX10_tryDeed 46 = .ok (.iload_n 2, 1) := by decide +kernel
theorem dX10_tryDeed_47 : decode cX10_tryDeed 47 = .ok (.iload_n 3, 1) := by decide +kernel
theorem dX10_tryDeed_48 : decode cX10_tryDeed 48 = .ok (.invokevirtual 138, 3) := by decide +kernel
theorem dX10_tryDeed_51 : decode cX10_tryDeed 51 = .ok (.ireturn, 1) := by decide +kernel
theorem dX10_tryDeed_52 : decode cX10_tryDeed 52 = .ok (.aload_n 0, 1) := by decide +kernel
theorem dX10_tryDeed_53 : decode cX10_tryDeed 53 = .ok (.iload_n 2, 1) := by decide +kernel
theorem dX10_tryDeed_54 : decode cX10_tryDeed 54 = .ok (.invokevirtual 142, 3) := by decide +kernel
theorem dX10_tryDeed_57 : decode cX10_tryDeed 57 = .ok (.ireturn, 1) := by decide +kernel
theorem dX10_tryDeed_58 : decode cX10_tryDeed 58 = .ok (.aload_n 0, 1) := by decide +kernel
theorem dX10_tryDeed_59 : decode cX10_tryDeed 59 = .ok (.iload_n 2, 1) := by decide +kernel
theorem dX10_tryDeed_60 : decode cX10_tryDeed 60 = .ok (.invokevirtual 146, 3) := by decide +kernel
theorem dX10_tryDeed_63 : decode cX10_tryDeed 63 = .ok (.ireturn, 1) := by decide +kernel
theorem dX10_tryDeed_64 : decode cX10_tryDeed 64 = .ok (.aload_n 0, 1) := by decide +kernel
theorem dX10_tryDeed_65 : decode cX10_tryDeed 65 = .ok (.invokevirtual 149, 3) := by decide +kernel
theorem dX10_tryDeed_68 : decode cX10_tryDeed 68 = .ok (.ireturn, 1) := by decide +kernel
theorem dX10_tryDeed_69 : decode cX10_tryDeed 69 = .ok (.iconst 0, 1) := by decide +kernel
theorem dX10_tryDeed_70 : decode cX10_tryDeed 70 = .ok (.ireturn, 1) := by decide +kernel
theorem dX10_hasFolk_0 : decode cX10_hasFolk 0 = .ok (.iload_n 1, 1) := by decide +kernel
theorem dX10_hasFolk_1 : decode cX10_hasFolk 1 = .ok (.ifCond .lt 21, 3) := by decide +kernel
theorem dX10_hasFolk_4 : decode cX10_hasFolk 4 = .ok (.iload_n 1, 1) := by decide +kernel
theorem dX10_hasFolk_5 : decode cX10_hasFolk 5 = .ok (.aload_n 0, 1) := by decide +kernel
theorem dX10_hasFolk_6 : decode cX10_hasFolk 6 = .ok (.getfield 63, 3) := by decide +kernel
theorem dX10_hasFolk_9 : decode cX10_hasFolk 9 = .ok (.if_icmp .ge 13, 3) := by decide +kernel
theorem dX10_hasFolk_12 : decode cX10_hasFolk 12 = .ok (.iload_n 1, 1) := by decide +kernel
theorem dX10_hasFolk_13 : decode cX10_hasFolk 13 = .ok (.bipush 10, 2) := by decide +kernel
theorem dX10_hasFolk_15 : decode cX10_hasFolk 15 = .ok (.if_icmp .ge 7, 3) := by decide +kernel
theorem dX10_hasFolk_18 : decode cX10_hasFolk 18 = .ok (.iconst 1, 1) := by decide +kernel
theorem dX10_hasFolk_19 : decode cX10_hasFolk 19 = .ok (.goto 4, 3) := by decide +kernel
theorem dX10_hasFolk_22 : decode cX10_hasFolk 22 = .ok (.iconst 0, 1) := by decide +kernel
theorem dX10_hasFolk_23 : decode cX10_hasFolk 23 = .ok (.ireturn, 1) := by decide +kernel
theorem dX10_hasWork_0 : decode cX10_hasWork 0 = .ok (.iload_n 1, 1) := by decide +kernel
theorem dX10_hasWork_1 : decode cX10_hasWork 1 = .ok (.ifCond .lt 21, 3) := by decide +kernel
theorem dX10_hasWork_4 : decode cX10_hasWork 4 = .ok (.iload_n 1, 1) := by decide +kernel
theorem dX10_hasWork_5 : decode cX10_hasWork 5 = .ok (.aload_n 0, 1) := by decide +kernel
theorem dX10_hasWork_6 : decode cX10_hasWork 6 = .ok (.getfield 67, 3) := by decide +kernel
theorem dX10_hasWork_9 : decode cX10_hasWork 9 = .ok (.if_icmp .ge 13, 3) := by decide +kernel
theorem dX10_hasWork_12 : decode cX10_hasWork 12 = .ok (.iload_n 1, 1) := by decide +kernel
theorem dX10_hasWork_13 : decode cX10_hasWork 13 = .ok (.bipush 6, 2) := by decide +kernel
theorem dX10_hasWork_15 : decode cX10_hasWork 15 = .ok (.if_icmp .ge 7, 3) := by decide +kernel
theorem dX10_hasWork_18 : decode cX10_hasWork 18 = .ok (.iconst 1, 1) := by decide +kernel
theorem dX10_hasWork_19 : decode cX10_hasWork 19 = .ok (.goto 4, 3) := by decide +kernel
theorem dX10_hasWork_22 : decode cX10_hasWork 22 = .ok (.iconst 0, 1) := by decide +kernel
theorem dX10_hasWork_23 : decode cX10_hasWork 23 = .ok (.ireturn, 1) := by decide +kernel
theorem dX10_hasPromise_0 : decode cX10_hasPromise 0 = .ok (.iload_n 1, 1) := by decide +kernel
theorem dX10_hasPromise_1 : decode cX10_hasPromise 1 = .ok (.ifCond .lt 21, 3) := by decide +kernel
theorem dX10_hasPromise_4 : decode cX10_hasPromise 4 = .ok (.iload_n 1, 1) := by decide +kernel
theorem dX10_hasPromise_5 : decode cX10_hasPromise 5 = .ok (.aload_n 0, 1) := by decide +kernel
theorem dX10_hasPromise_6 : decode cX10_hasPromise 6 = .ok (.getfield 78, 3) := by decide +kernel
theorem dX10_hasPromise_9 : decode cX10_hasPromise 9 = .ok (.if_icmp .ge 13, 3) := by decide +kernel
theorem dX10_hasPromise_12 : decode cX10_hasPromise 12 = .ok (.iload_n 1, 1) := by decide +kernel
theorem dX10_hasPromise_13 : decode cX10_hasPromise 13 = .ok (.bipush 12, 2) := by decide +kernel
theorem dX10_hasPromise_15 : decode cX10_hasPromise 15 = .ok (.if_icmp .ge 7, 3) := by decide +kernel
theorem dX10_hasPromise_18 : decode cX10_hasPromise 18 = .ok (.iconst 1, 1) := by decide +kernel
theorem dX10_hasPromise_19 : decode cX10_hasPromise 19 = .ok (.goto 4, 3) := by decide +kernel
theorem dX10_hasPromise_22 : decode cX10_hasPromise 22 = .ok (.iconst 0, 1) := by decide +kernel
theorem dX10_hasPromise_23 : decode cX10_hasPromise 23 = .ok (.ireturn, 1) := by decide +kernel
theorem dX10_lives_0 : decode cX10_lives 0 = .ok (.aload_n 0, 1) := by decide +kernel
theorem dX10_lives_1 : decode cX10_lives 1 = .ok (.iload_n 1, 1) := by decide +kernel
theorem dX10_lives_2 : decode cX10_lives 2 = .ok (.invokevirtual 153, 3) := by decide +kernel
theorem dX10_lives_5 : decode cX10_lives 5 = .ok (.ifCond .eq 18, 3) := by decide +kernel
theorem dX10_lives_8 : decode cX10_lives 8 = .ok (.aload_n 0, 1) := by decide +kernel
theorem dX10_lives_9 : decode cX10_lives 9 = .ok (.getfield 72, 3) := by decide +kernel
theorem dX10_lives_12 : decode cX10_lives 12 = .ok (.iload_n 1, 1) := by decide +kernel
theorem dX10_lives_13 : decode cX10_lives 13 = .ok (.ishr, 1) := by decide +kernel
theorem dX10_lives_14 : decode cX10_lives 14 = .ok (.iconst 1, 1) := by decide +kernel
theorem dX10_lives_15 : decode cX10_lives 15 = .ok (.iand, 1) := by decide +kernel
theorem dX10_lives_16 : decode cX10_lives 16 = .ok (.ifCond .eq 7, 3) := by decide +kernel
theorem dX10_lives_19 : decode cX10_lives 19 = .ok (.iconst 1, 1) := by decide +kernel
theorem dX10_lives_20 : decode cX10_lives 20 = .ok (.goto 4, 3) := by decide +kernel
theorem dX10_lives_23 : decode cX10_lives 23 = .ok (.iconst 0, 1) := by decide +kernel
theorem dX10_lives_24 : decode cX10_lives 24 = .ok (.ireturn, 1) := by decide +kernel
theorem dX10_isDone_0 : decode cX10_isDone 0 = .ok (.aload_n 0, 1) := by decide +kernel
theorem dX10_isDone_1 : decode cX10_isDone 1 = .ok (.iload_n 1, 1) := by decide +kernel
theorem dX10_isDone_2 : decode cX10_isDone 2 = .ok (.invokevirtual 156, 3) := by decide +kernel
theorem dX10_isDone_5 : decode cX10_isDone 5 = .ok (.ifCond .eq 22, 3) := by decide +kernel
theorem dX10_isDone_8 : decode cX10_isDone 8 = .ok (.aload_n 0, 1) := by decide +kernel
theorem dX10_isDone_9 : decode cX10_isDone 9 = .ok (.getfield 30, 3) := by decide +kernel
theorem dX10_isDone_12 : decode cX10_isDone 12 = .ok (.iload_n 1, 1) := by decide +kernel
theorem dX10_isDone_13 : decode cX10_isDone 13 = .ok (.iaload, 1) := by decide +kernel
theorem dX10_isDone_14 : decode cX10_isDone 14 = .ok (.aload_n 0, 1) := by decide +kernel
theorem dX10_isDone_15 : decode cX10_isDone 15 = .ok (.getfield 27, 3) := by decide +kernel
theorem dX10_isDone_18 : decode cX10_isDone 18 = .ok (.iload_n 1, 1) := by decide +kernel
theorem dX10_isDone_19 : decode cX10_isDone 19 = .ok (.iaload, 1) := by decide +kernel
theorem dX10_isDone_20 : decode cX10_isDone 20 = .ok (.if_icmp .lt 7, 3) := by decide +kernel
theorem dX10_isDone_23 : decode cX10_isDone 23 = .ok (.iconst 1, 1) := by decide +kernel
theorem dX10_isDone_24 : decode cX10_isDone 24 = .ok (.goto 4, 3) := by decide +kernel
theorem dX10_isDone_27 : decode cX10_isDone 27 = .ok (.iconst 0, 1) := by decide +kernel
theorem dX10_isDone_28 : decode cX10_isDone 28 = .ok (.ireturn, 1) := by decide +kernel
theorem dX10_dugAt_0 : decode cX10_dugAt 0 = .ok (.aload_n 0, 1) := by decide +kernel
theorem dX10_dugAt_1 : decode cX10_dugAt 1 = .ok (.iload_n 1, 1) := by decide +kernel
theorem dX10_dugAt_2 : decode cX10_dugAt 2 = .ok (.invokevirtual 156, 3) := by decide +kernel
theorem dX10_dugAt_5 : decode cX10_dugAt 5 = .ok (.ifCond .eq 12, 3) := by decide +kernel
theorem dX10_dugAt_8 : decode cX10_dugAt 8 = .ok (.aload_n 0, 1) := by decide +kernel
theorem dX10_dugAt_9 : decode cX10_dugAt 9 = .ok (.getfield 30, 3) := by decide +kernel
theorem dX10_dugAt_12 : decode cX10_dugAt 12 = .ok (.iload_n 1, 1) := by decide +kernel
theorem dX10_dugAt_13 : decode cX10_dugAt 13 = .ok (.iaload, 1) := by decide +kernel
theorem dX10_dugAt_14 : decode cX10_dugAt 14 = .ok (.goto 4, 3) := by decide +kernel
theorem dX10_dugAt_17 : decode cX10_dugAt 17 = .ok (.iconst 0, 1) := by decide +kernel
theorem dX10_dugAt_18 : decode cX10_dugAt 18 = .ok (.ireturn, 1) := by decide +kernel
theorem dX10_passYears_0 : decode cX10_passYears 0 = .ok (.iconst 0, 1) := by decide +kernel
theorem dX10_passYears_1 : decode cX10_passYears 1 = .ok (.istore_n 2, 1) := by decide +kernel
theorem dX10_passYears_2 : decode cX10_passYears 2 = .ok (.iload_n 2, 1) := by decide +kernel
theorem dX10_passYears_3 : decode cX10_passYears 3 = .ok (.iload_n 1, 1) := by decide +kernel
theorem dX10_passYears_4 : decode cX10_passYears 4 = .ok (.if_icmp .ge 20, 3) := by decide +kernel
theorem dX10_passYears_7 : decode cX10_passYears 7 = .ok (.iload_n 2, 1) := by decide +kernel
theorem dX10_passYears_8 : decode cX10_passYears 8 = .ok (.bipush 9, 2) := by decide +kernel
theorem dX10_passYears_10 : decode cX10_passYears 10 = .ok (.if_icmp .ge 14, 3) := by decide +kernel
theorem dX10_passYears_13 : decode cX10_passYears 13 = .ok (.aload_n 0, 1) := by decide +kernel
theorem dX10_passYears_14 : decode cX10_passYears 14 = .ok (.invokevirtual 149, 3) := by decide +kernel
theorem dX10_passYears_17 : decode cX10_passYears 17 = .ok (.pop, 1) := by decide +kernel
theorem dX10_passYears_18 : decode cX10_passYears 18 = .ok (.iinc 2 1, 3) := by decide +kernel
theorem dX10_passYears_21 : decode cX10_passYears 21 = .ok (.goto (-19), 3) := by decide +kernel
theorem dX10_passYears_24 : decode cX10_passYears 24 = .ok (.return_, 1) := by decide +kernel
theorem dX10_makePromise_0 : decode cX10_makePromise 0 = .ok (.aload_n 0, 1) := by decide +kernel
