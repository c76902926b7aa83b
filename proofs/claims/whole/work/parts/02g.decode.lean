theorem dX10_bell_122 : decode cX10_bell 122 = .ok (.getfield 49, 3) := by decide +kernel
theorem dX10_bell_125 : decode cX10_bell 125 = .ok (.iload 5, 2) := by decide +kernel
theorem dX10_bell_127 : decode cX10_bell 127 = .ok (.iaload, 1) := by decide +kernel
theorem dX10_bell_128 : decode cX10_bell 128 = .ok (.if_icmp .ge 7, 3) := by decide +kernel
theorem dX10_bell_131 : decode cX10_bell 131 = .ok (.iconst 1, 1) := by decide +kernel
theorem dX10_bell_132 : decode cX10_bell 132 = .ok (.goto 4, 3) := by decide +kernel
theorem dX10_bell_135 : decode cX10_bell 135 = .ok (.iconst 0, 1) := by decide +kernel
theorem dX10_bell_136 : decode cX10_bell 136 = .ok (.istore_n 2, 1) := by decide +kernel
theorem dX10_bell_137 : decode cX10_bell 137 = .ok (.aload_n 0, 1) := by decide +kernel
theorem dX10_bell_138 : decode cX10_bell 138 = .ok (.getfield 49, 3) := by decide +kernel
theorem dX10_bell_141 : decode cX10_bell 141 = .ok (.iload 5, 2) := by decide +kernel
theorem dX10_bell_143 : decode cX10_bell 143 = .ok (.iload 6, 2) := by decide +kernel
theorem dX10_bell_145 : decode cX10_bell 145 = .ok (.aload_n 0, 1) := by decide +kernel
theorem dX10_bell_146 : decode cX10_bell 146 = .ok (.getfield 49, 3) := by decide +kernel
theorem dX10_bell_149 : decode cX10_bell 149 = .ok (.iload 5, 2) := by decide +kernel
theorem dX10_bell_151 : decode cX10_bell 151 = .ok (.iaload, 1) := by decide +kernel
theorem dX10_bell_152 : decode cX10_bell 152 = .ok (.if_icmp .ge 8, 3) := by decide +kernel
theorem dX10_bell_155 : decode cX10_bell 155 = .ok (.iload 6, 2) := by decide +kernel
theorem dX10_bell_157 : decode cX10_bell 157 = .ok (.goto 10, 3) := by decide +kernel
theorem dX10_bell_160 : decode cX10_bell 160 = .ok (.aload_n 0, 1) := by decide +kernel
theorem dX10_bell_161 : decode cX10_bell 161 = .ok (.getfield 49, 3) := by decide +kernel
theorem dX10_bell_164 : decode cX10_bell 164 = .ok (.iload 5, 2) := by decide +kernel
theorem dX10_bell_166 : decode cX10_bell 166 = .ok (.iaload, 1) := by decide +kernel
theorem dX10_bell_167 : decode cX10_bell 167 = .ok (.iastore, 1) := by decide +kernel
theorem dX10_bell_168 : decode cX10_bell 168 = .ok (.iinc 3 1, 3) := by decide +kernel
theorem dX10_bell_171 : decode cX10_bell 171 = .ok (.goto (-117), 3) := by decide +kernel
theorem dX10_bell_174 : decode cX10_bell 174 = .ok (.goto (-128), 3) := by decide +kernel
theorem dX10_bell_177 : decode cX10_bell 177 = .ok (.bipush 40, 2) := by decide +kernel
theorem dX10_bell_179 : decode cX10_bell 179 = .ok (.aload_n 0, 1) := by decide +kernel
theorem dX10_bell_180 : decode cX10_bell 180 = .ok (.getfield 49, 3) := by decide +kernel
theorem dX10_bell_183 : decode cX10_bell 183 = .ok (.iload_n 1, 1) := by decide +kernel
theorem dX10_bell_184 : decode cX10_bell 184 = .ok (.iaload, 1) := by decide +kernel
theorem dX10_bell_185 : decode cX10_bell 185 = .ok (.isub, 1) := by decide +kernel
theorem dX10_bell_186 : decode cX10_bell 186 = .ok (.istore_n 3, 1) := by decide +kernel
theorem dX10_bell_187 : decode cX10_bell 187 = .ok (.iload_n 3, 1) := by decide +kernel
theorem dX10_bell_188 : decode cX10_bell 188 = .ok (.ifCond .ge 7, 3) := by decide +kernel
theorem dX10_bell_191 : decode cX10_bell 191 = .ok (.iconst 0, 1) := by decide +kernel
theorem dX10_bell_192 : decode cX10_bell 192 = .ok (.goto 4, 3) := by decide +kernel
theorem dX10_bell_195 : decode cX10_bell 195 = .ok (.iload_n 3, 1) := by decide +kernel
theorem dX10_bell_196 : decode cX10_bell 196 = .ok (.ireturn, 1) := by decide +kernel
theorem dX10_isInPath_0 : decode cX10_isInPath 0 = .ok (.iconst 0, 1) := by decide +kernel
theorem dX10_isInPath_1 : decode cX10_isInPath 1 = .ok (.istore_n 3, 1) := by decide +kernel
theorem dX10_isInPath_2 : decode cX10_isInPath 2 = .ok (.iconst 0, 1) := by decide +kernel
theorem dX10_isInPath_3 : decode cX10_isInPath 3 = .ok (.istore 4, 2) := by decide +kernel
theorem dX10_isInPath_5 : decode cX10_isInPath 5 = .ok (.iload 4, 2) := by decide +kernel
theorem dX10_isInPath_7 : decode cX10_isInPath 7 = .ok (.iload_n 2, 1) := by decide +kernel
theorem dX10_isInPath_8 : decode cX10_isInPath 8 = .ok (.if_icmp .ge 30, 3) := by decide +kernel
theorem dX10_isInPath_11 : decode cX10_isInPath 11 = .ok (.iload_n 3, 1) := by decide +kernel
theorem dX10_isInPath_12 : decode cX10_isInPath 12 = .ok (.ifCond .ne 14, 3) := by decide +kernel
theorem dX10_isInPath_15 : decode cX10_isInPath 15 = .ok (.aload_n 0, 1) := by decide +kernel
theorem dX10_isInPath_16 : decode cX10_isInPath 16 = .ok (.getfield 55, 3) := by decide +kernel
theorem dX10_isInPath_19 : decode cX10_isInPath 19 = .ok (.iload 4, 2) := by decide +kernel
theorem dX10_isInPath_21 : decode cX10_isInPath 21 = .ok (.iaload, 1) := by decide +kernel
theorem dX10_isInPath_22 : decode cX10_isInPath 22 = .ok (.iload_n 1, 1) := by decide +kernel
theorem dX10_isInPath_23 : decode cX10_isInPath 23 = .ok (.if_icmp .ne 7, 3) := by decide +kernel
theorem dX10_isInPath_26 : decode cX10_isInPath 26 = .ok (.iconst 1, 1) := by decide +kernel
theorem dX10_isInPath_27 : decode cX10_isInPath 27 = .ok (.goto 4, 3) := by decide +kernel
theorem dX10_isInPath_30 : decode cX10_isInPath 30 = .ok (.iconst 0, 1) := by decide +kernel
theorem dX10_isInPath_31 : decode cX10_isInPath 31 = .ok (.istore_n 3, 1) := by decide +kernel
theorem dX10_isInPath_32 : decode cX10_isInPath 32 = .ok (.iinc 4 1, 3) := by decide +kernel
theorem dX10_isInPath_35 : decode cX10_isInPath 35 = .ok (.goto (-30), 3) := by decide +kernel
theorem dX10_isInPath_38 : decode cX10_isInPath 38 = .ok (.iload_n 3, 1) := by decide +kernel
theorem dX10_isInPath_39 : decode cX10_isInPath 39 = .ok (.ireturn, 1) := by decide +kernel
theorem dX10_isPathRound_0 : decode cX10_isPathRound 0 = .ok (.iload_n 1, 1) := by decide +kernel
theorem dX10_isPathRound_1 : decode cX10_isPathRound 1 = .ok (.iconst 4, 1) := by decide +kernel
theorem dX10_isPathRound_2 : decode cX10_isPathRound 2 = .ok (.if_icmp .lt 27, 3) := by decide +kernel
theorem dX10_isPathRound_5 : decode cX10_isPathRound 5 = .ok (.aload_n 0, 1) := by decide +kernel
theorem dX10_isPathRound_6 : decode cX10_isPathRound 6 = .ok (.getfield 55, 3) := by decide +kernel
theorem dX10_isPathRound_9 : decode cX10_isPathRound 9 = .ok (.iload_n 1, 1) := by decide +kernel
theorem dX10_isPathRound_10 : decode cX10_isPathRound 10 = .ok (.iconst 1, 1) := by decide +kernel
theorem dX10_isPathRound_11 : decode cX10_isPathRound 11 = .ok (.isub, 1) := by decide +kernel
theorem dX10_isPathRound_12 : decode cX10_isPathRound 12 = .ok (.iaload, 1) := by decide +kernel
theorem dX10_isPathRound_13 : decode cX10_isPathRound 13 = .ok (.aload_n 0, 1) := by decide +kernel
theorem dX10_isPathRound_14 : decode cX10_isPathRound 14 = .ok (.getfield 55, 3) := by decide +kernel
theorem dX10_isPathRound_17 : decode cX10_isPathRound 17 = .ok (.iconst 0, 1) := by decide +kernel
theorem dX10_isPathRound_18 : decode cX10_isPathRound 18 = .ok (.iaload, 1) := by decide +kernel
theorem dX10_isPathRound_19 : decode cX10_isPathRound 19 = .ok (.invokestatic 90, 3) := by decide +kernel
theorem dX10_isPathRound_22 : decode cX10_isPathRound 22 = .ok (.ifCond .lt 7, 3) := by decide +kernel
theorem dX10_isPathRound_25 : decode cX10_isPathRound 25 = .ok (.iconst 1, 1) := by decide +kernel
theorem dX10_isPathRound_26 : decode cX10_isPathRound 26 = .ok (.goto 4, 3) := by decide +kernel
theorem dX10_isPathRound_29 : decode cX10_isPathRound 29 = .ok (.iconst 0, 1) := by decide +kernel
theorem dX10_isPathRound_30 : decode cX10_isPathRound 30 = .ok (.ireturn, 1) := by decide +kernel
theorem dX10_hasPair_0 : decode cX10_hasPair 0 = .ok (.iconst 0, 1) := by decide +kernel
theorem dX10_hasPair_1 : decode cX10_hasPair 1 = .ok (.istore_n 3, 1) := by decide +kernel
theorem dX10_hasPair_2 : decode cX10_hasPair 2 = .ok (.iconst 0, 1) := by decide +kernel
theorem dX10_hasPair_3 : decode cX10_hasPair 3 = .ok (.istore 4, 2) := by decide +kernel
theorem dX10_hasPair_5 : decode cX10_hasPair 5 = .ok (.iload 4, 2) := by decide +kernel
theorem dX10_hasPair_7 : decode cX10_hasPair 7 = .ok (.iconst 1, 1) := by decide +kernel
theorem dX10_hasPair_8 : decode cX10_hasPair 8 = .ok (.iadd, 1) := by decide +kernel
theorem dX10_hasPair_9 : decode cX10_hasPair 9 = .ok (.iload_n 2, 1) := by decide +kernel
theorem dX10_hasPair_10 : decode cX10_hasPair 10 = .ok (.if_icmp .ge 52, 3) := by decide +kernel
theorem dX10_hasPair_13 : decode cX10_hasPair 13 = .ok (.iload_n 3, 1) := by decide +kernel
theorem dX10_hasPair_14 : decode cX10_hasPair 14 = .ok (.ifCond .ne 36, 3) := by decide +kernel
theorem dX10_hasPair_17 : decode cX10_hasPair 17 = .ok (.aload_n 0, 1) := by decide +kernel
theorem dX10_hasPair_18 : decode cX10_hasPair 18 = .ok (.getfield 55, 3) := by decide +kernel
theorem dX10_hasPair_21 : decode cX10_hasPair 21 = .ok (.iload 4, 2) := by decide +kernel
theorem dX10_hasPair_23 : decode cX10_hasPair 23 = .ok (.iaload, 1) := by decide +kernel
theorem dX10_hasPair_24 : decode cX10_hasPair 24 = .ok (.aload_n 0, 1) := by decide +kernel
theorem dX10_hasPair_25 : decode cX10_hasPair 25 = .ok (.getfield 55, 3) := by decide +kernel
theorem dX10_hasPair_28 : decode cX10_hasPair 28 = .ok (.iload 4, 2) := by decide +kernel
theorem dX10_hasPair_30 : decode cX10_hasPair 30 = .ok (.iaload, 1) := by decide +kernel
theorem dX10_hasPair_31 : decode cX10_hasPair 31 = .ok (.aload_n 0, 1) := by decide +kernel
theorem dX10_hasPair_32 : decode cX10_hasPair 32 = .ok (.getfield 55, 3) := by decide +kernel
theorem dX10_hasPair_35 : decode cX10_hasPair 35 = .ok (.iload 4, 2) := by decide +kernel
theorem dX10_hasPair_37 : decode cX10_hasPair 37 = .ok (.iconst 1, 1) := by decide +kernel
theorem dX10_hasPair_38 : decode cX10_hasPair 38 = .ok (.iadd, 1) := by decide +kernel
theorem dX10_hasPair_39 : decode cX10_hasPair 39 = .ok (.iaload, 1) := by decide +kernel
theorem dX10_hasPair_40 : decode cX10_hasPair 40 = .ok (.invokestatic 90, 3) := by decide +kernel
theorem dX10_hasPair_43 : decode cX10_hasPair 43 = .ok (.invokestatic 97, 3) := by decide +kernel
theorem dX10_hasPair_46 : decode cX10_hasPair 46 = .ok (.iload_n 1, 1) := by decide +kernel
theorem dX10_hasPair_47 : decode cX10_hasPair 47 = .ok (.if_icmp .ne 7, 3) := by decide +kernel
theorem dX10_hasPair_50 : decode cX10_hasPair 50 = .ok (.iconst 1, 1) := by decide +kernel
theorem dX10_hasPair_51 : decode cX10_hasPair 51 = .ok (.goto 4, 3) := by decide +kernel
theorem dX10_hasPair_54 : decode cX10_hasPair 54 = .ok (.iconst 0, 1) := by decide +kernel
theorem dX10_hasPair_55 : decode cX10_hasPair 55 = .ok (.istore_n 3, 1) := by decide +kernel
theorem dX10_hasPair_56 : decode cX10_hasPair 56 = .ok (.iinc 4 1, 3) := by decide +kernel
theorem dX10_hasPair_59 : decode cX10_hasPair 59 = .ok (.goto (-54), 3) := by decide +kernel
theorem dX10_hasPair_62 : decode cX10_hasPair 62 = .ok (.iload_n 3, 1) := by decide +kernel
theorem dX10_hasPair_63 : decode cX10_hasPair 63 = .ok (.ifCond .ne 43, 3) := by decide +kernel
theorem dX10_hasPair_66 : decode cX10_hasPair 66 = .ok (.aload_n 0, 1) := by decide +kernel
theorem dX10_hasPair_67 : decode cX10_hasPair 67 = .ok (.iload_n 2, 1) := by decide +kernel
theorem dX10_hasPair_68 : decode cX10_hasPair 68 = .ok (.invokevirtual 228, 3) := by decide +kernel
theorem dX10_hasPair_71 : decode cX10_hasPair 71 = .ok (.ifCond .eq 39, 3) := by decide +kernel
theorem dX10_hasPair_74 : decode cX10_hasPair 74 = .ok (.aload_n 0, 1) := by decide +kernel
theorem dX10_hasPair_75 : decode cX10_hasPair 75 = .ok (.getfield 55, 3) := by decide +kernel
theorem dX10_hasPair_78 : decode cX10_hasPair 78 = .ok (.iload_n 2, 1) := by decide +kernel
theorem dX10_hasPair_79 : decode cX10_hasPair 79 = .ok (.iconst 1, 1) := by decide +kernel
theorem dX10_hasPair_80 : decode cX10_hasPair 80 = .ok (.isub, 1) := by decide +kernel
theorem dX10_hasPair_81 : decode cX10_hasPair 81 = .ok (.iaload, 1) := by decide +kernel
theorem dX10_hasPair_82 : decode cX10_hasPair 82 = .ok (.aload_n 0, 1) := by decide +kernel
theorem dX10_hasPair_83 : decode cX10_hasPair 83 = .ok (.getfield 55, 3) := by decide +kernel
theorem dX10_hasPair_86 : decode cX10_hasPair 86 = .ok (.iload_n 2, 1) := by decide +kernel
theorem dX10_hasPair_87 : decode cX10_hasPair 87 = .ok (.iconst 1, 1) := by decide +kernel
theorem dX10_hasPair_88 : decode cX10_hasPair 88 = .ok (.isub, 1) := by decide +kernel
theorem dX10_hasPair_89 : decode cX10_hasPair 89 = .ok (.iaload, 1) := by decide +kernel
theorem dX10_hasPair_90 : decode cX10_hasPair 90 = .ok (.aload_n 0, 1) := by decide +kernel
theorem dX10_hasPair_91 : decode cX10_hasPair 91 = .ok (.getfield 55, 3) := by decide +kernel
theorem dX10_hasPair_94 : decode cX10_hasPair 94 = .ok (.iconst 0, 1) := by decide +kernel
theorem dX10_hasPair_95 : decode cX10_hasPair 95 = .ok (.iaload, 1) := by decide +kernel
theorem dX10_hasPair_96 : decode cX10_hasPair 96 = .ok (.invokestatic 90, 3) := by decide +kernel
theorem dX10_hasPair_99 : decode cX10_hasPair 99 = .ok (.invokestatic 97, 3) := by decide +kernel
theorem dX10_hasPair_102 : decode cX10_hasPair 102 = .ok (.iload_n 1, 1) := by decide +kernel
theorem dX10_hasPair_103 : decode cX10_hasPair 103 = .ok (.if_icmp .ne 7, 3) := by decide +kernel
theorem dX10_hasPair_106 : decode cX10_hasPair 106 = .ok (.iconst 1, 1) := by decide +kernel
theorem dX10_hasPair_107 : decode cX10_hasPair 107 = .ok (.goto 4, 3) := by decide +kernel
theorem dX10_hasPair_110 : decode cX10_hasPair 110 = .ok (.iconst 0, 1) := by decide +kernel
theorem dX10_hasPair_111 : decode cX10_hasPair 111 = .ok (.ireturn, 1) := by decide +kernel
theorem dX10_fits_0 : decode cX10_fits 0 = .ok (.iconst 1, 1) := by decide +kernel
theorem dX10_fits_1 : decode cX10_fits 1 = .ok (.istore_n 2, 1) := by decide +kernel
theorem dX10_fits_2 : decode cX10_fits 2 = .ok (.iconst 0, 1) := by decide +kernel
theorem dX10_fits_3 : decode cX10_fits 3 = .ok (.istore_n 3, 1) := by decide +kernel
theorem dX10_fits_4 : decode cX10_fits 4 = .ok (.iload_n 3, 1) := by decide +kernel
theorem dX10_fits_5 : decode cX10_fits 5 = .ok (.aload_n 0, 1) := by decide +kernel
theorem dX10_fits_6 : decode cX10_fits 6 = .ok (.getfield 130, 3) := by decide +kernel
theorem dX10_fits_9 : decode cX10_fits 9 = .ok (.if_icmp .ge 48, 3) := by decide +kernel
theorem dX10_fits_12 : decode cX10_fits 12 = .ok (.iload_n 2, 1) := by decide +kernel
theorem dX10_fits_13 : decode cX10_fits 13 = .ok (.ifCond .eq 44, 3) := by decide +kernel
theorem dX10_fits_16 : decode cX10_fits 16 = .ok (.aload_n 0, 1) := by decide +kernel
theorem dX10_fits_17 : decode cX10_fits 17 = .ok (.aload_n 0, 1) := by decide +kernel
theorem dX10_fits_18 : decode cX10_fits 18 = .ok (.getfield 25, 3) := by decide +kernel
theorem dX10_fits_21 : decode cX10_fits 21 = .ok (.iload_n 3, 1) := by decide +kernel
theorem dX10_fits_22 : decode cX10_fits 22 = .ok (.iaload, 1) := by decide +kernel
theorem dX10_fits_23 : decode cX10_fits 23 = .ok (.iload_n 1, 1) := by decide +kernel
theorem dX10_fits_24 : decode cX10_fits 24 = .ok (.invokevirtual 231, 3) := by decide +kernel
theorem dX10_fits_27 : decode cX10_fits 27 = .ok (.aload_n 0, 1) := by decide +kernel
theorem dX10_fits_28 : decode cX10_fits 28 = .ok (.getfield 28, 3) := by decide +kernel
theorem dX10_fits_31 : decode cX10_fits 31 = .ok (.iload_n 3, 1) := by decide +kernel
theorem dX10_fits_32 : decode cX10_fits 32 = .ok (.iaload, 1) := by decide +kernel
theorem dX10_fits_33 : decode cX10_fits 33 = .ok (.iconst 1, 1) := by decide +kernel
theorem dX10_fits_34 : decode cX10_fits 34 = .ok (.if_icmp .ne 7, 3) := by decide +kernel
theorem dX10_fits_37 : decode cX10_fits 37 = .ok (.iconst 1, 1) := by decide +kernel
theorem dX10_fits_38 : decode cX10_fits 38 = .ok (.goto 4, 3) := by decide +kernel
theorem dX10_fits_41 : decode cX10_fits 41 = .ok (.iconst 0, 1) := by decide +kernel
theorem dX10_fits_42 : decode cX10_fits 42 = .ok (.if_icmp .ne 7, 3) := by decide +kernel
theorem dX10_fits_45 : decode cX10_fits 45 = .ok (.iconst 1, 1) := by decide +kernel
theorem dX10_fits_46 : decode cX10_fits 46 = .ok (.goto 4, 3) := by decide +kernel
theorem dX10_fits_49 : decode cX10_fits 49 = .ok (.iconst 0, 1) := by decide +kernel
theorem dX10_fits_50 : decode cX10_fits 50 = .ok (.istore_n 2, 1) := by decide +kernel
theorem dX10_fits_51 : decode cX10_fits 51 = .ok (.iinc 3 1, 3) := by decide +kernel
theorem dX10_fits_54 : decode cX10_fits 54 = .ok (.goto (-50), 3) := by decide +kernel
theorem dX10_fits_57 : decode cX10_fits 57 = .ok (.iload_n 2, 1) := by decide +kernel
theorem dX10_fits_58 : decode cX10_fits 58 = .ok (.ireturn, 1) := by decide +kernel
theorem dX10_judge_0 : decode cX10_judge 0 = .ok (.iconst 0, 1) := by decide +kernel
theorem dX10_judge_1 : decode cX10_judge 1 = .ok (.istore_n 2, 1) := by decide +kernel
theorem dX10_judge_2 : decode cX10_judge 2 = .ok (.iload_n 2, 1) := by decide +kernel
theorem dX10_judge_3 : decode cX10_judge 3 = .ok (.iload_n 1, 1) := by decide +kernel
theorem dX10_judge_4 : decode cX10_judge 4 = .ok (.if_icmp .ge 89, 3) := by decide +kernel
theorem dX10_judge_7 : decode cX10_judge 7 = .ok (.aload_n 0, 1) := by decide +kernel
theorem dX10_judge_8 : decode cX10_judge 8 = .ok (.getfield 55, 3) := by decide +kernel
theorem dX10_judge_11 : decode cX10_judge 11 = .ok (.iload_n 2, 1) := by decide +kernel
theorem dX10_judge_12 : decode cX10_judge 12 = .ok (.iaload, 1) := by decide +kernel
theorem dX10_judge_13 : decode cX10_judge 13 = .ok (.aload_n 0, 1) := by decide +kernel
theorem dX10_judge_14 : decode cX10_judge 14 = .ok (.getfield 22, 3) := by decide +kernel
theorem dX10_judge_17 : decode cX10_judge 17 = .ok (.iconst 1, 1) := by decide +kernel
theorem dX10_judge_18 : decode cX10_judge 18 = .ok (.iaload, 1) := by decide +kernel
theorem dX10_judge_19 : decode cX10_judge 19 = .ok (.if_icmp .ne 68, 3) := by decide +kernel
theorem dX10_judge_22 : decode cX10_judge 22 = .ok (.aload_n 0, 1) := by decide +kernel
theorem dX10_judge_23 : decode cX10_judge 23 = .ok (.iload_n 1, 1) := by decide +kernel
theorem dX10_judge_24 : decode cX10_judge 24 = .ok (.invokevirtual 228, 3) := by decide +kernel
theorem dX10_judge_27 : decode cX10_judge 27 = .ok (.ifCond .eq 16, 3) := by decide +kernel
theorem dX10_judge_30 : decode cX10_judge 30 = .ok (.iload_n 1, 1) := by decide +kernel
theorem dX10_judge_31 : decode cX10_judge 31 = .ok (.iload_n 2, 1) := by decide +kernel
theorem dX10_judge_32 : decode cX10_judge 32 = .ok (.isub, 1) := by decide +kernel
theorem dX10_judge_33 : decode cX10_judge 33 = .ok (.iload_n 2, 1) := by decide +kernel
theorem dX10_judge_34 : decode cX10_judge 34 = .ok (.if_icmp .ge 9, 3) := by decide +kernel
theorem dX10_judge_37 : decode cX10_judge 37 = .ok (.iload_n 1, 1) := by decide +kernel
theorem dX10_judge_38 : decode cX10_judge 38 = .ok (.iload_n 2, 1) := by decide +kernel
theorem dX10_judge_39 : decode cX10_judge 39 = .ok (.isub, 1) := by decide +kernel
theorem dX10_judge_40 : decode cX10_judge 40 = .ok (.goto 4, 3) := by decide +kernel
theorem dX10_judge_43 : decode cX10_judge 43 = .ok (.iload_n 2, 1) := by decide +kernel
theorem dX10_judge_44 : decode cX10_judge 44 = .ok (.istore_n 3, 1) := by decide +kernel
theorem dX10_judge_45 : decode cX10_judge 45 = .ok (.iload_n 3, 1) := by decide +kernel
theorem dX10_judge_46 : decode cX10_judge 46 = .ok (.aload_n 0, 1) := by decide +kernel
theorem dX10_judge_47 : decode cX10_judge 47 = .ok (.getfield 234, 3) := by decide +kernel
theorem dX10_judge_50 : decode cX10_judge 50 = .ok (.if_icmp .le 37, 3) := by decide +kernel
theorem dX10_judge_53 : decode cX10_judge 53 = .ok (.aload_n 0, 1) := by decide +kernel
theorem dX10_judge_54 : decode cX10_judge 54 = .ok (.iload_n 3, 1) := by decide +kernel
theorem dX10_judge_55 : decode cX10_judge 55 = .ok (.putfield 234, 3) := by decide +kernel
theorem dX10_judge_58 : decode cX10_judge 58 = .ok (.iconst 0, 1) := by decide +kernel
theorem dX10_judge_59 : decode cX10_judge 59 = .ok (.istore 4, 2) := by decide +kernel
theorem dX10_judge_61 : decode cX10_judge 61 = .ok (.iload 4, 2) := by decide +kernel
theorem dX10_judge_63 : decode cX10_judge 63 = .ok (.iload_n 1, 1) := by decide +kernel
theorem dX10_judge_64 : decode cX10_judge 64 = .ok (.if_icmp .ge 23, 3) := by decide +kernel
theorem dX10_judge_67 : decode cX10_judge 67 = .ok (.aload_n 0, 1) := by decide +kernel
theorem dX10_judge_68 : decode cX10_judge 68 = .ok (.getfield 61, 3) := by decide +kernel
theorem dX10_judge_71 : decode cX10_judge 71 = .ok (.iload 4, 2) := by decide +kernel
theorem dX10_judge_73 : decode cX10_judge 73 = .ok (.aload_n 0, 1) := by decide +kernel
theorem dX10_judge_74 : decode cX10_judge 74 = .ok (.getfield 55, 3) := by decide +kernel
theorem dX10_judge_77 : decode cX10_judge 77 = .ok (.iload 4, 2) := by decide +kernel
theorem dX10_judge_79 : decode cX10_judge 79 = .ok (.iaload, 1) := by decide +kernel
theorem dX10_judge_80 : decode cX10_judge 80 = .ok (.iastore, 1) := by decide +kernel
theorem dX10_judge_81 : decode cX10_judge 81 = .ok (.iinc 4 1, 3) := by decide +kernel
theorem dX10_judge_84 : decode cX10_judge 84 = .ok (.goto (-23), 3) := by decide +kernel
theorem dX10_judge_87 : decode cX10_judge 87 = .ok (.iinc 2 1, 3) := by decide +kernel
theorem dX10_judge_90 : decode cX10_judge 90 = .ok (.goto (-88), 3) := by decide +kernel
theorem dX10_judge_93 : decode cX10_judge 93 = .ok (.return_, 1) := by decide +kernel
theorem dX10_findFits_0 : decode cX10_findFits 0 = .ok (.iconst 0, 1) := by decide +kernel
theorem dX10_findFits_1 : decode cX10_findFits 1 = .ok (.istore_n 3, 1) := by decide +kernel
theorem dX10_findFits_2 : decode cX10_findFits 2 = .ok (.iconst 0, 1) := by decide +kernel
theorem dX10_findFits_3 : decode cX10_findFits 3 = .ok (.istore 4, 2) := by decide +kernel
theorem dX10_findFits_5 : decode cX10_findFits 5 = .ok (.aload_n 0, 1) := by decide +kernel
theorem dX10_findFits_6 : decode cX10_findFits 6 = .ok (.iconst (-1), 1) := by decide +kernel
theorem dX10_findFits_7 : decode cX10_findFits 7 = .ok (.putfield 234, 3) := by decide +kernel
theorem dX10_findFits_10 : decode cX10_findFits 10 = .ok (.aload_n 0, 1) := by decide +kernel
theorem dX10_findFits_11 : decode cX10_findFits 11 = .ok (.getfield 55, 3) := by decide +kernel
theorem dX10_findFits_14 : decode cX10_findFits 14 = .ok (.iconst 0, 1) := by decide +kernel
theorem dX10_findFits_15 : decode cX10_findFits 15 = .ok (.iload_n 1, 1) := by decide +kernel
theorem dX10_findFits_16 : decode cX10_findFits 16 = .ok (.iastore, 1) := by decide +kernel
theorem dX10_findFits_17 : decode cX10_findFits 17 = .ok (.aload_n 0, 1) := by decide +kernel
theorem dX10_findFits_18 : decode cX10_findFits 18 = .ok (.getfield 58, 3) := by decide +kernel
theorem dX10_findFits_21 : decode cX10_findFits 21 = .ok (.iconst 0, 1) := by decide +kernel
theorem dX10_findFits_22 : decode cX10_findFits 22 = .ok (.iconst (-1), 1) := by decide +kernel
theorem dX10_findFits_23 : decode cX10_findFits 23 = .ok (.iastore, 1) := by decide +kernel
theorem dX10_findFits_24 : decode cX10_findFits 24 = .ok (.iload 4, 2) := by decide +kernel
theorem dX10_findFits_26 : decode cX10_findFits 26 = .ok (.ifCond .lt 123, 3) := by decide +kernel
theorem dX10_findFits_29 : decode cX10_findFits 29 = .ok (.aload_n 0, 1) := by decide +kernel
theorem dX10_findFits_30 : decode cX10_findFits 30 = .ok (.getfield 58, 3) := by decide +kernel
theorem dX10_findFits_33 : decode cX10_findFits 33 = .ok (.iload 4, 2) := by decide +kernel
theorem dX10_findFits_35 : decode cX10_findFits 35 = .ok (.dup2, 1) := by decide +kernel
theorem dX10_findFits_36 : decode cX10_findFits 36 = .ok (.iaload, 1) := by decide +kernel
theorem dX10_findFits_37 : decode cX10_findFits 37 = .ok (.iconst 1, 1) := by decide +kernel
theorem dX10_findFits_38 : decode cX10_findFits 38 = .ok (.iadd, 1) := by decide +kernel
theorem dX10_findFits_39 : decode cX10_findFits 39 = .ok (.iastore, 1) := by decide +kernel
theorem dX10_findFits_40 : decode cX10_findFits 40 = .ok (.aload_n 0, 1) := by decide +kernel
theorem dX10_findFits_41 : decode cX10_findFits 41 = .ok (.getfield 58, 3) := by decide +kernel
theorem dX10_findFits_44 : decode cX10_findFits 44 = .ok (.iload 4, 2) := by decide +kernel
theorem dX10_findFits_46 : decode cX10_findFits 46 = .ok (.iaload, 1) := by decide +kernel
theorem dX10_findFits_47 : decode cX10_findFits 47 = .ok (.iconst 4, 1) := by decide +kernel
theorem dX10_findFits_48 : decode cX10_findFits 48 = .ok (.if_icmp .ne 9, 3) := by decide +kernel
theorem dX10_findFits_51 : decode cX10_findFits 51 = .ok (.iinc 4 (-1), 3) := by decide +kernel
theorem dX10_findFits_54 : decode cX10_findFits 54 = .ok (.goto (-30), 3) := by decide +kernel
theorem dX10_findFits_57 : decode cX10_findFits 57 = .ok (.aload_n 0, 1) := by decide +kernel
theorem dX10_findFits_58 : decode cX10_findFits 58 = .ok (.getfield 55, 3) := by decide +kernel
theorem dX10_findFits_61 : decode cX10_findFits 61 = .ok (.iload 4, 2) := by decide +kernel
theorem dX10_findFits_63 : decode cX10_findFits 63 = .ok (.iaload, 1) := by decide +kernel
theorem dX10_findFits_64 : decode cX10_findFits 64 = .ok (.aload_n 0, 1) := by decide +kernel
theorem dX10_findFits_65 : decode cX10_findFits 65 = .ok (.getfield 58, 3) := by decide +kernel
theorem dX10_findFits_68 : decode cX10_findFits 68 = .ok (.iload 4, 2) := by decide +kernel
theorem dX10_findFits_70 : decode cX10_findFits 70 = .ok (.iaload, 1) := by decide +kernel
theorem dX10_findFits_71 : decode cX10_findFits 71 = .ok (.invokestatic 82, 3) := by decide +kernel
theorem dX10_findFits_74 : decode cX10_findFits 74 = .ok (.istore 5, 2) := by decide +kernel
theorem dX10_findFits_76 : decode cX10_findFits 76 = .ok (.iload 5, 2) := by decide +kernel
theorem dX10_findFits_78 : decode cX10_findFits 78 = .ok (.ifCond .lt (-54), 3) := by decide +kernel
theorem dX10_findFits_81 : decode cX10_findFits 81 = .ok (.aload_n 0, 1) := by decide +kernel
theorem dX10_findFits_82 : decode cX10_findFits 82 = .ok (.iload 5, 2) := by decide +kernel
theorem dX10_findFits_84 : decode cX10_findFits 84 = .ok (.iload 4, 2) := by decide +kernel
theorem dX10_findFits_86 : decode cX10_findFits 86 = .ok (.iconst 1, 1) := by decide +kernel
theorem dX10_findFits_87 : decode cX10_findFits 87 = .ok (.iadd, 1) := by decide +kernel
theorem dX10_findFits_88 : decode cX10_findFits 88 = .ok (.invokevirtual 237, 3) := by decide +kernel
theorem dX10_findFits_91 : decode cX10_findFits 91 = .ok (.ifCond .eq 6, 3) := by decide +kernel
theorem dX10_findFits_94 : decode cX10_findFits 94 = .ok (.goto (-70), 3) := by decide +kernel
theorem dX10_findFits_97 : decode cX10_findFits 97 = .ok (.aload_n 0, 1) := by decide +kernel
theorem dX10_findFits_98 : decode cX10_findFits 98 = .ok (.getfield 55, 3) := by decide +kernel
theorem dX10_findFits_101 : decode cX10_findFits 101 = .ok (.iload 4, 2) := by decide +kernel
theorem dX10_findFits_103 : decode cX10_findFits 103 = .ok (.iconst 1, 1) := by decide +kernel
theorem dX10_findFits_104 : decode cX10_findFits 104 = .ok (.iadd, 1) := by decide +kernel
theorem dX10_findFits_105 : decode cX10_findFits 105 = .ok (.iload 5, 2) := by decide +kernel
theorem dX10_findFits_107 : decode cX10_findFits 107 = .ok (.iastore, 1) := by decide +kernel
theorem dX10_findFits_108 : decode cX10_findFits 108 = .ok (.iload 4, 2) := by decide +kernel
theorem dX10_findFits_110 : decode cX10_findFits 110 = .ok (.iconst 2, 1) := by decide +kernel
theorem dX10_findFits_111 : decode cX10_findFits 111 = .ok (.iadd, 1) := by decide +kernel
theorem dX10_findFits_112 : decode cX10_findFits 112 = .ok (.iload_n 2, 1) := by decide +kernel
theorem dX10_findFits_113 : decode cX10_findFits 113 = .ok (.if_icmp .ge 17, 3) := by decide +kernel
theorem dX10_findFits_116 : decode cX10_findFits 116 = .ok (.iinc 4 1, 3) := by decide +kernel
theorem dX10_findFits_119 : decode cX10_findFits 119 = .ok (.aload_n 0, 1) := by decide +kernel
theorem dX10_findFits_120 : decode cX10_findFits 120 = .ok (.getfield 58, 3) := by decide +kernel
theorem dX10_findFits_123 : decode cX10_findFits 123 = .ok (.iload 4, 2) := by decide +kernel
theorem dX10_findFits_125 : decode cX10_findFits 125 = .ok (.iconst (-1), 1) := by decide +kernel
theorem dX10_findFits_126 : decode cX10_findFits 126 = .ok (.iastore, 1) := by decide +kernel
theorem dX10_findFits_127 : decode cX10_findFits 127 = .ok (.goto 19, 3) := by decide +kernel
theorem dX10_findFits_130 : decode cX10_findFits 130 = .ok (.aload_n 0, 1) := by decide +kernel
theorem dX10_findFits_131 : decode cX10_findFits 131 = .ok (.iload_n 2, 1) := by decide +kernel
theorem dX10_findFits_132 : decode cX10_findFits 132 = .ok (.invokevirtual 240, 3) := by decide +kernel
theorem dX10_findFits_135 : decode cX10_findFits 135 = .ok (.ifCond .eq 11, 3) := by decide +kernel
theorem dX10_findFits_138 : decode cX10_findFits 138 = .ok (.iinc 3 1, 3) := by decide +kernel
theorem dX10_findFits_141 : decode cX10_findFits 141 = .ok (.aload_n 0, 1) := by decide +kernel
theorem dX10_findFits_142 : decode cX10_findFits 142 = .ok (.iload_n 2, 1) := by decide +kernel
theorem dX10_findFits_143 : decode cX10_findFits 143 = .ok (.invokevirtual 243, 3) := by decide +kernel
theorem dX10_findFits_146 : decode cX10_findFits 146 = .ok (.goto (-122), 3) := by decide +kernel
theorem dX10_findFits_149 : decode cX10_findFits 149 = .ok (.iload_n 3, 1) := by decide +kernel
theorem dX10_findFits_150 : decode cX10_findFits 150 = .ok (.ireturn, 1) := by decide +kernel
theorem dX10_fit_0 : decode cX10_fit 0 = .ok (.iload_n 1, 1) := by decide +kernel
theorem dX10_fit_1 : decode cX10_fit 1 = .ok (.invokestatic 108, 3) := by decide +kernel
theorem dX10_fit_4 : decode cX10_fit 4 = .ok (.ifCond .eq 32, 3) := by decide +kernel
theorem dX10_fit_7 : decode cX10_fit 7 = .ok (.iload_n 2, 1) := by decide +kernel
theorem dX10_fit_8 : decode cX10_fit 8 = .ok (.i2l, 1) := by decide +kernel
theorem dX10_fit_9 : decode cX10_fit 9 = .ok (.ldc2_w 123, 3) := by decide +kernel
theorem dX10_fit_12 : decode cX10_fit 12 = .ok (.ldc2_w 125, 3) := by decide +kernel
theorem dX10_fit_15 : decode cX10_fit 15 = .ok (.invokestatic 78, 3) := by decide +kernel
theorem dX10_fit_18 : decode cX10_fit 18 = .ok (.ifCond .eq 18, 3) := by decide +kernel
theorem dX10_fit_21 : decode cX10_fit 21 = .ok (.iload_n 3, 1) := by decide +kernel
theorem dX10_fit_22 : decode cX10_fit 22 = .ok (.i2l, 1) := by decide +kernel
theorem dX10_fit_23 : decode cX10_fit 23 = .ok (.ldc2_w 247, 3) := by decide +kernel
theorem dX10_fit_26 : decode cX10_fit 26 = .ok (.iload_n 2, 1) := by decide +kernel
theorem dX10_fit_27 : decode cX10_fit 27 = .ok (.iconst 1, 1) := by decide +kernel
theorem dX10_fit_28 : decode cX10_fit 28 = .ok (.isub, 1) := by decide +kernel
theorem dX10_fit_29 : decode cX10_fit 29 = .ok (.i2l, 1) := by decide +kernel
theorem dX10_fit_30 : decode cX10_fit 30 = .ok (.invokestatic 78, 3) := by decide +kernel
theorem dX10_fit_33 : decode cX10_fit 33 = .ok (.ifCond .ne 5, 3) := by decide +kernel
theorem dX10_fit_36 : decode cX10_fit 36 = .ok (.iconst (-1), 1) := by decide +kernel
theorem dX10_fit_37 : decode cX10_fit 37 = .ok (.ireturn, 1) := by decide +kernel
theorem dX10_fit_38 : decode cX10_fit 38 = .ok (.aload_n 0, 1) := by decide +kernel
theorem dX10_fit_39 : decode cX10_fit 39 = .ok (.iload_n 1, 1) := by decide +kernel
theorem dX10_fit_40 : decode cX10_fit 40 = .ok (.iload_n 2, 1) := by decide +kernel
theorem dX10_fit_41 : decode cX10_fit 41 = .ok (.invokevirtual 249, 3) := by decide +kernel
theorem dX10_fit_44 : decode cX10_fit 44 = .ok (.istore 4, 2) := by decide +kernel
theorem dX10_fit_46 : decode cX10_fit 46 = .ok (.iload_n 3, 1) := by decide +kernel
theorem dX10_fit_47 : decode cX10_fit 47 = .ok (.iconst (-1), 1) := by decide +kernel
theorem dX10_fit_48 : decode cX10_fit 48 = .ok (.if_icmp .ne 8, 3) := by decide +kernel
theorem dX10_fit_51 : decode cX10_fit 51 = .ok (.iload 4, 2) := by decide +kernel
theorem dX10_fit_53 : decode cX10_fit 53 = .ok (.goto 34, 3) := by decide +kernel
theorem dX10_fit_56 : decode cX10_fit 56 = .ok (.aload_n 0, 1) := by decide +kernel
theorem dX10_fit_57 : decode cX10_fit 57 = .ok (.getfield 234, 3) := by decide +kernel
theorem dX10_fit_60 : decode cX10_fit 60 = .ok (.ifCond .ge 8, 3) := by decide +kernel
theorem dX10_fit_63 : decode cX10_fit 63 = .ok (.bipush (-4), 2) := by decide +kernel
theorem dX10_fit_65 : decode cX10_fit 65 = .ok (.goto 22, 3) := by decide +kernel
theorem dX10_fit_68 : decode cX10_fit 68 = .ok (.iload_n 3, 1) := by decide +kernel
theorem dX10_fit_69 : decode cX10_fit 69 = .ok (.bipush (-2), 2) := by decide +kernel
theorem dX10_fit_71 : decode cX10_fit 71 = .ok (.if_icmp .ne 10, 3) := by decide +kernel
theorem dX10_fit_74 : decode cX10_fit 74 = .ok (.aload_n 0, 1) := by decide +kernel
theorem dX10_fit_75 : decode cX10_fit 75 = .ok (.getfield 234, 3) := by decide +kernel
theorem dX10_fit_78 : decode cX10_fit 78 = .ok (.goto 9, 3) := by decide +kernel
theorem dX10_fit_81 : decode cX10_fit 81 = .ok (.aload_n 0, 1) := by decide +kernel
theorem dX10_fit_82 : decode cX10_fit 82 = .ok (.getfield 61, 3) := by decide +kernel
theorem dX10_fit_85 : decode cX10_fit 85 = .ok (.iload_n 3, 1) := by decide +kernel
theorem dX10_fit_86 : decode cX10_fit 86 = .ok (.iaload, 1) := by decide +kernel
theorem dX10_fit_87 : decode cX10_fit 87 = .ok (.ireturn, 1) := by decide +kernel
theorem dX10_carried_0 : decode cX10_carried 0 = .ok (.iload_n 1, 1) := by decide +kernel
theorem dX10_carried_1 : decode cX10_carried 1 = .ok (.istore 4, 2) := by decide +kernel
theorem dX10_carried_3 : decode cX10_carried 3 = .ok (.iload 4, 2) := by decide +kernel
theorem dX10_carried_5 : decode cX10_carried 5 = .ok (.bipush 36, 2) := by decide +kernel
theorem dX10_carried_7 : decode cX10_carried 7 = .ok (.if_icmp .ge 33, 3) := by decide +kernel
theorem dX10_carried_10 : decode cX10_carried 10 = .ok (.aload_n 0, 1) := by decide +kernel
theorem dX10_carried_11 : decode cX10_carried 11 = .ok (.getfield 7, 3) := by decide +kernel
theorem dX10_carried_14 : decode cX10_carried 14 = .ok (.iload 4, 2) := by decide +kernel
theorem dX10_carried_16 : decode cX10_carried 16 = .ok (.iload_n 3, 1) := by decide +kernel
theorem dX10_carried_17 : decode cX10_carried 17 = .ok (.ifCond .eq 7, 3) := by decide +kernel
theorem dX10_carried_20 : decode cX10_carried 20 = .ok (.iload_n 2, 1) := by decide +kernel
theorem dX10_carried_21 : decode cX10_carried 21 = .ok (.goto 10, 3) := by decide +kernel
theorem dX10_carried_24 : decode cX10_carried 24 = .ok (.aload_n 0, 1) := by decide +kernel
theorem dX10_carried_25 : decode cX10_carried 25 = .ok (.getfield 7, 3) := by decide +kernel
theorem dX10_carried_28 : decode cX10_carried 28 = .ok (.iload 4, 2) := by decide +kernel
theorem dX10_carried_30 : decode cX10_carried 30 = .ok (.iaload, 1) := by decide +kernel
theorem dX10_carried_31 : decode cX10_carried 31 = .ok (.iastore, 1) := by decide +kernel
theorem dX10_carried_32 : decode cX10_carried 32 = .ok (.aload_n 0, 1) := by decide +kernel
theorem dX10_carried_33 : decode cX10_carried 33 = .ok (.getfield 7, 3) := by decide +kernel
theorem dX10_carried_36 : decode cX10_carried 36 = .ok (.iload 4, 2) := by decide +kernel
theorem dX10_carried_38 : decode cX10_carried 38 = .ok (.iaload, 1) := by decide +kernel
theorem dX10_carried_39 : decode cX10_carried 39 = .ok (.ireturn, 1) := by decide +kernel
theorem dX10_carried_40 : decode cX10_carried 40 = .ok (.iinc 4 (-36), 3) := by decide +kernel
theorem dX10_carried_43 : decode cX10_carried 43 = .ok (.iload 4, 2) := by decide +kernel
theorem dX10_carried_45 : decode cX10_carried 45 = .ok (.sipush 144, 3) := by decide +kernel
theorem dX10_carried_48 : decode cX10_carried 48 = .ok (.if_icmp .ge 93, 3) := by decide +kernel
theorem dX10_carried_51 : decode cX10_carried 51 = .ok (.iload 4, 2) := by decide +kernel
theorem dX10_carried_53 : decode cX10_carried 53 = .ok (.bipush 72, 2) := by decide +kernel
theorem dX10_carried_55 : decode cX10_carried 55 = .ok (.irem, 1) := by decide +kernel
theorem dX10_carried_56 : decode cX10_carried 56 = .ok (.istore 5, 2) := by decide +kernel
theorem dX10_carried_58 : decode cX10_carried 58 = .ok (.aload_n 0, 1) := by decide +kernel
theorem dX10_carried_59 : decode cX10_carried 59 = .ok (.getfield 13, 3) := by decide +kernel
theorem dX10_carried_62 : decode cX10_carried 62 = .ok (.iload 5, 2) := by decide +kernel
theorem dX10_carried_64 : decode cX10_carried 64 = .ok (.iload_n 3, 1) := by decide +kernel
theorem dX10_carried_65 : decode cX10_carried 65 = .ok (.ifCond .eq 14, 3) := by decide +kernel
theorem dX10_carried_68 : decode cX10_carried 68 = .ok (.iload 4, 2) := by decide +kernel
theorem dX10_carried_70 : decode cX10_carried 70 = .ok (.bipush 72, 2) := by decide +kernel
theorem dX10_carried_72 : decode cX10_carried 72 = .ok (.if_icmp .ge 7, 3) := by decide +kernel
theorem dX10_carried_75 : decode cX10_carried 75 = .ok (.iload_n 2, 1) := by decide +kernel
theorem dX10_carried_76 : decode cX10_carried 76 = .ok (.goto 10, 3) := by decide +kernel
theorem dX10_carried_79 : decode cX10_carried 79 = .ok (.aload_n 0, 1) := by decide +kernel
theorem dX10_carried_80 : decode cX10_carried 80 = .ok (.getfield 13, 3) := by decide +kernel
theorem dX10_carried_83 : decode cX10_carried 83 = .ok (.iload 5, 2) := by decide +kernel
theorem dX10_carried_85 : decode cX10_carried 85 = .ok (.iaload, 1) := by decide +kernel
theorem dX10_carried_86 : decode cX10_carried 86 = .ok (.iastore, 1) := by decide +kernel
theorem dX10_carried_87 : decode cX10_carried 87 = .ok (.aload_n 0, 1) := by decide +kernel
theorem dX10_carried_88 : decode cX10_carried 88 = .ok (.getfield 16, 3) := by decide +kernel
theorem dX10_carried_91 : decode cX10_carried 91 = .ok (.iload 5, 2) := by decide +kernel
theorem dX10_carried_93 : decode cX10_carried 93 = .ok (.iload_n 3, 1) := by decide +kernel
theorem dX10_carried_94 : decode cX10_carried 94 = .ok (.ifCond .eq 14, 3) := by decide +kernel
theorem dX10_carried_97 : decode cX10_carried 97 = .ok (.iload 4, 2) := by decide +kernel
theorem dX10_carried_99 : decode cX10_carried 99 = .ok (.bipush 72, 2) := by decide +kernel
theorem dX10_carried_101 : decode cX10_carried 101 = .ok (.if_icmp .lt 7, 3) := by decide +kernel
theorem dX10_carried_104 : decode cX10_carried 104 = .ok (.iload_n 2, 1) := by decide +kernel
theorem dX10_carried_105 : decode cX10_carried 105 = .ok (.goto 10, 3) := by decide +kernel
theorem dX10_carried_108 : decode cX10_carried 108 = .ok (.aload_n 0, 1) := by decide +kernel
theorem dX10_carried_109 : decode cX10_carried 109 = .ok (.getfield 16, 3) := by decide +kernel
theorem dX10_carried_112 : decode cX10_carried 112 = .ok (.iload 5, 2) := by decide +kernel
theorem dX10_carried_114 : decode cX10_carried 114 = .ok (.iaload, 1) := by decide +kernel
theorem dX10_carried_115 : decode cX10_carried 115 = .ok (.iastore, 1) := by decide +kernel
theorem dX10_carried_116 : decode cX10_carried 116 = .ok (.iload 4, 2) := by decide +kernel
theorem dX10_carried_118 : decode cX10_carried 118 = .ok (.bipush 72, 2) := by decide +kernel
theorem dX10_carried_120 : decode cX10_carried 120 = .ok (.if_icmp .ge 13, 3) := by decide +kernel
theorem dX10_carried_123 : decode cX10_carried 123 = .ok (.aload_n 0, 1) := by decide +kernel
theorem dX10_carried_124 : decode cX10_carried 124 = .ok (.getfield 13, 3) := by decide +kernel
theorem dX10_carried_127 : decode cX10_carried 127 = .ok (.iload 5, 2) := by decide +kernel
theorem dX10_carried_129 : decode cX10_carried 129 = .ok (.iaload, 1) := by decide +kernel
theorem dX10_carried_130 : decode cX10_carried 130 = .ok (.goto 10, 3) := by decide +kernel
theorem dX10_carried_133 : decode cX10_carried 133 = .ok (.aload_n 0, 1) := by decide +kernel
theorem dX10_carried_134 : decode cX10_carried 134 = .ok (.getfield 16, 3) := by decide +kernel
theorem dX10_carried_137 : decode cX10_carried 137 = .ok (.iload 5, 2) := by decide +kernel
theorem dX10_carried_139 : decode cX10_carried 139 = .ok (.iaload, 1) := by decide +kernel
theorem dX10_carried_140 : decode cX10_carried 140 = .ok (.ireturn, 1) := by decide +kernel
theorem dX10_carried_141 : decode cX10_carried 141 = .ok (.iinc 4 (-144), 6) := by decide +kernel
theorem dX10_carried_147 : decode cX10_carried 147 = .ok (.iload 4, 2) := by decide +kernel
theorem dX10_carried_149 : decode cX10_carried 149 = .ok (.bipush 36, 2) := by decide +kernel
theorem dX10_carried_151 : decode cX10_carried 151 = .ok (.if_icmp .ge 33, 3) := by decide +kernel
theorem dX10_carried_154 : decode cX10_carried 154 = .ok (.aload_n 0, 1) := by decide +kernel
theorem dX10_carried_155 : decode cX10_carried 155 = .ok (.getfield 19, 3) := by decide +kernel
theorem dX10_carried_158 : decode cX10_carried 158 = .ok (.iload 4, 2) := by decide +kernel
theorem dX10_carried_160 : decode cX10_carried 160 = .ok (.iload_n 3, 1) := by decide +kernel
theorem dX10_carried_161 : decode cX10_carried 161 = .ok (.ifCond .eq 7, 3) := by decide +kernel
theorem dX10_carried_164 : decode cX10_carried 164 = .ok (.iload_n 2, 1) := by decide +kernel
theorem dX10_carried_165 : decode cX10_carried 165 = .ok (.goto 10, 3) := by decide +kernel
theorem dX10_carried_168 : decode cX10_carried 168 = .ok (.aload_n 0, 1) := by decide +kernel
theorem dX10_carried_169 : decode cX10_carried 169 = .ok (.getfield 19, 3) := by decide +kernel
theorem dX10_carried_172 : decode cX10_carried 172 = .ok (.iload 4, 2) := by decide +kernel
theorem dX10_carried_174 : decode cX10_carried 174 = .ok (.iaload, 1) := by decide +kernel
theorem dX10_carried_175 : decode cX10_carried 175 = .ok (.iastore, 1) := by decide +kernel
theorem dX10_carried_176 : decode cX10_carried 176 = .ok (.aload_n 0, 1) := by decide +kernel
theorem dX10_carried_177 : decode cX10_carried 177 = .ok (.getfield 19, 3) := by decide +kernel
theorem dX10_carried_180 : decode cX10_carried 180 = .ok (.iload 4, 2) := by decide +kernel
theorem dX10_carried_182 : decode cX10_carried 182 = .ok (.iaload, 1) := by decide +kernel
theorem dX10_carried_183 : decode cX10_carried 183 = .ok (.ireturn, 1) := by decide +kernel
theorem dX10_carried_184 : decode cX10_carried 184 = .ok (.iinc 4 (-36), 3) := by decide +kernel
theorem dX10_carried_187 : decode cX10_carried 187 = .ok (.iload 4, 2) := by decide +kernel
theorem dX10_carried_189 : decode cX10_carried 189 = .ok (.iconst 3, 1) := by decide +kernel
theorem dX10_carried_190 : decode cX10_carried 190 = .ok (.if_icmp .ge 33, 3) := by decide +kernel
theorem dX10_carried_193 : decode cX10_carried 193 = .ok (.aload_n 0, 1) := by decide +kernel
theorem dX10_carried_194 : decode cX10_carried 194 = .ok (.getfield 22, 3) := by decide +kernel
theorem dX10_carried_197 : decode cX10_carried 197 = .ok (.iload 4, 2) := by decide +kernel
theorem dX10_carried_199 : decode cX10_carried 199 = .ok (.iload_n 3, 1) := by decide +kernel
theorem dX10_carried_200 : decode cX10_carried 200 = .ok (.ifCond .eq 7, 3) := by decide +kernel
theorem dX10_carried_203 : decode cX10_carried 203 = .ok (.iload_n 2, 1) := by decide +kernel
theorem dX10_carried_204 : decode cX10_carried 204 = .ok (.goto 10, 3) := by decide +kernel
theorem dX10_carried_207 : decode cX10_carried 207 = .ok (.aload_n 0, 1) := by decide +kernel
theorem dX10_carried_208 : decode cX10_carried 208 = .ok (.getfield 22, 3) := by decide +kernel
theorem dX10_carried_211 : decode cX10_carried 211 = .ok (.iload 4, 2) := by decide +kernel
theorem dX10_carried_213 : decode cX10_carried 213 = .ok (.iaload, 1) := by decide +kernel
theorem dX10_carried_214 : decode cX10_carried 214 = .ok (.iastore, 1) := by decide +kernel
theorem dX10_carried_215 : decode cX10_carried 215 = .ok (.aload_n 0, 1) := by decide +kernel
theorem dX10_carried_216 : decode cX10_carried 216 = .ok (.getfield 22, 3) := by decide +kernel
theorem dX10_carried_219 : decode cX10_carried 219 = .ok (.iload 4, 2) := by decide +kernel
theorem dX10_carried_221 : decode cX10_carried 221 = .ok (.iaload, 1) := by decide +kernel
theorem dX10_carried_222 : decode cX10_carried 222 = .ok (.ireturn, 1) := by decide +kernel
theorem dX10_carried_223 : decode cX10_carried 223 = .ok (.iinc 4 (-3), 3) := by decide +kernel
theorem dX10_carried_226 : decode cX10_carried 226 = .ok (.iload 4, 2) := by decide +kernel
theorem dX10_carried_228 : decode cX10_carried 228 = .ok (.bipush 12, 2) := by decide +kernel
theorem dX10_carried_230 : decode cX10_carried 230 = .ok (.irem, 1) := by decide +kernel
theorem dX10_carried_231 : decode cX10_carried 231 = .ok (.istore 5, 2) := by decide +kernel
theorem dX10_carried_233 : decode cX10_carried 233 = .ok (.aload_n 0, 1) := by decide +kernel
theorem dX10_carried_234 : decode cX10_carried 234 = .ok (.getfield 25, 3) := by decide +kernel
theorem dX10_carried_237 : decode cX10_carried 237 = .ok (.iload 5, 2) := by decide +kernel
theorem dX10_carried_239 : decode cX10_carried 239 = .ok (.iload_n 3, 1) := by decide +kernel
theorem dX10_carried_240 : decode cX10_carried 240 = .ok (.ifCond .eq 14, 3) := by decide +kernel
theorem dX10_carried_243 : decode cX10_carried 243 = .ok (.iload 4, 2) := by decide +kernel
theorem dX10_carried_245 : decode cX10_carried 245 = .ok (.bipush 12, 2) := by decide +kernel
theorem dX10_carried_247 : decode cX10_carried 247 = .ok (.if_icmp .ge 7, 3) := by decide +kernel
theorem dX10_carried_250 : decode cX10_carried 250 = .ok (.iload_n 2, 1) := by decide +kernel
theorem dX10_carried_251 : decode cX10_carried 251 = .ok (.goto 10, 3) := by decide +kernel
theorem dX10_carried_254 : decode cX10_carried 254 = .ok (.aload_n 0, 1) := by decide +kernel
theorem dX10_carried_255 : decode cX10_carried 255 = .ok (.getfield 25, 3) := by decide +kernel
theorem dX10_carried_258 : decode cX10_carried 258 = .ok (.iload 5, 2) := by decide +kernel
theorem dX10_carried_260 : decode cX10_carried 260 = .ok (.iaload, 1) := by decide +kernel
theorem dX10_carried_261 : decode cX10_carried 261 = .ok (.iastore, 1) := by decide +kernel
theorem dX10_carried_262 : decode cX10_carried 262 = .ok (.aload_n 0, 1) := by decide +kernel
theorem dX10_carried_263 : decode cX10_carried 263 = .ok (.getfield 28, 3) := by decide +kernel
theorem dX10_carried_266 : decode cX10_carried 266 = .ok (.iload 5, 2) := by decide +kernel
theorem dX10_carried_268 : decode cX10_carried 268 = .ok (.iload_n 3, 1) := by decide +kernel
theorem dX10_carried_269 : decode cX10_carried 269 = .ok (.ifCond .eq 14, 3) := by decide +kernel
theorem dX10_carried_272 : decode cX10_carried 272 = .ok (.iload 4, 2) := by decide +kernel
theorem dX10_carried_274 : decode cX10_carried 274 = .ok (.bipush 12, 2) := by decide +kernel
theorem dX10_carried_276 : decode cX10_carried 276 = .ok (.if_icmp .lt 7, 3) := by decide +kernel
theorem dX10_carried_279 : decode cX10_carried 279 = .ok (.iload_n 2, 1) := by decide +kernel
theorem dX10_carried_280 : decode cX10_carried 280 = .ok (.goto 10, 3) := by decide +kernel
theorem dX10_carried_283 : decode cX10_carried 283 = .ok (.aload_n 0, 1) := by decide +kernel
theorem dX10_carried_284 : decode cX10_carried 284 = .ok (.getfield 28, 3) := by decide +kernel
theorem dX10_carried_287 : decode cX10_carried 287 = .ok (.iload 5, 2) := by decide +kernel
theorem dX10_carried_289 : decode cX10_carried 289 = .ok (.iaload, 1) := by decide +kernel
theorem dX10_carried_290 : decode cX10_carried 290 = .ok (.iastore, 1) := by decide +kernel
theorem dX10_carried_291 : decode cX10_carried 291 = .ok (.iload 4, 2) := by decide +kernel
theorem dX10_carried_293 : decode cX10_carried 293 = .ok (.bipush 12, 2) := by decide +kernel
theorem dX10_carried_295 : decode cX10_carried 295 = .ok (.if_icmp .ge 13, 3) := by decide +kernel
theorem dX10_carried_298 : decode cX10_carried 298 = .ok (.aload_n 0, 1) := by decide +kernel
theorem dX10_carried_299 : decode cX10_carried 299 = .ok (.getfield 25, 3) := by decide +kernel
theorem dX10_carried_302 : decode cX10_carried 302 = .ok (.iload 5, 2) := by decide +kernel
theorem dX10_carried_304 : decode cX10_carried 304 = .ok (.iaload, 1) := by decide +kernel
theorem dX10_carried_305 : decode cX10_carried 305 = .ok (.goto 10, 3) := by decide +kernel
theorem dX10_carried_308 : decode cX10_carried 308 = .ok (.aload_n 0, 1) := by decide +kernel
theorem dX10_carried_309 : decode cX10_carried 309 = .ok (.getfield 28, 3) := by decide +kernel
theorem dX10_carried_312 : decode cX10_carried 312 = .ok (.iload 5, 2) := by decide +kernel
theorem dX10_carried_314 : decode cX10_carried 314 = .ok (.iaload, 1) := by decide +kernel
theorem dX10_carried_315 : decode cX10_carried 315 = .ok (.ireturn, 1) := by decide +kernel
theorem dX10_image_0 : decode cX10_image 0 = .ok (.iconst 0, 1) := by decide +kernel
theorem dX10_image_1 : decode cX10_image 1 = .ok (.istore_n 1, 1) := by decide +kernel
theorem dX10_image_2 : decode cX10_image 2 = .ok (.iload_n 1, 1) := by decide +kernel
theorem dX10_image_3 : decode cX10_image 3 = .ok (.sipush 243, 3) := by decide +kernel
theorem dX10_image_6 : decode cX10_image 6 = .ok (.if_icmp .ge 22, 3) := by decide +kernel
theorem dX10_image_9 : decode cX10_image 9 = .ok (.aload_n 0, 1) := by decide +kernel
theorem dX10_image_10 : decode cX10_image 10 = .ok (.getfield 64, 3) := by decide +kernel
theorem dX10_image_13 : decode cX10_image 13 = .ok (.iload_n 1, 1) := by decide +kernel
theorem dX10_image_14 : decode cX10_image 14 = .ok (.aload_n 0, 1) := by decide +kernel
theorem dX10_image_15 : decode cX10_image 15 = .ok (.iload_n 1, 1) := by decide +kernel
theorem dX10_image_16 : decode cX10_image 16 = .ok (.iconst 0, 1) := by decide +kernel
theorem dX10_image_17 : decode cX10_image 17 = .ok (.iconst 0, 1) := by decide +kernel
theorem dX10_image_18 : decode cX10_image 18 = .ok (.invokevirtual 252, 3) := by decide +kernel
theorem dX10_image_21 : decode cX10_image 21 = .ok (.iastore, 1) := by decide +kernel
theorem dX10_image_22 : decode cX10_image 22 = .ok (.iinc 1 1, 3) := by decide +kernel
theorem dX10_image_25 : decode cX10_image 25 = .ok (.goto (-23), 3) := by decide +kernel
theorem dX10_image_28 : decode cX10_image 28 = .ok (.aload_n 0, 1) := by decide +kernel
theorem dX10_image_29 : decode cX10_image 29 = .ok (.aload_n 0, 1) := by decide +kernel
theorem dX10_image_30 : decode cX10_image 30 = .ok (.getfield 86, 3) := by decide +kernel
theorem dX10_image_33 : decode cX10_image 33 = .ok (.putfield 256, 3) := by decide +kernel
theorem dX10_image_36 : decode cX10_image 36 = .ok (.aload_n 0, 1) := by decide +kernel
theorem dX10_image_37 : decode cX10_image 37 = .ok (.aload_n 0, 1) := by decide +kernel
theorem dX10_image_38 : decode cX10_image 38 = .ok (.getfield 130, 3) := by decide +kernel
theorem dX10_image_41 : decode cX10_image 41 = .ok (.putfield 259, 3) := by decide +kernel
theorem dX10_image_44 : decode cX10_image 44 = .ok (.aload_n 0, 1) := by decide +kernel
theorem dX10_image_45 : decode cX10_image 45 = .ok (.iconst 1, 1) := by decide +kernel
theorem dX10_image_46 : decode cX10_image 46 = .ok (.putfield 262, 3) := by decide +kernel
theorem dX10_image_49 : decode cX10_image 49 = .ok (.iconst 1, 1) := by decide +kernel
theorem dX10_image_50 : decode cX10_image 50 = .ok (.ireturn, 1) := by decide +kernel
theorem dX10_restore_0 : decode cX10_restore 0 = .ok (.aload_n 0, 1) := by decide +kernel
theorem dX10_restore_1 : decode cX10_restore 1 = .ok (.getfield 262, 3) := by decide +kernel
theorem dX10_restore_4 : decode cX10_restore 4 = .ok (.ifCond .ne 6, 3) := by decide +kernel
theorem dX10_restore_7 : decode cX10_restore 7 = .ok (.bipush (-4), 2) := by decide +kernel
theorem dX10_restore_9 : decode cX10_restore 9 = .ok (.ireturn, 1) := by decide +kernel
theorem dX10_restore_10 : decode cX10_restore 10 = .ok (.iconst 0, 1) := by decide +kernel
theorem dX10_restore_11 : decode cX10_restore 11 = .ok (.istore_n 1, 1) := by decide +kernel
theorem dX10_restore_12 : decode cX10_restore 12 = .ok (.iload_n 1, 1) := by decide +kernel
theorem dX10_restore_13 : decode cX10_restore 13 = .ok (.sipush 243, 3) := by decide +kernel
theorem dX10_restore_16 : decode cX10_restore 16 = .ok (.if_icmp .ge 22, 3) := by decide +kernel
theorem dX10_restore_19 : decode cX10_restore 19 = .ok (.aload_n 0, 1) := by decide +kernel
theorem dX10_restore_20 : decode cX10_restore 20 = .ok (.iload_n 1, 1) := by decide +kernel
theorem dX10_restore_21 : decode cX10_restore 21 = .ok (.aload_n 0, 1) := by decide +kernel
theorem dX10_restore_22 : decode cX10_restore 22 = .ok (.getfield 64, 3) := by decide +kernel
theorem dX10_restore_25 : decode cX10_restore 25 = .ok (.iload_n 1, 1) := by decide +kernel
theorem dX10_restore_26 : decode cX10_restore 26 = .ok (.iaload, 1) := by decide +kernel
theorem dX10_restore_27 : decode cX10_restore 27 = .ok (.iconst 1, 1) := by decide +kernel
theorem dX10_restore_28 : decode cX10_restore 28 = .ok (.invokevirtual 252, 3) := by decide +kernel
theorem dX10_restore_31 : decode cX10_restore 31 = .ok (.pop, 1) := by decide +kernel
theorem dX10_restore_32 : decode cX10_restore 32 = .ok (.iinc 1 1, 3) := by decide +kernel
theorem dX10_restore_35 : decode cX10_restore 35 = .ok (.goto (-23), 3) := by decide +kernel
theorem dX10_restore_38 : decode cX10_restore 38 = .ok (.aload_n 0, 1) := by decide +kernel
theorem dX10_restore_39 : decode cX10_restore 39 = .ok (.aload_n 0, 1) := by decide +kernel
theorem dX10_restore_40 : decode cX10_restore 40 = .ok (.getfield 256, 3) := by decide +kernel
theorem dX10_restore_43 : decode cX10_restore 43 = .ok (.putfield 86, 3) := by decide +kernel
theorem dX10_restore_46 : decode cX10_restore 46 = .ok (.aload_n 0, 1) := by decide +kernel
theorem dX10_restore_47 : decode cX10_restore 47 = .ok (.aload_n 0, 1) := by decide +kernel
theorem dX10_restore_48 : decode cX10_restore 48 = .ok (.getfield 259, 3) := by decide +kernel
theorem dX10_restore_51 : decode cX10_restore 51 = .ok (.putfield 130, 3) := by decide +kernel
theorem dX10_restore_54 : decode cX10_restore 54 = .ok (.iconst 1, 1) := by decide +kernel
theorem dX10_restore_55 : decode cX10_restore 55 = .ok (.ireturn, 1) := by decide +kernel
theorem dX10_isSheet_0 : decode cX10_isSheet 0 = .ok (.iload_n 0, 1) := by decide +kernel
theorem dX10_isSheet_1 : decode cX10_isSheet 1 = .ok (.i2l, 1) := by decide +kernel
theorem dX10_isSheet_2 : decode cX10_isSheet 2 = .ok (.lconst 0, 1) := by decide +kernel
theorem dX10_isSheet_3 : decode cX10_isSheet 3 = .ok (.ldc2_w 114, 3) := by decide +kernel
theorem dX10_isSheet_6 : decode cX10_isSheet 6 = .ok (.invokestatic 78, 3) := by decide +kernel
theorem dX10_isSheet_9 : decode cX10_isSheet 9 = .ok (.ifCond .eq 19, 3) := by decide +kernel
theorem dX10_isSheet_12 : decode cX10_isSheet 12 = .ok (.iload_n 1, 1) := by decide +kernel
theorem dX10_isSheet_13 : decode cX10_isSheet 13 = .ok (.i2l, 1) := by decide +kernel
theorem dX10_isSheet_14 : decode cX10_isSheet 14 = .ok (.lconst 0, 1) := by decide +kernel
theorem dX10_isSheet_15 : decode cX10_isSheet 15 = .ok (.ldc2_w 123, 3) := by decide +kernel
theorem dX10_isSheet_18 : decode cX10_isSheet 18 = .ok (.invokestatic 78, 3) := by decide +kernel
theorem dX10_isSheet_21 : decode cX10_isSheet 21 = .ok (.ifCond .eq 7, 3) := by decide +kernel
theorem dX10_isSheet_24 : decode cX10_isSheet 24 = .ok (.iconst 1, 1) := by decide +kernel
theorem dX10_isSheet_25 : decode cX10_isSheet 25 = .ok (.goto 4, 3) := by decide +kernel
theorem dX10_isSheet_28 : decode cX10_isSheet 28 = .ok (.iconst 0, 1) := by decide +kernel
theorem dX10_isSheet_29 : decode cX10_isSheet 29 = .ok (.ireturn, 1) := by decide +kernel
theorem dX10_sheet_0 : decode cX10_sheet 0 = .ok (.iload_n 1, 1) := by decide +kernel
theorem dX10_sheet_1 : decode cX10_sheet 1 = .ok (.iload_n 2, 1) := by decide +kernel
theorem dX10_sheet_2 : decode cX10_sheet 2 = .ok (.invokestatic 266, 3) := by decide +kernel
theorem dX10_sheet_5 : decode cX10_sheet 5 = .ok (.ifCond .eq 9, 3) := by decide +kernel
theorem dX10_sheet_8 : decode cX10_sheet 8 = .ok (.iload_n 3, 1) := by decide +kernel
theorem dX10_sheet_9 : decode cX10_sheet 9 = .ok (.bipush 36, 2) := by decide +kernel
theorem dX10_sheet_11 : decode cX10_sheet 11 = .ok (.if_icmp .le 5, 3) := by decide +kernel
theorem dX10_sheet_14 : decode cX10_sheet 14 = .ok (.iconst (-1), 1) := by decide +kernel
theorem dX10_sheet_15 : decode cX10_sheet 15 = .ok (.ireturn, 1) := by decide +kernel
theorem dX10_sheet_16 : decode cX10_sheet 16 = .ok (.iload_n 3, 1) := by decide +kernel
theorem dX10_sheet_17 : decode cX10_sheet 17 = .ok (.ifCond .ge 6, 3) := by decide +kernel
theorem dX10_sheet_20 : decode cX10_sheet 20 = .ok (.bipush (-14), 2) := by decide +kernel
theorem dX10_sheet_22 : decode cX10_sheet 22 = .ok (.ireturn, 1) := by decide +kernel
theorem dX10_sheet_23 : decode cX10_sheet 23 = .ok (.aload_n 0, 1) := by decide +kernel
theorem dX10_sheet_24 : decode cX10_sheet 24 = .ok (.getfield 67, 3) := by decide +kernel
theorem dX10_sheet_27 : decode cX10_sheet 27 = .ok (.iload_n 1, 1) := by decide +kernel
theorem dX10_sheet_28 : decode cX10_sheet 28 = .ok (.iload_n 2, 1) := by decide +kernel
theorem dX10_sheet_29 : decode cX10_sheet 29 = .ok (.iastore, 1) := by decide +kernel
theorem dX10_sheet_30 : decode cX10_sheet 30 = .ok (.aload_n 0, 1) := by decide +kernel
theorem dX10_sheet_31 : decode cX10_sheet 31 = .ok (.getfield 70, 3) := by decide +kernel
theorem dX10_sheet_34 : decode cX10_sheet 34 = .ok (.iload_n 1, 1) := by decide +kernel
theorem dX10_sheet_35 : decode cX10_sheet 35 = .ok (.iload_n 3, 1) := by decide +kernel
theorem dX10_sheet_36 : decode cX10_sheet 36 = .ok (.iastore, 1) := by decide +kernel
theorem dX10_sheet_37 : decode cX10_sheet 37 = .ok (.iconst 0, 1) := by decide +kernel
theorem dX10_sheet_38 : decode cX10_sheet 38 = .ok (.istore 4, 2) := by decide +kernel
theorem dX10_sheet_40 : decode cX10_sheet 40 = .ok (.iload 4, 2) := by decide +kernel
theorem dX10_sheet_42 : decode cX10_sheet 42 = .ok (.bipush 36, 2) := by decide +kernel
theorem dX10_sheet_44 : decode cX10_sheet 44 = .ok (.if_icmp .ge 22, 3) := by decide +kernel
theorem dX10_sheet_47 : decode cX10_sheet 47 = .ok (.aload_n 0, 1) := by decide +kernel
theorem dX10_sheet_48 : decode cX10_sheet 48 = .ok (.getfield 73, 3) := by decide +kernel
theorem dX10_sheet_51 : decode cX10_sheet 51 = .ok (.bipush 36, 2) := by decide +kernel
theorem dX10_sheet_53 : decode cX10_sheet 53 = .ok (.iload_n 1, 1) := by decide +kernel
theorem dX10_sheet_54 : decode cX10_sheet 54 = .ok (.imul, 1) := by decide +kernel
theorem dX10_sheet_55 : decode cX10_sheet 55 = .ok (.iload 4, 2) := by decide +kernel
theorem dX10_sheet_57 : decode cX10_sheet 57 = .ok (.iadd, 1) := by decide +kernel
theorem dX10_sheet_58 : decode cX10_sheet 58 = .ok (.iconst 0, 1) := by decide +kernel
theorem dX10_sheet_59 : decode cX10_sheet 59 = .ok (.iastore, 1) := by decide +kernel
theorem dX10_sheet_60 : decode cX10_sheet 60 = .ok (.iinc 4 1, 3) := by decide +kernel
theorem dX10_sheet_63 : decode cX10_sheet 63 = .ok (.goto (-23), 3) := by decide +kernel
theorem dX10_sheet_66 : decode cX10_sheet 66 = .ok (.iload_n 3, 1) := by decide +kernel
theorem dX10_sheet_67 : decode cX10_sheet 67 = .ok (.ireturn, 1) := by decide +kernel
theorem dX10_drop_0 : decode cX10_drop 0 = .ok (.iload_n 1, 1) := by decide +kernel
theorem dX10_drop_1 : decode cX10_drop 1 = .ok (.i2l, 1) := by decide +kernel
theorem dX10_drop_2 : decode cX10_drop 2 = .ok (.lconst 0, 1) := by decide +kernel
theorem dX10_drop_3 : decode cX10_drop 3 = .ok (.ldc2_w 114, 3) := by decide +kernel
theorem dX10_drop_6 : decode cX10_drop 6 = .ok (.invokestatic 78, 3) := by decide +kernel
theorem dX10_drop_9 : decode cX10_drop 9 = .ok (.ifCond .ne 5, 3) := by decide +kernel
theorem dX10_drop_12 : decode cX10_drop 12 = .ok (.iconst (-1), 1) := by decide +kernel
theorem dX10_drop_13 : decode cX10_drop 13 = .ok (.ireturn, 1) := by decide +kernel
theorem dX10_drop_14 : decode cX10_drop 14 = .ok (.aload_n 0, 1) := by decide +kernel
theorem dX10_drop_15 : decode cX10_drop 15 = .ok (.getfield 67, 3) := by decide +kernel
theorem dX10_drop_18 : decode cX10_drop 18 = .ok (.iload_n 1, 1) := by decide +kernel
theorem dX10_drop_19 : decode cX10_drop 19 = .ok (.iaload, 1) := by decide +kernel
theorem dX10_drop_20 : decode cX10_drop 20 = .ok (.ifCond .ge 6, 3) := by decide +kernel
theorem dX10_drop_23 : decode cX10_drop 23 = .ok (.bipush (-11), 2) := by decide +kernel
theorem dX10_drop_25 : decode cX10_drop 25 = .ok (.ireturn, 1) := by decide +kernel
theorem dX10_drop_26 : decode cX10_drop 26 = .ok (.aload_n 0, 1) := by decide +kernel
theorem dX10_drop_27 : decode cX10_drop 27 = .ok (.getfield 67, 3) := by decide +kernel
theorem dX10_drop_30 : decode cX10_drop 30 = .ok (.iload_n 1, 1) := by decide +kernel
theorem dX10_drop_31 : decode cX10_drop 31 = .ok (.iconst (-1), 1) := by decide +kernel
theorem dX10_drop_32 : decode cX10_drop 32 = .ok (.iastore, 1) := by decide +kernel
theorem dX10_drop_33 : decode cX10_drop 33 = .ok (.aload_n 0, 1) := by decide +kernel
theorem dX10_drop_34 : decode cX10_drop 34 = .ok (.getfield 70, 3) := by decide +kernel
theorem dX10_drop_37 : decode cX10_drop 37 = .ok (.iload_n 1, 1) := by decide +kernel
theorem dX10_drop_38 : decode cX10_drop 38 = .ok (.iaload, 1) := by decide +kernel
theorem dX10_drop_39 : decode cX10_drop 39 = .ok (.ireturn, 1) := by decide +kernel
theorem dX10_lacksRow_0 : decode cX10_lacksRow 0 = .ok (.aload_n 0, 1) := by decide +kernel
theorem dX10_lacksRow_1 : decode cX10_lacksRow 1 = .ok (.getfield 67, 3) := by decide +kernel
theorem dX10_lacksRow_4 : decode cX10_lacksRow 4 = .ok (.iload_n 1, 1) := by decide +kernel
theorem dX10_lacksRow_5 : decode cX10_lacksRow 5 = .ok (.iaload, 1) := by decide +kernel
theorem dX10_lacksRow_6 : decode cX10_lacksRow 6 = .ok (.iload_n 2, 1) := by decide +kernel
theorem dX10_lacksRow_7 : decode cX10_lacksRow 7 = .ok (.if_icmp .eq 20, 3) := by decide +kernel
theorem dX10_lacksRow_10 : decode cX10_lacksRow 10 = .ok (.aload_n 0, 1) := by decide +kernel
theorem dX10_lacksRow_11 : decode cX10_lacksRow 11 = .ok (.getfield 67, 3) := by decide +kernel
theorem dX10_lacksRow_14 : decode cX10_lacksRow 14 = .ok (.iload_n 1, 1) := by decide +kernel
theorem dX10_lacksRow_15 : decode cX10_lacksRow 15 = .ok (.iaload, 1) := by decide +kernel
theorem dX10_lacksRow_16 : decode cX10_lacksRow 16 = .ok (.ifCond .ge 8, 3) := by decide +kernel
theorem dX10_lacksRow_19 : decode cX10_lacksRow 19 = .ok (.bipush (-11), 2) := by decide +kernel
theorem dX10_lacksRow_21 : decode cX10_lacksRow 21 = .ok (.goto 5, 3) := by decide +kernel
theorem dX10_lacksRow_24 : decode cX10_lacksRow 24 = .ok (.bipush (-12), 2) := by decide +kernel
theorem dX10_lacksRow_26 : decode cX10_lacksRow 26 = .ok (.ireturn, 1) := by decide +kernel
theorem dX10_lacksRow_27 : decode cX10_lacksRow 27 = .ok (.iload_n 3, 1) := by decide +kernel
theorem dX10_lacksRow_28 : decode cX10_lacksRow 28 = .ok (.i2l, 1) := by decide +kernel
theorem dX10_lacksRow_29 : decode cX10_lacksRow 29 = .ok (.lconst 0, 1) := by decide +kernel
theorem dX10_lacksRow_30 : decode cX10_lacksRow 30 = .ok (.aload_n 0, 1) := by decide +kernel
theorem dX10_lacksRow_31 : decode cX10_lacksRow 31 = .ok (.getfield 70, 3) := by decide +kernel
theorem dX10_lacksRow_34 : decode cX10_lacksRow 34 = .ok (.iload_n 1, 1) := by decide +kernel
theorem dX10_lacksRow_35 : decode cX10_lacksRow 35 = .ok (.iaload, 1) := by decide +kernel
theorem dX10_lacksRow_36 : decode cX10_lacksRow 36 = .ok (.iload 4, 2) := by decide +kernel
theorem dX10_lacksRow_38 : decode cX10_lacksRow 38 = .ok (.isub, 1) := by decide +kernel
theorem dX10_lacksRow_39 : decode cX10_lacksRow 39 = .ok (.i2l, 1) := by decide +kernel
theorem dX10_lacksRow_40 : decode cX10_lacksRow 40 = .ok (.invokestatic 78, 3) := by decide +kernel
theorem dX10_lacksRow_43 : decode cX10_lacksRow 43 = .ok (.ifCond .eq 7, 3) := by decide +kernel
theorem dX10_lacksRow_46 : decode cX10_lacksRow 46 = .ok (.iconst 0, 1) := by decide +kernel
theorem dX10_lacksRow_47 : decode cX10_lacksRow 47 = .ok (.goto 5, 3) := by decide +kernel
theorem dX10_lacksRow_50 : decode cX10_lacksRow 50 = .ok (.bipush (-13), 2) := by decide +kernel
theorem dX10_lacksRow_52 : decode cX10_lacksRow 52 = .ok (.ireturn, 1) := by decide +kernel
theorem dX10_item_0 : decode cX10_item 0 = .ok (.iload_n 1, 1) := by decide +kernel
theorem dX10_item_1 : decode cX10_item 1 = .ok (.iload_n 2, 1) := by decide +kernel
theorem dX10_item_2 : decode cX10_item 2 = .ok (.invokestatic 266, 3) := by decide +kernel
theorem dX10_item_5 : decode cX10_item 5 = .ok (.ifCond .ne 5, 3) := by decide +kernel
theorem dX10_item_8 : decode cX10_item 8 = .ok (.iconst (-1), 1) := by decide +kernel
theorem dX10_item_9 : decode cX10_item 9 = .ok (.ireturn, 1) := by decide +kernel
theorem dX10_item_10 : decode cX10_item 10 = .ok (.aload_n 0, 1) := by decide +kernel
theorem dX10_item_11 : decode cX10_item 11 = .ok (.iload_n 1, 1) := by decide +kernel
theorem dX10_item_12 : decode cX10_item 12 = .ok (.iload_n 2, 1) := by decide +kernel
theorem dX10_item_13 : decode cX10_item 13 = .ok (.iload_n 3, 1) := by decide +kernel
theorem dX10_item_14 : decode cX10_item 14 = .ok (.iconst 1, 1) := by decide +kernel
theorem dX10_item_15 : decode cX10_item 15 = .ok (.invokevirtual 269, 3) := by decide +kernel
theorem dX10_item_18 : decode cX10_item 18 = .ok (.istore 5, 2) := by decide +kernel
theorem dX10_item_20 : decode cX10_item 20 = .ok (.iload 5, 2) := by decide +kernel
theorem dX10_item_22 : decode cX10_item 22 = .ok (.ifCond .ge 6, 3) := by decide +kernel
theorem dX10_item_25 : decode cX10_item 25 = .ok (.iload 5, 2) := by decide +kernel
theorem dX10_item_27 : decode cX10_item 27 = .ok (.ireturn, 1) := by decide +kernel
theorem dX10_item_28 : decode cX10_item 28 = .ok (.aload_n 0, 1) := by decide +kernel
theorem dX10_item_29 : decode cX10_item 29 = .ok (.getfield 73, 3) := by decide +kernel
theorem dX10_item_32 : decode cX10_item 32 = .ok (.bipush 36, 2) := by decide +kernel
theorem dX10_item_34 : decode cX10_item 34 = .ok (.iload_n 1, 1) := by decide +kernel
theorem dX10_item_35 : decode cX10_item 35 = .ok (.imul, 1) := by decide +kernel
theorem dX10_item_36 : decode cX10_item 36 = .ok (.iload_n 3, 1) := by decide +kernel
theorem dX10_item_37 : decode cX10_item 37 = .ok (.iadd, 1) := by decide +kernel
theorem dX10_item_38 : decode cX10_item 38 = .ok (.iload_n 2, 1) := by decide +kernel
theorem dX10_item_39 : decode cX10_item 39 = .ok (.ifCond .ne 14, 3) := by decide +kernel
theorem dX10_item_42 : decode cX10_item 42 = .ok (.iload 4, 2) := by decide +kernel
theorem dX10_item_44 : decode cX10_item 44 = .ok (.bipush 24, 2) := by decide +kernel
theorem dX10_item_46 : decode cX10_item 46 = .ok (.ishl, 1) := by decide +kernel
theorem dX10_item_47 : decode cX10_item 47 = .ok (.bipush 24, 2) := by decide +kernel
theorem dX10_item_49 : decode cX10_item 49 = .ok (.ishr, 1) := by decide +kernel
theorem dX10_item_50 : decode cX10_item 50 = .ok (.goto 21, 3) := by decide +kernel
theorem dX10_item_53 : decode cX10_item 53 = .ok (.iload_n 2, 1) := by decide +kernel
theorem dX10_item_54 : decode cX10_item 54 = .ok (.iconst 1, 1) := by decide +kernel
theorem dX10_item_55 : decode cX10_item 55 = .ok (.if_icmp .ne 14, 3) := by decide +kernel
theorem dX10_item_58 : decode cX10_item 58 = .ok (.iload 4, 2) := by decide +kernel
theorem dX10_item_60 : decode cX10_item 60 = .ok (.bipush 16, 2) := by decide +kernel
theorem dX10_item_62 : decode cX10_item 62 = .ok (.ishl, 1) := by decide +kernel
theorem dX10_item_63 : decode cX10_item 63 = .ok (.bipush 16, 2) := by decide +kernel
theorem dX10_item_65 : decode cX10_item 65 = .ok (.ishr, 1) := by decide +kernel
theorem dX10_item_66 : decode cX10_item 66 = .ok (.goto 5, 3) := by decide +kernel
theorem dX10_item_69 : decode cX10_item 69 = .ok (.iload 4, 2) := by decide +kernel
theorem dX10_item_71 : decode cX10_item 71 = .ok (.iastore, 1) := by decide +kernel
theorem dX10_item_72 : decode cX10_item 72 = .ok (.iconst 1, 1) := by decide +kernel
theorem dX10_item_73 : decode cX10_item 73 = .ok (.ireturn, 1) := by decide +kernel
theorem dX10_go_0 : decode cX10_go 0 = .ok (.iload_n 1, 1) := by decide +kernel
theorem dX10_go_1 : decode cX10_go 1 = .ok (.iload_n 2, 1) := by decide +kernel
theorem dX10_go_2 : decode cX10_go 2 = .ok (.invokestatic 266, 3) := by decide +kernel
theorem dX10_go_5 : decode cX10_go 5 = .ok (.ifCond .eq 16, 3) := by decide +kernel
theorem dX10_go_8 : decode cX10_go 8 = .ok (.iload 4, 2) := by decide +kernel
theorem dX10_go_10 : decode cX10_go 10 = .ok (.i2l, 1) := by decide +kernel
theorem dX10_go_11 : decode cX10_go 11 = .ok (.lconst 1, 1) := by decide +kernel
theorem dX10_go_12 : decode cX10_go 12 = .ok (.ldc2_w 112, 3) := by decide +kernel
theorem dX10_go_15 : decode cX10_go 15 = .ok (.invokestatic 78, 3) := by decide +kernel
theorem dX10_go_18 : decode cX10_go 18 = .ok (.ifCond .ne 5, 3) := by decide +kernel
theorem dX10_go_21 : decode cX10_go 21 = .ok (.iconst (-1), 1) := by decide +kernel
theorem dX10_go_22 : decode cX10_go 22 = .ok (.ireturn, 1) := by decide +kernel
theorem dX10_go_23 : decode cX10_go 23 = .ok (.aload_n 0, 1) := by decide +kernel
theorem dX10_go_24 : decode cX10_go 24 = .ok (.iload_n 1, 1) := by decide +kernel
theorem dX10_go_25 : decode cX10_go 25 = .ok (.iload_n 2, 1) := by decide +kernel
theorem dX10_go_26 : decode cX10_go 26 = .ok (.iload_n 3, 1) := by decide +kernel
theorem dX10_go_27 : decode cX10_go 27 = .ok (.iload 4, 2) := by decide +kernel
theorem dX10_go_29 : decode cX10_go 29 = .ok (.invokevirtual 269, 3) := by decide +kernel
theorem dX10_go_32 : decode cX10_go 32 = .ok (.istore 5, 2) := by decide +kernel
theorem dX10_go_34 : decode cX10_go 34 = .ok (.iload 5, 2) := by decide +kernel
theorem dX10_go_36 : decode cX10_go 36 = .ok (.ifCond .ge 6, 3) := by decide +kernel
theorem dX10_go_39 : decode cX10_go 39 = .ok (.iload 5, 2) := by decide +kernel
theorem dX10_go_41 : decode cX10_go 41 = .ok (.ireturn, 1) := by decide +kernel
theorem dX10_go_42 : decode cX10_go 42 = .ok (.bipush 36, 2) := by decide +kernel
theorem dX10_go_44 : decode cX10_go 44 = .ok (.iload_n 1, 1) := by decide +kernel
theorem dX10_go_45 : decode cX10_go 45 = .ok (.imul, 1) := by decide +kernel
theorem dX10_go_46 : decode cX10_go 46 = .ok (.iload_n 3, 1) := by decide +kernel
theorem dX10_go_47 : decode cX10_go 47 = .ok (.iadd, 1) := by decide +kernel
theorem dX10_go_48 : decode cX10_go 48 = .ok (.istore 6, 2) := by decide +kernel
theorem dX10_go_50 : decode cX10_go 50 = .ok (.iconst 0, 1) := by decide +kernel
theorem dX10_go_51 : decode cX10_go 51 = .ok (.istore 7, 2) := by decide +kernel
theorem dX10_go_53 : decode cX10_go 53 = .ok (.iload 7, 2) := by decide +kernel
theorem dX10_go_55 : decode cX10_go 55 = .ok (.iload 4, 2) := by decide +kernel
theorem dX10_go_57 : decode cX10_go 57 = .ok (.if_icmp .ge 103, 3) := by decide +kernel
theorem dX10_go_60 : decode cX10_go 60 = .ok (.aload_n 0, 1) := by decide +kernel
theorem dX10_go_61 : decode cX10_go 61 = .ok (.getfield 73, 3) := by decide +kernel
theorem dX10_go_64 : decode cX10_go 64 = .ok (.iload 6, 2) := by decide +kernel
theorem dX10_go_66 : decode cX10_go 66 = .ok (.iload 7, 2) := by decide +kernel
theorem dX10_go_68 : decode cX10_go 68 = .ok (.iadd, 1) := by decide +kernel
theorem dX10_go_69 : decode cX10_go 69 = .ok (.iaload, 1) := by decide +kernel
theorem dX10_go_70 : decode cX10_go 70 = .ok (.invokestatic 108, 3) := by decide +kernel
theorem dX10_go_73 : decode cX10_go 73 = .ok (.ifCond .eq 36, 3) := by decide +kernel
theorem dX10_go_76 : decode cX10_go 76 = .ok (.iload 7, 2) := by decide +kernel
theorem dX10_go_78 : decode cX10_go 78 = .ok (.ifCond .le 34, 3) := by decide +kernel
theorem dX10_go_81 : decode cX10_go 81 = .ok (.aload_n 0, 1) := by decide +kernel
theorem dX10_go_82 : decode cX10_go 82 = .ok (.getfield 73, 3) := by decide +kernel
theorem dX10_go_85 : decode cX10_go 85 = .ok (.iload 6, 2) := by decide +kernel
theorem dX10_go_87 : decode cX10_go 87 = .ok (.iload 7, 2) := by decide +kernel
theorem dX10_go_89 : decode cX10_go 89 = .ok (.iadd, 1) := by decide +kernel
theorem dX10_go_90 : decode cX10_go 90 = .ok (.iconst 1, 1) := by decide +kernel
theorem dX10_go_91 : decode cX10_go 91 = .ok (.isub, 1) := by decide +kernel
theorem dX10_go_92 : decode cX10_go 92 = .ok (.iaload, 1) := by decide +kernel
theorem dX10_go_93 : decode cX10_go 93 = .ok (.aload_n 0, 1) := by decide +kernel
theorem dX10_go_94 : decode cX10_go 94 = .ok (.getfield 73, 3) := by decide +kernel
theorem dX10_go_97 : decode cX10_go 97 = .ok (.iload 6, 2) := by decide +kernel
theorem dX10_go_99 : decode cX10_go 99 = .ok (.iload 7, 2) := by decide +kernel
theorem dX10_go_101 : decode cX10_go 101 = .ok (.iadd, 1) := by decide +kernel
theorem dX10_go_102 : decode cX10_go 102 = .ok (.iaload, 1) := by decide +kernel
theorem dX10_go_103 : decode cX10_go 103 = .ok (.invokestatic 90, 3) := by decide +kernel
theorem dX10_go_106 : decode cX10_go 106 = .ok (.ifCond .ge 6, 3) := by decide +kernel
theorem dX10_go_109 : decode cX10_go 109 = .ok (.bipush (-2), 2) := by decide +kernel
theorem dX10_go_111 : decode cX10_go 111 = .ok (.ireturn, 1) := by decide +kernel
theorem dX10_go_112 : decode cX10_go 112 = .ok (.iconst 0, 1) := by decide +kernel
theorem dX10_go_113 : decode cX10_go 113 = .ok (.istore 8, 2) := by decide +kernel
theorem dX10_go_115 : decode cX10_go 115 = .ok (.iload 8, 2) := by decide +kernel
theorem dX10_go_117 : decode cX10_go 117 = .ok (.iload 7, 2) := by decide +kernel
theorem dX10_go_119 : decode cX10_go 119 = .ok (.if_icmp .ge 35, 3) := by decide +kernel
theorem dX10_go_122 : decode cX10_go 122 = .ok (.aload_n 0, 1) := by decide +kernel
theorem dX10_go_123 : decode cX10_go 123 = .ok (.getfield 73, 3) := by decide +kernel
theorem dX10_go_126 : decode cX10_go 126 = .ok (.iload 6, 2) := by decide +kernel
theorem dX10_go_128 : decode cX10_go 128 = .ok (.iload 8, 2) := by decide +kernel
theorem dX10_go_130 : decode cX10_go 130 = .ok (.iadd, 1) := by decide +kernel
theorem dX10_go_131 : decode cX10_go 131 = .ok (.iaload, 1) := by decide +kernel
theorem dX10_go_132 : decode cX10_go 132 = .ok (.aload_n 0, 1) := by decide +kernel
theorem dX10_go_133 : decode cX10_go 133 = .ok (.getfield 73, 3) := by decide +kernel
theorem dX10_go_136 : decode cX10_go 136 = .ok (.iload 6, 2) := by decide +kernel
theorem dX10_go_138 : decode cX10_go 138 = .ok (.iload 7, 2) := by decide +kernel
theorem dX10_go_140 : decode cX10_go 140 = .ok (.iadd, 1) := by decide +kernel
theorem dX10_go_141 : decode cX10_go 141 = .ok (.iaload, 1) := by decide +kernel
theorem dX10_go_142 : decode cX10_go 142 = .ok (.if_icmp .ne 6, 3) := by decide +kernel
theorem dX10_go_145 : decode cX10_go 145 = .ok (.bipush (-2), 2) := by decide +kernel
theorem dX10_go_147 : decode cX10_go 147 = .ok (.ireturn, 1) := by decide +kernel
theorem dX10_go_148 : decode cX10_go 148 = .ok (.iinc 8 1, 3) := by decide +kernel
theorem dX10_go_151 : decode cX10_go 151 = .ok (.goto (-36), 3) := by decide +kernel
theorem dX10_go_154 : decode cX10_go 154 = .ok (.iinc 7 1, 3) := by decide +kernel
theorem dX10_go_157 : decode cX10_go 157 = .ok (.goto (-104), 3) := by decide +kernel
theorem dX10_go_160 : decode cX10_go 160 = .ok (.aload_n 0, 1) := by decide +kernel
theorem dX10_go_161 : decode cX10_go 161 = .ok (.iload 4, 2) := by decide +kernel
theorem dX10_go_163 : decode cX10_go 163 = .ok (.putfield 86, 3) := by decide +kernel
theorem dX10_go_166 : decode cX10_go 166 = .ok (.iconst 0, 1) := by decide +kernel
theorem dX10_go_167 : decode cX10_go 167 = .ok (.istore 7, 2) := by decide +kernel
theorem dX10_go_169 : decode cX10_go 169 = .ok (.iload 7, 2) := by decide +kernel
theorem dX10_go_171 : decode cX10_go 171 = .ok (.iload 4, 2) := by decide +kernel
theorem dX10_go_173 : decode cX10_go 173 = .ok (.if_icmp .ge 26, 3) := by decide +kernel
theorem dX10_go_176 : decode cX10_go 176 = .ok (.aload_n 0, 1) := by decide +kernel
theorem dX10_go_177 : decode cX10_go 177 = .ok (.getfield 7, 3) := by decide +kernel
theorem dX10_go_180 : decode cX10_go 180 = .ok (.iload 7, 2) := by decide +kernel
theorem dX10_go_182 : decode cX10_go 182 = .ok (.aload_n 0, 1) := by decide +kernel
theorem dX10_go_183 : decode cX10_go 183 = .ok (.getfield 73, 3) := by decide +kernel
theorem dX10_go_186 : decode cX10_go 186 = .ok (.iload 6, 2) := by decide +kernel
theorem dX10_go_188 : decode cX10_go 188 = .ok (.iload 7, 2) := by decide +kernel
theorem dX10_go_190 : decode cX10_go 190 = .ok (.iadd, 1) := by decide +kernel
theorem dX10_go_191 : decode cX10_go 191 = .ok (.iaload, 1) := by decide +kernel
theorem dX10_go_192 : decode cX10_go 192 = .ok (.iastore, 1) := by decide +kernel
theorem dX10_go_193 : decode cX10_go 193 = .ok (.iinc 7 1, 3) := by decide +kernel
theorem dX10_go_196 : decode cX10_go 196 = .ok (.goto (-27), 3) := by decide +kernel
theorem dX10_go_199 : decode cX10_go 199 = .ok (.iload 4, 2) := by decide +kernel
theorem dX10_go_201 : decode cX10_go 201 = .ok (.ireturn, 1) := by decide +kernel
theorem dX10_film_0 : decode cX10_film 0 = .ok (.iload_n 1, 1) := by decide +kernel
theorem dX10_film_1 : decode cX10_film 1 = .ok (.iload_n 2, 1) := by decide +kernel
theorem dX10_film_2 : decode cX10_film 2 = .ok (.invokestatic 266, 3) := by decide +kernel
theorem dX10_film_5 : decode cX10_film 5 = .ok (.ifCond .ne 5, 3) := by decide +kernel
theorem dX10_film_8 : decode cX10_film 8 = .ok (.iconst (-1), 1) := by decide +kernel
theorem dX10_film_9 : decode cX10_film 9 = .ok (.ireturn, 1) := by decide +kernel
theorem dX10_film_10 : decode cX10_film 10 = .ok (.aload_n 0, 1) := by decide +kernel
theorem dX10_film_11 : decode cX10_film 11 = .ok (.iload_n 1, 1) := by decide +kernel
theorem dX10_film_12 : decode cX10_film 12 = .ok (.iload_n 2, 1) := by decide +kernel
theorem dX10_film_13 : decode cX10_film 13 = .ok (.iload_n 3, 1) := by decide +kernel
theorem dX10_film_14 : decode cX10_film 14 = .ok (.bipush 36, 2) := by decide +kernel
theorem dX10_film_16 : decode cX10_film 16 = .ok (.invokevirtual 269, 3) := by decide +kernel
theorem dX10_film_19 : decode cX10_film 19 = .ok (.istore 4, 2) := by decide +kernel
theorem dX10_film_21 : decode cX10_film 21 = .ok (.iload 4, 2) := by decide +kernel
theorem dX10_film_23 : decode cX10_film 23 = .ok (.ifCond .ge 6, 3) := by decide +kernel
theorem dX10_film_26 : decode cX10_film 26 = .ok (.iload 4, 2) := by decide +kernel
theorem dX10_film_28 : decode cX10_film 28 = .ok (.ireturn, 1) := by decide +kernel
theorem dX10_film_29 : decode cX10_film 29 = .ok (.iconst 0, 1) := by decide +kernel
theorem dX10_film_30 : decode cX10_film 30 = .ok (.istore 5, 2) := by decide +kernel
theorem dX10_film_32 : decode cX10_film 32 = .ok (.iload 5, 2) := by decide +kernel
theorem dX10_film_34 : decode cX10_film 34 = .ok (.bipush 36, 2) := by decide +kernel
theorem dX10_film_36 : decode cX10_film 36 = .ok (.if_icmp .ge 29, 3) := by decide +kernel
theorem dX10_film_39 : decode cX10_film 39 = .ok (.aload_n 0, 1) := by decide +kernel
theorem dX10_film_40 : decode cX10_film 40 = .ok (.getfield 73, 3) := by decide +kernel
theorem dX10_film_43 : decode cX10_film 43 = .ok (.bipush 36, 2) := by decide +kernel
theorem dX10_film_45 : decode cX10_film 45 = .ok (.iload_n 1, 1) := by decide +kernel
theorem dX10_film_46 : decode cX10_film 46 = .ok (.imul, 1) := by decide +kernel
theorem dX10_film_47 : decode cX10_film 47 = .ok (.iload_n 3, 1) := by decide +kernel
theorem dX10_film_48 : decode cX10_film 48 = .ok (.iadd, 1) := by decide +kernel
theorem dX10_film_49 : decode cX10_film 49 = .ok (.iload 5, 2) := by decide +kernel
theorem dX10_film_51 : decode cX10_film 51 = .ok (.iadd, 1) := by decide +kernel
theorem dX10_film_52 : decode cX10_film 52 = .ok (.aload_n 0, 1) := by decide +kernel
theorem dX10_film_53 : decode cX10_film 53 = .ok (.iload 5, 2) := by decide +kernel
theorem dX10_film_55 : decode cX10_film 55 = .ok (.invokevirtual 217, 3) := by decide +kernel
theorem dX10_film_58 : decode cX10_film 58 = .ok (.iastore, 1) := by decide +kernel
theorem dX10_film_59 : decode cX10_film 59 = .ok (.iinc 5 1, 3) := by decide +kernel
theorem dX10_film_62 : decode cX10_film 62 = .ok (.goto (-30), 3) := by decide +kernel
theorem dX10_film_65 : decode cX10_film 65 = .ok (.bipush 36, 2) := by decide +kernel
theorem dX10_film_67 : decode cX10_film 67 = .ok (.ireturn, 1) := by decide +kernel
theorem dJ13_bitCount_95d88_0 : decode cJ13_bitCount_95d88 0 = .ok (.lload_n 0, 1) := by decide +kernel
theorem dJ13_bitCount_95d88_1 : decode cJ13_bitCount_95d88 1 = .ok (.lload_n 0, 1) := by decide +kernel
theorem dJ13_bitCount_95d88_2 : decode cJ13_bitCount_95d88 2 = .ok (.iconst 1, 1) := by decide +kernel
theorem dJ13_bitCount_95d88_3 : decode cJ13_bitCount_95d88 3 = .ok (.lushr, 1) := by decide +kernel
theorem dJ13_bitCount_95d88_4 : decode cJ13_bitCount_95d88 4 = .ok (.ldc2_w 314, 3) := by decide +kernel
theorem dJ13_bitCount_95d88_7 : decode cJ13_bitCount_95d88 7 = .ok (.land, 1) := by decide +kernel
theorem dJ13_bitCount_95d88_8 : decode cJ13_bitCount_95d88 8 = .ok (.lsub, 1) := by decide +kernel
theorem dJ13_bitCount_95d88_9 : decode cJ13_bitCount_95d88 9 = .ok (.lstore_n 0, 1) := by decide +kernel
theorem dJ13_bitCount_95d88_10 : decode cJ13_bitCount_95d88 10 = .ok (.lload_n 0, 1) := by decide +kernel
theorem dJ13_bitCount_95d88_11 : decode cJ13_bitCount_95d88 11 = .ok (.ldc2_w 316, 3) := by decide +kernel
theorem dJ13_bitCount_95d88_14 : decode cJ13_bitCount_95d88 14 = .ok (.land, 1) := by decide +kernel
theorem dJ13_bitCount_95d88_15 : decode cJ13_bitCount_95d88 15 = .ok (.lload_n 0, 1) := by decide +kernel
theorem dJ13_bitCount_95d88_16 : decode cJ13_bitCount_95d88 16 = .ok (.iconst 2, 1) := by decide +kernel
theorem dJ13_bitCount_95d88_17 : decode cJ13_bitCount_95d88 17 = .ok (.lushr, 1) := by decide +kernel
theorem dJ13_bitCount_95d88_18 : decode cJ13_bitCount_95d88 18 = .ok (.ldc2_w 316, 3) := by decide +kernel
theorem dJ13_bitCount_95d88_21 : decode cJ13_bitCount_95d88 21 = .ok (.land, 1) := by decide +kernel
theorem dJ13_bitCount_95d88_22 : decode cJ13_bitCount_95d88 22 = .ok (.ladd, 1) := by decide +kernel
theorem dJ13_bitCount_95d88_23 : decode cJ13_bitCount_95d88 23 = .ok (.lstore_n 0, 1) := by decide +kernel
theorem dJ13_bitCount_95d88_24 : decode cJ13_bitCount_95d88 24 = .ok (.lload_n 0, 1) := by decide +kernel
theorem dJ13_bitCount_95d88_25 : decode cJ13_bitCount_95d88 25 = .ok (.lload_n 0, 1) := by decide +kernel
theorem dJ13_bitCount_95d88_26 : decode cJ13_bitCount_95d88 26 = .ok (.iconst 4, 1) := by decide +kernel
theorem dJ13_bitCount_95d88_27 : decode cJ13_bitCount_95d88 27 = .ok (.lushr, 1) := by decide +kernel
theorem dJ13_bitCount_95d88_28 : decode cJ13_bitCount_95d88 28 = .ok (.ladd, 1) := by decide +kernel
theorem dJ13_bitCount_95d88_29 : decode cJ13_bitCount_95d88 29 = .ok (.ldc2_w 318, 3) := by decide +kernel
theorem dJ13_bitCount_95d88_32 : decode cJ13_bitCount_95d88 32 = .ok (.land, 1) := by decide +kernel
theorem dJ13_bitCount_95d88_33 : decode cJ13_bitCount_95d88 33 = .ok (.lstore_n 0, 1) := by decide +kernel
theorem dJ13_bitCount_95d88_34 : decode cJ13_bitCount_95d88 34 = .ok (.lload_n 0, 1) := by decide +kernel
theorem dJ13_bitCount_95d88_35 : decode cJ13_bitCount_95d88 35 = .ok (.lload_n 0, 1) := by decide +kernel
theorem dJ13_bitCount_95d88_36 : decode cJ13_bitCount_95d88 36 = .ok (.bipush 8, 2) := by decide +kernel
theorem dJ13_bitCount_95d88_38 : decode cJ13_bitCount_95d88 38 = .ok (.lushr, 1) := by decide +kernel
theorem dJ13_bitCount_95d88_39 : decode cJ13_bitCount_95d88 39 = .ok (.ladd, 1) := by decide +kernel
theorem dJ13_bitCount_95d88_40 : decode cJ13_bitCount_95d88 40 = .ok (.lstore_n 0, 1) := by decide +kernel
theorem dJ13_bitCount_95d88_41 : decode cJ13_bitCount_95d88 41 = .ok (.lload_n 0, 1) := by decide +kernel
theorem dJ13_bitCount_95d88_42 : decode cJ13_bitCount_95d88 42 = .ok (.lload_n 0, 1) := by decide +kernel
theorem dJ13_bitCount_95d88_43 : decode cJ13_bitCount_95d88 43 = .ok (.bipush 16, 2) := by decide +kernel
theorem dJ13_bitCount_95d88_45 : decode cJ13_bitCount_95d88 45 = .ok (.lushr, 1) := by decide +kernel
theorem dJ13_bitCount_95d88_46 : decode cJ13_bitCount_95d88 46 = .ok (.ladd, 1) := by decide +kernel
theorem dJ13_bitCount_95d88_47 : decode cJ13_bitCount_95d88 47 = .ok (.lstore_n 0, 1) := by decide +kernel
theorem dJ13_bitCount_95d88_48 : decode cJ13_bitCount_95d88 48 = .ok (.lload_n 0, 1) := by decide +kernel
theorem dJ13_bitCount_95d88_49 : decode cJ13_bitCount_95d88 49 = .ok (.lload_n 0, 1) := by decide +kernel
theorem dJ13_bitCount_95d88_50 : decode cJ13_bitCount_95d88 50 = .ok (.bipush 32, 2) := by decide +kernel
theorem dJ13_bitCount_95d88_52 : decode cJ13_bitCount_95d88 52 = .ok (.lushr, 1) := by decide +kernel
theorem dJ13_bitCount_95d88_53 : decode cJ13_bitCount_95d88 53 = .ok (.ladd, 1) := by decide +kernel
theorem dJ13_bitCount_95d88_54 : decode cJ13_bitCount_95d88 54 = .ok (.lstore_n 0, 1) := by decide +kernel
theorem dJ13_bitCount_95d88_55 : decode cJ13_bitCount_95d88 55 = .ok (.lload_n 0, 1) := by decide +kernel
theorem dJ13_bitCount_95d88_56 : decode cJ13_bitCount_95d88 56 = .ok (.l2i, 1) := by decide +kernel
theorem dJ13_bitCount_95d88_57 : decode cJ13_bitCount_95d88 57 = .ok (.bipush 127, 2) := by decide +kernel
theorem dJ13_bitCount_95d88_59 : decode cJ13_bitCount_95d88 59 = .ok (.iand, 1) := by decide +kernel
theorem dJ13_bitCount_95d88_60 : decode cJ13_bitCount_95d88 60 = .ok (.ireturn, 1) := by decide +kernel
theorem dJ9_max_7cf53_0 : decode cJ9_max_7cf53 0 = .ok (.iload_n 0, 1) := by decide +kernel
theorem dJ9_max_7cf53_1 : decode cJ9_max_7cf53 1 = .ok (.iload_n 1, 1) := by decide +kernel
theorem dJ9_max_7cf53_2 : decode cJ9_max_7cf53 2 = .ok (.if_icmp .lt 7, 3) := by decide +kernel
theorem dJ9_max_7cf53_5 : decode cJ9_max_7cf53 5 = .ok (.iload_n 0, 1) := by decide +kernel
theorem dJ9_max_7cf53_6 : decode cJ9_max_7cf53 6 = .ok (.goto 4, 3) := by decide +kernel
theorem dJ9_max_7cf53_9 : decode cJ9_max_7cf53 9 = .ok (.iload_n 1, 1) := by decide +kernel
theorem dJ9_max_7cf53_10 : decode cJ9_max_7cf53 10 = .ok (.ireturn, 1) := by decide +kernel
theorem dJ9_min_7cf53_0 : decode cJ9_min_7cf53 0 = .ok (.iload_n 0, 1) := by decide +kernel
theorem dJ9_min_7cf53_1 : decode cJ9_min_7cf53 1 = .ok (.iload_n 1, 1) := by decide +kernel
theorem dJ9_min_7cf53_2 : decode cJ9_min_7cf53 2 = .ok (.if_icmp .gt 7, 3) := by decide +kernel
theorem dJ9_min_7cf53_5 : decode cJ9_min_7cf53 5 = .ok (.iload_n 0, 1) := by decide +kernel
theorem dJ9_min_7cf53_6 : decode cJ9_min_7cf53 6 = .ok (.goto 4, 3) := by decide +kernel
theorem dJ9_min_7cf53_9 : decode cJ9_min_7cf53 9 = .ok (.iload_n 1, 1) := by decide +kernel
theorem dJ9_min_7cf53_10 : decode cJ9_min_7cf53 10 = .ok (.ireturn, 1) := by decide +kernel
theorem dL_law_0 : decode cL_law 0 = .ok (.new 7, 3) := by decide +kernel
theorem dL_law_3 : decode cL_law 3 = .ok (.dup, 1) := by decide +kernel
theorem dL_law_4 : decode cL_law 4 = .ok (.invokespecial 9, 3) := by decide +kernel
theorem dL_law_7 : decode cL_law 7 = .ok (.astore_n 1, 1) := by decide +kernel
theorem dL_law_8 : decode cL_law 8 = .ok (.new 10, 3) := by decide +kernel
theorem dL_law_11 : decode cL_law 11 = .ok (.dup, 1) := by decide +kernel
theorem dL_law_12 : decode cL_law 12 = .ok (.invokespecial 12, 3) := by decide +kernel
theorem dL_law_15 : decode cL_law 15 = .ok (.astore_n 2, 1) := by decide +kernel
theorem dL_law_16 : decode cL_law 16 = .ok (.iconst 0, 1) := by decide +kernel
theorem dL_law_17 : decode cL_law 17 = .ok (.istore_n 3, 1) := by decide +kernel
theorem dL_law_18 : decode cL_law 18 = .ok (.iload_n 3, 1) := by decide +kernel
theorem dL_law_19 : decode cL_law 19 = .ok (.aload_n 0, 1) := by decide +kernel
theorem dL_law_20 : decode cL_law 20 = .ok (.arraylength, 1) := by decide +kernel
theorem dL_law_21 : decode cL_law 21 = .ok (.bipush 6, 2) := by decide +kernel
theorem dL_law_23 : decode cL_law 23 = .ok (.isub, 1) := by decide +kernel
theorem dL_law_24 : decode cL_law 24 = .ok (.if_icmp .gt 1125, 3) := by decide +kernel
theorem dL_law_27 : decode cL_law 27 = .ok (.aload_n 0, 1) := by decide +kernel
theorem dL_law_28 : decode cL_law 28 = .ok (.iload_n 3, 1) := by decide +kernel
theorem dL_law_29 : decode cL_law 29 = .ok (.iaload, 1) := by decide +kernel
theorem dL_law_30 : decode cL_law 30 = .ok (.bipush 31, 2) := by decide +kernel
theorem dL_law_32 : decode cL_law 32 = .ok (.iand, 1) := by decide +kernel
theorem dL_law_33 : decode cL_law 33 = .ok (.tableswitch 1110 0 28 #[131, 154, 177, 210, 269, 318, 351, 384, 447, 460, 473, 496, 539, 592, 635, 658, 681, 744, 757, 780, 803, 826, 869, 882, 895, 948, 991, 1014, 1067], 131) := by decide +kernel
theorem dL_law_164 : decode cL_law 164 = .ok (.aload_n 1, 1) := by decide +kernel
theorem dL_law_165 : decode cL_law 165 = .ok (.aload_n 0, 1) := by decide +kernel
theorem dL_law_166 : decode cL_law 166 = .ok (.iload_n 3, 1) := by decide +kernel
theorem dL_law_167 : decode cL_law 167 = .ok (.iconst 1, 1) := by decide +kernel
theorem dL_law_168 : decode cL_law 168 = .ok (.iadd, 1) := by decide +kernel
theorem dL_law_169 : decode cL_law 169 = .ok (.iaload, 1) := by decide +kernel
theorem dL_law_170 : decode cL_law 170 = .ok (.invokevirtual 13, 3) := by decide +kernel
theorem dL_law_173 : decode cL_law 173 = .ok (.aload_n 2, 1) := by decide +kernel
theorem dL_law_174 : decode cL_law 174 = .ok (.aload_n 0, 1) := by decide +kernel
theorem dL_law_175 : decode cL_law 175 = .ok (.iload_n 3, 1) := by decide +kernel
theorem dL_law_176 : decode cL_law 176 = .ok (.iconst 1, 1) := by decide +kernel
theorem dL_law_177 : decode cL_law 177 = .ok (.iadd, 1) := by decide +kernel
theorem dL_law_178 : decode cL_law 178 = .ok (.iaload, 1) := by decide +kernel
theorem dL_law_179 : decode cL_law 179 = .ok (.invokevirtual 17, 3) := by decide +kernel
theorem dL_law_182 : decode cL_law 182 = .ok (.if_icmp .eq 961, 3) := by decide +kernel
theorem dL_law_185 : decode cL_law 185 = .ok (.iconst 0, 1) := by decide +kernel
theorem dL_law_186 : decode cL_law 186 = .ok (.ireturn, 1) := by decide +kernel
theorem dL_law_187 : decode cL_law 187 = .ok (.aload_n 1, 1) := by decide +kernel
theorem dL_law_188 : decode cL_law 188 = .ok (.aload_n 0, 1) := by decide +kernel
theorem dL_law_189 : decode cL_law 189 = .ok (.iload_n 3, 1) := by decide +kernel
