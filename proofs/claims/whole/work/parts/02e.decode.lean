theorem dX10_init_188 : decode cX10_init 188 = .ok (.iload_n 1, 1) := by decide +kernel
theorem dX10_init_189 : decode cX10_init 189 = .ok (.iconst (-1), 1) := by decide +kernel
theorem dX10_init_190 : decode cX10_init 190 = .ok (.iastore, 1) := by decide +kernel
theorem dX10_init_191 : decode cX10_init 191 = .ok (.iinc 1 1, 3) := by decide +kernel
theorem dX10_init_194 : decode cX10_init 194 = .ok (.goto (-15), 3) := by decide +kernel
theorem dX10_init_197 : decode cX10_init 197 = .ok (.aload_n 0, 1) := by decide +kernel
theorem dX10_init_198 : decode cX10_init 198 = .ok (.getfield 22, 3) := by decide +kernel
theorem dX10_init_201 : decode cX10_init 201 = .ok (.iconst 0, 1) := by decide +kernel
theorem dX10_init_202 : decode cX10_init 202 = .ok (.bipush 9, 2) := by decide +kernel
theorem dX10_init_204 : decode cX10_init 204 = .ok (.iastore, 1) := by decide +kernel
theorem dX10_init_205 : decode cX10_init 205 = .ok (.aload_n 0, 1) := by decide +kernel
theorem dX10_init_206 : decode cX10_init 206 = .ok (.getfield 22, 3) := by decide +kernel
theorem dX10_init_209 : decode cX10_init 209 = .ok (.iconst 1, 1) := by decide +kernel
theorem dX10_init_210 : decode cX10_init 210 = .ok (.bipush 14, 2) := by decide +kernel
theorem dX10_init_212 : decode cX10_init 212 = .ok (.iastore, 1) := by decide +kernel
theorem dX10_init_213 : decode cX10_init 213 = .ok (.return_, 1) := by decide +kernel
theorem dX10_in_0 : decode cX10_in 0 = .ok (.lload_n 0, 1) := by decide +kernel
theorem dX10_in_1 : decode cX10_in 1 = .ok (.lload_n 2, 1) := by decide +kernel
theorem dX10_in_2 : decode cX10_in 2 = .ok (.lcmp, 1) := by decide +kernel
theorem dX10_in_3 : decode cX10_in 3 = .ok (.ifCond .lt 14, 3) := by decide +kernel
theorem dX10_in_6 : decode cX10_in 6 = .ok (.lload_n 0, 1) := by decide +kernel
theorem dX10_in_7 : decode cX10_in 7 = .ok (.lload 4, 2) := by decide +kernel
theorem dX10_in_9 : decode cX10_in 9 = .ok (.lcmp, 1) := by decide +kernel
theorem dX10_in_10 : decode cX10_in 10 = .ok (.ifCond .gt 7, 3) := by decide +kernel
theorem dX10_in_13 : decode cX10_in 13 = .ok (.iconst 1, 1) := by decide +kernel
theorem dX10_in_14 : decode cX10_in 14 = .ok (.goto 4, 3) := by decide +kernel
theorem dX10_in_17 : decode cX10_in 17 = .ok (.iconst 0, 1) := by decide +kernel
theorem dX10_in_18 : decode cX10_in 18 = .ok (.ireturn, 1) := by decide +kernel
theorem dX10_isSquare_0 : decode cX10_isSquare 0 = .ok (.iload_n 0, 1) := by decide +kernel
theorem dX10_isSquare_1 : decode cX10_isSquare 1 = .ok (.i2l, 1) := by decide +kernel
theorem dX10_isSquare_2 : decode cX10_isSquare 2 = .ok (.lconst 0, 1) := by decide +kernel
theorem dX10_isSquare_3 : decode cX10_isSquare 3 = .ok (.ldc2_w 76, 3) := by decide +kernel
theorem dX10_isSquare_6 : decode cX10_isSquare 6 = .ok (.invokestatic 78, 3) := by decide +kernel
theorem dX10_isSquare_9 : decode cX10_isSquare 9 = .ok (.ireturn, 1) := by decide +kernel
theorem dX10_nextTo_0 : decode cX10_nextTo 0 = .ok (.iload_n 1, 1) := by decide +kernel
theorem dX10_nextTo_1 : decode cX10_nextTo 1 = .ok (.ifCond .ne 9, 3) := by decide +kernel
theorem dX10_nextTo_4 : decode cX10_nextTo 4 = .ok (.iload_n 0, 1) := by decide +kernel
theorem dX10_nextTo_5 : decode cX10_nextTo 5 = .ok (.bipush 6, 2) := by decide +kernel
theorem dX10_nextTo_7 : decode cX10_nextTo 7 = .ok (.if_icmp .lt 39, 3) := by decide +kernel
theorem dX10_nextTo_10 : decode cX10_nextTo 10 = .ok (.iload_n 1, 1) := by decide +kernel
theorem dX10_nextTo_11 : decode cX10_nextTo 11 = .ok (.iconst 1, 1) := by decide +kernel
theorem dX10_nextTo_12 : decode cX10_nextTo 12 = .ok (.if_icmp .ne 10, 3) := by decide +kernel
theorem dX10_nextTo_15 : decode cX10_nextTo 15 = .ok (.iload_n 0, 1) := by decide +kernel
theorem dX10_nextTo_16 : decode cX10_nextTo 16 = .ok (.bipush 6, 2) := by decide +kernel
theorem dX10_nextTo_18 : decode cX10_nextTo 18 = .ok (.irem, 1) := by decide +kernel
theorem dX10_nextTo_19 : decode cX10_nextTo 19 = .ok (.ifCond .eq 27, 3) := by decide +kernel
theorem dX10_nextTo_22 : decode cX10_nextTo 22 = .ok (.iload_n 1, 1) := by decide +kernel
theorem dX10_nextTo_23 : decode cX10_nextTo 23 = .ok (.iconst 2, 1) := by decide +kernel
theorem dX10_nextTo_24 : decode cX10_nextTo 24 = .ok (.if_icmp .ne 11, 3) := by decide +kernel
theorem dX10_nextTo_27 : decode cX10_nextTo 27 = .ok (.iload_n 0, 1) := by decide +kernel
theorem dX10_nextTo_28 : decode cX10_nextTo 28 = .ok (.bipush 6, 2) := by decide +kernel
theorem dX10_nextTo_30 : decode cX10_nextTo 30 = .ok (.irem, 1) := by decide +kernel
theorem dX10_nextTo_31 : decode cX10_nextTo 31 = .ok (.iconst 5, 1) := by decide +kernel
theorem dX10_nextTo_32 : decode cX10_nextTo 32 = .ok (.if_icmp .eq 14, 3) := by decide +kernel
theorem dX10_nextTo_35 : decode cX10_nextTo 35 = .ok (.iload_n 1, 1) := by decide +kernel
theorem dX10_nextTo_36 : decode cX10_nextTo 36 = .ok (.iconst 3, 1) := by decide +kernel
theorem dX10_nextTo_37 : decode cX10_nextTo 37 = .ok (.if_icmp .ne 13, 3) := by decide +kernel
theorem dX10_nextTo_40 : decode cX10_nextTo 40 = .ok (.iload_n 0, 1) := by decide +kernel
theorem dX10_nextTo_41 : decode cX10_nextTo 41 = .ok (.bipush 30, 2) := by decide +kernel
theorem dX10_nextTo_43 : decode cX10_nextTo 43 = .ok (.if_icmp .lt 7, 3) := by decide +kernel
theorem dX10_nextTo_46 : decode cX10_nextTo 46 = .ok (.iconst 1, 1) := by decide +kernel
theorem dX10_nextTo_47 : decode cX10_nextTo 47 = .ok (.goto 4, 3) := by decide +kernel
theorem dX10_nextTo_50 : decode cX10_nextTo 50 = .ok (.iconst 0, 1) := by decide +kernel
theorem dX10_nextTo_51 : decode cX10_nextTo 51 = .ok (.istore_n 2, 1) := by decide +kernel
theorem dX10_nextTo_52 : decode cX10_nextTo 52 = .ok (.iload_n 2, 1) := by decide +kernel
theorem dX10_nextTo_53 : decode cX10_nextTo 53 = .ok (.ifCond .eq 7, 3) := by decide +kernel
theorem dX10_nextTo_56 : decode cX10_nextTo 56 = .ok (.iconst (-1), 1) := by decide +kernel
theorem dX10_nextTo_57 : decode cX10_nextTo 57 = .ok (.goto 40, 3) := by decide +kernel
theorem dX10_nextTo_60 : decode cX10_nextTo 60 = .ok (.iload_n 1, 1) := by decide +kernel
theorem dX10_nextTo_61 : decode cX10_nextTo 61 = .ok (.ifCond .ne 10, 3) := by decide +kernel
theorem dX10_nextTo_64 : decode cX10_nextTo 64 = .ok (.iload_n 0, 1) := by decide +kernel
theorem dX10_nextTo_65 : decode cX10_nextTo 65 = .ok (.bipush 6, 2) := by decide +kernel
theorem dX10_nextTo_67 : decode cX10_nextTo 67 = .ok (.isub, 1) := by decide +kernel
theorem dX10_nextTo_68 : decode cX10_nextTo 68 = .ok (.goto 29, 3) := by decide +kernel
theorem dX10_nextTo_71 : decode cX10_nextTo 71 = .ok (.iload_n 1, 1) := by decide +kernel
theorem dX10_nextTo_72 : decode cX10_nextTo 72 = .ok (.iconst 1, 1) := by decide +kernel
theorem dX10_nextTo_73 : decode cX10_nextTo 73 = .ok (.if_icmp .ne 9, 3) := by decide +kernel
theorem dX10_nextTo_76 : decode cX10_nextTo 76 = .ok (.iload_n 0, 1) := by decide +kernel
theorem dX10_nextTo_77 : decode cX10_nextTo 77 = .ok (.iconst 1, 1) := by decide +kernel
theorem dX10_nextTo_78 : decode cX10_nextTo 78 = .ok (.isub, 1) := by decide +kernel
theorem dX10_nextTo_79 : decode cX10_nextTo 79 = .ok (.goto 18, 3) := by decide +kernel
theorem dX10_nextTo_82 : decode cX10_nextTo 82 = .ok (.iload_n 1, 1) := by decide +kernel
theorem dX10_nextTo_83 : decode cX10_nextTo 83 = .ok (.iconst 2, 1) := by decide +kernel
theorem dX10_nextTo_84 : decode cX10_nextTo 84 = .ok (.if_icmp .ne 9, 3) := by decide +kernel
theorem dX10_nextTo_87 : decode cX10_nextTo 87 = .ok (.iload_n 0, 1) := by decide +kernel
theorem dX10_nextTo_88 : decode cX10_nextTo 88 = .ok (.iconst 1, 1) := by decide +kernel
theorem dX10_nextTo_89 : decode cX10_nextTo 89 = .ok (.iadd, 1) := by decide +kernel
theorem dX10_nextTo_90 : decode cX10_nextTo 90 = .ok (.goto 7, 3) := by decide +kernel
theorem dX10_nextTo_93 : decode cX10_nextTo 93 = .ok (.iload_n 0, 1) := by decide +kernel
theorem dX10_nextTo_94 : decode cX10_nextTo 94 = .ok (.bipush 6, 2) := by decide +kernel
theorem dX10_nextTo_96 : decode cX10_nextTo 96 = .ok (.iadd, 1) := by decide +kernel
theorem dX10_nextTo_97 : decode cX10_nextTo 97 = .ok (.ireturn, 1) := by decide +kernel
theorem dX10_pairOf_0 : decode cX10_pairOf 0 = .ok (.iload_n 1, 1) := by decide +kernel
theorem dX10_pairOf_1 : decode cX10_pairOf 1 = .ok (.ifCond .ne 14, 3) := by decide +kernel
theorem dX10_pairOf_4 : decode cX10_pairOf 4 = .ok (.iconst 2, 1) := by decide +kernel
theorem dX10_pairOf_5 : decode cX10_pairOf 5 = .ok (.iload_n 0, 1) := by decide +kernel
theorem dX10_pairOf_6 : decode cX10_pairOf 6 = .ok (.bipush 6, 2) := by decide +kernel
theorem dX10_pairOf_8 : decode cX10_pairOf 8 = .ok (.isub, 1) := by decide +kernel
theorem dX10_pairOf_9 : decode cX10_pairOf 9 = .ok (.imul, 1) := by decide +kernel
theorem dX10_pairOf_10 : decode cX10_pairOf 10 = .ok (.iconst 1, 1) := by decide +kernel
theorem dX10_pairOf_11 : decode cX10_pairOf 11 = .ok (.iadd, 1) := by decide +kernel
theorem dX10_pairOf_12 : decode cX10_pairOf 12 = .ok (.goto 32, 3) := by decide +kernel
theorem dX10_pairOf_15 : decode cX10_pairOf 15 = .ok (.iload_n 1, 1) := by decide +kernel
theorem dX10_pairOf_16 : decode cX10_pairOf 16 = .ok (.iconst 1, 1) := by decide +kernel
theorem dX10_pairOf_17 : decode cX10_pairOf 17 = .ok (.if_icmp .ne 11, 3) := by decide +kernel
theorem dX10_pairOf_20 : decode cX10_pairOf 20 = .ok (.iconst 2, 1) := by decide +kernel
theorem dX10_pairOf_21 : decode cX10_pairOf 21 = .ok (.iload_n 0, 1) := by decide +kernel
theorem dX10_pairOf_22 : decode cX10_pairOf 22 = .ok (.iconst 1, 1) := by decide +kernel
theorem dX10_pairOf_23 : decode cX10_pairOf 23 = .ok (.isub, 1) := by decide +kernel
theorem dX10_pairOf_24 : decode cX10_pairOf 24 = .ok (.imul, 1) := by decide +kernel
theorem dX10_pairOf_25 : decode cX10_pairOf 25 = .ok (.goto 19, 3) := by decide +kernel
theorem dX10_pairOf_28 : decode cX10_pairOf 28 = .ok (.iload_n 1, 1) := by decide +kernel
theorem dX10_pairOf_29 : decode cX10_pairOf 29 = .ok (.iconst 2, 1) := by decide +kernel
theorem dX10_pairOf_30 : decode cX10_pairOf 30 = .ok (.if_icmp .ne 9, 3) := by decide +kernel
theorem dX10_pairOf_33 : decode cX10_pairOf 33 = .ok (.iconst 2, 1) := by decide +kernel
theorem dX10_pairOf_34 : decode cX10_pairOf 34 = .ok (.iload_n 0, 1) := by decide +kernel
theorem dX10_pairOf_35 : decode cX10_pairOf 35 = .ok (.imul, 1) := by decide +kernel
theorem dX10_pairOf_36 : decode cX10_pairOf 36 = .ok (.goto 8, 3) := by decide +kernel
theorem dX10_pairOf_39 : decode cX10_pairOf 39 = .ok (.iconst 2, 1) := by decide +kernel
theorem dX10_pairOf_40 : decode cX10_pairOf 40 = .ok (.iload_n 0, 1) := by decide +kernel
theorem dX10_pairOf_41 : decode cX10_pairOf 41 = .ok (.imul, 1) := by decide +kernel
theorem dX10_pairOf_42 : decode cX10_pairOf 42 = .ok (.iconst 1, 1) := by decide +kernel
theorem dX10_pairOf_43 : decode cX10_pairOf 43 = .ok (.iadd, 1) := by decide +kernel
theorem dX10_pairOf_44 : decode cX10_pairOf 44 = .ok (.ireturn, 1) := by decide +kernel
theorem dX10_sideTo_0 : decode cX10_sideTo 0 = .ok (.iconst (-1), 1) := by decide +kernel
theorem dX10_sideTo_1 : decode cX10_sideTo 1 = .ok (.istore_n 2, 1) := by decide +kernel
theorem dX10_sideTo_2 : decode cX10_sideTo 2 = .ok (.iconst 0, 1) := by decide +kernel
theorem dX10_sideTo_3 : decode cX10_sideTo 3 = .ok (.istore_n 3, 1) := by decide +kernel
theorem dX10_sideTo_4 : decode cX10_sideTo 4 = .ok (.iload_n 3, 1) := by decide +kernel
theorem dX10_sideTo_5 : decode cX10_sideTo 5 = .ok (.iconst 4, 1) := by decide +kernel
theorem dX10_sideTo_6 : decode cX10_sideTo 6 = .ok (.if_icmp .ge 24, 3) := by decide +kernel
theorem dX10_sideTo_9 : decode cX10_sideTo 9 = .ok (.iload_n 0, 1) := by decide +kernel
theorem dX10_sideTo_10 : decode cX10_sideTo 10 = .ok (.iload_n 3, 1) := by decide +kernel
theorem dX10_sideTo_11 : decode cX10_sideTo 11 = .ok (.invokestatic 82, 3) := by decide +kernel
theorem dX10_sideTo_14 : decode cX10_sideTo 14 = .ok (.iload_n 1, 1) := by decide +kernel
theorem dX10_sideTo_15 : decode cX10_sideTo 15 = .ok (.if_icmp .ne 7, 3) := by decide +kernel
theorem dX10_sideTo_18 : decode cX10_sideTo 18 = .ok (.iload_n 3, 1) := by decide +kernel
theorem dX10_sideTo_19 : decode cX10_sideTo 19 = .ok (.goto 4, 3) := by decide +kernel
theorem dX10_sideTo_22 : decode cX10_sideTo 22 = .ok (.iload_n 2, 1) := by decide +kernel
theorem dX10_sideTo_23 : decode cX10_sideTo 23 = .ok (.istore_n 2, 1) := by decide +kernel
theorem dX10_sideTo_24 : decode cX10_sideTo 24 = .ok (.iinc 3 1, 3) := by decide +kernel
theorem dX10_sideTo_27 : decode cX10_sideTo 27 = .ok (.goto (-23), 3) := by decide +kernel
theorem dX10_sideTo_30 : decode cX10_sideTo 30 = .ok (.iload_n 2, 1) := by decide +kernel
theorem dX10_sideTo_31 : decode cX10_sideTo 31 = .ok (.ireturn, 1) := by decide +kernel
theorem dX10_placeOf_0 : decode cX10_placeOf 0 = .ok (.bipush (-4), 2) := by decide +kernel
theorem dX10_placeOf_2 : decode cX10_placeOf 2 = .ok (.istore_n 2, 1) := by decide +kernel
theorem dX10_placeOf_3 : decode cX10_placeOf 3 = .ok (.iconst 0, 1) := by decide +kernel
theorem dX10_placeOf_4 : decode cX10_placeOf 4 = .ok (.istore_n 3, 1) := by decide +kernel
theorem dX10_placeOf_5 : decode cX10_placeOf 5 = .ok (.iload_n 3, 1) := by decide +kernel
theorem dX10_placeOf_6 : decode cX10_placeOf 6 = .ok (.aload_n 0, 1) := by decide +kernel
theorem dX10_placeOf_7 : decode cX10_placeOf 7 = .ok (.getfield 86, 3) := by decide +kernel
theorem dX10_placeOf_10 : decode cX10_placeOf 10 = .ok (.if_icmp .ge 25, 3) := by decide +kernel
theorem dX10_placeOf_13 : decode cX10_placeOf 13 = .ok (.aload_n 0, 1) := by decide +kernel
theorem dX10_placeOf_14 : decode cX10_placeOf 14 = .ok (.getfield 7, 3) := by decide +kernel
theorem dX10_placeOf_17 : decode cX10_placeOf 17 = .ok (.iload_n 3, 1) := by decide +kernel
theorem dX10_placeOf_18 : decode cX10_placeOf 18 = .ok (.iaload, 1) := by decide +kernel
theorem dX10_placeOf_19 : decode cX10_placeOf 19 = .ok (.iload_n 1, 1) := by decide +kernel
theorem dX10_placeOf_20 : decode cX10_placeOf 20 = .ok (.if_icmp .ne 7, 3) := by decide +kernel
theorem dX10_placeOf_23 : decode cX10_placeOf 23 = .ok (.iload_n 3, 1) := by decide +kernel
theorem dX10_placeOf_24 : decode cX10_placeOf 24 = .ok (.goto 4, 3) := by decide +kernel
theorem dX10_placeOf_27 : decode cX10_placeOf 27 = .ok (.iload_n 2, 1) := by decide +kernel
theorem dX10_placeOf_28 : decode cX10_placeOf 28 = .ok (.istore_n 2, 1) := by decide +kernel
theorem dX10_placeOf_29 : decode cX10_placeOf 29 = .ok (.iinc 3 1, 3) := by decide +kernel
theorem dX10_placeOf_32 : decode cX10_placeOf 32 = .ok (.goto (-27), 3) := by decide +kernel
theorem dX10_placeOf_35 : decode cX10_placeOf 35 = .ok (.iload_n 2, 1) := by decide +kernel
theorem dX10_placeOf_36 : decode cX10_placeOf 36 = .ok (.ireturn, 1) := by decide +kernel
theorem dX10_isRound_0 : decode cX10_isRound 0 = .ok (.aload_n 0, 1) := by decide +kernel
theorem dX10_isRound_1 : decode cX10_isRound 1 = .ok (.getfield 86, 3) := by decide +kernel
theorem dX10_isRound_4 : decode cX10_isRound 4 = .ok (.iconst 4, 1) := by decide +kernel
theorem dX10_isRound_5 : decode cX10_isRound 5 = .ok (.if_icmp .lt 30, 3) := by decide +kernel
theorem dX10_isRound_8 : decode cX10_isRound 8 = .ok (.aload_n 0, 1) := by decide +kernel
theorem dX10_isRound_9 : decode cX10_isRound 9 = .ok (.getfield 7, 3) := by decide +kernel
theorem dX10_isRound_12 : decode cX10_isRound 12 = .ok (.aload_n 0, 1) := by decide +kernel
theorem dX10_isRound_13 : decode cX10_isRound 13 = .ok (.getfield 86, 3) := by decide +kernel
theorem dX10_isRound_16 : decode cX10_isRound 16 = .ok (.iconst 1, 1) := by decide +kernel
theorem dX10_isRound_17 : decode cX10_isRound 17 = .ok (.isub, 1) := by decide +kernel
theorem dX10_isRound_18 : decode cX10_isRound 18 = .ok (.iaload, 1) := by decide +kernel
theorem dX10_isRound_19 : decode cX10_isRound 19 = .ok (.aload_n 0, 1) := by decide +kernel
theorem dX10_isRound_20 : decode cX10_isRound 20 = .ok (.getfield 7, 3) := by decide +kernel
theorem dX10_isRound_23 : decode cX10_isRound 23 = .ok (.iconst 0, 1) := by decide +kernel
theorem dX10_isRound_24 : decode cX10_isRound 24 = .ok (.iaload, 1) := by decide +kernel
theorem dX10_isRound_25 : decode cX10_isRound 25 = .ok (.invokestatic 90, 3) := by decide +kernel
theorem dX10_isRound_28 : decode cX10_isRound 28 = .ok (.ifCond .lt 7, 3) := by decide +kernel
theorem dX10_isRound_31 : decode cX10_isRound 31 = .ok (.iconst 1, 1) := by decide +kernel
theorem dX10_isRound_32 : decode cX10_isRound 32 = .ok (.goto 4, 3) := by decide +kernel
theorem dX10_isRound_35 : decode cX10_isRound 35 = .ok (.iconst 0, 1) := by decide +kernel
theorem dX10_isRound_36 : decode cX10_isRound 36 = .ok (.ireturn, 1) := by decide +kernel
theorem dX10_follow_0 : decode cX10_follow 0 = .ok (.iload_n 1, 1) := by decide +kernel
theorem dX10_follow_1 : decode cX10_follow 1 = .ok (.iload_n 2, 1) := by decide +kernel
theorem dX10_follow_2 : decode cX10_follow 2 = .ok (.if_icmp .le 9, 3) := by decide +kernel
theorem dX10_follow_5 : decode cX10_follow 5 = .ok (.iload_n 1, 1) := by decide +kernel
theorem dX10_follow_6 : decode cX10_follow 6 = .ok (.iload_n 2, 1) := by decide +kernel
theorem dX10_follow_7 : decode cX10_follow 7 = .ok (.isub, 1) := by decide +kernel
theorem dX10_follow_8 : decode cX10_follow 8 = .ok (.goto 6, 3) := by decide +kernel
theorem dX10_follow_11 : decode cX10_follow 11 = .ok (.iload_n 2, 1) := by decide +kernel
theorem dX10_follow_12 : decode cX10_follow 12 = .ok (.iload_n 1, 1) := by decide +kernel
theorem dX10_follow_13 : decode cX10_follow 13 = .ok (.isub, 1) := by decide +kernel
theorem dX10_follow_14 : decode cX10_follow 14 = .ok (.istore_n 3, 1) := by decide +kernel
theorem dX10_follow_15 : decode cX10_follow 15 = .ok (.iload_n 1, 1) := by decide +kernel
theorem dX10_follow_16 : decode cX10_follow 16 = .ok (.ifCond .lt 33, 3) := by decide +kernel
theorem dX10_follow_19 : decode cX10_follow 19 = .ok (.iload_n 2, 1) := by decide +kernel
theorem dX10_follow_20 : decode cX10_follow 20 = .ok (.ifCond .lt 29, 3) := by decide +kernel
theorem dX10_follow_23 : decode cX10_follow 23 = .ok (.iload_n 3, 1) := by decide +kernel
theorem dX10_follow_24 : decode cX10_follow 24 = .ok (.iconst 1, 1) := by decide +kernel
theorem dX10_follow_25 : decode cX10_follow 25 = .ok (.if_icmp .eq 20, 3) := by decide +kernel
theorem dX10_follow_28 : decode cX10_follow 28 = .ok (.iload_n 3, 1) := by decide +kernel
theorem dX10_follow_29 : decode cX10_follow 29 = .ok (.aload_n 0, 1) := by decide +kernel
theorem dX10_follow_30 : decode cX10_follow 30 = .ok (.getfield 86, 3) := by decide +kernel
theorem dX10_follow_33 : decode cX10_follow 33 = .ok (.iconst 1, 1) := by decide +kernel
theorem dX10_follow_34 : decode cX10_follow 34 = .ok (.isub, 1) := by decide +kernel
theorem dX10_follow_35 : decode cX10_follow 35 = .ok (.if_icmp .ne 14, 3) := by decide +kernel
theorem dX10_follow_38 : decode cX10_follow 38 = .ok (.aload_n 0, 1) := by decide +kernel
theorem dX10_follow_39 : decode cX10_follow 39 = .ok (.invokevirtual 93, 3) := by decide +kernel
theorem dX10_follow_42 : decode cX10_follow 42 = .ok (.ifCond .eq 7, 3) := by decide +kernel
theorem dX10_follow_45 : decode cX10_follow 45 = .ok (.iconst 1, 1) := by decide +kernel
theorem dX10_follow_46 : decode cX10_follow 46 = .ok (.goto 4, 3) := by decide +kernel
theorem dX10_follow_49 : decode cX10_follow 49 = .ok (.iconst 0, 1) := by decide +kernel
theorem dX10_follow_50 : decode cX10_follow 50 = .ok (.ireturn, 1) := by decide +kernel
theorem dX10_isGap_0 : decode cX10_isGap 0 = .ok (.iload_n 1, 1) := by decide +kernel
theorem dX10_isGap_1 : decode cX10_isGap 1 = .ok (.iload_n 2, 1) := by decide +kernel
theorem dX10_isGap_2 : decode cX10_isGap 2 = .ok (.invokestatic 97, 3) := by decide +kernel
theorem dX10_isGap_5 : decode cX10_isGap 5 = .ok (.istore_n 3, 1) := by decide +kernel
theorem dX10_isGap_6 : decode cX10_isGap 6 = .ok (.aload_n 0, 1) := by decide +kernel
theorem dX10_isGap_7 : decode cX10_isGap 7 = .ok (.getfield 16, 3) := by decide +kernel
theorem dX10_isGap_10 : decode cX10_isGap 10 = .ok (.iload_n 3, 1) := by decide +kernel
theorem dX10_isGap_11 : decode cX10_isGap 11 = .ok (.iaload, 1) := by decide +kernel
theorem dX10_isGap_12 : decode cX10_isGap 12 = .ok (.ifCond .ne 38, 3) := by decide +kernel
theorem dX10_isGap_15 : decode cX10_isGap 15 = .ok (.aload_n 0, 1) := by decide +kernel
theorem dX10_isGap_16 : decode cX10_isGap 16 = .ok (.getfield 13, 3) := by decide +kernel
theorem dX10_isGap_19 : decode cX10_isGap 19 = .ok (.iload_n 3, 1) := by decide +kernel
theorem dX10_isGap_20 : decode cX10_isGap 20 = .ok (.iaload, 1) := by decide +kernel
theorem dX10_isGap_21 : decode cX10_isGap 21 = .ok (.iconst 1, 1) := by decide +kernel
theorem dX10_isGap_22 : decode cX10_isGap 22 = .ok (.if_icmp .eq 24, 3) := by decide +kernel
theorem dX10_isGap_25 : decode cX10_isGap 25 = .ok (.aload_n 0, 1) := by decide +kernel
theorem dX10_isGap_26 : decode cX10_isGap 26 = .ok (.aload_n 0, 1) := by decide +kernel
theorem dX10_isGap_27 : decode cX10_isGap 27 = .ok (.iload_n 1, 1) := by decide +kernel
theorem dX10_isGap_28 : decode cX10_isGap 28 = .ok (.invokevirtual 100, 3) := by decide +kernel
theorem dX10_isGap_31 : decode cX10_isGap 31 = .ok (.aload_n 0, 1) := by decide +kernel
theorem dX10_isGap_32 : decode cX10_isGap 32 = .ok (.iload_n 1, 1) := by decide +kernel
theorem dX10_isGap_33 : decode cX10_isGap 33 = .ok (.iload_n 2, 1) := by decide +kernel
theorem dX10_isGap_34 : decode cX10_isGap 34 = .ok (.invokestatic 82, 3) := by decide +kernel
theorem dX10_isGap_37 : decode cX10_isGap 37 = .ok (.invokevirtual 100, 3) := by decide +kernel
theorem dX10_isGap_40 : decode cX10_isGap 40 = .ok (.invokevirtual 104, 3) := by decide +kernel
theorem dX10_isGap_43 : decode cX10_isGap 43 = .ok (.ifCond .eq 7, 3) := by decide +kernel
theorem dX10_isGap_46 : decode cX10_isGap 46 = .ok (.iconst 1, 1) := by decide +kernel
theorem dX10_isGap_47 : decode cX10_isGap 47 = .ok (.goto 4, 3) := by decide +kernel
theorem dX10_isGap_50 : decode cX10_isGap 50 = .ok (.iconst 0, 1) := by decide +kernel
theorem dX10_isGap_51 : decode cX10_isGap 51 = .ok (.ireturn, 1) := by decide +kernel
theorem dX10_plough_0 : decode cX10_plough 0 = .ok (.iload_n 1, 1) := by decide +kernel
theorem dX10_plough_1 : decode cX10_plough 1 = .ok (.invokestatic 108, 3) := by decide +kernel
theorem dX10_plough_4 : decode cX10_plough 4 = .ok (.ifCond .ne 5, 3) := by decide +kernel
theorem dX10_plough_7 : decode cX10_plough 7 = .ok (.iconst (-1), 1) := by decide +kernel
theorem dX10_plough_8 : decode cX10_plough 8 = .ok (.ireturn, 1) := by decide +kernel
theorem dX10_plough_9 : decode cX10_plough 9 = .ok (.aload_n 0, 1) := by decide +kernel
theorem dX10_plough_10 : decode cX10_plough 10 = .ok (.iload_n 1, 1) := by decide +kernel
theorem dX10_plough_11 : decode cX10_plough 11 = .ok (.invokevirtual 100, 3) := by decide +kernel
theorem dX10_plough_14 : decode cX10_plough 14 = .ok (.ifCond .ge 28, 3) := by decide +kernel
theorem dX10_plough_17 : decode cX10_plough 17 = .ok (.aload_n 0, 1) := by decide +kernel
theorem dX10_plough_18 : decode cX10_plough 18 = .ok (.getfield 86, 3) := by decide +kernel
theorem dX10_plough_21 : decode cX10_plough 21 = .ok (.ifCond .le 24, 3) := by decide +kernel
theorem dX10_plough_24 : decode cX10_plough 24 = .ok (.aload_n 0, 1) := by decide +kernel
theorem dX10_plough_25 : decode cX10_plough 25 = .ok (.getfield 7, 3) := by decide +kernel
theorem dX10_plough_28 : decode cX10_plough 28 = .ok (.aload_n 0, 1) := by decide +kernel
theorem dX10_plough_29 : decode cX10_plough 29 = .ok (.getfield 86, 3) := by decide +kernel
theorem dX10_plough_32 : decode cX10_plough 32 = .ok (.iconst 1, 1) := by decide +kernel
theorem dX10_plough_33 : decode cX10_plough 33 = .ok (.isub, 1) := by decide +kernel
theorem dX10_plough_34 : decode cX10_plough 34 = .ok (.iaload, 1) := by decide +kernel
theorem dX10_plough_35 : decode cX10_plough 35 = .ok (.iload_n 1, 1) := by decide +kernel
theorem dX10_plough_36 : decode cX10_plough 36 = .ok (.invokestatic 90, 3) := by decide +kernel
theorem dX10_plough_39 : decode cX10_plough 39 = .ok (.ifCond .ge 6, 3) := by decide +kernel
theorem dX10_plough_42 : decode cX10_plough 42 = .ok (.bipush (-2), 2) := by decide +kernel
theorem dX10_plough_44 : decode cX10_plough 44 = .ok (.ireturn, 1) := by decide +kernel
theorem dX10_plough_45 : decode cX10_plough 45 = .ok (.aload_n 0, 1) := by decide +kernel
theorem dX10_plough_46 : decode cX10_plough 46 = .ok (.getfield 7, 3) := by decide +kernel
theorem dX10_plough_49 : decode cX10_plough 49 = .ok (.aload_n 0, 1) := by decide +kernel
theorem dX10_plough_50 : decode cX10_plough 50 = .ok (.getfield 86, 3) := by decide +kernel
theorem dX10_plough_53 : decode cX10_plough 53 = .ok (.iload_n 1, 1) := by decide +kernel
theorem dX10_plough_54 : decode cX10_plough 54 = .ok (.iastore, 1) := by decide +kernel
theorem dX10_plough_55 : decode cX10_plough 55 = .ok (.aload_n 0, 1) := by decide +kernel
theorem dX10_plough_56 : decode cX10_plough 56 = .ok (.dup, 1) := by decide +kernel
theorem dX10_plough_57 : decode cX10_plough 57 = .ok (.getfield 86, 3) := by decide +kernel
theorem dX10_plough_60 : decode cX10_plough 60 = .ok (.iconst 1, 1) := by decide +kernel
theorem dX10_plough_61 : decode cX10_plough 61 = .ok (.iadd, 1) := by decide +kernel
theorem dX10_plough_62 : decode cX10_plough 62 = .ok (.putfield 86, 3) := by decide +kernel
theorem dX10_plough_65 : decode cX10_plough 65 = .ok (.aload_n 0, 1) := by decide +kernel
theorem dX10_plough_66 : decode cX10_plough 66 = .ok (.getfield 86, 3) := by decide +kernel
theorem dX10_plough_69 : decode cX10_plough 69 = .ok (.ireturn, 1) := by decide +kernel
theorem dX10_back_0 : decode cX10_back 0 = .ok (.iload_n 1, 1) := by decide +kernel
theorem dX10_back_1 : decode cX10_back 1 = .ok (.i2l, 1) := by decide +kernel
theorem dX10_back_2 : decode cX10_back 2 = .ok (.lconst 1, 1) := by decide +kernel
theorem dX10_back_3 : decode cX10_back 3 = .ok (.ldc2_w 112, 3) := by decide +kernel
theorem dX10_back_6 : decode cX10_back 6 = .ok (.invokestatic 78, 3) := by decide +kernel
theorem dX10_back_9 : decode cX10_back 9 = .ok (.ifCond .ne 5, 3) := by decide +kernel
theorem dX10_back_12 : decode cX10_back 12 = .ok (.iconst (-1), 1) := by decide +kernel
theorem dX10_back_13 : decode cX10_back 13 = .ok (.ireturn, 1) := by decide +kernel
theorem dX10_back_14 : decode cX10_back 14 = .ok (.iload_n 1, 1) := by decide +kernel
theorem dX10_back_15 : decode cX10_back 15 = .ok (.aload_n 0, 1) := by decide +kernel
theorem dX10_back_16 : decode cX10_back 16 = .ok (.getfield 86, 3) := by decide +kernel
theorem dX10_back_19 : decode cX10_back 19 = .ok (.if_icmp .le 6, 3) := by decide +kernel
theorem dX10_back_22 : decode cX10_back 22 = .ok (.bipush (-2), 2) := by decide +kernel
theorem dX10_back_24 : decode cX10_back 24 = .ok (.ireturn, 1) := by decide +kernel
theorem dX10_back_25 : decode cX10_back 25 = .ok (.aload_n 0, 1) := by decide +kernel
theorem dX10_back_26 : decode cX10_back 26 = .ok (.dup, 1) := by decide +kernel
theorem dX10_back_27 : decode cX10_back 27 = .ok (.getfield 86, 3) := by decide +kernel
theorem dX10_back_30 : decode cX10_back 30 = .ok (.iload_n 1, 1) := by decide +kernel
theorem dX10_back_31 : decode cX10_back 31 = .ok (.isub, 1) := by decide +kernel
theorem dX10_back_32 : decode cX10_back 32 = .ok (.putfield 86, 3) := by decide +kernel
theorem dX10_back_35 : decode cX10_back 35 = .ok (.aload_n 0, 1) := by decide +kernel
theorem dX10_back_36 : decode cX10_back 36 = .ok (.getfield 86, 3) := by decide +kernel
theorem dX10_back_39 : decode cX10_back 39 = .ok (.ireturn, 1) := by decide +kernel
theorem dX10_isSide_0 : decode cX10_isSide 0 = .ok (.iload_n 0, 1) := by decide +kernel
theorem dX10_isSide_1 : decode cX10_isSide 1 = .ok (.invokestatic 108, 3) := by decide +kernel
theorem dX10_isSide_4 : decode cX10_isSide 4 = .ok (.ifCond .eq 19, 3) := by decide +kernel
theorem dX10_isSide_7 : decode cX10_isSide 7 = .ok (.iload_n 1, 1) := by decide +kernel
theorem dX10_isSide_8 : decode cX10_isSide 8 = .ok (.i2l, 1) := by decide +kernel
theorem dX10_isSide_9 : decode cX10_isSide 9 = .ok (.lconst 0, 1) := by decide +kernel
theorem dX10_isSide_10 : decode cX10_isSide 10 = .ok (.ldc2_w 114, 3) := by decide +kernel
theorem dX10_isSide_13 : decode cX10_isSide 13 = .ok (.invokestatic 78, 3) := by decide +kernel
theorem dX10_isSide_16 : decode cX10_isSide 16 = .ok (.ifCond .eq 7, 3) := by decide +kernel
theorem dX10_isSide_19 : decode cX10_isSide 19 = .ok (.iconst 1, 1) := by decide +kernel
theorem dX10_isSide_20 : decode cX10_isSide 20 = .ok (.goto 4, 3) := by decide +kernel
theorem dX10_isSide_23 : decode cX10_isSide 23 = .ok (.iconst 0, 1) := by decide +kernel
theorem dX10_isSide_24 : decode cX10_isSide 24 = .ok (.ireturn, 1) := by decide +kernel
theorem dX10_sumOf_0 : decode cX10_sumOf 0 = .ok (.iconst 0, 1) := by decide +kernel
theorem dX10_sumOf_1 : decode cX10_sumOf 1 = .ok (.istore_n 1, 1) := by decide +kernel
theorem dX10_sumOf_2 : decode cX10_sumOf 2 = .ok (.iconst 0, 1) := by decide +kernel
theorem dX10_sumOf_3 : decode cX10_sumOf 3 = .ok (.istore_n 2, 1) := by decide +kernel
theorem dX10_sumOf_4 : decode cX10_sumOf 4 = .ok (.iload_n 2, 1) := by decide +kernel
theorem dX10_sumOf_5 : decode cX10_sumOf 5 = .ok (.aload_n 0, 1) := by decide +kernel
theorem dX10_sumOf_6 : decode cX10_sumOf 6 = .ok (.arraylength, 1) := by decide +kernel
theorem dX10_sumOf_7 : decode cX10_sumOf 7 = .ok (.if_icmp .ge 15, 3) := by decide +kernel
theorem dX10_sumOf_10 : decode cX10_sumOf 10 = .ok (.iload_n 1, 1) := by decide +kernel
theorem dX10_sumOf_11 : decode cX10_sumOf 11 = .ok (.aload_n 0, 1) := by decide +kernel
theorem dX10_sumOf_12 : decode cX10_sumOf 12 = .ok (.iload_n 2, 1) := by decide +kernel
theorem dX10_sumOf_13 : decode cX10_sumOf 13 = .ok (.iaload, 1) := by decide +kernel
theorem dX10_sumOf_14 : decode cX10_sumOf 14 = .ok (.iadd, 1) := by decide +kernel
theorem dX10_sumOf_15 : decode cX10_sumOf 15 = .ok (.istore_n 1, 1) := by decide +kernel
theorem dX10_sumOf_16 : decode cX10_sumOf 16 = .ok (.iinc 2 1, 3) := by decide +kernel
theorem dX10_sumOf_19 : decode cX10_sumOf 19 = .ok (.goto (-15), 3) := by decide +kernel
theorem dX10_sumOf_22 : decode cX10_sumOf 22 = .ok (.iload_n 1, 1) := by decide +kernel
theorem dX10_sumOf_23 : decode cX10_sumOf 23 = .ok (.ireturn, 1) := by decide +kernel
theorem dX10_deer_0 : decode cX10_deer 0 = .ok (.iload_n 1, 1) := by decide +kernel
theorem dX10_deer_1 : decode cX10_deer 1 = .ok (.iload_n 2, 1) := by decide +kernel
theorem dX10_deer_2 : decode cX10_deer 2 = .ok (.invokestatic 116, 3) := by decide +kernel
theorem dX10_deer_5 : decode cX10_deer 5 = .ok (.ifCond .ne 5, 3) := by decide +kernel
theorem dX10_deer_8 : decode cX10_deer 8 = .ok (.iconst (-1), 1) := by decide +kernel
theorem dX10_deer_9 : decode cX10_deer 9 = .ok (.ireturn, 1) := by decide +kernel
theorem dX10_deer_10 : decode cX10_deer 10 = .ok (.iload_n 1, 1) := by decide +kernel
theorem dX10_deer_11 : decode cX10_deer 11 = .ok (.iload_n 2, 1) := by decide +kernel
theorem dX10_deer_12 : decode cX10_deer 12 = .ok (.invokestatic 82, 3) := by decide +kernel
theorem dX10_deer_15 : decode cX10_deer 15 = .ok (.ifCond .lt 17, 3) := by decide +kernel
theorem dX10_deer_18 : decode cX10_deer 18 = .ok (.aload_n 0, 1) := by decide +kernel
theorem dX10_deer_19 : decode cX10_deer 19 = .ok (.getfield 13, 3) := by decide +kernel
theorem dX10_deer_22 : decode cX10_deer 22 = .ok (.iload_n 1, 1) := by decide +kernel
theorem dX10_deer_23 : decode cX10_deer 23 = .ok (.iload_n 2, 1) := by decide +kernel
theorem dX10_deer_24 : decode cX10_deer 24 = .ok (.invokestatic 97, 3) := by decide +kernel
theorem dX10_deer_27 : decode cX10_deer 27 = .ok (.iaload, 1) := by decide +kernel
theorem dX10_deer_28 : decode cX10_deer 28 = .ok (.iconst 1, 1) := by decide +kernel
theorem dX10_deer_29 : decode cX10_deer 29 = .ok (.if_icmp .ne 6, 3) := by decide +kernel
theorem dX10_deer_32 : decode cX10_deer 32 = .ok (.bipush (-2), 2) := by decide +kernel
theorem dX10_deer_34 : decode cX10_deer 34 = .ok (.ireturn, 1) := by decide +kernel
theorem dX10_deer_35 : decode cX10_deer 35 = .ok (.aload_n 0, 1) := by decide +kernel
theorem dX10_deer_36 : decode cX10_deer 36 = .ok (.getfield 13, 3) := by decide +kernel
theorem dX10_deer_39 : decode cX10_deer 39 = .ok (.invokestatic 119, 3) := by decide +kernel
theorem dX10_deer_42 : decode cX10_deer 42 = .ok (.bipush 10, 2) := by decide +kernel
theorem dX10_deer_44 : decode cX10_deer 44 = .ok (.if_icmp .ne 6, 3) := by decide +kernel
theorem dX10_deer_47 : decode cX10_deer 47 = .ok (.bipush (-3), 2) := by decide +kernel
theorem dX10_deer_49 : decode cX10_deer 49 = .ok (.ireturn, 1) := by decide +kernel
theorem dX10_deer_50 : decode cX10_deer 50 = .ok (.aload_n 0, 1) := by decide +kernel
theorem dX10_deer_51 : decode cX10_deer 51 = .ok (.getfield 13, 3) := by decide +kernel
theorem dX10_deer_54 : decode cX10_deer 54 = .ok (.iload_n 1, 1) := by decide +kernel
theorem dX10_deer_55 : decode cX10_deer 55 = .ok (.iload_n 2, 1) := by decide +kernel
theorem dX10_deer_56 : decode cX10_deer 56 = .ok (.invokestatic 97, 3) := by decide +kernel
theorem dX10_deer_59 : decode cX10_deer 59 = .ok (.iconst 1, 1) := by decide +kernel
theorem dX10_deer_60 : decode cX10_deer 60 = .ok (.iastore, 1) := by decide +kernel
theorem dX10_deer_61 : decode cX10_deer 61 = .ok (.aload_n 0, 1) := by decide +kernel
theorem dX10_deer_62 : decode cX10_deer 62 = .ok (.getfield 13, 3) := by decide +kernel
theorem dX10_deer_65 : decode cX10_deer 65 = .ok (.invokestatic 119, 3) := by decide +kernel
theorem dX10_deer_68 : decode cX10_deer 68 = .ok (.ireturn, 1) := by decide +kernel
theorem dX10_shut_0 : decode cX10_shut 0 = .ok (.iload_n 1, 1) := by decide +kernel
theorem dX10_shut_1 : decode cX10_shut 1 = .ok (.iload_n 2, 1) := by decide +kernel
theorem dX10_shut_2 : decode cX10_shut 2 = .ok (.invokestatic 116, 3) := by decide +kernel
theorem dX10_shut_5 : decode cX10_shut 5 = .ok (.ifCond .ne 5, 3) := by decide +kernel
theorem dX10_shut_8 : decode cX10_shut 8 = .ok (.iconst (-1), 1) := by decide +kernel
theorem dX10_shut_9 : decode cX10_shut 9 = .ok (.ireturn, 1) := by decide +kernel
theorem dX10_shut_10 : decode cX10_shut 10 = .ok (.iload_n 1, 1) := by decide +kernel
theorem dX10_shut_11 : decode cX10_shut 11 = .ok (.iload_n 2, 1) := by decide +kernel
theorem dX10_shut_12 : decode cX10_shut 12 = .ok (.invokestatic 82, 3) := by decide +kernel
theorem dX10_shut_15 : decode cX10_shut 15 = .ok (.ifCond .ge 6, 3) := by decide +kernel
theorem dX10_shut_18 : decode cX10_shut 18 = .ok (.bipush (-2), 2) := by decide +kernel
theorem dX10_shut_20 : decode cX10_shut 20 = .ok (.ireturn, 1) := by decide +kernel
theorem dX10_shut_21 : decode cX10_shut 21 = .ok (.aload_n 0, 1) := by decide +kernel
theorem dX10_shut_22 : decode cX10_shut 22 = .ok (.getfield 16, 3) := by decide +kernel
theorem dX10_shut_25 : decode cX10_shut 25 = .ok (.iload_n 1, 1) := by decide +kernel
theorem dX10_shut_26 : decode cX10_shut 26 = .ok (.iload_n 2, 1) := by decide +kernel
theorem dX10_shut_27 : decode cX10_shut 27 = .ok (.invokestatic 97, 3) := by decide +kernel
theorem dX10_shut_30 : decode cX10_shut 30 = .ok (.iaload, 1) := by decide +kernel
theorem dX10_shut_31 : decode cX10_shut 31 = .ok (.istore 4, 2) := by decide +kernel
theorem dX10_shut_33 : decode cX10_shut 33 = .ok (.aload_n 0, 1) := by decide +kernel
theorem dX10_shut_34 : decode cX10_shut 34 = .ok (.getfield 16, 3) := by decide +kernel
theorem dX10_shut_37 : decode cX10_shut 37 = .ok (.iload_n 1, 1) := by decide +kernel
theorem dX10_shut_38 : decode cX10_shut 38 = .ok (.iload_n 2, 1) := by decide +kernel
theorem dX10_shut_39 : decode cX10_shut 39 = .ok (.invokestatic 97, 3) := by decide +kernel
theorem dX10_shut_42 : decode cX10_shut 42 = .ok (.iload_n 3, 1) := by decide +kernel
theorem dX10_shut_43 : decode cX10_shut 43 = .ok (.ifCond .eq 7, 3) := by decide +kernel
theorem dX10_shut_46 : decode cX10_shut 46 = .ok (.iconst 1, 1) := by decide +kernel
theorem dX10_shut_47 : decode cX10_shut 47 = .ok (.goto 4, 3) := by decide +kernel
theorem dX10_shut_50 : decode cX10_shut 50 = .ok (.iconst 0, 1) := by decide +kernel
theorem dX10_shut_51 : decode cX10_shut 51 = .ok (.iastore, 1) := by decide +kernel
theorem dX10_shut_52 : decode cX10_shut 52 = .ok (.iload 4, 2) := by decide +kernel
theorem dX10_shut_54 : decode cX10_shut 54 = .ok (.ireturn, 1) := by decide +kernel
theorem dX10_straw_0 : decode cX10_straw 0 = .ok (.iload_n 1, 1) := by decide +kernel
theorem dX10_straw_1 : decode cX10_straw 1 = .ok (.invokestatic 108, 3) := by decide +kernel
theorem dX10_straw_4 : decode cX10_straw 4 = .ok (.ifCond .ne 5, 3) := by decide +kernel
theorem dX10_straw_7 : decode cX10_straw 7 = .ok (.iconst (-1), 1) := by decide +kernel
theorem dX10_straw_8 : decode cX10_straw 8 = .ok (.ireturn, 1) := by decide +kernel
theorem dX10_straw_9 : decode cX10_straw 9 = .ok (.aload_n 0, 1) := by decide +kernel
theorem dX10_straw_10 : decode cX10_straw 10 = .ok (.getfield 19, 3) := by decide +kernel
theorem dX10_straw_13 : decode cX10_straw 13 = .ok (.iload_n 1, 1) := by decide +kernel
theorem dX10_straw_14 : decode cX10_straw 14 = .ok (.iaload, 1) := by decide +kernel
theorem dX10_straw_15 : decode cX10_straw 15 = .ok (.istore_n 3, 1) := by decide +kernel
theorem dX10_straw_16 : decode cX10_straw 16 = .ok (.aload_n 0, 1) := by decide +kernel
theorem dX10_straw_17 : decode cX10_straw 17 = .ok (.getfield 19, 3) := by decide +kernel
theorem dX10_straw_20 : decode cX10_straw 20 = .ok (.iload_n 1, 1) := by decide +kernel
theorem dX10_straw_21 : decode cX10_straw 21 = .ok (.iload_n 2, 1) := by decide +kernel
theorem dX10_straw_22 : decode cX10_straw 22 = .ok (.ifCond .eq 7, 3) := by decide +kernel
theorem dX10_straw_25 : decode cX10_straw 25 = .ok (.iconst 1, 1) := by decide +kernel
theorem dX10_straw_26 : decode cX10_straw 26 = .ok (.goto 4, 3) := by decide +kernel
theorem dX10_straw_29 : decode cX10_straw 29 = .ok (.iconst 0, 1) := by decide +kernel
theorem dX10_straw_30 : decode cX10_straw 30 = .ok (.iastore, 1) := by decide +kernel
theorem dX10_straw_31 : decode cX10_straw 31 = .ok (.iload_n 3, 1) := by decide +kernel
theorem dX10_straw_32 : decode cX10_straw 32 = .ok (.ireturn, 1) := by decide +kernel
theorem dX10_set_0 : decode cX10_set 0 = .ok (.iload_n 1, 1) := by decide +kernel
theorem dX10_set_1 : decode cX10_set 1 = .ok (.i2l, 1) := by decide +kernel
theorem dX10_set_2 : decode cX10_set 2 = .ok (.lconst 0, 1) := by decide +kernel
theorem dX10_set_3 : decode cX10_set 3 = .ok (.ldc2_w 123, 3) := by decide +kernel
theorem dX10_set_6 : decode cX10_set 6 = .ok (.invokestatic 78, 3) := by decide +kernel
theorem dX10_set_9 : decode cX10_set 9 = .ok (.ifCond .eq 25, 3) := by decide +kernel
theorem dX10_set_12 : decode cX10_set 12 = .ok (.iload_n 2, 1) := by decide +kernel
theorem dX10_set_13 : decode cX10_set 13 = .ok (.i2l, 1) := by decide +kernel
theorem dX10_set_14 : decode cX10_set 14 = .ok (.lconst 0, 1) := by decide +kernel
theorem dX10_set_15 : decode cX10_set 15 = .ok (.iload_n 1, 1) := by decide +kernel
theorem dX10_set_16 : decode cX10_set 16 = .ok (.ifCond .ne 9, 3) := by decide +kernel
theorem dX10_set_19 : decode cX10_set 19 = .ok (.ldc2_w 125, 3) := by decide +kernel
theorem dX10_set_22 : decode cX10_set 22 = .ok (.goto 6, 3) := by decide +kernel
theorem dX10_set_25 : decode cX10_set 25 = .ok (.ldc2_w 76, 3) := by decide +kernel
theorem dX10_set_28 : decode cX10_set 28 = .ok (.invokestatic 78, 3) := by decide +kernel
theorem dX10_set_31 : decode cX10_set 31 = .ok (.ifCond .ne 5, 3) := by decide +kernel
theorem dX10_set_34 : decode cX10_set 34 = .ok (.iconst (-1), 1) := by decide +kernel
theorem dX10_set_35 : decode cX10_set 35 = .ok (.ireturn, 1) := by decide +kernel
theorem dX10_set_36 : decode cX10_set 36 = .ok (.aload_n 0, 1) := by decide +kernel
theorem dX10_set_37 : decode cX10_set 37 = .ok (.getfield 22, 3) := by decide +kernel
theorem dX10_set_40 : decode cX10_set 40 = .ok (.iload_n 1, 1) := by decide +kernel
theorem dX10_set_41 : decode cX10_set 41 = .ok (.iaload, 1) := by decide +kernel
theorem dX10_set_42 : decode cX10_set 42 = .ok (.istore_n 3, 1) := by decide +kernel
theorem dX10_set_43 : decode cX10_set 43 = .ok (.aload_n 0, 1) := by decide +kernel
theorem dX10_set_44 : decode cX10_set 44 = .ok (.getfield 22, 3) := by decide +kernel
theorem dX10_set_47 : decode cX10_set 47 = .ok (.iload_n 1, 1) := by decide +kernel
theorem dX10_set_48 : decode cX10_set 48 = .ok (.iload_n 2, 1) := by decide +kernel
theorem dX10_set_49 : decode cX10_set 49 = .ok (.iastore, 1) := by decide +kernel
theorem dX10_set_50 : decode cX10_set 50 = .ok (.iload_n 3, 1) := by decide +kernel
theorem dX10_set_51 : decode cX10_set 51 = .ok (.ireturn, 1) := by decide +kernel
theorem dX10_told_0 : decode cX10_told 0 = .ok (.iload_n 1, 1) := by decide +kernel
theorem dX10_told_1 : decode cX10_told 1 = .ok (.invokestatic 108, 3) := by decide +kernel
theorem dX10_told_4 : decode cX10_told 4 = .ok (.ifCond .eq 15, 3) := by decide +kernel
theorem dX10_told_7 : decode cX10_told 7 = .ok (.iload_n 2, 1) := by decide +kernel
theorem dX10_told_8 : decode cX10_told 8 = .ok (.i2l, 1) := by decide +kernel
theorem dX10_told_9 : decode cX10_told 9 = .ok (.lconst 0, 1) := by decide +kernel
theorem dX10_told_10 : decode cX10_told 10 = .ok (.ldc2_w 123, 3) := by decide +kernel
theorem dX10_told_13 : decode cX10_told 13 = .ok (.invokestatic 78, 3) := by decide +kernel
theorem dX10_told_16 : decode cX10_told 16 = .ok (.ifCond .ne 5, 3) := by decide +kernel
theorem dX10_told_19 : decode cX10_told 19 = .ok (.iconst (-1), 1) := by decide +kernel
theorem dX10_told_20 : decode cX10_told 20 = .ok (.ireturn, 1) := by decide +kernel
theorem dX10_told_21 : decode cX10_told 21 = .ok (.iconst 0, 1) := by decide +kernel
theorem dX10_told_22 : decode cX10_told 22 = .ok (.istore_n 3, 1) := by decide +kernel
theorem dX10_told_23 : decode cX10_told 23 = .ok (.iconst 0, 1) := by decide +kernel
theorem dX10_told_24 : decode cX10_told 24 = .ok (.istore 4, 2) := by decide +kernel
theorem dX10_told_26 : decode cX10_told 26 = .ok (.iload 4, 2) := by decide +kernel
theorem dX10_told_28 : decode cX10_told 28 = .ok (.iconst 4, 1) := by decide +kernel
theorem dX10_told_29 : decode cX10_told 29 = .ok (.if_icmp .ge 39, 3) := by decide +kernel
theorem dX10_told_32 : decode cX10_told 32 = .ok (.iload_n 3, 1) := by decide +kernel
theorem dX10_told_33 : decode cX10_told 33 = .ok (.iload_n 1, 1) := by decide +kernel
theorem dX10_told_34 : decode cX10_told 34 = .ok (.iload 4, 2) := by decide +kernel
theorem dX10_told_36 : decode cX10_told 36 = .ok (.invokestatic 82, 3) := by decide +kernel
theorem dX10_told_39 : decode cX10_told 39 = .ok (.ifCond .lt 20, 3) := by decide +kernel
theorem dX10_told_42 : decode cX10_told 42 = .ok (.aload_n 0, 1) := by decide +kernel
theorem dX10_told_43 : decode cX10_told 43 = .ok (.iload_n 1, 1) := by decide +kernel
theorem dX10_told_44 : decode cX10_told 44 = .ok (.iload 4, 2) := by decide +kernel
theorem dX10_told_46 : decode cX10_told 46 = .ok (.invokevirtual 127, 3) := by decide +kernel
theorem dX10_told_49 : decode cX10_told 49 = .ok (.ifCond .eq 10, 3) := by decide +kernel
theorem dX10_told_52 : decode cX10_told 52 = .ok (.iconst 1, 1) := by decide +kernel
theorem dX10_told_53 : decode cX10_told 53 = .ok (.iload 4, 2) := by decide +kernel
theorem dX10_told_55 : decode cX10_told 55 = .ok (.ishl, 1) := by decide +kernel
theorem dX10_told_56 : decode cX10_told 56 = .ok (.goto 4, 3) := by decide +kernel
theorem dX10_told_59 : decode cX10_told 59 = .ok (.iconst 0, 1) := by decide +kernel
theorem dX10_told_60 : decode cX10_told 60 = .ok (.ior, 1) := by decide +kernel
theorem dX10_told_61 : decode cX10_told 61 = .ok (.istore_n 3, 1) := by decide +kernel
theorem dX10_told_62 : decode cX10_told 62 = .ok (.iinc 4 1, 3) := by decide +kernel
theorem dX10_told_65 : decode cX10_told 65 = .ok (.goto (-39), 3) := by decide +kernel
theorem dX10_told_68 : decode cX10_told 68 = .ok (.iload_n 2, 1) := by decide +kernel
theorem dX10_told_69 : decode cX10_told 69 = .ok (.ifCond .ne 11, 3) := by decide +kernel
theorem dX10_told_72 : decode cX10_told 72 = .ok (.aload_n 0, 1) := by decide +kernel
theorem dX10_told_73 : decode cX10_told 73 = .ok (.iload_n 1, 1) := by decide +kernel
theorem dX10_told_74 : decode cX10_told 74 = .ok (.invokevirtual 100, 3) := by decide +kernel
theorem dX10_told_77 : decode cX10_told 77 = .ok (.goto 18, 3) := by decide +kernel
theorem dX10_told_80 : decode cX10_told 80 = .ok (.iload_n 2, 1) := by decide +kernel
theorem dX10_told_81 : decode cX10_told 81 = .ok (.iconst 1, 1) := by decide +kernel
theorem dX10_told_82 : decode cX10_told 82 = .ok (.if_icmp .ne 7, 3) := by decide +kernel
theorem dX10_told_85 : decode cX10_told 85 = .ok (.iload_n 3, 1) := by decide +kernel
theorem dX10_told_86 : decode cX10_told 86 = .ok (.goto 9, 3) := by decide +kernel
theorem dX10_told_89 : decode cX10_told 89 = .ok (.aload_n 0, 1) := by decide +kernel
theorem dX10_told_90 : decode cX10_told 90 = .ok (.getfield 19, 3) := by decide +kernel
theorem dX10_told_93 : decode cX10_told 93 = .ok (.iload_n 1, 1) := by decide +kernel
theorem dX10_told_94 : decode cX10_told 94 = .ok (.iaload, 1) := by decide +kernel
theorem dX10_told_95 : decode cX10_told 95 = .ok (.ireturn, 1) := by decide +kernel
theorem dX10_count_0 : decode cX10_count 0 = .ok (.iconst 0, 1) := by decide +kernel
theorem dX10_count_1 : decode cX10_count 1 = .ok (.istore_n 2, 1) := by decide +kernel
theorem dX10_count_2 : decode cX10_count 2 = .ok (.iconst 0, 1) := by decide +kernel
theorem dX10_count_3 : decode cX10_count 3 = .ok (.istore_n 3, 1) := by decide +kernel
theorem dX10_count_4 : decode cX10_count 4 = .ok (.iload_n 3, 1) := by decide +kernel
theorem dX10_count_5 : decode cX10_count 5 = .ok (.bipush 36, 2) := by decide +kernel
theorem dX10_count_7 : decode cX10_count 7 = .ok (.if_icmp .ge 51, 3) := by decide +kernel
theorem dX10_count_10 : decode cX10_count 10 = .ok (.iconst 2, 1) := by decide +kernel
theorem dX10_count_11 : decode cX10_count 11 = .ok (.istore 4, 2) := by decide +kernel
theorem dX10_count_13 : decode cX10_count 13 = .ok (.iload 4, 2) := by decide +kernel
theorem dX10_count_15 : decode cX10_count 15 = .ok (.iconst 4, 1) := by decide +kernel
theorem dX10_count_16 : decode cX10_count 16 = .ok (.if_icmp .ge 36, 3) := by decide +kernel
theorem dX10_count_19 : decode cX10_count 19 = .ok (.iload_n 2, 1) := by decide +kernel
theorem dX10_count_20 : decode cX10_count 20 = .ok (.iload_n 3, 1) := by decide +kernel
theorem dX10_count_21 : decode cX10_count 21 = .ok (.iload 4, 2) := by decide +kernel
theorem dX10_count_23 : decode cX10_count 23 = .ok (.invokestatic 82, 3) := by decide +kernel
theorem dX10_count_26 : decode cX10_count 26 = .ok (.ifCond .lt 17, 3) := by decide +kernel
theorem dX10_count_29 : decode cX10_count 29 = .ok (.aload_n 0, 1) := by decide +kernel
theorem dX10_count_30 : decode cX10_count 30 = .ok (.iload_n 3, 1) := by decide +kernel
theorem dX10_count_31 : decode cX10_count 31 = .ok (.iload 4, 2) := by decide +kernel
theorem dX10_count_33 : decode cX10_count 33 = .ok (.invokevirtual 127, 3) := by decide +kernel
theorem dX10_count_36 : decode cX10_count 36 = .ok (.ifCond .eq 7, 3) := by decide +kernel
theorem dX10_count_39 : decode cX10_count 39 = .ok (.iconst 1, 1) := by decide +kernel
theorem dX10_count_40 : decode cX10_count 40 = .ok (.goto 4, 3) := by decide +kernel
theorem dX10_count_43 : decode cX10_count 43 = .ok (.iconst 0, 1) := by decide +kernel
theorem dX10_count_44 : decode cX10_count 44 = .ok (.iadd, 1) := by decide +kernel
theorem dX10_count_45 : decode cX10_count 45 = .ok (.istore_n 2, 1) := by decide +kernel
theorem dX10_count_46 : decode cX10_count 46 = .ok (.iinc 4 1, 3) := by decide +kernel
theorem dX10_count_49 : decode cX10_count 49 = .ok (.goto (-36), 3) := by decide +kernel
theorem dX10_count_52 : decode cX10_count 52 = .ok (.iinc 3 1, 3) := by decide +kernel
theorem dX10_count_55 : decode cX10_count 55 = .ok (.goto (-51), 3) := by decide +kernel
theorem dX10_count_58 : decode cX10_count 58 = .ok (.iload_n 1, 1) := by decide +kernel
theorem dX10_count_59 : decode cX10_count 59 = .ok (.tableswitch 90 0 6 #[41, 46, 59, 61, 69, 77, 85], 41) := by decide +kernel
theorem dX10_count_100 : decode cX10_count 100 = .ok (.aload_n 0, 1) := by decide +kernel
theorem dX10_count_101 : decode cX10_count 101 = .ok (.getfield 86, 3) := by decide +kernel
theorem dX10_count_104 : decode cX10_count 104 = .ok (.ireturn, 1) := by decide +kernel
theorem dX10_count_105 : decode cX10_count 105 = .ok (.aload_n 0, 1) := by decide +kernel
theorem dX10_count_106 : decode cX10_count 106 = .ok (.invokevirtual 93, 3) := by decide +kernel
theorem dX10_count_109 : decode cX10_count 109 = .ok (.ifCond .eq 7, 3) := by decide +kernel
theorem dX10_count_112 : decode cX10_count 112 = .ok (.iconst 1, 1) := by decide +kernel
theorem dX10_count_113 : decode cX10_count 113 = .ok (.goto 4, 3) := by decide +kernel
theorem dX10_count_116 : decode cX10_count 116 = .ok (.iconst 0, 1) := by decide +kernel
theorem dX10_count_117 : decode cX10_count 117 = .ok (.ireturn, 1) := by decide +kernel
theorem dX10_count_118 : decode cX10_count 118 = .ok (.iload_n 2, 1) := by decide +kernel
theorem dX10_count_119 : decode cX10_count 119 = .ok (.ireturn, 1) := by decide +kernel
theorem dX10_count_120 : decode cX10_count 120 = .ok (.aload_n 0, 1) := by decide +kernel
theorem dX10_count_121 : decode cX10_count 121 = .ok (.getfield 13, 3) := by decide +kernel
theorem dX10_count_124 : decode cX10_count 124 = .ok (.invokestatic 119, 3) := by decide +kernel
theorem dX10_count_127 : decode cX10_count 127 = .ok (.ireturn, 1) := by decide +kernel
theorem dX10_count_128 : decode cX10_count 128 = .ok (.aload_n 0, 1) := by decide +kernel
theorem dX10_count_129 : decode cX10_count 129 = .ok (.getfield 16, 3) := by decide +kernel
theorem dX10_count_132 : decode cX10_count 132 = .ok (.invokestatic 119, 3) := by decide +kernel
theorem dX10_count_135 : decode cX10_count 135 = .ok (.ireturn, 1) := by decide +kernel
theorem dX10_count_136 : decode cX10_count 136 = .ok (.aload_n 0, 1) := by decide +kernel
theorem dX10_count_137 : decode cX10_count 137 = .ok (.getfield 19, 3) := by decide +kernel
theorem dX10_count_140 : decode cX10_count 140 = .ok (.invokestatic 119, 3) := by decide +kernel
theorem dX10_count_143 : decode cX10_count 143 = .ok (.ireturn, 1) := by decide +kernel
theorem dX10_count_144 : decode cX10_count 144 = .ok (.aload_n 0, 1) := by decide +kernel
theorem dX10_count_145 : decode cX10_count 145 = .ok (.getfield 130, 3) := by decide +kernel
theorem dX10_count_148 : decode cX10_count 148 = .ok (.ireturn, 1) := by decide +kernel
theorem dX10_count_149 : decode cX10_count 149 = .ok (.iconst (-1), 1) := by decide +kernel
theorem dX10_count_150 : decode cX10_count 150 = .ok (.ireturn, 1) := by decide +kernel
theorem dX10_type_0 : decode cX10_type 0 = .ok (.iload_n 3, 1) := by decide +kernel
theorem dX10_type_1 : decode cX10_type 1 = .ok (.i2l, 1) := by decide +kernel
theorem dX10_type_2 : decode cX10_type 2 = .ok (.lconst 1, 1) := by decide +kernel
theorem dX10_type_3 : decode cX10_type 3 = .ok (.ldc2_w 133, 3) := by decide +kernel
theorem dX10_type_6 : decode cX10_type 6 = .ok (.invokestatic 78, 3) := by decide +kernel
theorem dX10_type_9 : decode cX10_type 9 = .ok (.ifCond .ne 5, 3) := by decide +kernel
theorem dX10_type_12 : decode cX10_type 12 = .ok (.iconst (-1), 1) := by decide +kernel
theorem dX10_type_13 : decode cX10_type 13 = .ok (.ireturn, 1) := by decide +kernel
theorem dX10_type_14 : decode cX10_type 14 = .ok (.iload_n 3, 1) := by decide +kernel
theorem dX10_type_15 : decode cX10_type 15 = .ok (.iconst 1, 1) := by decide +kernel
theorem dX10_type_16 : decode cX10_type 16 = .ok (.isub, 1) := by decide +kernel
theorem dX10_type_17 : decode cX10_type 17 = .ok (.istore 4, 2) := by decide +kernel
theorem dX10_type_19 : decode cX10_type 19 = .ok (.iload 4, 2) := by decide +kernel
theorem dX10_type_21 : decode cX10_type 21 = .ok (.ifCond .lt 34, 3) := by decide +kernel
theorem dX10_type_24 : decode cX10_type 24 = .ok (.lload_n 1, 1) := by decide +kernel
theorem dX10_type_25 : decode cX10_type 25 = .ok (.bipush 8, 2) := by decide +kernel
theorem dX10_type_27 : decode cX10_type 27 = .ok (.iload 4, 2) := by decide +kernel
theorem dX10_type_29 : decode cX10_type 29 = .ok (.imul, 1) := by decide +kernel
theorem dX10_type_30 : decode cX10_type 30 = .ok (.lshr, 1) := by decide +kernel
theorem dX10_type_31 : decode cX10_type 31 = .ok (.ldc2_w 135, 3) := by decide +kernel
theorem dX10_type_34 : decode cX10_type 34 = .ok (.land, 1) := by decide +kernel
theorem dX10_type_35 : decode cX10_type 35 = .ok (.ldc2_w 137, 3) := by decide +kernel
theorem dX10_type_38 : decode cX10_type 38 = .ok (.ldc2_w 139, 3) := by decide +kernel
theorem dX10_type_41 : decode cX10_type 41 = .ok (.invokestatic 78, 3) := by decide +kernel
theorem dX10_type_44 : decode cX10_type 44 = .ok (.ifCond .ne 5, 3) := by decide +kernel
theorem dX10_type_47 : decode cX10_type 47 = .ok (.iconst (-1), 1) := by decide +kernel
theorem dX10_type_48 : decode cX10_type 48 = .ok (.ireturn, 1) := by decide +kernel
theorem dX10_type_49 : decode cX10_type 49 = .ok (.iinc 4 (-1), 3) := by decide +kernel
theorem dX10_type_52 : decode cX10_type 52 = .ok (.goto (-33), 3) := by decide +kernel
theorem dX10_type_55 : decode cX10_type 55 = .ok (.aload_n 0, 1) := by decide +kernel
theorem dX10_type_56 : decode cX10_type 56 = .ok (.getfield 141, 3) := by decide +kernel
theorem dX10_type_59 : decode cX10_type 59 = .ok (.iload_n 3, 1) := by decide +kernel
theorem dX10_type_60 : decode cX10_type 60 = .ok (.iadd, 1) := by decide +kernel
theorem dX10_type_61 : decode cX10_type 61 = .ok (.bipush 80, 2) := by decide +kernel
theorem dX10_type_63 : decode cX10_type 63 = .ok (.if_icmp .le 6, 3) := by decide +kernel
theorem dX10_type_66 : decode cX10_type 66 = .ok (.bipush (-3), 2) := by decide +kernel
theorem dX10_type_68 : decode cX10_type 68 = .ok (.ireturn, 1) := by decide +kernel
theorem dX10_type_69 : decode cX10_type 69 = .ok (.iload_n 3, 1) := by decide +kernel
theorem dX10_type_70 : decode cX10_type 70 = .ok (.iconst 1, 1) := by decide +kernel
theorem dX10_type_71 : decode cX10_type 71 = .ok (.isub, 1) := by decide +kernel
theorem dX10_type_72 : decode cX10_type 72 = .ok (.istore 4, 2) := by decide +kernel
theorem dX10_type_74 : decode cX10_type 74 = .ok (.iload 4, 2) := by decide +kernel
theorem dX10_type_76 : decode cX10_type 76 = .ok (.ifCond .lt 40, 3) := by decide +kernel
theorem dX10_type_79 : decode cX10_type 79 = .ok (.aload_n 0, 1) := by decide +kernel
theorem dX10_type_80 : decode cX10_type 80 = .ok (.getfield 31, 3) := by decide +kernel
theorem dX10_type_83 : decode cX10_type 83 = .ok (.aload_n 0, 1) := by decide +kernel
theorem dX10_type_84 : decode cX10_type 84 = .ok (.getfield 141, 3) := by decide +kernel
theorem dX10_type_87 : decode cX10_type 87 = .ok (.lload_n 1, 1) := by decide +kernel
theorem dX10_type_88 : decode cX10_type 88 = .ok (.bipush 8, 2) := by decide +kernel
theorem dX10_type_90 : decode cX10_type 90 = .ok (.iload 4, 2) := by decide +kernel
theorem dX10_type_92 : decode cX10_type 92 = .ok (.imul, 1) := by decide +kernel
theorem dX10_type_93 : decode cX10_type 93 = .ok (.lshr, 1) := by decide +kernel
theorem dX10_type_94 : decode cX10_type 94 = .ok (.ldc2_w 135, 3) := by decide +kernel
theorem dX10_type_97 : decode cX10_type 97 = .ok (.land, 1) := by decide +kernel
theorem dX10_type_98 : decode cX10_type 98 = .ok (.l2i, 1) := by decide +kernel
theorem dX10_type_99 : decode cX10_type 99 = .ok (.iastore, 1) := by decide +kernel
theorem dX10_type_100 : decode cX10_type 100 = .ok (.aload_n 0, 1) := by decide +kernel
theorem dX10_type_101 : decode cX10_type 101 = .ok (.dup, 1) := by decide +kernel
theorem dX10_type_102 : decode cX10_type 102 = .ok (.getfield 141, 3) := by decide +kernel
theorem dX10_type_105 : decode cX10_type 105 = .ok (.iconst 1, 1) := by decide +kernel
theorem dX10_type_106 : decode cX10_type 106 = .ok (.iadd, 1) := by decide +kernel
theorem dX10_type_107 : decode cX10_type 107 = .ok (.putfield 141, 3) := by decide +kernel
theorem dX10_type_110 : decode cX10_type 110 = .ok (.iinc 4 (-1), 3) := by decide +kernel
theorem dX10_type_113 : decode cX10_type 113 = .ok (.goto (-39), 3) := by decide +kernel
theorem dX10_type_116 : decode cX10_type 116 = .ok (.aload_n 0, 1) := by decide +kernel
theorem dX10_type_117 : decode cX10_type 117 = .ok (.getfield 141, 3) := by decide +kernel
theorem dX10_type_120 : decode cX10_type 120 = .ok (.ireturn, 1) := by decide +kernel
theorem dX10_nextByte_0 : decode cX10_nextByte 0 = .ok (.aload_n 0, 1) := by decide +kernel
theorem dX10_nextByte_1 : decode cX10_nextByte 1 = .ok (.getfield 144, 3) := by decide +kernel
theorem dX10_nextByte_4 : decode cX10_nextByte 4 = .ok (.aload_n 0, 1) := by decide +kernel
theorem dX10_nextByte_5 : decode cX10_nextByte 5 = .ok (.getfield 141, 3) := by decide +kernel
theorem dX10_nextByte_8 : decode cX10_nextByte 8 = .ok (.if_icmp .ge 30, 3) := by decide +kernel
theorem dX10_nextByte_11 : decode cX10_nextByte 11 = .ok (.aload_n 0, 1) := by decide +kernel
theorem dX10_nextByte_12 : decode cX10_nextByte 12 = .ok (.getfield 31, 3) := by decide +kernel
theorem dX10_nextByte_15 : decode cX10_nextByte 15 = .ok (.aload_n 0, 1) := by decide +kernel
theorem dX10_nextByte_16 : decode cX10_nextByte 16 = .ok (.getfield 144, 3) := by decide +kernel
theorem dX10_nextByte_19 : decode cX10_nextByte 19 = .ok (.iaload, 1) := by decide +kernel
theorem dX10_nextByte_20 : decode cX10_nextByte 20 = .ok (.bipush 32, 2) := by decide +kernel
theorem dX10_nextByte_22 : decode cX10_nextByte 22 = .ok (.if_icmp .ne 16, 3) := by decide +kernel
theorem dX10_nextByte_25 : decode cX10_nextByte 25 = .ok (.aload_n 0, 1) := by decide +kernel
theorem dX10_nextByte_26 : decode cX10_nextByte 26 = .ok (.dup, 1) := by decide +kernel
theorem dX10_nextByte_27 : decode cX10_nextByte 27 = .ok (.getfield 144, 3) := by decide +kernel
theorem dX10_nextByte_30 : decode cX10_nextByte 30 = .ok (.iconst 1, 1) := by decide +kernel
theorem dX10_nextByte_31 : decode cX10_nextByte 31 = .ok (.iadd, 1) := by decide +kernel
theorem dX10_nextByte_32 : decode cX10_nextByte 32 = .ok (.putfield 144, 3) := by decide +kernel
theorem dX10_nextByte_35 : decode cX10_nextByte 35 = .ok (.goto (-35), 3) := by decide +kernel
theorem dX10_nextByte_38 : decode cX10_nextByte 38 = .ok (.aload_n 0, 1) := by decide +kernel
theorem dX10_nextByte_39 : decode cX10_nextByte 39 = .ok (.getfield 144, 3) := by decide +kernel
theorem dX10_nextByte_42 : decode cX10_nextByte 42 = .ok (.aload_n 0, 1) := by decide +kernel
theorem dX10_nextByte_43 : decode cX10_nextByte 43 = .ok (.getfield 141, 3) := by decide +kernel
theorem dX10_nextByte_46 : decode cX10_nextByte 46 = .ok (.if_icmp .ge 15, 3) := by decide +kernel
theorem dX10_nextByte_49 : decode cX10_nextByte 49 = .ok (.aload_n 0, 1) := by decide +kernel
theorem dX10_nextByte_50 : decode cX10_nextByte 50 = .ok (.getfield 31, 3) := by decide +kernel
theorem dX10_nextByte_53 : decode cX10_nextByte 53 = .ok (.aload_n 0, 1) := by decide +kernel
theorem dX10_nextByte_54 : decode cX10_nextByte 54 = .ok (.getfield 144, 3) := by decide +kernel
theorem dX10_nextByte_57 : decode cX10_nextByte 57 = .ok (.iaload, 1) := by decide +kernel
theorem dX10_nextByte_58 : decode cX10_nextByte 58 = .ok (.goto 4, 3) := by decide +kernel
theorem dX10_nextByte_61 : decode cX10_nextByte 61 = .ok (.iconst (-1), 1) := by decide +kernel
theorem dX10_nextByte_62 : decode cX10_nextByte 62 = .ok (.ireturn, 1) := by decide +kernel
theorem dX10_readDigit_0 : decode cX10_readDigit 0 = .ok (.aload_n 0, 1) := by decide +kernel
theorem dX10_readDigit_1 : decode cX10_readDigit 1 = .ok (.invokevirtual 147, 3) := by decide +kernel
theorem dX10_readDigit_4 : decode cX10_readDigit 4 = .ok (.bipush 48, 2) := by decide +kernel
theorem dX10_readDigit_6 : decode cX10_readDigit 6 = .ok (.isub, 1) := by decide +kernel
theorem dX10_readDigit_7 : decode cX10_readDigit 7 = .ok (.istore_n 1, 1) := by decide +kernel
theorem dX10_readDigit_8 : decode cX10_readDigit 8 = .ok (.iload_n 1, 1) := by decide +kernel
theorem dX10_readDigit_9 : decode cX10_readDigit 9 = .ok (.i2l, 1) := by decide +kernel
theorem dX10_readDigit_10 : decode cX10_readDigit 10 = .ok (.lconst 0, 1) := by decide +kernel
theorem dX10_readDigit_11 : decode cX10_readDigit 11 = .ok (.ldc2_w 151, 3) := by decide +kernel
theorem dX10_readDigit_14 : decode cX10_readDigit 14 = .ok (.invokestatic 78, 3) := by decide +kernel
theorem dX10_readDigit_17 : decode cX10_readDigit 17 = .ok (.ifCond .ne 5, 3) := by decide +kernel
theorem dX10_readDigit_20 : decode cX10_readDigit 20 = .ok (.iconst (-1), 1) := by decide +kernel
theorem dX10_readDigit_21 : decode cX10_readDigit 21 = .ok (.ireturn, 1) := by decide +kernel
theorem dX10_readDigit_22 : decode cX10_readDigit 22 = .ok (.aload_n 0, 1) := by decide +kernel
theorem dX10_readDigit_23 : decode cX10_readDigit 23 = .ok (.dup, 1) := by decide +kernel
theorem dX10_readDigit_24 : decode cX10_readDigit 24 = .ok (.getfield 144, 3) := by decide +kernel
theorem dX10_readDigit_27 : decode cX10_readDigit 27 = .ok (.iconst 1, 1) := by decide +kernel
theorem dX10_readDigit_28 : decode cX10_readDigit 28 = .ok (.iadd, 1) := by decide +kernel
theorem dX10_readDigit_29 : decode cX10_readDigit 29 = .ok (.putfield 144, 3) := by decide +kernel
theorem dX10_readDigit_32 : decode cX10_readDigit 32 = .ok (.iload_n 1, 1) := by decide +kernel
theorem dX10_readDigit_33 : decode cX10_readDigit 33 = .ok (.ireturn, 1) := by decide +kernel
theorem dX10_readSquare_0 : decode cX10_readSquare 0 = .ok (.aload_n 0, 1) := by decide +kernel
theorem dX10_readSquare_1 : decode cX10_readSquare 1 = .ok (.invokevirtual 153, 3) := by decide +kernel
theorem dX10_readSquare_4 : decode cX10_readSquare 4 = .ok (.istore_n 1, 1) := by decide +kernel
theorem dX10_readSquare_5 : decode cX10_readSquare 5 = .ok (.iload_n 1, 1) := by decide +kernel
theorem dX10_readSquare_6 : decode cX10_readSquare 6 = .ok (.ifCond .ge 7, 3) := by decide +kernel
theorem dX10_readSquare_9 : decode cX10_readSquare 9 = .ok (.iconst (-1), 1) := by decide +kernel
theorem dX10_readSquare_10 : decode cX10_readSquare 10 = .ok (.goto 7, 3) := by decide +kernel
theorem dX10_readSquare_13 : decode cX10_readSquare 13 = .ok (.aload_n 0, 1) := by decide +kernel
theorem dX10_readSquare_14 : decode cX10_readSquare 14 = .ok (.invokevirtual 153, 3) := by decide +kernel
theorem dX10_readSquare_17 : decode cX10_readSquare 17 = .ok (.istore_n 2, 1) := by decide +kernel
theorem dX10_readSquare_18 : decode cX10_readSquare 18 = .ok (.iload_n 2, 1) := by decide +kernel
theorem dX10_readSquare_19 : decode cX10_readSquare 19 = .ok (.ifCond .ge 7, 3) := by decide +kernel
theorem dX10_readSquare_22 : decode cX10_readSquare 22 = .ok (.iconst (-1), 1) := by decide +kernel
theorem dX10_readSquare_23 : decode cX10_readSquare 23 = .ok (.goto 9, 3) := by decide +kernel
theorem dX10_readSquare_26 : decode cX10_readSquare 26 = .ok (.bipush 6, 2) := by decide +kernel
theorem dX10_readSquare_28 : decode cX10_readSquare 28 = .ok (.iload_n 1, 1) := by decide +kernel
theorem dX10_readSquare_29 : decode cX10_readSquare 29 = .ok (.imul, 1) := by decide +kernel
theorem dX10_readSquare_30 : decode cX10_readSquare 30 = .ok (.iload_n 2, 1) := by decide +kernel
theorem dX10_readSquare_31 : decode cX10_readSquare 31 = .ok (.iadd, 1) := by decide +kernel
theorem dX10_readSquare_32 : decode cX10_readSquare 32 = .ok (.ireturn, 1) := by decide +kernel
theorem dX10_sideHere_0 : decode cX10_sideHere 0 = .ok (.aload_n 0, 1) := by decide +kernel
theorem dX10_sideHere_1 : decode cX10_sideHere 1 = .ok (.invokevirtual 147, 3) := by decide +kernel
theorem dX10_sideHere_4 : decode cX10_sideHere 4 = .ok (.istore_n 1, 1) := by decide +kernel
theorem dX10_sideHere_5 : decode cX10_sideHere 5 = .ok (.iload_n 1, 1) := by decide +kernel
theorem dX10_sideHere_6 : decode cX10_sideHere 6 = .ok (.bipush 117, 2) := by decide +kernel
theorem dX10_sideHere_8 : decode cX10_sideHere 8 = .ok (.if_icmp .ne 7, 3) := by decide +kernel
theorem dX10_sideHere_11 : decode cX10_sideHere 11 = .ok (.iconst 0, 1) := by decide +kernel
theorem dX10_sideHere_12 : decode cX10_sideHere 12 = .ok (.goto 34, 3) := by decide +kernel
theorem dX10_sideHere_15 : decode cX10_sideHere 15 = .ok (.iload_n 1, 1) := by decide +kernel
theorem dX10_sideHere_16 : decode cX10_sideHere 16 = .ok (.bipush 108, 2) := by decide +kernel
theorem dX10_sideHere_18 : decode cX10_sideHere 18 = .ok (.if_icmp .ne 7, 3) := by decide +kernel
theorem dX10_sideHere_21 : decode cX10_sideHere 21 = .ok (.iconst 1, 1) := by decide +kernel
theorem dX10_sideHere_22 : decode cX10_sideHere 22 = .ok (.goto 24, 3) := by decide +kernel
theorem dX10_sideHere_25 : decode cX10_sideHere 25 = .ok (.iload_n 1, 1) := by decide +kernel
theorem dX10_sideHere_26 : decode cX10_sideHere 26 = .ok (.bipush 114, 2) := by decide +kernel
theorem dX10_sideHere_28 : decode cX10_sideHere 28 = .ok (.if_icmp .ne 7, 3) := by decide +kernel
theorem dX10_sideHere_31 : decode cX10_sideHere 31 = .ok (.iconst 2, 1) := by decide +kernel
theorem dX10_sideHere_32 : decode cX10_sideHere 32 = .ok (.goto 14, 3) := by decide +kernel
theorem dX10_sideHere_35 : decode cX10_sideHere 35 = .ok (.iload_n 1, 1) := by decide +kernel
theorem dX10_sideHere_36 : decode cX10_sideHere 36 = .ok (.bipush 100, 2) := by decide +kernel
theorem dX10_sideHere_38 : decode cX10_sideHere 38 = .ok (.if_icmp .ne 7, 3) := by decide +kernel
theorem dX10_sideHere_41 : decode cX10_sideHere 41 = .ok (.iconst 3, 1) := by decide +kernel
theorem dX10_sideHere_42 : decode cX10_sideHere 42 = .ok (.goto 4, 3) := by decide +kernel
theorem dX10_sideHere_45 : decode cX10_sideHere 45 = .ok (.iconst (-1), 1) := by decide +kernel
theorem dX10_sideHere_46 : decode cX10_sideHere 46 = .ok (.ireturn, 1) := by decide +kernel
theorem dX10_isRead_0 : decode cX10_isRead 0 = .ok (.iconst 0, 1) := by decide +kernel
theorem dX10_isRead_1 : decode cX10_isRead 1 = .ok (.istore_n 2, 1) := by decide +kernel
theorem dX10_isRead_2 : decode cX10_isRead 2 = .ok (.iconst 0, 1) := by decide +kernel
theorem dX10_isRead_3 : decode cX10_isRead 3 = .ok (.istore_n 3, 1) := by decide +kernel
theorem dX10_isRead_4 : decode cX10_isRead 4 = .ok (.iload_n 3, 1) := by decide +kernel
theorem dX10_isRead_5 : decode cX10_isRead 5 = .ok (.aload_n 0, 1) := by decide +kernel
theorem dX10_isRead_6 : decode cX10_isRead 6 = .ok (.getfield 156, 3) := by decide +kernel
theorem dX10_isRead_9 : decode cX10_isRead 9 = .ok (.if_icmp .ge 29, 3) := by decide +kernel
theorem dX10_isRead_12 : decode cX10_isRead 12 = .ok (.iload_n 2, 1) := by decide +kernel
theorem dX10_isRead_13 : decode cX10_isRead 13 = .ok (.ifCond .ne 13, 3) := by decide +kernel
theorem dX10_isRead_16 : decode cX10_isRead 16 = .ok (.aload_n 0, 1) := by decide +kernel
theorem dX10_isRead_17 : decode cX10_isRead 17 = .ok (.getfield 34, 3) := by decide +kernel
theorem dX10_isRead_20 : decode cX10_isRead 20 = .ok (.iload_n 3, 1) := by decide +kernel
theorem dX10_isRead_21 : decode cX10_isRead 21 = .ok (.iaload, 1) := by decide +kernel
theorem dX10_isRead_22 : decode cX10_isRead 22 = .ok (.iload_n 1, 1) := by decide +kernel
theorem dX10_isRead_23 : decode cX10_isRead 23 = .ok (.if_icmp .ne 7, 3) := by decide +kernel
theorem dX10_isRead_26 : decode cX10_isRead 26 = .ok (.iconst 1, 1) := by decide +kernel
theorem dX10_isRead_27 : decode cX10_isRead 27 = .ok (.goto 4, 3) := by decide +kernel
theorem dX10_isRead_30 : decode cX10_isRead 30 = .ok (.iconst 0, 1) := by decide +kernel
theorem dX10_isRead_31 : decode cX10_isRead 31 = .ok (.istore_n 2, 1) := by decide +kernel
theorem dX10_isRead_32 : decode cX10_isRead 32 = .ok (.iinc 3 1, 3) := by decide +kernel
theorem dX10_isRead_35 : decode cX10_isRead 35 = .ok (.goto (-31), 3) := by decide +kernel
theorem dX10_isRead_38 : decode cX10_isRead 38 = .ok (.iload_n 2, 1) := by decide +kernel
theorem dX10_isRead_39 : decode cX10_isRead 39 = .ok (.ireturn, 1) := by decide +kernel
theorem dX10_readFurrow_0 : decode cX10_readFurrow 0 = .ok (.aload_n 0, 1) := by decide +kernel
theorem dX10_readFurrow_1 : decode cX10_readFurrow 1 = .ok (.iconst 0, 1) := by decide +kernel
theorem dX10_readFurrow_2 : decode cX10_readFurrow 2 = .ok (.putfield 144, 3) := by decide +kernel
theorem dX10_readFurrow_5 : decode cX10_readFurrow 5 = .ok (.aload_n 0, 1) := by decide +kernel
theorem dX10_readFurrow_6 : decode cX10_readFurrow 6 = .ok (.iconst 0, 1) := by decide +kernel
theorem dX10_readFurrow_7 : decode cX10_readFurrow 7 = .ok (.putfield 156, 3) := by decide +kernel
theorem dX10_readFurrow_10 : decode cX10_readFurrow 10 = .ok (.aload_n 0, 1) := by decide +kernel
theorem dX10_readFurrow_11 : decode cX10_readFurrow 11 = .ok (.getfield 34, 3) := by decide +kernel
theorem dX10_readFurrow_14 : decode cX10_readFurrow 14 = .ok (.iconst 0, 1) := by decide +kernel
theorem dX10_readFurrow_15 : decode cX10_readFurrow 15 = .ok (.aload_n 0, 1) := by decide +kernel
theorem dX10_readFurrow_16 : decode cX10_readFurrow 16 = .ok (.invokevirtual 159, 3) := by decide +kernel
theorem dX10_readFurrow_19 : decode cX10_readFurrow 19 = .ok (.iastore, 1) := by decide +kernel
theorem dX10_readFurrow_20 : decode cX10_readFurrow 20 = .ok (.aload_n 0, 1) := by decide +kernel
theorem dX10_readFurrow_21 : decode cX10_readFurrow 21 = .ok (.getfield 34, 3) := by decide +kernel
theorem dX10_readFurrow_24 : decode cX10_readFurrow 24 = .ok (.iconst 0, 1) := by decide +kernel
theorem dX10_readFurrow_25 : decode cX10_readFurrow 25 = .ok (.iaload, 1) := by decide +kernel
theorem dX10_readFurrow_26 : decode cX10_readFurrow 26 = .ok (.ifCond .ge 5, 3) := by decide +kernel
theorem dX10_readFurrow_29 : decode cX10_readFurrow 29 = .ok (.iconst 0, 1) := by decide +kernel
theorem dX10_readFurrow_30 : decode cX10_readFurrow 30 = .ok (.ireturn, 1) := by decide +kernel
theorem dX10_readFurrow_31 : decode cX10_readFurrow 31 = .ok (.aload_n 0, 1) := by decide +kernel
theorem dX10_readFurrow_32 : decode cX10_readFurrow 32 = .ok (.iconst 1, 1) := by decide +kernel
theorem dX10_readFurrow_33 : decode cX10_readFurrow 33 = .ok (.putfield 156, 3) := by decide +kernel
theorem dX10_readFurrow_36 : decode cX10_readFurrow 36 = .ok (.aload_n 0, 1) := by decide +kernel
theorem dX10_readFurrow_37 : decode cX10_readFurrow 37 = .ok (.invokevirtual 162, 3) := by decide +kernel
theorem dX10_readFurrow_40 : decode cX10_readFurrow 40 = .ok (.ifCond .lt 69, 3) := by decide +kernel
theorem dX10_readFurrow_43 : decode cX10_readFurrow 43 = .ok (.aload_n 0, 1) := by decide +kernel
theorem dX10_readFurrow_44 : decode cX10_readFurrow 44 = .ok (.getfield 34, 3) := by decide +kernel
theorem dX10_readFurrow_47 : decode cX10_readFurrow 47 = .ok (.aload_n 0, 1) := by decide +kernel
theorem dX10_readFurrow_48 : decode cX10_readFurrow 48 = .ok (.getfield 156, 3) := by decide +kernel
theorem dX10_readFurrow_51 : decode cX10_readFurrow 51 = .ok (.iconst 1, 1) := by decide +kernel
theorem dX10_readFurrow_52 : decode cX10_readFurrow 52 = .ok (.isub, 1) := by decide +kernel
theorem dX10_readFurrow_53 : decode cX10_readFurrow 53 = .ok (.iaload, 1) := by decide +kernel
theorem dX10_readFurrow_54 : decode cX10_readFurrow 54 = .ok (.aload_n 0, 1) := by decide +kernel
theorem dX10_readFurrow_55 : decode cX10_readFurrow 55 = .ok (.invokevirtual 162, 3) := by decide +kernel
theorem dX10_readFurrow_58 : decode cX10_readFurrow 58 = .ok (.invokestatic 82, 3) := by decide +kernel
theorem dX10_readFurrow_61 : decode cX10_readFurrow 61 = .ok (.istore_n 1, 1) := by decide +kernel
theorem dX10_readFurrow_62 : decode cX10_readFurrow 62 = .ok (.iload_n 1, 1) := by decide +kernel
theorem dX10_readFurrow_63 : decode cX10_readFurrow 63 = .ok (.ifCond .lt 11, 3) := by decide +kernel
theorem dX10_readFurrow_66 : decode cX10_readFurrow 66 = .ok (.aload_n 0, 1) := by decide +kernel
theorem dX10_readFurrow_67 : decode cX10_readFurrow 67 = .ok (.iload_n 1, 1) := by decide +kernel
theorem dX10_readFurrow_68 : decode cX10_readFurrow 68 = .ok (.invokevirtual 165, 3) := by decide +kernel
theorem dX10_readFurrow_71 : decode cX10_readFurrow 71 = .ok (.ifCond .eq 5, 3) := by decide +kernel
theorem dX10_readFurrow_74 : decode cX10_readFurrow 74 = .ok (.iconst 0, 1) := by decide +kernel
theorem dX10_readFurrow_75 : decode cX10_readFurrow 75 = .ok (.ireturn, 1) := by decide +kernel
theorem dX10_readFurrow_76 : decode cX10_readFurrow 76 = .ok (.aload_n 0, 1) := by decide +kernel
theorem dX10_readFurrow_77 : decode cX10_readFurrow 77 = .ok (.getfield 34, 3) := by decide +kernel
theorem dX10_readFurrow_80 : decode cX10_readFurrow 80 = .ok (.aload_n 0, 1) := by decide +kernel
theorem dX10_readFurrow_81 : decode cX10_readFurrow 81 = .ok (.getfield 156, 3) := by decide +kernel
theorem dX10_readFurrow_84 : decode cX10_readFurrow 84 = .ok (.iload_n 1, 1) := by decide +kernel
theorem dX10_readFurrow_85 : decode cX10_readFurrow 85 = .ok (.iastore, 1) := by decide +kernel
theorem dX10_readFurrow_86 : decode cX10_readFurrow 86 = .ok (.aload_n 0, 1) := by decide +kernel
theorem dX10_readFurrow_87 : decode cX10_readFurrow 87 = .ok (.dup, 1) := by decide +kernel
theorem dX10_readFurrow_88 : decode cX10_readFurrow 88 = .ok (.getfield 156, 3) := by decide +kernel
theorem dX10_readFurrow_91 : decode cX10_readFurrow 91 = .ok (.iconst 1, 1) := by decide +kernel
theorem dX10_readFurrow_92 : decode cX10_readFurrow 92 = .ok (.iadd, 1) := by decide +kernel
theorem dX10_readFurrow_93 : decode cX10_readFurrow 93 = .ok (.putfield 156, 3) := by decide +kernel
theorem dX10_readFurrow_96 : decode cX10_readFurrow 96 = .ok (.aload_n 0, 1) := by decide +kernel
theorem dX10_readFurrow_97 : decode cX10_readFurrow 97 = .ok (.dup, 1) := by decide +kernel
theorem dX10_readFurrow_98 : decode cX10_readFurrow 98 = .ok (.getfield 144, 3) := by decide +kernel
theorem dX10_readFurrow_101 : decode cX10_readFurrow 101 = .ok (.iconst 1, 1) := by decide +kernel
theorem dX10_readFurrow_102 : decode cX10_readFurrow 102 = .ok (.iadd, 1) := by decide +kernel
theorem dX10_readFurrow_103 : decode cX10_readFurrow 103 = .ok (.putfield 144, 3) := by decide +kernel
theorem dX10_readFurrow_106 : decode cX10_readFurrow 106 = .ok (.goto (-70), 3) := by decide +kernel
theorem dX10_readFurrow_109 : decode cX10_readFurrow 109 = .ok (.aload_n 0, 1) := by decide +kernel
theorem dX10_readFurrow_110 : decode cX10_readFurrow 110 = .ok (.invokevirtual 147, 3) := by decide +kernel
theorem dX10_readFurrow_113 : decode cX10_readFurrow 113 = .ok (.ifCond .ge 7, 3) := by decide +kernel
theorem dX10_readFurrow_116 : decode cX10_readFurrow 116 = .ok (.iconst 1, 1) := by decide +kernel
theorem dX10_readFurrow_117 : decode cX10_readFurrow 117 = .ok (.goto 4, 3) := by decide +kernel
theorem dX10_readFurrow_120 : decode cX10_readFurrow 120 = .ok (.iconst 0, 1) := by decide +kernel
theorem dX10_readFurrow_121 : decode cX10_readFurrow 121 = .ok (.ireturn, 1) := by decide +kernel
theorem dX10_furrow_0 : decode cX10_furrow 0 = .ok (.aload_n 0, 1) := by decide +kernel
theorem dX10_furrow_1 : decode cX10_furrow 1 = .ok (.invokevirtual 168, 3) := by decide +kernel
theorem dX10_furrow_4 : decode cX10_furrow 4 = .ok (.istore_n 1, 1) := by decide +kernel
theorem dX10_furrow_5 : decode cX10_furrow 5 = .ok (.aload_n 0, 1) := by decide +kernel
theorem dX10_furrow_6 : decode cX10_furrow 6 = .ok (.iconst 0, 1) := by decide +kernel
theorem dX10_furrow_7 : decode cX10_furrow 7 = .ok (.putfield 141, 3) := by decide +kernel
theorem dX10_furrow_10 : decode cX10_furrow 10 = .ok (.iload_n 1, 1) := by decide +kernel
theorem dX10_furrow_11 : decode cX10_furrow 11 = .ok (.ifCond .ne 11, 3) := by decide +kernel
theorem dX10_furrow_14 : decode cX10_furrow 14 = .ok (.bipush (-20), 2) := by decide +kernel
theorem dX10_furrow_16 : decode cX10_furrow 16 = .ok (.aload_n 0, 1) := by decide +kernel
theorem dX10_furrow_17 : decode cX10_furrow 17 = .ok (.getfield 144, 3) := by decide +kernel
theorem dX10_furrow_20 : decode cX10_furrow 20 = .ok (.isub, 1) := by decide +kernel
theorem dX10_furrow_21 : decode cX10_furrow 21 = .ok (.ireturn, 1) := by decide +kernel
theorem dX10_furrow_22 : decode cX10_furrow 22 = .ok (.aload_n 0, 1) := by decide +kernel
theorem dX10_furrow_23 : decode cX10_furrow 23 = .ok (.aload_n 0, 1) := by decide +kernel
theorem dX10_furrow_24 : decode cX10_furrow 24 = .ok (.getfield 156, 3) := by decide +kernel
theorem dX10_furrow_27 : decode cX10_furrow 27 = .ok (.putfield 86, 3) := by decide +kernel
theorem dX10_furrow_30 : decode cX10_furrow 30 = .ok (.iconst 0, 1) := by decide +kernel
theorem dX10_furrow_31 : decode cX10_furrow 31 = .ok (.istore_n 2, 1) := by decide +kernel
theorem dX10_furrow_32 : decode cX10_furrow 32 = .ok (.iload_n 2, 1) := by decide +kernel
theorem dX10_furrow_33 : decode cX10_furrow 33 = .ok (.aload_n 0, 1) := by decide +kernel
theorem dX10_furrow_34 : decode cX10_furrow 34 = .ok (.getfield 86, 3) := by decide +kernel
theorem dX10_furrow_37 : decode cX10_furrow 37 = .ok (.if_icmp .ge 21, 3) := by decide +kernel
theorem dX10_furrow_40 : decode cX10_furrow 40 = .ok (.aload_n 0, 1) := by decide +kernel
theorem dX10_furrow_41 : decode cX10_furrow 41 = .ok (.getfield 7, 3) := by decide +kernel
theorem dX10_furrow_44 : decode cX10_furrow 44 = .ok (.iload_n 2, 1) := by decide +kernel
theorem dX10_furrow_45 : decode cX10_furrow 45 = .ok (.aload_n 0, 1) := by decide +kernel
theorem dX10_furrow_46 : decode cX10_furrow 46 = .ok (.getfield 34, 3) := by decide +kernel
theorem dX10_furrow_49 : decode cX10_furrow 49 = .ok (.iload_n 2, 1) := by decide +kernel
theorem dX10_furrow_50 : decode cX10_furrow 50 = .ok (.iaload, 1) := by decide +kernel
theorem dX10_furrow_51 : decode cX10_furrow 51 = .ok (.iastore, 1) := by decide +kernel
theorem dX10_furrow_52 : decode cX10_furrow 52 = .ok (.iinc 2 1, 3) := by decide +kernel
theorem dX10_furrow_55 : decode cX10_furrow 55 = .ok (.goto (-23), 3) := by decide +kernel
theorem dX10_furrow_58 : decode cX10_furrow 58 = .ok (.aload_n 0, 1) := by decide +kernel
theorem dX10_furrow_59 : decode cX10_furrow 59 = .ok (.getfield 86, 3) := by decide +kernel
theorem dX10_furrow_62 : decode cX10_furrow 62 = .ok (.ireturn, 1) := by decide +kernel
theorem dX10_readSight_0 : decode cX10_readSight 0 = .ok (.aload_n 0, 1) := by decide +kernel
theorem dX10_readSight_1 : decode cX10_readSight 1 = .ok (.invokevirtual 159, 3) := by decide +kernel
theorem dX10_readSight_4 : decode cX10_readSight 4 = .ok (.istore_n 2, 1) := by decide +kernel
theorem dX10_readSight_5 : decode cX10_readSight 5 = .ok (.iload_n 2, 1) := by decide +kernel
theorem dX10_readSight_6 : decode cX10_readSight 6 = .ok (.ifCond .lt 21, 3) := by decide +kernel
theorem dX10_readSight_9 : decode cX10_readSight 9 = .ok (.aload_n 0, 1) := by decide +kernel
theorem dX10_readSight_10 : decode cX10_readSight 10 = .ok (.invokevirtual 162, 3) := by decide +kernel
theorem dX10_readSight_13 : decode cX10_readSight 13 = .ok (.ifCond .lt 14, 3) := by decide +kernel
theorem dX10_readSight_16 : decode cX10_readSight 16 = .ok (.iload_n 2, 1) := by decide +kernel
theorem dX10_readSight_17 : decode cX10_readSight 17 = .ok (.aload_n 0, 1) := by decide +kernel
theorem dX10_readSight_18 : decode cX10_readSight 18 = .ok (.invokevirtual 162, 3) := by decide +kernel
theorem dX10_readSight_21 : decode cX10_readSight 21 = .ok (.invokestatic 82, 3) := by decide +kernel
theorem dX10_readSight_24 : decode cX10_readSight 24 = .ok (.ifCond .ge 5, 3) := by decide +kernel
theorem dX10_readSight_27 : decode cX10_readSight 27 = .ok (.iconst 0, 1) := by decide +kernel
theorem dX10_readSight_28 : decode cX10_readSight 28 = .ok (.ireturn, 1) := by decide +kernel
theorem dX10_readSight_29 : decode cX10_readSight 29 = .ok (.aload_n 0, 1) := by decide +kernel
theorem dX10_readSight_30 : decode cX10_readSight 30 = .ok (.getfield 34, 3) := by decide +kernel
theorem dX10_readSight_33 : decode cX10_readSight 33 = .ok (.iload_n 1, 1) := by decide +kernel
theorem dX10_readSight_34 : decode cX10_readSight 34 = .ok (.iload_n 2, 1) := by decide +kernel
theorem dX10_readSight_35 : decode cX10_readSight 35 = .ok (.aload_n 0, 1) := by decide +kernel
theorem dX10_readSight_36 : decode cX10_readSight 36 = .ok (.invokevirtual 162, 3) := by decide +kernel
theorem dX10_readSight_39 : decode cX10_readSight 39 = .ok (.invokestatic 97, 3) := by decide +kernel
theorem dX10_readSight_42 : decode cX10_readSight 42 = .ok (.iastore, 1) := by decide +kernel
theorem dX10_readSight_43 : decode cX10_readSight 43 = .ok (.aload_n 0, 1) := by decide +kernel
theorem dX10_readSight_44 : decode cX10_readSight 44 = .ok (.dup, 1) := by decide +kernel
theorem dX10_readSight_45 : decode cX10_readSight 45 = .ok (.getfield 144, 3) := by decide +kernel
theorem dX10_readSight_48 : decode cX10_readSight 48 = .ok (.iconst 1, 1) := by decide +kernel
theorem dX10_readSight_49 : decode cX10_readSight 49 = .ok (.iadd, 1) := by decide +kernel
theorem dX10_readSight_50 : decode cX10_readSight 50 = .ok (.putfield 144, 3) := by decide +kernel
theorem dX10_readSight_53 : decode cX10_readSight 53 = .ok (.aload_n 0, 1) := by decide +kernel
theorem dX10_readSight_54 : decode cX10_readSight 54 = .ok (.invokevirtual 147, 3) := by decide +kernel
theorem dX10_readSight_57 : decode cX10_readSight 57 = .ok (.istore_n 3, 1) := by decide +kernel
theorem dX10_readSight_58 : decode cX10_readSight 58 = .ok (.iload_n 3, 1) := by decide +kernel
theorem dX10_readSight_59 : decode cX10_readSight 59 = .ok (.bipush 43, 2) := by decide +kernel
theorem dX10_readSight_61 : decode cX10_readSight 61 = .ok (.if_icmp .eq 11, 3) := by decide +kernel
theorem dX10_readSight_64 : decode cX10_readSight 64 = .ok (.iload_n 3, 1) := by decide +kernel
theorem dX10_readSight_65 : decode cX10_readSight 65 = .ok (.bipush 45, 2) := by decide +kernel
theorem dX10_readSight_67 : decode cX10_readSight 67 = .ok (.if_icmp .eq 5, 3) := by decide +kernel
theorem dX10_readSight_70 : decode cX10_readSight 70 = .ok (.iconst 0, 1) := by decide +kernel
theorem dX10_readSight_71 : decode cX10_readSight 71 = .ok (.ireturn, 1) := by decide +kernel
theorem dX10_readSight_72 : decode cX10_readSight 72 = .ok (.aload_n 0, 1) := by decide +kernel
theorem dX10_readSight_73 : decode cX10_readSight 73 = .ok (.getfield 37, 3) := by decide +kernel
theorem dX10_readSight_76 : decode cX10_readSight 76 = .ok (.iload_n 1, 1) := by decide +kernel
theorem dX10_readSight_77 : decode cX10_readSight 77 = .ok (.iload_n 3, 1) := by decide +kernel
theorem dX10_readSight_78 : decode cX10_readSight 78 = .ok (.bipush 43, 2) := by decide +kernel
theorem dX10_readSight_80 : decode cX10_readSight 80 = .ok (.if_icmp .ne 7, 3) := by decide +kernel
theorem dX10_readSight_83 : decode cX10_readSight 83 = .ok (.iconst 1, 1) := by decide +kernel
theorem dX10_readSight_84 : decode cX10_readSight 84 = .ok (.goto 4, 3) := by decide +kernel
theorem dX10_readSight_87 : decode cX10_readSight 87 = .ok (.iconst 0, 1) := by decide +kernel
theorem dX10_readSight_88 : decode cX10_readSight 88 = .ok (.iastore, 1) := by decide +kernel
theorem dX10_readSight_89 : decode cX10_readSight 89 = .ok (.iconst 0, 1) := by decide +kernel
theorem dX10_readSight_90 : decode cX10_readSight 90 = .ok (.istore 4, 2) := by decide +kernel
theorem dX10_readSight_92 : decode cX10_readSight 92 = .ok (.iload 4, 2) := by decide +kernel
theorem dX10_readSight_94 : decode cX10_readSight 94 = .ok (.iload_n 1, 1) := by decide +kernel
theorem dX10_readSight_95 : decode cX10_readSight 95 = .ok (.if_icmp .ge 43, 3) := by decide +kernel
theorem dX10_readSight_98 : decode cX10_readSight 98 = .ok (.aload_n 0, 1) := by decide +kernel
theorem dX10_readSight_99 : decode cX10_readSight 99 = .ok (.getfield 34, 3) := by decide +kernel
theorem dX10_readSight_102 : decode cX10_readSight 102 = .ok (.iload 4, 2) := by decide +kernel
theorem dX10_readSight_104 : decode cX10_readSight 104 = .ok (.iaload, 1) := by decide +kernel
theorem dX10_readSight_105 : decode cX10_readSight 105 = .ok (.aload_n 0, 1) := by decide +kernel
theorem dX10_readSight_106 : decode cX10_readSight 106 = .ok (.getfield 34, 3) := by decide +kernel
theorem dX10_readSight_109 : decode cX10_readSight 109 = .ok (.iload_n 1, 1) := by decide +kernel
theorem dX10_readSight_110 : decode cX10_readSight 110 = .ok (.iaload, 1) := by decide +kernel
theorem dX10_readSight_111 : decode cX10_readSight 111 = .ok (.if_icmp .ne 21, 3) := by decide +kernel
theorem dX10_readSight_114 : decode cX10_readSight 114 = .ok (.aload_n 0, 1) := by decide +kernel
theorem dX10_readSight_115 : decode cX10_readSight 115 = .ok (.getfield 37, 3) := by decide +kernel
theorem dX10_readSight_118 : decode cX10_readSight 118 = .ok (.iload 4, 2) := by decide +kernel
theorem dX10_readSight_120 : decode cX10_readSight 120 = .ok (.iaload, 1) := by decide +kernel
theorem dX10_readSight_121 : decode cX10_readSight 121 = .ok (.aload_n 0, 1) := by decide +kernel
theorem dX10_readSight_122 : decode cX10_readSight 122 = .ok (.getfield 37, 3) := by decide +kernel
theorem dX10_readSight_125 : decode cX10_readSight 125 = .ok (.iload_n 1, 1) := by decide +kernel
theorem dX10_readSight_126 : decode cX10_readSight 126 = .ok (.iaload, 1) := by decide +kernel
theorem dX10_readSight_127 : decode cX10_readSight 127 = .ok (.if_icmp .eq 5, 3) := by decide +kernel
theorem dX10_readSight_130 : decode cX10_readSight 130 = .ok (.iconst 0, 1) := by decide +kernel
theorem dX10_readSight_131 : decode cX10_readSight 131 = .ok (.ireturn, 1) := by decide +kernel
theorem dX10_readSight_132 : decode cX10_readSight 132 = .ok (.iinc 4 1, 3) := by decide +kernel
theorem dX10_readSight_135 : decode cX10_readSight 135 = .ok (.goto (-43), 3) := by decide +kernel
theorem dX10_readSight_138 : decode cX10_readSight 138 = .ok (.aload_n 0, 1) := by decide +kernel
theorem dX10_readSight_139 : decode cX10_readSight 139 = .ok (.dup, 1) := by decide +kernel
theorem dX10_readSight_140 : decode cX10_readSight 140 = .ok (.getfield 144, 3) := by decide +kernel
theorem dX10_readSight_143 : decode cX10_readSight 143 = .ok (.iconst 1, 1) := by decide +kernel
theorem dX10_readSight_144 : decode cX10_readSight 144 = .ok (.iadd, 1) := by decide +kernel
theorem dX10_readSight_145 : decode cX10_readSight 145 = .ok (.putfield 144, 3) := by decide +kernel
theorem dX10_readSight_148 : decode cX10_readSight 148 = .ok (.iconst 1, 1) := by decide +kernel
theorem dX10_readSight_149 : decode cX10_readSight 149 = .ok (.ireturn, 1) := by decide +kernel
theorem dX10_readSeen_0 : decode cX10_readSeen 0 = .ok (.aload_n 0, 1) := by decide +kernel
theorem dX10_readSeen_1 : decode cX10_readSeen 1 = .ok (.iconst 0, 1) := by decide +kernel
theorem dX10_readSeen_2 : decode cX10_readSeen 2 = .ok (.putfield 144, 3) := by decide +kernel
theorem dX10_readSeen_5 : decode cX10_readSeen 5 = .ok (.iconst 0, 1) := by decide +kernel
theorem dX10_readSeen_6 : decode cX10_readSeen 6 = .ok (.istore_n 1, 1) := by decide +kernel
theorem dX10_readSeen_7 : decode cX10_readSeen 7 = .ok (.iload_n 1, 1) := by decide +kernel
theorem dX10_readSeen_8 : decode cX10_readSeen 8 = .ok (.bipush 12, 2) := by decide +kernel
theorem dX10_readSeen_10 : decode cX10_readSeen 10 = .ok (.if_icmp .ge 61, 3) := by decide +kernel
theorem dX10_readSeen_13 : decode cX10_readSeen 13 = .ok (.aload_n 0, 1) := by decide +kernel
theorem dX10_readSeen_14 : decode cX10_readSeen 14 = .ok (.iload_n 1, 1) := by decide +kernel
theorem dX10_readSeen_15 : decode cX10_readSeen 15 = .ok (.invokevirtual 171, 3) := by decide +kernel
theorem dX10_readSeen_18 : decode cX10_readSeen 18 = .ok (.ifCond .ne 5, 3) := by decide +kernel
theorem dX10_readSeen_21 : decode cX10_readSeen 21 = .ok (.iconst 0, 1) := by decide +kernel
theorem dX10_readSeen_22 : decode cX10_readSeen 22 = .ok (.ireturn, 1) := by decide +kernel
theorem dX10_readSeen_23 : decode cX10_readSeen 23 = .ok (.aload_n 0, 1) := by decide +kernel
theorem dX10_readSeen_24 : decode cX10_readSeen 24 = .ok (.iload_n 1, 1) := by decide +kernel
theorem dX10_readSeen_25 : decode cX10_readSeen 25 = .ok (.iconst 1, 1) := by decide +kernel
theorem dX10_readSeen_26 : decode cX10_readSeen 26 = .ok (.iadd, 1) := by decide +kernel
theorem dX10_readSeen_27 : decode cX10_readSeen 27 = .ok (.putfield 156, 3) := by decide +kernel
theorem dX10_readSeen_30 : decode cX10_readSeen 30 = .ok (.aload_n 0, 1) := by decide +kernel
theorem dX10_readSeen_31 : decode cX10_readSeen 31 = .ok (.invokevirtual 147, 3) := by decide +kernel
theorem dX10_readSeen_34 : decode cX10_readSeen 34 = .ok (.istore_n 2, 1) := by decide +kernel
theorem dX10_readSeen_35 : decode cX10_readSeen 35 = .ok (.iload_n 2, 1) := by decide +kernel
theorem dX10_readSeen_36 : decode cX10_readSeen 36 = .ok (.ifCond .ge 5, 3) := by decide +kernel
theorem dX10_readSeen_39 : decode cX10_readSeen 39 = .ok (.iconst 1, 1) := by decide +kernel
theorem dX10_readSeen_40 : decode cX10_readSeen 40 = .ok (.ireturn, 1) := by decide +kernel
theorem dX10_readSeen_41 : decode cX10_readSeen 41 = .ok (.iload_n 2, 1) := by decide +kernel
theorem dX10_readSeen_42 : decode cX10_readSeen 42 = .ok (.bipush 44, 2) := by decide +kernel
theorem dX10_readSeen_44 : decode cX10_readSeen 44 = .ok (.if_icmp .ne 9, 3) := by decide +kernel
theorem dX10_readSeen_47 : decode cX10_readSeen 47 = .ok (.iload_n 1, 1) := by decide +kernel
theorem dX10_readSeen_48 : decode cX10_readSeen 48 = .ok (.bipush 11, 2) := by decide +kernel
theorem dX10_readSeen_50 : decode cX10_readSeen 50 = .ok (.if_icmp .ne 5, 3) := by decide +kernel
theorem dX10_readSeen_53 : decode cX10_readSeen 53 = .ok (.iconst 0, 1) := by decide +kernel
theorem dX10_readSeen_54 : decode cX10_readSeen 54 = .ok (.ireturn, 1) := by decide +kernel
theorem dX10_readSeen_55 : decode cX10_readSeen 55 = .ok (.aload_n 0, 1) := by decide +kernel
theorem dX10_readSeen_56 : decode cX10_readSeen 56 = .ok (.dup, 1) := by decide +kernel
theorem dX10_readSeen_57 : decode cX10_readSeen 57 = .ok (.getfield 144, 3) := by decide +kernel
theorem dX10_readSeen_60 : decode cX10_readSeen 60 = .ok (.iconst 1, 1) := by decide +kernel
theorem dX10_readSeen_61 : decode cX10_readSeen 61 = .ok (.iadd, 1) := by decide +kernel
theorem dX10_readSeen_62 : decode cX10_readSeen 62 = .ok (.putfield 144, 3) := by decide +kernel
theorem dX10_readSeen_65 : decode cX10_readSeen 65 = .ok (.iinc 1 1, 3) := by decide +kernel
theorem dX10_readSeen_68 : decode cX10_readSeen 68 = .ok (.goto (-61), 3) := by decide +kernel
theorem dX10_readSeen_71 : decode cX10_readSeen 71 = .ok (.iconst 0, 1) := by decide +kernel
