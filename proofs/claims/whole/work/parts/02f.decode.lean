theorem dX10_readSeen_72 : decode cX10_readSeen 72 = .ok (.ireturn, 1) := by decide +kernel
theorem dX10_seen_0 : decode cX10_seen 0 = .ok (.aload_n 0, 1) := by decide +kernel
theorem dX10_seen_1 : decode cX10_seen 1 = .ok (.invokevirtual 174, 3) := by decide +kernel
theorem dX10_seen_4 : decode cX10_seen 4 = .ok (.istore_n 1, 1) := by decide +kernel
theorem dX10_seen_5 : decode cX10_seen 5 = .ok (.iload_n 1, 1) := by decide +kernel
theorem dX10_seen_6 : decode cX10_seen 6 = .ok (.ifCond .ne 8, 3) := by decide +kernel
theorem dX10_seen_9 : decode cX10_seen 9 = .ok (.aload_n 0, 1) := by decide +kernel
theorem dX10_seen_10 : decode cX10_seen 10 = .ok (.invokevirtual 147, 3) := by decide +kernel
theorem dX10_seen_13 : decode cX10_seen 13 = .ok (.pop, 1) := by decide +kernel
theorem dX10_seen_14 : decode cX10_seen 14 = .ok (.aload_n 0, 1) := by decide +kernel
theorem dX10_seen_15 : decode cX10_seen 15 = .ok (.iconst 0, 1) := by decide +kernel
theorem dX10_seen_16 : decode cX10_seen 16 = .ok (.putfield 141, 3) := by decide +kernel
theorem dX10_seen_19 : decode cX10_seen 19 = .ok (.iload_n 1, 1) := by decide +kernel
theorem dX10_seen_20 : decode cX10_seen 20 = .ok (.ifCond .ne 11, 3) := by decide +kernel
theorem dX10_seen_23 : decode cX10_seen 23 = .ok (.bipush (-20), 2) := by decide +kernel
theorem dX10_seen_25 : decode cX10_seen 25 = .ok (.aload_n 0, 1) := by decide +kernel
theorem dX10_seen_26 : decode cX10_seen 26 = .ok (.getfield 144, 3) := by decide +kernel
theorem dX10_seen_29 : decode cX10_seen 29 = .ok (.isub, 1) := by decide +kernel
theorem dX10_seen_30 : decode cX10_seen 30 = .ok (.ireturn, 1) := by decide +kernel
theorem dX10_seen_31 : decode cX10_seen 31 = .ok (.aload_n 0, 1) := by decide +kernel
theorem dX10_seen_32 : decode cX10_seen 32 = .ok (.aload_n 0, 1) := by decide +kernel
theorem dX10_seen_33 : decode cX10_seen 33 = .ok (.getfield 156, 3) := by decide +kernel
theorem dX10_seen_36 : decode cX10_seen 36 = .ok (.putfield 130, 3) := by decide +kernel
theorem dX10_seen_39 : decode cX10_seen 39 = .ok (.iconst 0, 1) := by decide +kernel
theorem dX10_seen_40 : decode cX10_seen 40 = .ok (.istore_n 2, 1) := by decide +kernel
theorem dX10_seen_41 : decode cX10_seen 41 = .ok (.iload_n 2, 1) := by decide +kernel
theorem dX10_seen_42 : decode cX10_seen 42 = .ok (.aload_n 0, 1) := by decide +kernel
theorem dX10_seen_43 : decode cX10_seen 43 = .ok (.getfield 130, 3) := by decide +kernel
theorem dX10_seen_46 : decode cX10_seen 46 = .ok (.if_icmp .ge 33, 3) := by decide +kernel
theorem dX10_seen_49 : decode cX10_seen 49 = .ok (.aload_n 0, 1) := by decide +kernel
theorem dX10_seen_50 : decode cX10_seen 50 = .ok (.getfield 25, 3) := by decide +kernel
theorem dX10_seen_53 : decode cX10_seen 53 = .ok (.iload_n 2, 1) := by decide +kernel
theorem dX10_seen_54 : decode cX10_seen 54 = .ok (.aload_n 0, 1) := by decide +kernel
theorem dX10_seen_55 : decode cX10_seen 55 = .ok (.getfield 34, 3) := by decide +kernel
theorem dX10_seen_58 : decode cX10_seen 58 = .ok (.iload_n 2, 1) := by decide +kernel
theorem dX10_seen_59 : decode cX10_seen 59 = .ok (.iaload, 1) := by decide +kernel
theorem dX10_seen_60 : decode cX10_seen 60 = .ok (.iastore, 1) := by decide +kernel
theorem dX10_seen_61 : decode cX10_seen 61 = .ok (.aload_n 0, 1) := by decide +kernel
theorem dX10_seen_62 : decode cX10_seen 62 = .ok (.getfield 28, 3) := by decide +kernel
theorem dX10_seen_65 : decode cX10_seen 65 = .ok (.iload_n 2, 1) := by decide +kernel
theorem dX10_seen_66 : decode cX10_seen 66 = .ok (.aload_n 0, 1) := by decide +kernel
theorem dX10_seen_67 : decode cX10_seen 67 = .ok (.getfield 37, 3) := by decide +kernel
theorem dX10_seen_70 : decode cX10_seen 70 = .ok (.iload_n 2, 1) := by decide +kernel
theorem dX10_seen_71 : decode cX10_seen 71 = .ok (.iaload, 1) := by decide +kernel
theorem dX10_seen_72 : decode cX10_seen 72 = .ok (.iastore, 1) := by decide +kernel
theorem dX10_seen_73 : decode cX10_seen 73 = .ok (.iinc 2 1, 3) := by decide +kernel
theorem dX10_seen_76 : decode cX10_seen 76 = .ok (.goto (-35), 3) := by decide +kernel
theorem dX10_seen_79 : decode cX10_seen 79 = .ok (.aload_n 0, 1) := by decide +kernel
theorem dX10_seen_80 : decode cX10_seen 80 = .ok (.getfield 130, 3) := by decide +kernel
theorem dX10_seen_83 : decode cX10_seen 83 = .ok (.ireturn, 1) := by decide +kernel
theorem dX10_isPassable_0 : decode cX10_isPassable 0 = .ok (.iload_n 2, 1) := by decide +kernel
theorem dX10_isPassable_1 : decode cX10_isPassable 1 = .ok (.iload_n 3, 1) := by decide +kernel
theorem dX10_isPassable_2 : decode cX10_isPassable 2 = .ok (.invokestatic 82, 3) := by decide +kernel
theorem dX10_isPassable_5 : decode cX10_isPassable 5 = .ok (.istore 4, 2) := by decide +kernel
theorem dX10_isPassable_7 : decode cX10_isPassable 7 = .ok (.iload 4, 2) := by decide +kernel
theorem dX10_isPassable_9 : decode cX10_isPassable 9 = .ok (.ifCond .lt 19, 3) := by decide +kernel
theorem dX10_isPassable_12 : decode cX10_isPassable 12 = .ok (.iload_n 1, 1) := by decide +kernel
theorem dX10_isPassable_13 : decode cX10_isPassable 13 = .ok (.iconst 3, 1) := by decide +kernel
theorem dX10_isPassable_14 : decode cX10_isPassable 14 = .ok (.if_icmp .eq 16, 3) := by decide +kernel
theorem dX10_isPassable_17 : decode cX10_isPassable 17 = .ok (.aload_n 0, 1) := by decide +kernel
theorem dX10_isPassable_18 : decode cX10_isPassable 18 = .ok (.getfield 19, 3) := by decide +kernel
theorem dX10_isPassable_21 : decode cX10_isPassable 21 = .ok (.iload 4, 2) := by decide +kernel
theorem dX10_isPassable_23 : decode cX10_isPassable 23 = .ok (.iaload, 1) := by decide +kernel
theorem dX10_isPassable_24 : decode cX10_isPassable 24 = .ok (.iconst 1, 1) := by decide +kernel
theorem dX10_isPassable_25 : decode cX10_isPassable 25 = .ok (.if_icmp .ne 5, 3) := by decide +kernel
theorem dX10_isPassable_28 : decode cX10_isPassable 28 = .ok (.iconst 0, 1) := by decide +kernel
theorem dX10_isPassable_29 : decode cX10_isPassable 29 = .ok (.ireturn, 1) := by decide +kernel
theorem dX10_isPassable_30 : decode cX10_isPassable 30 = .ok (.aload_n 0, 1) := by decide +kernel
theorem dX10_isPassable_31 : decode cX10_isPassable 31 = .ok (.iload_n 2, 1) := by decide +kernel
theorem dX10_isPassable_32 : decode cX10_isPassable 32 = .ok (.iload_n 3, 1) := by decide +kernel
theorem dX10_isPassable_33 : decode cX10_isPassable 33 = .ok (.invokevirtual 127, 3) := by decide +kernel
theorem dX10_isPassable_36 : decode cX10_isPassable 36 = .ok (.ifCond .ne 23, 3) := by decide +kernel
theorem dX10_isPassable_39 : decode cX10_isPassable 39 = .ok (.aload_n 0, 1) := by decide +kernel
theorem dX10_isPassable_40 : decode cX10_isPassable 40 = .ok (.getfield 22, 3) := by decide +kernel
theorem dX10_isPassable_43 : decode cX10_isPassable 43 = .ok (.iconst 0, 1) := by decide +kernel
theorem dX10_isPassable_44 : decode cX10_isPassable 44 = .ok (.iaload, 1) := by decide +kernel
theorem dX10_isPassable_45 : decode cX10_isPassable 45 = .ok (.iload_n 1, 1) := by decide +kernel
theorem dX10_isPassable_46 : decode cX10_isPassable 46 = .ok (.iconst 3, 1) := by decide +kernel
theorem dX10_isPassable_47 : decode cX10_isPassable 47 = .ok (.if_icmp .ne 8, 3) := by decide +kernel
theorem dX10_isPassable_50 : decode cX10_isPassable 50 = .ok (.bipush 7, 2) := by decide +kernel
theorem dX10_isPassable_52 : decode cX10_isPassable 52 = .ok (.goto 4, 3) := by decide +kernel
theorem dX10_isPassable_55 : decode cX10_isPassable 55 = .ok (.iconst 3, 1) := by decide +kernel
theorem dX10_isPassable_56 : decode cX10_isPassable 56 = .ok (.if_icmp .ge 7, 3) := by decide +kernel
theorem dX10_isPassable_59 : decode cX10_isPassable 59 = .ok (.iconst 1, 1) := by decide +kernel
theorem dX10_isPassable_60 : decode cX10_isPassable 60 = .ok (.goto 4, 3) := by decide +kernel
theorem dX10_isPassable_63 : decode cX10_isPassable 63 = .ok (.iconst 0, 1) := by decide +kernel
theorem dX10_isPassable_64 : decode cX10_isPassable 64 = .ok (.ireturn, 1) := by decide +kernel
theorem dX10_rightOf_0 : decode cX10_rightOf 0 = .ok (.iload_n 0, 1) := by decide +kernel
theorem dX10_rightOf_1 : decode cX10_rightOf 1 = .ok (.ifCond .ne 7, 3) := by decide +kernel
theorem dX10_rightOf_4 : decode cX10_rightOf 4 = .ok (.iconst 2, 1) := by decide +kernel
theorem dX10_rightOf_5 : decode cX10_rightOf 5 = .ok (.goto 22, 3) := by decide +kernel
theorem dX10_rightOf_8 : decode cX10_rightOf 8 = .ok (.iload_n 0, 1) := by decide +kernel
theorem dX10_rightOf_9 : decode cX10_rightOf 9 = .ok (.iconst 2, 1) := by decide +kernel
theorem dX10_rightOf_10 : decode cX10_rightOf 10 = .ok (.if_icmp .ne 7, 3) := by decide +kernel
theorem dX10_rightOf_13 : decode cX10_rightOf 13 = .ok (.iconst 3, 1) := by decide +kernel
theorem dX10_rightOf_14 : decode cX10_rightOf 14 = .ok (.goto 13, 3) := by decide +kernel
theorem dX10_rightOf_17 : decode cX10_rightOf 17 = .ok (.iload_n 0, 1) := by decide +kernel
theorem dX10_rightOf_18 : decode cX10_rightOf 18 = .ok (.iconst 3, 1) := by decide +kernel
theorem dX10_rightOf_19 : decode cX10_rightOf 19 = .ok (.if_icmp .ne 7, 3) := by decide +kernel
theorem dX10_rightOf_22 : decode cX10_rightOf 22 = .ok (.iconst 1, 1) := by decide +kernel
theorem dX10_rightOf_23 : decode cX10_rightOf 23 = .ok (.goto 4, 3) := by decide +kernel
theorem dX10_rightOf_26 : decode cX10_rightOf 26 = .ok (.iconst 0, 1) := by decide +kernel
theorem dX10_rightOf_27 : decode cX10_rightOf 27 = .ok (.ireturn, 1) := by decide +kernel
theorem dX10_turned_0 : decode cX10_turned 0 = .ok (.iload_n 1, 1) := by decide +kernel
theorem dX10_turned_1 : decode cX10_turned 1 = .ok (.ifCond .ne 12, 3) := by decide +kernel
theorem dX10_turned_4 : decode cX10_turned 4 = .ok (.iconst 3, 1) := by decide +kernel
theorem dX10_turned_5 : decode cX10_turned 5 = .ok (.iload_n 0, 1) := by decide +kernel
theorem dX10_turned_6 : decode cX10_turned 6 = .ok (.invokestatic 177, 3) := by decide +kernel
theorem dX10_turned_9 : decode cX10_turned 9 = .ok (.isub, 1) := by decide +kernel
theorem dX10_turned_10 : decode cX10_turned 10 = .ok (.goto 27, 3) := by decide +kernel
theorem dX10_turned_13 : decode cX10_turned 13 = .ok (.iload_n 1, 1) := by decide +kernel
theorem dX10_turned_14 : decode cX10_turned 14 = .ok (.iconst 1, 1) := by decide +kernel
theorem dX10_turned_15 : decode cX10_turned 15 = .ok (.if_icmp .ne 7, 3) := by decide +kernel
theorem dX10_turned_18 : decode cX10_turned 18 = .ok (.iload_n 0, 1) := by decide +kernel
theorem dX10_turned_19 : decode cX10_turned 19 = .ok (.goto 18, 3) := by decide +kernel
theorem dX10_turned_22 : decode cX10_turned 22 = .ok (.iload_n 1, 1) := by decide +kernel
theorem dX10_turned_23 : decode cX10_turned 23 = .ok (.iconst 2, 1) := by decide +kernel
theorem dX10_turned_24 : decode cX10_turned 24 = .ok (.if_icmp .ne 10, 3) := by decide +kernel
theorem dX10_turned_27 : decode cX10_turned 27 = .ok (.iload_n 0, 1) := by decide +kernel
theorem dX10_turned_28 : decode cX10_turned 28 = .ok (.invokestatic 177, 3) := by decide +kernel
theorem dX10_turned_31 : decode cX10_turned 31 = .ok (.goto 6, 3) := by decide +kernel
theorem dX10_turned_34 : decode cX10_turned 34 = .ok (.iconst 3, 1) := by decide +kernel
theorem dX10_turned_35 : decode cX10_turned 35 = .ok (.iload_n 0, 1) := by decide +kernel
theorem dX10_turned_36 : decode cX10_turned 36 = .ok (.isub, 1) := by decide +kernel
theorem dX10_turned_37 : decode cX10_turned 37 = .ok (.ireturn, 1) := by decide +kernel
theorem dX10_begin_0 : decode cX10_begin 0 = .ok (.aload_n 0, 1) := by decide +kernel
theorem dX10_begin_1 : decode cX10_begin 1 = .ok (.getfield 40, 3) := by decide +kernel
theorem dX10_begin_4 : decode cX10_begin 4 = .ok (.iload_n 1, 1) := by decide +kernel
theorem dX10_begin_5 : decode cX10_begin 5 = .ok (.iload_n 2, 1) := by decide +kernel
theorem dX10_begin_6 : decode cX10_begin 6 = .ok (.iastore, 1) := by decide +kernel
theorem dX10_begin_7 : decode cX10_begin 7 = .ok (.aload_n 0, 1) := by decide +kernel
theorem dX10_begin_8 : decode cX10_begin 8 = .ok (.getfield 43, 3) := by decide +kernel
theorem dX10_begin_11 : decode cX10_begin 11 = .ok (.iload_n 1, 1) := by decide +kernel
theorem dX10_begin_12 : decode cX10_begin 12 = .ok (.iload_n 3, 1) := by decide +kernel
theorem dX10_begin_13 : decode cX10_begin 13 = .ok (.iastore, 1) := by decide +kernel
theorem dX10_begin_14 : decode cX10_begin 14 = .ok (.iconst 0, 1) := by decide +kernel
theorem dX10_begin_15 : decode cX10_begin 15 = .ok (.istore 4, 2) := by decide +kernel
theorem dX10_begin_17 : decode cX10_begin 17 = .ok (.iload 4, 2) := by decide +kernel
theorem dX10_begin_19 : decode cX10_begin 19 = .ok (.bipush 36, 2) := by decide +kernel
theorem dX10_begin_21 : decode cX10_begin 21 = .ok (.if_icmp .ge 22, 3) := by decide +kernel
theorem dX10_begin_24 : decode cX10_begin 24 = .ok (.aload_n 0, 1) := by decide +kernel
theorem dX10_begin_25 : decode cX10_begin 25 = .ok (.getfield 46, 3) := by decide +kernel
theorem dX10_begin_28 : decode cX10_begin 28 = .ok (.bipush 36, 2) := by decide +kernel
theorem dX10_begin_30 : decode cX10_begin 30 = .ok (.iload_n 1, 1) := by decide +kernel
theorem dX10_begin_31 : decode cX10_begin 31 = .ok (.imul, 1) := by decide +kernel
theorem dX10_begin_32 : decode cX10_begin 32 = .ok (.iload 4, 2) := by decide +kernel
theorem dX10_begin_34 : decode cX10_begin 34 = .ok (.iadd, 1) := by decide +kernel
theorem dX10_begin_35 : decode cX10_begin 35 = .ok (.iconst 0, 1) := by decide +kernel
theorem dX10_begin_36 : decode cX10_begin 36 = .ok (.iastore, 1) := by decide +kernel
theorem dX10_begin_37 : decode cX10_begin 37 = .ok (.iinc 4 1, 3) := by decide +kernel
theorem dX10_begin_40 : decode cX10_begin 40 = .ok (.goto (-23), 3) := by decide +kernel
theorem dX10_begin_43 : decode cX10_begin 43 = .ok (.return_, 1) := by decide +kernel
theorem dX10_sideFor_0 : decode cX10_sideFor 0 = .ok (.aload_n 0, 1) := by decide +kernel
theorem dX10_sideFor_1 : decode cX10_sideFor 1 = .ok (.getfield 40, 3) := by decide +kernel
theorem dX10_sideFor_4 : decode cX10_sideFor 4 = .ok (.iload_n 1, 1) := by decide +kernel
theorem dX10_sideFor_5 : decode cX10_sideFor 5 = .ok (.iaload, 1) := by decide +kernel
theorem dX10_sideFor_6 : decode cX10_sideFor 6 = .ok (.istore_n 3, 1) := by decide +kernel
theorem dX10_sideFor_7 : decode cX10_sideFor 7 = .ok (.iload_n 2, 1) := by decide +kernel
theorem dX10_sideFor_8 : decode cX10_sideFor 8 = .ok (.ifCond .ne 49, 3) := by decide +kernel
theorem dX10_sideFor_11 : decode cX10_sideFor 11 = .ok (.iconst 1, 1) := by decide +kernel
theorem dX10_sideFor_12 : decode cX10_sideFor 12 = .ok (.istore 4, 2) := by decide +kernel
theorem dX10_sideFor_14 : decode cX10_sideFor 14 = .ok (.iload 4, 2) := by decide +kernel
theorem dX10_sideFor_16 : decode cX10_sideFor 16 = .ok (.iconst 5, 1) := by decide +kernel
theorem dX10_sideFor_17 : decode cX10_sideFor 17 = .ok (.if_icmp .ge 38, 3) := by decide +kernel
theorem dX10_sideFor_20 : decode cX10_sideFor 20 = .ok (.aload_n 0, 1) := by decide +kernel
theorem dX10_sideFor_21 : decode cX10_sideFor 21 = .ok (.getfield 43, 3) := by decide +kernel
theorem dX10_sideFor_24 : decode cX10_sideFor 24 = .ok (.iload_n 1, 1) := by decide +kernel
theorem dX10_sideFor_25 : decode cX10_sideFor 25 = .ok (.iaload, 1) := by decide +kernel
theorem dX10_sideFor_26 : decode cX10_sideFor 26 = .ok (.iload 4, 2) := by decide +kernel
theorem dX10_sideFor_28 : decode cX10_sideFor 28 = .ok (.iconst 4, 1) := by decide +kernel
theorem dX10_sideFor_29 : decode cX10_sideFor 29 = .ok (.irem, 1) := by decide +kernel
theorem dX10_sideFor_30 : decode cX10_sideFor 30 = .ok (.invokestatic 180, 3) := by decide +kernel
theorem dX10_sideFor_33 : decode cX10_sideFor 33 = .ok (.istore 5, 2) := by decide +kernel
theorem dX10_sideFor_35 : decode cX10_sideFor 35 = .ok (.aload_n 0, 1) := by decide +kernel
theorem dX10_sideFor_36 : decode cX10_sideFor 36 = .ok (.iload_n 2, 1) := by decide +kernel
theorem dX10_sideFor_37 : decode cX10_sideFor 37 = .ok (.iload_n 3, 1) := by decide +kernel
theorem dX10_sideFor_38 : decode cX10_sideFor 38 = .ok (.iload 5, 2) := by decide +kernel
theorem dX10_sideFor_40 : decode cX10_sideFor 40 = .ok (.invokevirtual 183, 3) := by decide +kernel
theorem dX10_sideFor_43 : decode cX10_sideFor 43 = .ok (.ifCond .eq 6, 3) := by decide +kernel
theorem dX10_sideFor_46 : decode cX10_sideFor 46 = .ok (.iload 5, 2) := by decide +kernel
theorem dX10_sideFor_48 : decode cX10_sideFor 48 = .ok (.ireturn, 1) := by decide +kernel
theorem dX10_sideFor_49 : decode cX10_sideFor 49 = .ok (.iinc 4 1, 3) := by decide +kernel
theorem dX10_sideFor_52 : decode cX10_sideFor 52 = .ok (.goto (-38), 3) := by decide +kernel
theorem dX10_sideFor_55 : decode cX10_sideFor 55 = .ok (.iconst (-1), 1) := by decide +kernel
theorem dX10_sideFor_56 : decode cX10_sideFor 56 = .ok (.ireturn, 1) := by decide +kernel
theorem dX10_sideFor_57 : decode cX10_sideFor 57 = .ok (.iconst (-1), 1) := by decide +kernel
theorem dX10_sideFor_58 : decode cX10_sideFor 58 = .ok (.istore 4, 2) := by decide +kernel
theorem dX10_sideFor_60 : decode cX10_sideFor 60 = .ok (.iconst 0, 1) := by decide +kernel
theorem dX10_sideFor_61 : decode cX10_sideFor 61 = .ok (.istore 5, 2) := by decide +kernel
theorem dX10_sideFor_63 : decode cX10_sideFor 63 = .ok (.iconst 0, 1) := by decide +kernel
theorem dX10_sideFor_64 : decode cX10_sideFor 64 = .ok (.istore 6, 2) := by decide +kernel
theorem dX10_sideFor_66 : decode cX10_sideFor 66 = .ok (.iload 6, 2) := by decide +kernel
theorem dX10_sideFor_68 : decode cX10_sideFor 68 = .ok (.iconst 4, 1) := by decide +kernel
theorem dX10_sideFor_69 : decode cX10_sideFor 69 = .ok (.if_icmp .ge 107, 3) := by decide +kernel
theorem dX10_sideFor_72 : decode cX10_sideFor 72 = .ok (.aload_n 0, 1) := by decide +kernel
theorem dX10_sideFor_73 : decode cX10_sideFor 73 = .ok (.getfield 43, 3) := by decide +kernel
theorem dX10_sideFor_76 : decode cX10_sideFor 76 = .ok (.iload_n 1, 1) := by decide +kernel
theorem dX10_sideFor_77 : decode cX10_sideFor 77 = .ok (.iaload, 1) := by decide +kernel
theorem dX10_sideFor_78 : decode cX10_sideFor 78 = .ok (.iload 6, 2) := by decide +kernel
theorem dX10_sideFor_80 : decode cX10_sideFor 80 = .ok (.invokestatic 180, 3) := by decide +kernel
theorem dX10_sideFor_83 : decode cX10_sideFor 83 = .ok (.istore 7, 2) := by decide +kernel
theorem dX10_sideFor_85 : decode cX10_sideFor 85 = .ok (.aload_n 0, 1) := by decide +kernel
theorem dX10_sideFor_86 : decode cX10_sideFor 86 = .ok (.iload_n 2, 1) := by decide +kernel
theorem dX10_sideFor_87 : decode cX10_sideFor 87 = .ok (.iload_n 3, 1) := by decide +kernel
theorem dX10_sideFor_88 : decode cX10_sideFor 88 = .ok (.iload 7, 2) := by decide +kernel
theorem dX10_sideFor_90 : decode cX10_sideFor 90 = .ok (.invokevirtual 183, 3) := by decide +kernel
theorem dX10_sideFor_93 : decode cX10_sideFor 93 = .ok (.ifCond .eq 77, 3) := by decide +kernel
theorem dX10_sideFor_96 : decode cX10_sideFor 96 = .ok (.iload_n 2, 1) := by decide +kernel
theorem dX10_sideFor_97 : decode cX10_sideFor 97 = .ok (.iconst 1, 1) := by decide +kernel
theorem dX10_sideFor_98 : decode cX10_sideFor 98 = .ok (.if_icmp .ne 7, 3) := by decide +kernel
theorem dX10_sideFor_101 : decode cX10_sideFor 101 = .ok (.iconst 0, 1) := by decide +kernel
theorem dX10_sideFor_102 : decode cX10_sideFor 102 = .ok (.goto 19, 3) := by decide +kernel
theorem dX10_sideFor_105 : decode cX10_sideFor 105 = .ok (.aload_n 0, 1) := by decide +kernel
theorem dX10_sideFor_106 : decode cX10_sideFor 106 = .ok (.getfield 46, 3) := by decide +kernel
theorem dX10_sideFor_109 : decode cX10_sideFor 109 = .ok (.bipush 36, 2) := by decide +kernel
theorem dX10_sideFor_111 : decode cX10_sideFor 111 = .ok (.iload_n 1, 1) := by decide +kernel
theorem dX10_sideFor_112 : decode cX10_sideFor 112 = .ok (.imul, 1) := by decide +kernel
theorem dX10_sideFor_113 : decode cX10_sideFor 113 = .ok (.iload_n 3, 1) := by decide +kernel
theorem dX10_sideFor_114 : decode cX10_sideFor 114 = .ok (.iload 7, 2) := by decide +kernel
theorem dX10_sideFor_116 : decode cX10_sideFor 116 = .ok (.invokestatic 82, 3) := by decide +kernel
theorem dX10_sideFor_119 : decode cX10_sideFor 119 = .ok (.iadd, 1) := by decide +kernel
theorem dX10_sideFor_120 : decode cX10_sideFor 120 = .ok (.iaload, 1) := by decide +kernel
theorem dX10_sideFor_121 : decode cX10_sideFor 121 = .ok (.istore 8, 2) := by decide +kernel
theorem dX10_sideFor_123 : decode cX10_sideFor 123 = .ok (.iload 4, 2) := by decide +kernel
theorem dX10_sideFor_125 : decode cX10_sideFor 125 = .ok (.ifCond .lt 10, 3) := by decide +kernel
theorem dX10_sideFor_128 : decode cX10_sideFor 128 = .ok (.iload 8, 2) := by decide +kernel
theorem dX10_sideFor_130 : decode cX10_sideFor 130 = .ok (.iload 5, 2) := by decide +kernel
theorem dX10_sideFor_132 : decode cX10_sideFor 132 = .ok (.if_icmp .ge 7, 3) := by decide +kernel
theorem dX10_sideFor_135 : decode cX10_sideFor 135 = .ok (.iconst 1, 1) := by decide +kernel
theorem dX10_sideFor_136 : decode cX10_sideFor 136 = .ok (.goto 4, 3) := by decide +kernel
theorem dX10_sideFor_139 : decode cX10_sideFor 139 = .ok (.iconst 0, 1) := by decide +kernel
theorem dX10_sideFor_140 : decode cX10_sideFor 140 = .ok (.istore 9, 2) := by decide +kernel
theorem dX10_sideFor_142 : decode cX10_sideFor 142 = .ok (.iload 9, 2) := by decide +kernel
theorem dX10_sideFor_144 : decode cX10_sideFor 144 = .ok (.ifCond .eq 8, 3) := by decide +kernel
theorem dX10_sideFor_147 : decode cX10_sideFor 147 = .ok (.iload 8, 2) := by decide +kernel
theorem dX10_sideFor_149 : decode cX10_sideFor 149 = .ok (.goto 5, 3) := by decide +kernel
theorem dX10_sideFor_152 : decode cX10_sideFor 152 = .ok (.iload 5, 2) := by decide +kernel
theorem dX10_sideFor_154 : decode cX10_sideFor 154 = .ok (.istore 5, 2) := by decide +kernel
theorem dX10_sideFor_156 : decode cX10_sideFor 156 = .ok (.iload 9, 2) := by decide +kernel
theorem dX10_sideFor_158 : decode cX10_sideFor 158 = .ok (.ifCond .eq 8, 3) := by decide +kernel
theorem dX10_sideFor_161 : decode cX10_sideFor 161 = .ok (.iload 7, 2) := by decide +kernel
theorem dX10_sideFor_163 : decode cX10_sideFor 163 = .ok (.goto 5, 3) := by decide +kernel
theorem dX10_sideFor_166 : decode cX10_sideFor 166 = .ok (.iload 4, 2) := by decide +kernel
theorem dX10_sideFor_168 : decode cX10_sideFor 168 = .ok (.istore 4, 2) := by decide +kernel
theorem dX10_sideFor_170 : decode cX10_sideFor 170 = .ok (.iinc 6 1, 3) := by decide +kernel
theorem dX10_sideFor_173 : decode cX10_sideFor 173 = .ok (.goto (-107), 3) := by decide +kernel
theorem dX10_sideFor_176 : decode cX10_sideFor 176 = .ok (.iload 4, 2) := by decide +kernel
theorem dX10_sideFor_178 : decode cX10_sideFor 178 = .ok (.ireturn, 1) := by decide +kernel
theorem dX10_step_0 : decode cX10_step 0 = .ok (.aload_n 0, 1) := by decide +kernel
theorem dX10_step_1 : decode cX10_step 1 = .ok (.iload_n 1, 1) := by decide +kernel
theorem dX10_step_2 : decode cX10_step 2 = .ok (.iload_n 2, 1) := by decide +kernel
theorem dX10_step_3 : decode cX10_step 3 = .ok (.invokevirtual 187, 3) := by decide +kernel
theorem dX10_step_6 : decode cX10_step 6 = .ok (.istore_n 3, 1) := by decide +kernel
theorem dX10_step_7 : decode cX10_step 7 = .ok (.iload_n 3, 1) := by decide +kernel
theorem dX10_step_8 : decode cX10_step 8 = .ok (.ifCond .lt 46, 3) := by decide +kernel
theorem dX10_step_11 : decode cX10_step 11 = .ok (.aload_n 0, 1) := by decide +kernel
theorem dX10_step_12 : decode cX10_step 12 = .ok (.getfield 46, 3) := by decide +kernel
theorem dX10_step_15 : decode cX10_step 15 = .ok (.bipush 36, 2) := by decide +kernel
theorem dX10_step_17 : decode cX10_step 17 = .ok (.iload_n 1, 1) := by decide +kernel
theorem dX10_step_18 : decode cX10_step 18 = .ok (.imul, 1) := by decide +kernel
theorem dX10_step_19 : decode cX10_step 19 = .ok (.aload_n 0, 1) := by decide +kernel
theorem dX10_step_20 : decode cX10_step 20 = .ok (.getfield 40, 3) := by decide +kernel
theorem dX10_step_23 : decode cX10_step 23 = .ok (.iload_n 1, 1) := by decide +kernel
theorem dX10_step_24 : decode cX10_step 24 = .ok (.iaload, 1) := by decide +kernel
theorem dX10_step_25 : decode cX10_step 25 = .ok (.iadd, 1) := by decide +kernel
theorem dX10_step_26 : decode cX10_step 26 = .ok (.dup2, 1) := by decide +kernel
theorem dX10_step_27 : decode cX10_step 27 = .ok (.iaload, 1) := by decide +kernel
theorem dX10_step_28 : decode cX10_step 28 = .ok (.iconst 1, 1) := by decide +kernel
theorem dX10_step_29 : decode cX10_step 29 = .ok (.iadd, 1) := by decide +kernel
theorem dX10_step_30 : decode cX10_step 30 = .ok (.iastore, 1) := by decide +kernel
theorem dX10_step_31 : decode cX10_step 31 = .ok (.aload_n 0, 1) := by decide +kernel
theorem dX10_step_32 : decode cX10_step 32 = .ok (.getfield 43, 3) := by decide +kernel
theorem dX10_step_35 : decode cX10_step 35 = .ok (.iload_n 1, 1) := by decide +kernel
theorem dX10_step_36 : decode cX10_step 36 = .ok (.iload_n 3, 1) := by decide +kernel
theorem dX10_step_37 : decode cX10_step 37 = .ok (.iastore, 1) := by decide +kernel
theorem dX10_step_38 : decode cX10_step 38 = .ok (.aload_n 0, 1) := by decide +kernel
theorem dX10_step_39 : decode cX10_step 39 = .ok (.getfield 40, 3) := by decide +kernel
theorem dX10_step_42 : decode cX10_step 42 = .ok (.iload_n 1, 1) := by decide +kernel
theorem dX10_step_43 : decode cX10_step 43 = .ok (.aload_n 0, 1) := by decide +kernel
theorem dX10_step_44 : decode cX10_step 44 = .ok (.getfield 40, 3) := by decide +kernel
theorem dX10_step_47 : decode cX10_step 47 = .ok (.iload_n 1, 1) := by decide +kernel
theorem dX10_step_48 : decode cX10_step 48 = .ok (.iaload, 1) := by decide +kernel
theorem dX10_step_49 : decode cX10_step 49 = .ok (.iload_n 3, 1) := by decide +kernel
theorem dX10_step_50 : decode cX10_step 50 = .ok (.invokestatic 82, 3) := by decide +kernel
theorem dX10_step_53 : decode cX10_step 53 = .ok (.iastore, 1) := by decide +kernel
theorem dX10_step_54 : decode cX10_step 54 = .ok (.return_, 1) := by decide +kernel
theorem dX10_isThere_0 : decode cX10_isThere 0 = .ok (.aload_n 0, 1) := by decide +kernel
theorem dX10_isThere_1 : decode cX10_isThere 1 = .ok (.getfield 40, 3) := by decide +kernel
theorem dX10_isThere_4 : decode cX10_isThere 4 = .ok (.iload_n 1, 1) := by decide +kernel
theorem dX10_isThere_5 : decode cX10_isThere 5 = .ok (.iaload, 1) := by decide +kernel
theorem dX10_isThere_6 : decode cX10_isThere 6 = .ok (.aload_n 0, 1) := by decide +kernel
theorem dX10_isThere_7 : decode cX10_isThere 7 = .ok (.getfield 22, 3) := by decide +kernel
theorem dX10_isThere_10 : decode cX10_isThere 10 = .ok (.iconst 1, 1) := by decide +kernel
theorem dX10_isThere_11 : decode cX10_isThere 11 = .ok (.iaload, 1) := by decide +kernel
theorem dX10_isThere_12 : decode cX10_isThere 12 = .ok (.if_icmp .ne 7, 3) := by decide +kernel
theorem dX10_isThere_15 : decode cX10_isThere 15 = .ok (.iconst 1, 1) := by decide +kernel
theorem dX10_isThere_16 : decode cX10_isThere 16 = .ok (.goto 4, 3) := by decide +kernel
theorem dX10_isThere_19 : decode cX10_isThere 19 = .ok (.iconst 0, 1) := by decide +kernel
theorem dX10_isThere_20 : decode cX10_isThere 20 = .ok (.ireturn, 1) := by decide +kernel
theorem dX10_walkOf_0 : decode cX10_walkOf 0 = .ok (.aload_n 0, 1) := by decide +kernel
theorem dX10_walkOf_1 : decode cX10_walkOf 1 = .ok (.iconst 0, 1) := by decide +kernel
theorem dX10_walkOf_2 : decode cX10_walkOf 2 = .ok (.iload_n 2, 1) := by decide +kernel
theorem dX10_walkOf_3 : decode cX10_walkOf 3 = .ok (.iload_n 3, 1) := by decide +kernel
theorem dX10_walkOf_4 : decode cX10_walkOf 4 = .ok (.invokevirtual 190, 3) := by decide +kernel
theorem dX10_walkOf_7 : decode cX10_walkOf 7 = .ok (.iconst 0, 1) := by decide +kernel
theorem dX10_walkOf_8 : decode cX10_walkOf 8 = .ok (.istore 5, 2) := by decide +kernel
theorem dX10_walkOf_10 : decode cX10_walkOf 10 = .ok (.iload 5, 2) := by decide +kernel
theorem dX10_walkOf_12 : decode cX10_walkOf 12 = .ok (.iload 4, 2) := by decide +kernel
theorem dX10_walkOf_14 : decode cX10_walkOf 14 = .ok (.if_icmp .ge 36, 3) := by decide +kernel
theorem dX10_walkOf_17 : decode cX10_walkOf 17 = .ok (.aload_n 0, 1) := by decide +kernel
theorem dX10_walkOf_18 : decode cX10_walkOf 18 = .ok (.iconst 0, 1) := by decide +kernel
theorem dX10_walkOf_19 : decode cX10_walkOf 19 = .ok (.invokevirtual 194, 3) := by decide +kernel
theorem dX10_walkOf_22 : decode cX10_walkOf 22 = .ok (.ifCond .ne 28, 3) := by decide +kernel
theorem dX10_walkOf_25 : decode cX10_walkOf 25 = .ok (.aload_n 0, 1) := by decide +kernel
theorem dX10_walkOf_26 : decode cX10_walkOf 26 = .ok (.iconst 0, 1) := by decide +kernel
theorem dX10_walkOf_27 : decode cX10_walkOf 27 = .ok (.iload_n 1, 1) := by decide +kernel
theorem dX10_walkOf_28 : decode cX10_walkOf 28 = .ok (.invokevirtual 197, 3) := by decide +kernel
theorem dX10_walkOf_31 : decode cX10_walkOf 31 = .ok (.aload_n 0, 1) := by decide +kernel
theorem dX10_walkOf_32 : decode cX10_walkOf 32 = .ok (.iconst 0, 1) := by decide +kernel
theorem dX10_walkOf_33 : decode cX10_walkOf 33 = .ok (.invokevirtual 194, 3) := by decide +kernel
theorem dX10_walkOf_36 : decode cX10_walkOf 36 = .ok (.ifCond .eq 8, 3) := by decide +kernel
theorem dX10_walkOf_39 : decode cX10_walkOf 39 = .ok (.iload 5, 2) := by decide +kernel
theorem dX10_walkOf_41 : decode cX10_walkOf 41 = .ok (.iconst 1, 1) := by decide +kernel
theorem dX10_walkOf_42 : decode cX10_walkOf 42 = .ok (.iadd, 1) := by decide +kernel
theorem dX10_walkOf_43 : decode cX10_walkOf 43 = .ok (.ireturn, 1) := by decide +kernel
theorem dX10_walkOf_44 : decode cX10_walkOf 44 = .ok (.iinc 5 1, 3) := by decide +kernel
theorem dX10_walkOf_47 : decode cX10_walkOf 47 = .ok (.goto (-37), 3) := by decide +kernel
theorem dX10_walkOf_50 : decode cX10_walkOf 50 = .ok (.aload_n 0, 1) := by decide +kernel
theorem dX10_walkOf_51 : decode cX10_walkOf 51 = .ok (.iconst 0, 1) := by decide +kernel
theorem dX10_walkOf_52 : decode cX10_walkOf 52 = .ok (.invokevirtual 194, 3) := by decide +kernel
theorem dX10_walkOf_55 : decode cX10_walkOf 55 = .ok (.ifCond .eq 7, 3) := by decide +kernel
theorem dX10_walkOf_58 : decode cX10_walkOf 58 = .ok (.iconst 0, 1) := by decide +kernel
theorem dX10_walkOf_59 : decode cX10_walkOf 59 = .ok (.goto 5, 3) := by decide +kernel
theorem dX10_walkOf_62 : decode cX10_walkOf 62 = .ok (.bipush (-4), 2) := by decide +kernel
theorem dX10_walkOf_64 : decode cX10_walkOf 64 = .ok (.ireturn, 1) := by decide +kernel
theorem dX10_walk_0 : decode cX10_walk 0 = .ok (.iload_n 1, 1) := by decide +kernel
theorem dX10_walk_1 : decode cX10_walk 1 = .ok (.i2l, 1) := by decide +kernel
theorem dX10_walk_2 : decode cX10_walk 2 = .ok (.lconst 0, 1) := by decide +kernel
theorem dX10_walk_3 : decode cX10_walk 3 = .ok (.ldc2_w 114, 3) := by decide +kernel
theorem dX10_walk_6 : decode cX10_walk 6 = .ok (.invokestatic 78, 3) := by decide +kernel
theorem dX10_walk_9 : decode cX10_walk 9 = .ok (.ifCond .eq 24, 3) := by decide +kernel
theorem dX10_walk_12 : decode cX10_walk 12 = .ok (.iload_n 2, 1) := by decide +kernel
theorem dX10_walk_13 : decode cX10_walk 13 = .ok (.iload_n 3, 1) := by decide +kernel
theorem dX10_walk_14 : decode cX10_walk 14 = .ok (.invokestatic 116, 3) := by decide +kernel
theorem dX10_walk_17 : decode cX10_walk 17 = .ok (.ifCond .eq 16, 3) := by decide +kernel
theorem dX10_walk_20 : decode cX10_walk 20 = .ok (.aload_n 0, 1) := by decide +kernel
theorem dX10_walk_21 : decode cX10_walk 21 = .ok (.iload_n 1, 1) := by decide +kernel
theorem dX10_walk_22 : decode cX10_walk 22 = .ok (.iload_n 2, 1) := by decide +kernel
theorem dX10_walk_23 : decode cX10_walk 23 = .ok (.iload_n 3, 1) := by decide +kernel
theorem dX10_walk_24 : decode cX10_walk 24 = .ok (.sipush 999, 3) := by decide +kernel
theorem dX10_walk_27 : decode cX10_walk 27 = .ok (.invokevirtual 201, 3) := by decide +kernel
theorem dX10_walk_30 : decode cX10_walk 30 = .ok (.goto 4, 3) := by decide +kernel
theorem dX10_walk_33 : decode cX10_walk 33 = .ok (.iconst (-1), 1) := by decide +kernel
theorem dX10_walk_34 : decode cX10_walk 34 = .ok (.ireturn, 1) := by decide +kernel
theorem dX10_at_0 : decode cX10_at 0 = .ok (.iload_n 1, 1) := by decide +kernel
theorem dX10_at_1 : decode cX10_at 1 = .ok (.i2l, 1) := by decide +kernel
theorem dX10_at_2 : decode cX10_at 2 = .ok (.lconst 0, 1) := by decide +kernel
theorem dX10_at_3 : decode cX10_at 3 = .ok (.ldc2_w 114, 3) := by decide +kernel
theorem dX10_at_6 : decode cX10_at 6 = .ok (.invokestatic 78, 3) := by decide +kernel
theorem dX10_at_9 : decode cX10_at 9 = .ok (.ifCond .eq 24, 3) := by decide +kernel
theorem dX10_at_12 : decode cX10_at 12 = .ok (.iload_n 2, 1) := by decide +kernel
theorem dX10_at_13 : decode cX10_at 13 = .ok (.iload_n 3, 1) := by decide +kernel
theorem dX10_at_14 : decode cX10_at 14 = .ok (.invokestatic 116, 3) := by decide +kernel
theorem dX10_at_17 : decode cX10_at 17 = .ok (.ifCond .eq 16, 3) := by decide +kernel
theorem dX10_at_20 : decode cX10_at 20 = .ok (.iload 4, 2) := by decide +kernel
theorem dX10_at_22 : decode cX10_at 22 = .ok (.i2l, 1) := by decide +kernel
theorem dX10_at_23 : decode cX10_at 23 = .ok (.lconst 0, 1) := by decide +kernel
theorem dX10_at_24 : decode cX10_at 24 = .ok (.ldc2_w 205, 3) := by decide +kernel
theorem dX10_at_27 : decode cX10_at 27 = .ok (.invokestatic 78, 3) := by decide +kernel
theorem dX10_at_30 : decode cX10_at 30 = .ok (.ifCond .ne 5, 3) := by decide +kernel
theorem dX10_at_33 : decode cX10_at 33 = .ok (.iconst (-1), 1) := by decide +kernel
theorem dX10_at_34 : decode cX10_at 34 = .ok (.ireturn, 1) := by decide +kernel
theorem dX10_at_35 : decode cX10_at 35 = .ok (.aload_n 0, 1) := by decide +kernel
theorem dX10_at_36 : decode cX10_at 36 = .ok (.iload_n 1, 1) := by decide +kernel
theorem dX10_at_37 : decode cX10_at 37 = .ok (.iload_n 2, 1) := by decide +kernel
theorem dX10_at_38 : decode cX10_at 38 = .ok (.iload_n 3, 1) := by decide +kernel
theorem dX10_at_39 : decode cX10_at 39 = .ok (.iload 4, 2) := by decide +kernel
theorem dX10_at_41 : decode cX10_at 41 = .ok (.invokevirtual 201, 3) := by decide +kernel
theorem dX10_at_44 : decode cX10_at 44 = .ok (.pop, 1) := by decide +kernel
theorem dX10_at_45 : decode cX10_at 45 = .ok (.aload_n 0, 1) := by decide +kernel
theorem dX10_at_46 : decode cX10_at 46 = .ok (.getfield 40, 3) := by decide +kernel
theorem dX10_at_49 : decode cX10_at 49 = .ok (.iconst 0, 1) := by decide +kernel
theorem dX10_at_50 : decode cX10_at 50 = .ok (.iaload, 1) := by decide +kernel
theorem dX10_at_51 : decode cX10_at 51 = .ok (.ireturn, 1) := by decide +kernel
theorem dX10_worst_0 : decode cX10_worst 0 = .ok (.iload_n 1, 1) := by decide +kernel
theorem dX10_worst_1 : decode cX10_worst 1 = .ok (.i2l, 1) := by decide +kernel
theorem dX10_worst_2 : decode cX10_worst 2 = .ok (.lconst 0, 1) := by decide +kernel
theorem dX10_worst_3 : decode cX10_worst 3 = .ok (.ldc2_w 114, 3) := by decide +kernel
theorem dX10_worst_6 : decode cX10_worst 6 = .ok (.invokestatic 78, 3) := by decide +kernel
theorem dX10_worst_9 : decode cX10_worst 9 = .ok (.ifCond .eq 27, 3) := by decide +kernel
theorem dX10_worst_12 : decode cX10_worst 12 = .ok (.iload_n 2, 1) := by decide +kernel
theorem dX10_worst_13 : decode cX10_worst 13 = .ok (.i2l, 1) := by decide +kernel
theorem dX10_worst_14 : decode cX10_worst 14 = .ok (.lconst 0, 1) := by decide +kernel
theorem dX10_worst_15 : decode cX10_worst 15 = .ok (.ldc2_w 114, 3) := by decide +kernel
theorem dX10_worst_18 : decode cX10_worst 18 = .ok (.invokestatic 78, 3) := by decide +kernel
theorem dX10_worst_21 : decode cX10_worst 21 = .ok (.ifCond .eq 15, 3) := by decide +kernel
theorem dX10_worst_24 : decode cX10_worst 24 = .ok (.iload_n 3, 1) := by decide +kernel
theorem dX10_worst_25 : decode cX10_worst 25 = .ok (.i2l, 1) := by decide +kernel
theorem dX10_worst_26 : decode cX10_worst 26 = .ok (.lconst 0, 1) := by decide +kernel
theorem dX10_worst_27 : decode cX10_worst 27 = .ok (.ldc2_w 123, 3) := by decide +kernel
theorem dX10_worst_30 : decode cX10_worst 30 = .ok (.invokestatic 78, 3) := by decide +kernel
theorem dX10_worst_33 : decode cX10_worst 33 = .ok (.ifCond .ne 5, 3) := by decide +kernel
theorem dX10_worst_36 : decode cX10_worst 36 = .ok (.iconst (-1), 1) := by decide +kernel
theorem dX10_worst_37 : decode cX10_worst 37 = .ok (.ireturn, 1) := by decide +kernel
theorem dX10_worst_38 : decode cX10_worst 38 = .ok (.iconst (-1), 1) := by decide +kernel
theorem dX10_worst_39 : decode cX10_worst 39 = .ok (.istore 4, 2) := by decide +kernel
theorem dX10_worst_41 : decode cX10_worst 41 = .ok (.iconst 0, 1) := by decide +kernel
theorem dX10_worst_42 : decode cX10_worst 42 = .ok (.istore 5, 2) := by decide +kernel
theorem dX10_worst_44 : decode cX10_worst 44 = .ok (.iconst 0, 1) := by decide +kernel
theorem dX10_worst_45 : decode cX10_worst 45 = .ok (.istore 6, 2) := by decide +kernel
theorem dX10_worst_47 : decode cX10_worst 47 = .ok (.iconst 0, 1) := by decide +kernel
theorem dX10_worst_48 : decode cX10_worst 48 = .ok (.istore 7, 2) := by decide +kernel
theorem dX10_worst_50 : decode cX10_worst 50 = .ok (.iload 7, 2) := by decide +kernel
theorem dX10_worst_52 : decode cX10_worst 52 = .ok (.bipush 36, 2) := by decide +kernel
theorem dX10_worst_54 : decode cX10_worst 54 = .ok (.if_icmp .ge 69, 3) := by decide +kernel
theorem dX10_worst_57 : decode cX10_worst 57 = .ok (.aload_n 0, 1) := by decide +kernel
theorem dX10_worst_58 : decode cX10_worst 58 = .ok (.iload_n 1, 1) := by decide +kernel
theorem dX10_worst_59 : decode cX10_worst 59 = .ok (.iload 7, 2) := by decide +kernel
theorem dX10_worst_61 : decode cX10_worst 61 = .ok (.iload_n 2, 1) := by decide +kernel
theorem dX10_worst_62 : decode cX10_worst 62 = .ok (.sipush 999, 3) := by decide +kernel
theorem dX10_worst_65 : decode cX10_worst 65 = .ok (.invokevirtual 201, 3) := by decide +kernel
theorem dX10_worst_68 : decode cX10_worst 68 = .ok (.istore 8, 2) := by decide +kernel
theorem dX10_worst_70 : decode cX10_worst 70 = .ok (.iload 6, 2) := by decide +kernel
theorem dX10_worst_72 : decode cX10_worst 72 = .ok (.iload 8, 2) := by decide +kernel
theorem dX10_worst_74 : decode cX10_worst 74 = .ok (.ifCond .ge 7, 3) := by decide +kernel
theorem dX10_worst_77 : decode cX10_worst 77 = .ok (.iconst 1, 1) := by decide +kernel
theorem dX10_worst_78 : decode cX10_worst 78 = .ok (.goto 4, 3) := by decide +kernel
theorem dX10_worst_81 : decode cX10_worst 81 = .ok (.iconst 0, 1) := by decide +kernel
theorem dX10_worst_82 : decode cX10_worst 82 = .ok (.iadd, 1) := by decide +kernel
theorem dX10_worst_83 : decode cX10_worst 83 = .ok (.istore 6, 2) := by decide +kernel
theorem dX10_worst_85 : decode cX10_worst 85 = .ok (.iload 8, 2) := by decide +kernel
theorem dX10_worst_87 : decode cX10_worst 87 = .ok (.iload 4, 2) := by decide +kernel
theorem dX10_worst_89 : decode cX10_worst 89 = .ok (.if_icmp .le 8, 3) := by decide +kernel
theorem dX10_worst_92 : decode cX10_worst 92 = .ok (.iload 7, 2) := by decide +kernel
theorem dX10_worst_94 : decode cX10_worst 94 = .ok (.goto 5, 3) := by decide +kernel
theorem dX10_worst_97 : decode cX10_worst 97 = .ok (.iload 5, 2) := by decide +kernel
theorem dX10_worst_99 : decode cX10_worst 99 = .ok (.istore 5, 2) := by decide +kernel
theorem dX10_worst_101 : decode cX10_worst 101 = .ok (.iload 8, 2) := by decide +kernel
theorem dX10_worst_103 : decode cX10_worst 103 = .ok (.iload 4, 2) := by decide +kernel
theorem dX10_worst_105 : decode cX10_worst 105 = .ok (.if_icmp .le 8, 3) := by decide +kernel
theorem dX10_worst_108 : decode cX10_worst 108 = .ok (.iload 8, 2) := by decide +kernel
theorem dX10_worst_110 : decode cX10_worst 110 = .ok (.goto 5, 3) := by decide +kernel
theorem dX10_worst_113 : decode cX10_worst 113 = .ok (.iload 4, 2) := by decide +kernel
theorem dX10_worst_115 : decode cX10_worst 115 = .ok (.istore 4, 2) := by decide +kernel
theorem dX10_worst_117 : decode cX10_worst 117 = .ok (.iinc 7 1, 3) := by decide +kernel
theorem dX10_worst_120 : decode cX10_worst 120 = .ok (.goto (-70), 3) := by decide +kernel
theorem dX10_worst_123 : decode cX10_worst 123 = .ok (.iload_n 3, 1) := by decide +kernel
theorem dX10_worst_124 : decode cX10_worst 124 = .ok (.ifCond .ne 8, 3) := by decide +kernel
theorem dX10_worst_127 : decode cX10_worst 127 = .ok (.iload 4, 2) := by decide +kernel
theorem dX10_worst_129 : decode cX10_worst 129 = .ok (.goto 15, 3) := by decide +kernel
theorem dX10_worst_132 : decode cX10_worst 132 = .ok (.iload_n 3, 1) := by decide +kernel
theorem dX10_worst_133 : decode cX10_worst 133 = .ok (.iconst 1, 1) := by decide +kernel
theorem dX10_worst_134 : decode cX10_worst 134 = .ok (.if_icmp .ne 8, 3) := by decide +kernel
theorem dX10_worst_137 : decode cX10_worst 137 = .ok (.iload 5, 2) := by decide +kernel
theorem dX10_worst_139 : decode cX10_worst 139 = .ok (.goto 5, 3) := by decide +kernel
theorem dX10_worst_142 : decode cX10_worst 142 = .ok (.iload 6, 2) := by decide +kernel
theorem dX10_worst_144 : decode cX10_worst 144 = .ok (.ireturn, 1) := by decide +kernel
theorem dX10_reach_0 : decode cX10_reach 0 = .ok (.aload_n 0, 1) := by decide +kernel
theorem dX10_reach_1 : decode cX10_reach 1 = .ok (.getfield 49, 3) := by decide +kernel
theorem dX10_reach_4 : decode cX10_reach 4 = .ok (.iload_n 1, 1) := by decide +kernel
theorem dX10_reach_5 : decode cX10_reach 5 = .ok (.iaload, 1) := by decide +kernel
theorem dX10_reach_6 : decode cX10_reach 6 = .ok (.ifCond .ge 30, 3) := by decide +kernel
theorem dX10_reach_9 : decode cX10_reach 9 = .ok (.aload_n 0, 1) := by decide +kernel
theorem dX10_reach_10 : decode cX10_reach 10 = .ok (.getfield 49, 3) := by decide +kernel
theorem dX10_reach_13 : decode cX10_reach 13 = .ok (.iload_n 1, 1) := by decide +kernel
theorem dX10_reach_14 : decode cX10_reach 14 = .ok (.iload_n 2, 1) := by decide +kernel
theorem dX10_reach_15 : decode cX10_reach 15 = .ok (.iastore, 1) := by decide +kernel
theorem dX10_reach_16 : decode cX10_reach 16 = .ok (.aload_n 0, 1) := by decide +kernel
theorem dX10_reach_17 : decode cX10_reach 17 = .ok (.getfield 52, 3) := by decide +kernel
theorem dX10_reach_20 : decode cX10_reach 20 = .ok (.aload_n 0, 1) := by decide +kernel
theorem dX10_reach_21 : decode cX10_reach 21 = .ok (.getfield 207, 3) := by decide +kernel
theorem dX10_reach_24 : decode cX10_reach 24 = .ok (.iload_n 1, 1) := by decide +kernel
theorem dX10_reach_25 : decode cX10_reach 25 = .ok (.iastore, 1) := by decide +kernel
theorem dX10_reach_26 : decode cX10_reach 26 = .ok (.aload_n 0, 1) := by decide +kernel
theorem dX10_reach_27 : decode cX10_reach 27 = .ok (.dup, 1) := by decide +kernel
theorem dX10_reach_28 : decode cX10_reach 28 = .ok (.getfield 207, 3) := by decide +kernel
theorem dX10_reach_31 : decode cX10_reach 31 = .ok (.iconst 1, 1) := by decide +kernel
theorem dX10_reach_32 : decode cX10_reach 32 = .ok (.iadd, 1) := by decide +kernel
theorem dX10_reach_33 : decode cX10_reach 33 = .ok (.putfield 207, 3) := by decide +kernel
theorem dX10_reach_36 : decode cX10_reach 36 = .ok (.return_, 1) := by decide +kernel
theorem dX10_findFar_0 : decode cX10_findFar 0 = .ok (.iconst 0, 1) := by decide +kernel
theorem dX10_findFar_1 : decode cX10_findFar 1 = .ok (.istore_n 3, 1) := by decide +kernel
theorem dX10_findFar_2 : decode cX10_findFar 2 = .ok (.iload_n 3, 1) := by decide +kernel
theorem dX10_findFar_3 : decode cX10_findFar 3 = .ok (.bipush 72, 2) := by decide +kernel
theorem dX10_findFar_5 : decode cX10_findFar 5 = .ok (.if_icmp .ge 16, 3) := by decide +kernel
theorem dX10_findFar_8 : decode cX10_findFar 8 = .ok (.aload_n 0, 1) := by decide +kernel
theorem dX10_findFar_9 : decode cX10_findFar 9 = .ok (.getfield 49, 3) := by decide +kernel
theorem dX10_findFar_12 : decode cX10_findFar 12 = .ok (.iload_n 3, 1) := by decide +kernel
theorem dX10_findFar_13 : decode cX10_findFar 13 = .ok (.iconst (-1), 1) := by decide +kernel
theorem dX10_findFar_14 : decode cX10_findFar 14 = .ok (.iastore, 1) := by decide +kernel
theorem dX10_findFar_15 : decode cX10_findFar 15 = .ok (.iinc 3 1, 3) := by decide +kernel
theorem dX10_findFar_18 : decode cX10_findFar 18 = .ok (.goto (-16), 3) := by decide +kernel
theorem dX10_findFar_21 : decode cX10_findFar 21 = .ok (.aload_n 0, 1) := by decide +kernel
theorem dX10_findFar_22 : decode cX10_findFar 22 = .ok (.iconst 0, 1) := by decide +kernel
theorem dX10_findFar_23 : decode cX10_findFar 23 = .ok (.putfield 207, 3) := by decide +kernel
theorem dX10_findFar_26 : decode cX10_findFar 26 = .ok (.aload_n 0, 1) := by decide +kernel
theorem dX10_findFar_27 : decode cX10_findFar 27 = .ok (.iload_n 1, 1) := by decide +kernel
theorem dX10_findFar_28 : decode cX10_findFar 28 = .ok (.iconst 0, 1) := by decide +kernel
theorem dX10_findFar_29 : decode cX10_findFar 29 = .ok (.invokevirtual 210, 3) := by decide +kernel
theorem dX10_findFar_32 : decode cX10_findFar 32 = .ok (.iconst 0, 1) := by decide +kernel
theorem dX10_findFar_33 : decode cX10_findFar 33 = .ok (.istore_n 3, 1) := by decide +kernel
theorem dX10_findFar_34 : decode cX10_findFar 34 = .ok (.iload_n 3, 1) := by decide +kernel
theorem dX10_findFar_35 : decode cX10_findFar 35 = .ok (.aload_n 0, 1) := by decide +kernel
theorem dX10_findFar_36 : decode cX10_findFar 36 = .ok (.getfield 207, 3) := by decide +kernel
theorem dX10_findFar_39 : decode cX10_findFar 39 = .ok (.if_icmp .ge 128, 3) := by decide +kernel
theorem dX10_findFar_42 : decode cX10_findFar 42 = .ok (.aload_n 0, 1) := by decide +kernel
theorem dX10_findFar_43 : decode cX10_findFar 43 = .ok (.getfield 52, 3) := by decide +kernel
theorem dX10_findFar_46 : decode cX10_findFar 46 = .ok (.iload_n 3, 1) := by decide +kernel
theorem dX10_findFar_47 : decode cX10_findFar 47 = .ok (.iaload, 1) := by decide +kernel
theorem dX10_findFar_48 : decode cX10_findFar 48 = .ok (.bipush 36, 2) := by decide +kernel
theorem dX10_findFar_50 : decode cX10_findFar 50 = .ok (.irem, 1) := by decide +kernel
theorem dX10_findFar_51 : decode cX10_findFar 51 = .ok (.istore 4, 2) := by decide +kernel
theorem dX10_findFar_53 : decode cX10_findFar 53 = .ok (.aload_n 0, 1) := by decide +kernel
theorem dX10_findFar_54 : decode cX10_findFar 54 = .ok (.getfield 52, 3) := by decide +kernel
theorem dX10_findFar_57 : decode cX10_findFar 57 = .ok (.iload_n 3, 1) := by decide +kernel
theorem dX10_findFar_58 : decode cX10_findFar 58 = .ok (.iaload, 1) := by decide +kernel
theorem dX10_findFar_59 : decode cX10_findFar 59 = .ok (.iload 4, 2) := by decide +kernel
theorem dX10_findFar_61 : decode cX10_findFar 61 = .ok (.isub, 1) := by decide +kernel
theorem dX10_findFar_62 : decode cX10_findFar 62 = .ok (.istore 5, 2) := by decide +kernel
theorem dX10_findFar_64 : decode cX10_findFar 64 = .ok (.aload_n 0, 1) := by decide +kernel
theorem dX10_findFar_65 : decode cX10_findFar 65 = .ok (.getfield 49, 3) := by decide +kernel
theorem dX10_findFar_68 : decode cX10_findFar 68 = .ok (.aload_n 0, 1) := by decide +kernel
theorem dX10_findFar_69 : decode cX10_findFar 69 = .ok (.getfield 52, 3) := by decide +kernel
theorem dX10_findFar_72 : decode cX10_findFar 72 = .ok (.iload_n 3, 1) := by decide +kernel
theorem dX10_findFar_73 : decode cX10_findFar 73 = .ok (.iaload, 1) := by decide +kernel
theorem dX10_findFar_74 : decode cX10_findFar 74 = .ok (.iaload, 1) := by decide +kernel
theorem dX10_findFar_75 : decode cX10_findFar 75 = .ok (.iconst 1, 1) := by decide +kernel
theorem dX10_findFar_76 : decode cX10_findFar 76 = .ok (.iadd, 1) := by decide +kernel
theorem dX10_findFar_77 : decode cX10_findFar 77 = .ok (.istore 6, 2) := by decide +kernel
theorem dX10_findFar_79 : decode cX10_findFar 79 = .ok (.iconst 0, 1) := by decide +kernel
theorem dX10_findFar_80 : decode cX10_findFar 80 = .ok (.istore 7, 2) := by decide +kernel
theorem dX10_findFar_82 : decode cX10_findFar 82 = .ok (.iload 7, 2) := by decide +kernel
theorem dX10_findFar_84 : decode cX10_findFar 84 = .ok (.iconst 4, 1) := by decide +kernel
theorem dX10_findFar_85 : decode cX10_findFar 85 = .ok (.if_icmp .ge 76, 3) := by decide +kernel
theorem dX10_findFar_88 : decode cX10_findFar 88 = .ok (.iload 4, 2) := by decide +kernel
theorem dX10_findFar_90 : decode cX10_findFar 90 = .ok (.iload 7, 2) := by decide +kernel
theorem dX10_findFar_92 : decode cX10_findFar 92 = .ok (.invokestatic 82, 3) := by decide +kernel
theorem dX10_findFar_95 : decode cX10_findFar 95 = .ok (.istore 8, 2) := by decide +kernel
theorem dX10_findFar_97 : decode cX10_findFar 97 = .ok (.aload_n 0, 1) := by decide +kernel
theorem dX10_findFar_98 : decode cX10_findFar 98 = .ok (.iconst 0, 1) := by decide +kernel
theorem dX10_findFar_99 : decode cX10_findFar 99 = .ok (.iload 4, 2) := by decide +kernel
theorem dX10_findFar_101 : decode cX10_findFar 101 = .ok (.iload 7, 2) := by decide +kernel
theorem dX10_findFar_103 : decode cX10_findFar 103 = .ok (.invokevirtual 183, 3) := by decide +kernel
theorem dX10_findFar_106 : decode cX10_findFar 106 = .ok (.ifCond .eq 14, 3) := by decide +kernel
theorem dX10_findFar_109 : decode cX10_findFar 109 = .ok (.aload_n 0, 1) := by decide +kernel
theorem dX10_findFar_110 : decode cX10_findFar 110 = .ok (.iload 5, 2) := by decide +kernel
theorem dX10_findFar_112 : decode cX10_findFar 112 = .ok (.iload 8, 2) := by decide +kernel
theorem dX10_findFar_114 : decode cX10_findFar 114 = .ok (.iadd, 1) := by decide +kernel
theorem dX10_findFar_115 : decode cX10_findFar 115 = .ok (.iload 6, 2) := by decide +kernel
theorem dX10_findFar_117 : decode cX10_findFar 117 = .ok (.invokevirtual 210, 3) := by decide +kernel
theorem dX10_findFar_120 : decode cX10_findFar 120 = .ok (.iload_n 2, 1) := by decide +kernel
theorem dX10_findFar_121 : decode cX10_findFar 121 = .ok (.ifCond .eq 34, 3) := by decide +kernel
theorem dX10_findFar_124 : decode cX10_findFar 124 = .ok (.iload 5, 2) := by decide +kernel
theorem dX10_findFar_126 : decode cX10_findFar 126 = .ok (.ifCond .ne 29, 3) := by decide +kernel
theorem dX10_findFar_129 : decode cX10_findFar 129 = .ok (.iload 8, 2) := by decide +kernel
theorem dX10_findFar_131 : decode cX10_findFar 131 = .ok (.ifCond .lt 24, 3) := by decide +kernel
theorem dX10_findFar_134 : decode cX10_findFar 134 = .ok (.aload_n 0, 1) := by decide +kernel
theorem dX10_findFar_135 : decode cX10_findFar 135 = .ok (.getfield 19, 3) := by decide +kernel
theorem dX10_findFar_138 : decode cX10_findFar 138 = .ok (.iload 8, 2) := by decide +kernel
theorem dX10_findFar_140 : decode cX10_findFar 140 = .ok (.iaload, 1) := by decide +kernel
theorem dX10_findFar_141 : decode cX10_findFar 141 = .ok (.ifCond .ne 14, 3) := by decide +kernel
theorem dX10_findFar_144 : decode cX10_findFar 144 = .ok (.aload_n 0, 1) := by decide +kernel
theorem dX10_findFar_145 : decode cX10_findFar 145 = .ok (.bipush 36, 2) := by decide +kernel
theorem dX10_findFar_147 : decode cX10_findFar 147 = .ok (.iload 8, 2) := by decide +kernel
theorem dX10_findFar_149 : decode cX10_findFar 149 = .ok (.iadd, 1) := by decide +kernel
theorem dX10_findFar_150 : decode cX10_findFar 150 = .ok (.iload 6, 2) := by decide +kernel
theorem dX10_findFar_152 : decode cX10_findFar 152 = .ok (.invokevirtual 210, 3) := by decide +kernel
theorem dX10_findFar_155 : decode cX10_findFar 155 = .ok (.iinc 7 1, 3) := by decide +kernel
theorem dX10_findFar_158 : decode cX10_findFar 158 = .ok (.goto (-76), 3) := by decide +kernel
theorem dX10_findFar_161 : decode cX10_findFar 161 = .ok (.iinc 3 1, 3) := by decide +kernel
theorem dX10_findFar_164 : decode cX10_findFar 164 = .ok (.goto (-130), 3) := by decide +kernel
theorem dX10_findFar_167 : decode cX10_findFar 167 = .ok (.return_, 1) := by decide +kernel
theorem dX10_farOf_0 : decode cX10_farOf 0 = .ok (.aload_n 0, 1) := by decide +kernel
theorem dX10_farOf_1 : decode cX10_farOf 1 = .ok (.iload_n 1, 1) := by decide +kernel
theorem dX10_farOf_2 : decode cX10_farOf 2 = .ok (.iconst 0, 1) := by decide +kernel
theorem dX10_farOf_3 : decode cX10_farOf 3 = .ok (.invokevirtual 213, 3) := by decide +kernel
theorem dX10_farOf_6 : decode cX10_farOf 6 = .ok (.aload_n 0, 1) := by decide +kernel
theorem dX10_farOf_7 : decode cX10_farOf 7 = .ok (.getfield 49, 3) := by decide +kernel
theorem dX10_farOf_10 : decode cX10_farOf 10 = .ok (.aload_n 0, 1) := by decide +kernel
theorem dX10_farOf_11 : decode cX10_farOf 11 = .ok (.getfield 22, 3) := by decide +kernel
theorem dX10_farOf_14 : decode cX10_farOf 14 = .ok (.iconst 1, 1) := by decide +kernel
theorem dX10_farOf_15 : decode cX10_farOf 15 = .ok (.iaload, 1) := by decide +kernel
theorem dX10_farOf_16 : decode cX10_farOf 16 = .ok (.iaload, 1) := by decide +kernel
theorem dX10_farOf_17 : decode cX10_farOf 17 = .ok (.ifCond .ge 8, 3) := by decide +kernel
theorem dX10_farOf_20 : decode cX10_farOf 20 = .ok (.bipush (-4), 2) := by decide +kernel
theorem dX10_farOf_22 : decode cX10_farOf 22 = .ok (.goto 14, 3) := by decide +kernel
theorem dX10_farOf_25 : decode cX10_farOf 25 = .ok (.aload_n 0, 1) := by decide +kernel
theorem dX10_farOf_26 : decode cX10_farOf 26 = .ok (.getfield 49, 3) := by decide +kernel
theorem dX10_farOf_29 : decode cX10_farOf 29 = .ok (.aload_n 0, 1) := by decide +kernel
theorem dX10_farOf_30 : decode cX10_farOf 30 = .ok (.getfield 22, 3) := by decide +kernel
theorem dX10_farOf_33 : decode cX10_farOf 33 = .ok (.iconst 1, 1) := by decide +kernel
theorem dX10_farOf_34 : decode cX10_farOf 34 = .ok (.iaload, 1) := by decide +kernel
theorem dX10_farOf_35 : decode cX10_farOf 35 = .ok (.iaload, 1) := by decide +kernel
theorem dX10_farOf_36 : decode cX10_farOf 36 = .ok (.ireturn, 1) := by decide +kernel
theorem dX10_far_0 : decode cX10_far 0 = .ok (.iload_n 1, 1) := by decide +kernel
theorem dX10_far_1 : decode cX10_far 1 = .ok (.invokestatic 108, 3) := by decide +kernel
theorem dX10_far_4 : decode cX10_far 4 = .ok (.ifCond .eq 11, 3) := by decide +kernel
theorem dX10_far_7 : decode cX10_far 7 = .ok (.aload_n 0, 1) := by decide +kernel
theorem dX10_far_8 : decode cX10_far 8 = .ok (.iload_n 1, 1) := by decide +kernel
theorem dX10_far_9 : decode cX10_far 9 = .ok (.invokevirtual 217, 3) := by decide +kernel
theorem dX10_far_12 : decode cX10_far 12 = .ok (.goto 4, 3) := by decide +kernel
theorem dX10_far_15 : decode cX10_far 15 = .ok (.iconst (-1), 1) := by decide +kernel
theorem dX10_far_16 : decode cX10_far 16 = .ok (.ireturn, 1) := by decide +kernel
theorem dX10_roped_0 : decode cX10_roped 0 = .ok (.iload_n 1, 1) := by decide +kernel
theorem dX10_roped_1 : decode cX10_roped 1 = .ok (.invokestatic 108, 3) := by decide +kernel
theorem dX10_roped_4 : decode cX10_roped 4 = .ok (.ifCond .ne 5, 3) := by decide +kernel
theorem dX10_roped_7 : decode cX10_roped 7 = .ok (.iconst (-1), 1) := by decide +kernel
theorem dX10_roped_8 : decode cX10_roped 8 = .ok (.ireturn, 1) := by decide +kernel
theorem dX10_roped_9 : decode cX10_roped 9 = .ok (.aload_n 0, 1) := by decide +kernel
theorem dX10_roped_10 : decode cX10_roped 10 = .ok (.iload_n 1, 1) := by decide +kernel
theorem dX10_roped_11 : decode cX10_roped 11 = .ok (.iconst 1, 1) := by decide +kernel
theorem dX10_roped_12 : decode cX10_roped 12 = .ok (.invokevirtual 213, 3) := by decide +kernel
theorem dX10_roped_15 : decode cX10_roped 15 = .ok (.aload_n 0, 1) := by decide +kernel
theorem dX10_roped_16 : decode cX10_roped 16 = .ok (.getfield 49, 3) := by decide +kernel
theorem dX10_roped_19 : decode cX10_roped 19 = .ok (.aload_n 0, 1) := by decide +kernel
theorem dX10_roped_20 : decode cX10_roped 20 = .ok (.getfield 22, 3) := by decide +kernel
theorem dX10_roped_23 : decode cX10_roped 23 = .ok (.iconst 1, 1) := by decide +kernel
theorem dX10_roped_24 : decode cX10_roped 24 = .ok (.iaload, 1) := by decide +kernel
theorem dX10_roped_25 : decode cX10_roped 25 = .ok (.iaload, 1) := by decide +kernel
theorem dX10_roped_26 : decode cX10_roped 26 = .ok (.istore_n 2, 1) := by decide +kernel
theorem dX10_roped_27 : decode cX10_roped 27 = .ok (.aload_n 0, 1) := by decide +kernel
theorem dX10_roped_28 : decode cX10_roped 28 = .ok (.getfield 49, 3) := by decide +kernel
theorem dX10_roped_31 : decode cX10_roped 31 = .ok (.bipush 36, 2) := by decide +kernel
theorem dX10_roped_33 : decode cX10_roped 33 = .ok (.aload_n 0, 1) := by decide +kernel
theorem dX10_roped_34 : decode cX10_roped 34 = .ok (.getfield 22, 3) := by decide +kernel
theorem dX10_roped_37 : decode cX10_roped 37 = .ok (.iconst 1, 1) := by decide +kernel
theorem dX10_roped_38 : decode cX10_roped 38 = .ok (.iaload, 1) := by decide +kernel
theorem dX10_roped_39 : decode cX10_roped 39 = .ok (.iadd, 1) := by decide +kernel
theorem dX10_roped_40 : decode cX10_roped 40 = .ok (.iaload, 1) := by decide +kernel
theorem dX10_roped_41 : decode cX10_roped 41 = .ok (.istore_n 3, 1) := by decide +kernel
theorem dX10_roped_42 : decode cX10_roped 42 = .ok (.iload_n 2, 1) := by decide +kernel
theorem dX10_roped_43 : decode cX10_roped 43 = .ok (.ifCond .ge 16, 3) := by decide +kernel
theorem dX10_roped_46 : decode cX10_roped 46 = .ok (.iload_n 3, 1) := by decide +kernel
theorem dX10_roped_47 : decode cX10_roped 47 = .ok (.ifCond .ge 8, 3) := by decide +kernel
theorem dX10_roped_50 : decode cX10_roped 50 = .ok (.bipush (-4), 2) := by decide +kernel
theorem dX10_roped_52 : decode cX10_roped 52 = .ok (.goto 21, 3) := by decide +kernel
theorem dX10_roped_55 : decode cX10_roped 55 = .ok (.iload_n 3, 1) := by decide +kernel
theorem dX10_roped_56 : decode cX10_roped 56 = .ok (.goto 17, 3) := by decide +kernel
theorem dX10_roped_59 : decode cX10_roped 59 = .ok (.iload_n 3, 1) := by decide +kernel
theorem dX10_roped_60 : decode cX10_roped 60 = .ok (.ifCond .lt 8, 3) := by decide +kernel
theorem dX10_roped_63 : decode cX10_roped 63 = .ok (.iload_n 2, 1) := by decide +kernel
theorem dX10_roped_64 : decode cX10_roped 64 = .ok (.iload_n 3, 1) := by decide +kernel
theorem dX10_roped_65 : decode cX10_roped 65 = .ok (.if_icmp .ge 7, 3) := by decide +kernel
theorem dX10_roped_68 : decode cX10_roped 68 = .ok (.iload_n 2, 1) := by decide +kernel
theorem dX10_roped_69 : decode cX10_roped 69 = .ok (.goto 4, 3) := by decide +kernel
theorem dX10_roped_72 : decode cX10_roped 72 = .ok (.iload_n 3, 1) := by decide +kernel
theorem dX10_roped_73 : decode cX10_roped 73 = .ok (.ireturn, 1) := by decide +kernel
theorem dX10_two_0 : decode cX10_two 0 = .ok (.iload_n 1, 1) := by decide +kernel
theorem dX10_two_1 : decode cX10_two 1 = .ok (.i2l, 1) := by decide +kernel
theorem dX10_two_2 : decode cX10_two 2 = .ok (.lconst 0, 1) := by decide +kernel
theorem dX10_two_3 : decode cX10_two 3 = .ok (.ldc2_w 114, 3) := by decide +kernel
theorem dX10_two_6 : decode cX10_two 6 = .ok (.invokestatic 78, 3) := by decide +kernel
theorem dX10_two_9 : decode cX10_two 9 = .ok (.ifCond .eq 32, 3) := by decide +kernel
theorem dX10_two_12 : decode cX10_two 12 = .ok (.iload_n 2, 1) := by decide +kernel
theorem dX10_two_13 : decode cX10_two 13 = .ok (.iload 5, 2) := by decide +kernel
theorem dX10_two_15 : decode cX10_two 15 = .ok (.invokestatic 116, 3) := by decide +kernel
theorem dX10_two_18 : decode cX10_two 18 = .ok (.ifCond .eq 23, 3) := by decide +kernel
theorem dX10_two_21 : decode cX10_two 21 = .ok (.iload_n 3, 1) := by decide +kernel
theorem dX10_two_22 : decode cX10_two 22 = .ok (.i2l, 1) := by decide +kernel
theorem dX10_two_23 : decode cX10_two 23 = .ok (.lconst 0, 1) := by decide +kernel
theorem dX10_two_24 : decode cX10_two 24 = .ok (.ldc2_w 114, 3) := by decide +kernel
theorem dX10_two_27 : decode cX10_two 27 = .ok (.invokestatic 78, 3) := by decide +kernel
theorem dX10_two_30 : decode cX10_two 30 = .ok (.ifCond .eq 11, 3) := by decide +kernel
theorem dX10_two_33 : decode cX10_two 33 = .ok (.iload 4, 2) := by decide +kernel
theorem dX10_two_35 : decode cX10_two 35 = .ok (.invokestatic 108, 3) := by decide +kernel
theorem dX10_two_38 : decode cX10_two 38 = .ok (.ifCond .ne 5, 3) := by decide +kernel
theorem dX10_two_41 : decode cX10_two 41 = .ok (.iconst (-1), 1) := by decide +kernel
theorem dX10_two_42 : decode cX10_two 42 = .ok (.ireturn, 1) := by decide +kernel
theorem dX10_two_43 : decode cX10_two 43 = .ok (.aload_n 0, 1) := by decide +kernel
theorem dX10_two_44 : decode cX10_two 44 = .ok (.iconst 0, 1) := by decide +kernel
theorem dX10_two_45 : decode cX10_two 45 = .ok (.iload_n 2, 1) := by decide +kernel
theorem dX10_two_46 : decode cX10_two 46 = .ok (.iload 5, 2) := by decide +kernel
theorem dX10_two_48 : decode cX10_two 48 = .ok (.invokevirtual 190, 3) := by decide +kernel
theorem dX10_two_51 : decode cX10_two 51 = .ok (.aload_n 0, 1) := by decide +kernel
theorem dX10_two_52 : decode cX10_two 52 = .ok (.iconst 1, 1) := by decide +kernel
theorem dX10_two_53 : decode cX10_two 53 = .ok (.iload 4, 2) := by decide +kernel
theorem dX10_two_55 : decode cX10_two 55 = .ok (.iload 5, 2) := by decide +kernel
theorem dX10_two_57 : decode cX10_two 57 = .ok (.invokevirtual 190, 3) := by decide +kernel
theorem dX10_two_60 : decode cX10_two 60 = .ok (.iconst 0, 1) := by decide +kernel
theorem dX10_two_61 : decode cX10_two 61 = .ok (.istore 6, 2) := by decide +kernel
theorem dX10_two_63 : decode cX10_two 63 = .ok (.aload_n 0, 1) := by decide +kernel
theorem dX10_two_64 : decode cX10_two 64 = .ok (.iconst 0, 1) := by decide +kernel
theorem dX10_two_65 : decode cX10_two 65 = .ok (.invokevirtual 194, 3) := by decide +kernel
theorem dX10_two_68 : decode cX10_two 68 = .ok (.ifCond .ne 45, 3) := by decide +kernel
theorem dX10_two_71 : decode cX10_two 71 = .ok (.aload_n 0, 1) := by decide +kernel
theorem dX10_two_72 : decode cX10_two 72 = .ok (.iconst 1, 1) := by decide +kernel
theorem dX10_two_73 : decode cX10_two 73 = .ok (.invokevirtual 194, 3) := by decide +kernel
theorem dX10_two_76 : decode cX10_two 76 = .ok (.ifCond .ne 37, 3) := by decide +kernel
theorem dX10_two_79 : decode cX10_two 79 = .ok (.iload 6, 2) := by decide +kernel
theorem dX10_two_81 : decode cX10_two 81 = .ok (.sipush 1998, 3) := by decide +kernel
theorem dX10_two_84 : decode cX10_two 84 = .ok (.if_icmp .ge 29, 3) := by decide +kernel
theorem dX10_two_87 : decode cX10_two 87 = .ok (.aload_n 0, 1) := by decide +kernel
theorem dX10_two_88 : decode cX10_two 88 = .ok (.iload 6, 2) := by decide +kernel
theorem dX10_two_90 : decode cX10_two 90 = .ok (.iconst 2, 1) := by decide +kernel
theorem dX10_two_91 : decode cX10_two 91 = .ok (.irem, 1) := by decide +kernel
theorem dX10_two_92 : decode cX10_two 92 = .ok (.iload 6, 2) := by decide +kernel
theorem dX10_two_94 : decode cX10_two 94 = .ok (.iconst 2, 1) := by decide +kernel
theorem dX10_two_95 : decode cX10_two 95 = .ok (.irem, 1) := by decide +kernel
theorem dX10_two_96 : decode cX10_two 96 = .ok (.ifCond .ne 7, 3) := by decide +kernel
theorem dX10_two_99 : decode cX10_two 99 = .ok (.iload_n 1, 1) := by decide +kernel
theorem dX10_two_100 : decode cX10_two 100 = .ok (.goto 4, 3) := by decide +kernel
theorem dX10_two_103 : decode cX10_two 103 = .ok (.iload_n 3, 1) := by decide +kernel
theorem dX10_two_104 : decode cX10_two 104 = .ok (.invokevirtual 197, 3) := by decide +kernel
theorem dX10_two_107 : decode cX10_two 107 = .ok (.iinc 6 1, 3) := by decide +kernel
theorem dX10_two_110 : decode cX10_two 110 = .ok (.goto (-47), 3) := by decide +kernel
theorem dX10_two_113 : decode cX10_two 113 = .ok (.aload_n 0, 1) := by decide +kernel
theorem dX10_two_114 : decode cX10_two 114 = .ok (.iconst 0, 1) := by decide +kernel
theorem dX10_two_115 : decode cX10_two 115 = .ok (.invokevirtual 194, 3) := by decide +kernel
theorem dX10_two_118 : decode cX10_two 118 = .ok (.ifCond .ne 11, 3) := by decide +kernel
theorem dX10_two_121 : decode cX10_two 121 = .ok (.aload_n 0, 1) := by decide +kernel
theorem dX10_two_122 : decode cX10_two 122 = .ok (.iconst 1, 1) := by decide +kernel
theorem dX10_two_123 : decode cX10_two 123 = .ok (.invokevirtual 194, 3) := by decide +kernel
theorem dX10_two_126 : decode cX10_two 126 = .ok (.ifCond .eq 8, 3) := by decide +kernel
theorem dX10_two_129 : decode cX10_two 129 = .ok (.iload 6, 2) := by decide +kernel
theorem dX10_two_131 : decode cX10_two 131 = .ok (.goto 5, 3) := by decide +kernel
theorem dX10_two_134 : decode cX10_two 134 = .ok (.bipush (-4), 2) := by decide +kernel
theorem dX10_two_136 : decode cX10_two 136 = .ok (.ireturn, 1) := by decide +kernel
theorem dX10_parts_0 : decode cX10_parts 0 = .ok (.iconst 0, 1) := by decide +kernel
theorem dX10_parts_1 : decode cX10_parts 1 = .ok (.istore_n 1, 1) := by decide +kernel
theorem dX10_parts_2 : decode cX10_parts 2 = .ok (.iload_n 1, 1) := by decide +kernel
theorem dX10_parts_3 : decode cX10_parts 3 = .ok (.bipush 72, 2) := by decide +kernel
theorem dX10_parts_5 : decode cX10_parts 5 = .ok (.if_icmp .ge 16, 3) := by decide +kernel
theorem dX10_parts_8 : decode cX10_parts 8 = .ok (.aload_n 0, 1) := by decide +kernel
theorem dX10_parts_9 : decode cX10_parts 9 = .ok (.getfield 49, 3) := by decide +kernel
theorem dX10_parts_12 : decode cX10_parts 12 = .ok (.iload_n 1, 1) := by decide +kernel
theorem dX10_parts_13 : decode cX10_parts 13 = .ok (.iconst (-1), 1) := by decide +kernel
theorem dX10_parts_14 : decode cX10_parts 14 = .ok (.iastore, 1) := by decide +kernel
theorem dX10_parts_15 : decode cX10_parts 15 = .ok (.iinc 1 1, 3) := by decide +kernel
theorem dX10_parts_18 : decode cX10_parts 18 = .ok (.goto (-16), 3) := by decide +kernel
theorem dX10_parts_21 : decode cX10_parts 21 = .ok (.iconst 0, 1) := by decide +kernel
theorem dX10_parts_22 : decode cX10_parts 22 = .ok (.istore_n 1, 1) := by decide +kernel
theorem dX10_parts_23 : decode cX10_parts 23 = .ok (.iconst 0, 1) := by decide +kernel
theorem dX10_parts_24 : decode cX10_parts 24 = .ok (.istore_n 2, 1) := by decide +kernel
theorem dX10_parts_25 : decode cX10_parts 25 = .ok (.iload_n 2, 1) := by decide +kernel
theorem dX10_parts_26 : decode cX10_parts 26 = .ok (.bipush 36, 2) := by decide +kernel
theorem dX10_parts_28 : decode cX10_parts 28 = .ok (.if_icmp .ge 103, 3) := by decide +kernel
theorem dX10_parts_31 : decode cX10_parts 31 = .ok (.aload_n 0, 1) := by decide +kernel
theorem dX10_parts_32 : decode cX10_parts 32 = .ok (.getfield 49, 3) := by decide +kernel
theorem dX10_parts_35 : decode cX10_parts 35 = .ok (.iload_n 2, 1) := by decide +kernel
theorem dX10_parts_36 : decode cX10_parts 36 = .ok (.iaload, 1) := by decide +kernel
theorem dX10_parts_37 : decode cX10_parts 37 = .ok (.ifCond .ge 88, 3) := by decide +kernel
theorem dX10_parts_40 : decode cX10_parts 40 = .ok (.iinc 1 1, 3) := by decide +kernel
theorem dX10_parts_43 : decode cX10_parts 43 = .ok (.aload_n 0, 1) := by decide +kernel
theorem dX10_parts_44 : decode cX10_parts 44 = .ok (.iconst 0, 1) := by decide +kernel
theorem dX10_parts_45 : decode cX10_parts 45 = .ok (.putfield 207, 3) := by decide +kernel
theorem dX10_parts_48 : decode cX10_parts 48 = .ok (.aload_n 0, 1) := by decide +kernel
theorem dX10_parts_49 : decode cX10_parts 49 = .ok (.iload_n 2, 1) := by decide +kernel
theorem dX10_parts_50 : decode cX10_parts 50 = .ok (.iconst 0, 1) := by decide +kernel
theorem dX10_parts_51 : decode cX10_parts 51 = .ok (.invokevirtual 210, 3) := by decide +kernel
theorem dX10_parts_54 : decode cX10_parts 54 = .ok (.iconst 0, 1) := by decide +kernel
theorem dX10_parts_55 : decode cX10_parts 55 = .ok (.istore_n 3, 1) := by decide +kernel
theorem dX10_parts_56 : decode cX10_parts 56 = .ok (.iload_n 3, 1) := by decide +kernel
theorem dX10_parts_57 : decode cX10_parts 57 = .ok (.aload_n 0, 1) := by decide +kernel
theorem dX10_parts_58 : decode cX10_parts 58 = .ok (.getfield 207, 3) := by decide +kernel
theorem dX10_parts_61 : decode cX10_parts 61 = .ok (.if_icmp .ge 64, 3) := by decide +kernel
theorem dX10_parts_64 : decode cX10_parts 64 = .ok (.iconst 0, 1) := by decide +kernel
theorem dX10_parts_65 : decode cX10_parts 65 = .ok (.istore 4, 2) := by decide +kernel
theorem dX10_parts_67 : decode cX10_parts 67 = .ok (.iload 4, 2) := by decide +kernel
theorem dX10_parts_69 : decode cX10_parts 69 = .ok (.iconst 4, 1) := by decide +kernel
theorem dX10_parts_70 : decode cX10_parts 70 = .ok (.if_icmp .ge 49, 3) := by decide +kernel
theorem dX10_parts_73 : decode cX10_parts 73 = .ok (.aload_n 0, 1) := by decide +kernel
theorem dX10_parts_74 : decode cX10_parts 74 = .ok (.getfield 52, 3) := by decide +kernel
theorem dX10_parts_77 : decode cX10_parts 77 = .ok (.iload_n 3, 1) := by decide +kernel
theorem dX10_parts_78 : decode cX10_parts 78 = .ok (.iaload, 1) := by decide +kernel
theorem dX10_parts_79 : decode cX10_parts 79 = .ok (.iload 4, 2) := by decide +kernel
theorem dX10_parts_81 : decode cX10_parts 81 = .ok (.invokestatic 82, 3) := by decide +kernel
theorem dX10_parts_84 : decode cX10_parts 84 = .ok (.istore 5, 2) := by decide +kernel
theorem dX10_parts_86 : decode cX10_parts 86 = .ok (.iload 5, 2) := by decide +kernel
theorem dX10_parts_88 : decode cX10_parts 88 = .ok (.ifCond .lt 25, 3) := by decide +kernel
theorem dX10_parts_91 : decode cX10_parts 91 = .ok (.aload_n 0, 1) := by decide +kernel
theorem dX10_parts_92 : decode cX10_parts 92 = .ok (.aload_n 0, 1) := by decide +kernel
theorem dX10_parts_93 : decode cX10_parts 93 = .ok (.getfield 52, 3) := by decide +kernel
theorem dX10_parts_96 : decode cX10_parts 96 = .ok (.iload_n 3, 1) := by decide +kernel
theorem dX10_parts_97 : decode cX10_parts 97 = .ok (.iaload, 1) := by decide +kernel
theorem dX10_parts_98 : decode cX10_parts 98 = .ok (.iload 4, 2) := by decide +kernel
theorem dX10_parts_100 : decode cX10_parts 100 = .ok (.invokevirtual 127, 3) := by decide +kernel
theorem dX10_parts_103 : decode cX10_parts 103 = .ok (.ifCond .eq 10, 3) := by decide +kernel
theorem dX10_parts_106 : decode cX10_parts 106 = .ok (.aload_n 0, 1) := by decide +kernel
theorem dX10_parts_107 : decode cX10_parts 107 = .ok (.iload 5, 2) := by decide +kernel
theorem dX10_parts_109 : decode cX10_parts 109 = .ok (.iconst 0, 1) := by decide +kernel
theorem dX10_parts_110 : decode cX10_parts 110 = .ok (.invokevirtual 210, 3) := by decide +kernel
theorem dX10_parts_113 : decode cX10_parts 113 = .ok (.iinc 4 1, 3) := by decide +kernel
theorem dX10_parts_116 : decode cX10_parts 116 = .ok (.goto (-49), 3) := by decide +kernel
theorem dX10_parts_119 : decode cX10_parts 119 = .ok (.iinc 3 1, 3) := by decide +kernel
theorem dX10_parts_122 : decode cX10_parts 122 = .ok (.goto (-66), 3) := by decide +kernel
theorem dX10_parts_125 : decode cX10_parts 125 = .ok (.iinc 2 1, 3) := by decide +kernel
theorem dX10_parts_128 : decode cX10_parts 128 = .ok (.goto (-103), 3) := by decide +kernel
theorem dX10_parts_131 : decode cX10_parts 131 = .ok (.iload_n 1, 1) := by decide +kernel
theorem dX10_parts_132 : decode cX10_parts 132 = .ok (.ireturn, 1) := by decide +kernel
theorem dX10_bestShut_0 : decode cX10_bestShut 0 = .ok (.bipush (-4), 2) := by decide +kernel
theorem dX10_bestShut_2 : decode cX10_bestShut 2 = .ok (.istore_n 1, 1) := by decide +kernel
theorem dX10_bestShut_3 : decode cX10_bestShut 3 = .ok (.aload_n 0, 1) := by decide +kernel
theorem dX10_bestShut_4 : decode cX10_bestShut 4 = .ok (.iconst (-1), 1) := by decide +kernel
theorem dX10_bestShut_5 : decode cX10_bestShut 5 = .ok (.putfield 220, 3) := by decide +kernel
theorem dX10_bestShut_8 : decode cX10_bestShut 8 = .ok (.iconst 0, 1) := by decide +kernel
theorem dX10_bestShut_9 : decode cX10_bestShut 9 = .ok (.istore_n 2, 1) := by decide +kernel
theorem dX10_bestShut_10 : decode cX10_bestShut 10 = .ok (.iload_n 2, 1) := by decide +kernel
theorem dX10_bestShut_11 : decode cX10_bestShut 11 = .ok (.bipush 72, 2) := by decide +kernel
theorem dX10_bestShut_13 : decode cX10_bestShut 13 = .ok (.if_icmp .ge 102, 3) := by decide +kernel
theorem dX10_bestShut_16 : decode cX10_bestShut 16 = .ok (.iload_n 2, 1) := by decide +kernel
theorem dX10_bestShut_17 : decode cX10_bestShut 17 = .ok (.iconst 2, 1) := by decide +kernel
theorem dX10_bestShut_18 : decode cX10_bestShut 18 = .ok (.idiv, 1) := by decide +kernel
theorem dX10_bestShut_19 : decode cX10_bestShut 19 = .ok (.istore_n 3, 1) := by decide +kernel
theorem dX10_bestShut_20 : decode cX10_bestShut 20 = .ok (.iconst 2, 1) := by decide +kernel
theorem dX10_bestShut_21 : decode cX10_bestShut 21 = .ok (.iload_n 2, 1) := by decide +kernel
theorem dX10_bestShut_22 : decode cX10_bestShut 22 = .ok (.iconst 2, 1) := by decide +kernel
theorem dX10_bestShut_23 : decode cX10_bestShut 23 = .ok (.irem, 1) := by decide +kernel
theorem dX10_bestShut_24 : decode cX10_bestShut 24 = .ok (.iadd, 1) := by decide +kernel
theorem dX10_bestShut_25 : decode cX10_bestShut 25 = .ok (.istore 4, 2) := by decide +kernel
theorem dX10_bestShut_27 : decode cX10_bestShut 27 = .ok (.iload_n 3, 1) := by decide +kernel
theorem dX10_bestShut_28 : decode cX10_bestShut 28 = .ok (.iload 4, 2) := by decide +kernel
theorem dX10_bestShut_30 : decode cX10_bestShut 30 = .ok (.invokestatic 82, 3) := by decide +kernel
theorem dX10_bestShut_33 : decode cX10_bestShut 33 = .ok (.ifCond .lt 76, 3) := by decide +kernel
theorem dX10_bestShut_36 : decode cX10_bestShut 36 = .ok (.aload_n 0, 1) := by decide +kernel
theorem dX10_bestShut_37 : decode cX10_bestShut 37 = .ok (.iload_n 3, 1) := by decide +kernel
theorem dX10_bestShut_38 : decode cX10_bestShut 38 = .ok (.iload 4, 2) := by decide +kernel
theorem dX10_bestShut_40 : decode cX10_bestShut 40 = .ok (.invokevirtual 127, 3) := by decide +kernel
theorem dX10_bestShut_43 : decode cX10_bestShut 43 = .ok (.ifCond .eq 66, 3) := by decide +kernel
theorem dX10_bestShut_46 : decode cX10_bestShut 46 = .ok (.aload_n 0, 1) := by decide +kernel
theorem dX10_bestShut_47 : decode cX10_bestShut 47 = .ok (.getfield 16, 3) := by decide +kernel
theorem dX10_bestShut_50 : decode cX10_bestShut 50 = .ok (.iload_n 2, 1) := by decide +kernel
theorem dX10_bestShut_51 : decode cX10_bestShut 51 = .ok (.iconst 1, 1) := by decide +kernel
theorem dX10_bestShut_52 : decode cX10_bestShut 52 = .ok (.iastore, 1) := by decide +kernel
theorem dX10_bestShut_53 : decode cX10_bestShut 53 = .ok (.aload_n 0, 1) := by decide +kernel
theorem dX10_bestShut_54 : decode cX10_bestShut 54 = .ok (.aload_n 0, 1) := by decide +kernel
theorem dX10_bestShut_55 : decode cX10_bestShut 55 = .ok (.getfield 22, 3) := by decide +kernel
theorem dX10_bestShut_58 : decode cX10_bestShut 58 = .ok (.iconst 2, 1) := by decide +kernel
theorem dX10_bestShut_59 : decode cX10_bestShut 59 = .ok (.iaload, 1) := by decide +kernel
theorem dX10_bestShut_60 : decode cX10_bestShut 60 = .ok (.invokevirtual 217, 3) := by decide +kernel
theorem dX10_bestShut_63 : decode cX10_bestShut 63 = .ok (.istore 5, 2) := by decide +kernel
theorem dX10_bestShut_65 : decode cX10_bestShut 65 = .ok (.aload_n 0, 1) := by decide +kernel
theorem dX10_bestShut_66 : decode cX10_bestShut 66 = .ok (.getfield 16, 3) := by decide +kernel
theorem dX10_bestShut_69 : decode cX10_bestShut 69 = .ok (.iload_n 2, 1) := by decide +kernel
theorem dX10_bestShut_70 : decode cX10_bestShut 70 = .ok (.iconst 0, 1) := by decide +kernel
theorem dX10_bestShut_71 : decode cX10_bestShut 71 = .ok (.iastore, 1) := by decide +kernel
theorem dX10_bestShut_72 : decode cX10_bestShut 72 = .ok (.iload 5, 2) := by decide +kernel
theorem dX10_bestShut_74 : decode cX10_bestShut 74 = .ok (.aload_n 0, 1) := by decide +kernel
theorem dX10_bestShut_75 : decode cX10_bestShut 75 = .ok (.getfield 220, 3) := by decide +kernel
theorem dX10_bestShut_78 : decode cX10_bestShut 78 = .ok (.if_icmp .le 7, 3) := by decide +kernel
theorem dX10_bestShut_81 : decode cX10_bestShut 81 = .ok (.iload_n 2, 1) := by decide +kernel
theorem dX10_bestShut_82 : decode cX10_bestShut 82 = .ok (.goto 4, 3) := by decide +kernel
theorem dX10_bestShut_85 : decode cX10_bestShut 85 = .ok (.iload_n 1, 1) := by decide +kernel
theorem dX10_bestShut_86 : decode cX10_bestShut 86 = .ok (.istore_n 1, 1) := by decide +kernel
theorem dX10_bestShut_87 : decode cX10_bestShut 87 = .ok (.aload_n 0, 1) := by decide +kernel
theorem dX10_bestShut_88 : decode cX10_bestShut 88 = .ok (.iload 5, 2) := by decide +kernel
theorem dX10_bestShut_90 : decode cX10_bestShut 90 = .ok (.aload_n 0, 1) := by decide +kernel
theorem dX10_bestShut_91 : decode cX10_bestShut 91 = .ok (.getfield 220, 3) := by decide +kernel
theorem dX10_bestShut_94 : decode cX10_bestShut 94 = .ok (.if_icmp .le 8, 3) := by decide +kernel
theorem dX10_bestShut_97 : decode cX10_bestShut 97 = .ok (.iload 5, 2) := by decide +kernel
theorem dX10_bestShut_99 : decode cX10_bestShut 99 = .ok (.goto 7, 3) := by decide +kernel
theorem dX10_bestShut_102 : decode cX10_bestShut 102 = .ok (.aload_n 0, 1) := by decide +kernel
theorem dX10_bestShut_103 : decode cX10_bestShut 103 = .ok (.getfield 220, 3) := by decide +kernel
theorem dX10_bestShut_106 : decode cX10_bestShut 106 = .ok (.putfield 220, 3) := by decide +kernel
theorem dX10_bestShut_109 : decode cX10_bestShut 109 = .ok (.iinc 2 1, 3) := by decide +kernel
theorem dX10_bestShut_112 : decode cX10_bestShut 112 = .ok (.goto (-102), 3) := by decide +kernel
theorem dX10_bestShut_115 : decode cX10_bestShut 115 = .ok (.iload_n 1, 1) := by decide +kernel
theorem dX10_bestShut_116 : decode cX10_bestShut 116 = .ok (.ireturn, 1) := by decide +kernel
theorem dX10_shutting_0 : decode cX10_shutting 0 = .ok (.iload_n 1, 1) := by decide +kernel
theorem dX10_shutting_1 : decode cX10_shutting 1 = .ok (.i2l, 1) := by decide +kernel
theorem dX10_shutting_2 : decode cX10_shutting 2 = .ok (.lconst 0, 1) := by decide +kernel
theorem dX10_shutting_3 : decode cX10_shutting 3 = .ok (.ldc2_w 123, 3) := by decide +kernel
theorem dX10_shutting_6 : decode cX10_shutting 6 = .ok (.invokestatic 78, 3) := by decide +kernel
theorem dX10_shutting_9 : decode cX10_shutting 9 = .ok (.ifCond .ne 5, 3) := by decide +kernel
theorem dX10_shutting_12 : decode cX10_shutting 12 = .ok (.iconst (-1), 1) := by decide +kernel
theorem dX10_shutting_13 : decode cX10_shutting 13 = .ok (.ireturn, 1) := by decide +kernel
theorem dX10_shutting_14 : decode cX10_shutting 14 = .ok (.aload_n 0, 1) := by decide +kernel
theorem dX10_shutting_15 : decode cX10_shutting 15 = .ok (.invokevirtual 223, 3) := by decide +kernel
theorem dX10_shutting_18 : decode cX10_shutting 18 = .ok (.istore_n 2, 1) := by decide +kernel
theorem dX10_shutting_19 : decode cX10_shutting 19 = .ok (.iload_n 2, 1) := by decide +kernel
theorem dX10_shutting_20 : decode cX10_shutting 20 = .ok (.ifCond .ge 8, 3) := by decide +kernel
theorem dX10_shutting_23 : decode cX10_shutting 23 = .ok (.bipush (-4), 2) := by decide +kernel
theorem dX10_shutting_25 : decode cX10_shutting 25 = .ok (.goto 30, 3) := by decide +kernel
theorem dX10_shutting_28 : decode cX10_shutting 28 = .ok (.iload_n 1, 1) := by decide +kernel
theorem dX10_shutting_29 : decode cX10_shutting 29 = .ok (.ifCond .ne 9, 3) := by decide +kernel
theorem dX10_shutting_32 : decode cX10_shutting 32 = .ok (.iload_n 2, 1) := by decide +kernel
theorem dX10_shutting_33 : decode cX10_shutting 33 = .ok (.iconst 2, 1) := by decide +kernel
theorem dX10_shutting_34 : decode cX10_shutting 34 = .ok (.idiv, 1) := by decide +kernel
theorem dX10_shutting_35 : decode cX10_shutting 35 = .ok (.goto 20, 3) := by decide +kernel
theorem dX10_shutting_38 : decode cX10_shutting 38 = .ok (.iload_n 1, 1) := by decide +kernel
theorem dX10_shutting_39 : decode cX10_shutting 39 = .ok (.iconst 1, 1) := by decide +kernel
theorem dX10_shutting_40 : decode cX10_shutting 40 = .ok (.if_icmp .ne 11, 3) := by decide +kernel
theorem dX10_shutting_43 : decode cX10_shutting 43 = .ok (.iconst 2, 1) := by decide +kernel
theorem dX10_shutting_44 : decode cX10_shutting 44 = .ok (.iload_n 2, 1) := by decide +kernel
theorem dX10_shutting_45 : decode cX10_shutting 45 = .ok (.iconst 2, 1) := by decide +kernel
theorem dX10_shutting_46 : decode cX10_shutting 46 = .ok (.irem, 1) := by decide +kernel
theorem dX10_shutting_47 : decode cX10_shutting 47 = .ok (.iadd, 1) := by decide +kernel
theorem dX10_shutting_48 : decode cX10_shutting 48 = .ok (.goto 7, 3) := by decide +kernel
theorem dX10_shutting_51 : decode cX10_shutting 51 = .ok (.aload_n 0, 1) := by decide +kernel
theorem dX10_shutting_52 : decode cX10_shutting 52 = .ok (.getfield 220, 3) := by decide +kernel
theorem dX10_shutting_55 : decode cX10_shutting 55 = .ok (.ireturn, 1) := by decide +kernel
theorem dX10_days_0 : decode cX10_days 0 = .ok (.iload_n 1, 1) := by decide +kernel
theorem dX10_days_1 : decode cX10_days 1 = .ok (.i2l, 1) := by decide +kernel
theorem dX10_days_2 : decode cX10_days 2 = .ok (.lconst 1, 1) := by decide +kernel
theorem dX10_days_3 : decode cX10_days 3 = .ok (.ldc2_w 226, 3) := by decide +kernel
theorem dX10_days_6 : decode cX10_days 6 = .ok (.invokestatic 78, 3) := by decide +kernel
theorem dX10_days_9 : decode cX10_days 9 = .ok (.ifCond .ne 5, 3) := by decide +kernel
theorem dX10_days_12 : decode cX10_days 12 = .ok (.iconst (-1), 1) := by decide +kernel
theorem dX10_days_13 : decode cX10_days 13 = .ok (.ireturn, 1) := by decide +kernel
theorem dX10_days_14 : decode cX10_days 14 = .ok (.iconst 0, 1) := by decide +kernel
theorem dX10_days_15 : decode cX10_days 15 = .ok (.istore_n 2, 1) := by decide +kernel
theorem dX10_days_16 : decode cX10_days 16 = .ok (.iconst 1, 1) := by decide +kernel
theorem dX10_days_17 : decode cX10_days 17 = .ok (.istore_n 3, 1) := by decide +kernel
theorem dX10_days_18 : decode cX10_days 18 = .ok (.iload_n 2, 1) := by decide +kernel
theorem dX10_days_19 : decode cX10_days 19 = .ok (.iload_n 1, 1) := by decide +kernel
theorem dX10_days_20 : decode cX10_days 20 = .ok (.if_icmp .ge 42, 3) := by decide +kernel
theorem dX10_days_23 : decode cX10_days 23 = .ok (.iload_n 3, 1) := by decide +kernel
theorem dX10_days_24 : decode cX10_days 24 = .ok (.ifCond .eq 38, 3) := by decide +kernel
theorem dX10_days_27 : decode cX10_days 27 = .ok (.aload_n 0, 1) := by decide +kernel
theorem dX10_days_28 : decode cX10_days 28 = .ok (.invokevirtual 223, 3) := by decide +kernel
theorem dX10_days_31 : decode cX10_days 31 = .ok (.istore 4, 2) := by decide +kernel
theorem dX10_days_33 : decode cX10_days 33 = .ok (.iload 4, 2) := by decide +kernel
theorem dX10_days_35 : decode cX10_days 35 = .ok (.ifCond .lt 7, 3) := by decide +kernel
theorem dX10_days_38 : decode cX10_days 38 = .ok (.iconst 1, 1) := by decide +kernel
theorem dX10_days_39 : decode cX10_days 39 = .ok (.goto 4, 3) := by decide +kernel
theorem dX10_days_42 : decode cX10_days 42 = .ok (.iconst 0, 1) := by decide +kernel
theorem dX10_days_43 : decode cX10_days 43 = .ok (.istore_n 3, 1) := by decide +kernel
theorem dX10_days_44 : decode cX10_days 44 = .ok (.iload_n 3, 1) := by decide +kernel
theorem dX10_days_45 : decode cX10_days 45 = .ok (.ifCond .eq 14, 3) := by decide +kernel
theorem dX10_days_48 : decode cX10_days 48 = .ok (.aload_n 0, 1) := by decide +kernel
theorem dX10_days_49 : decode cX10_days 49 = .ok (.getfield 16, 3) := by decide +kernel
theorem dX10_days_52 : decode cX10_days 52 = .ok (.iload 4, 2) := by decide +kernel
theorem dX10_days_54 : decode cX10_days 54 = .ok (.iconst 1, 1) := by decide +kernel
theorem dX10_days_55 : decode cX10_days 55 = .ok (.iastore, 1) := by decide +kernel
theorem dX10_days_56 : decode cX10_days 56 = .ok (.iinc 2 1, 3) := by decide +kernel
theorem dX10_days_59 : decode cX10_days 59 = .ok (.goto (-41), 3) := by decide +kernel
theorem dX10_days_62 : decode cX10_days 62 = .ok (.iload_n 2, 1) := by decide +kernel
theorem dX10_days_63 : decode cX10_days 63 = .ok (.ireturn, 1) := by decide +kernel
theorem dX10_bell_0 : decode cX10_bell 0 = .ok (.iload_n 1, 1) := by decide +kernel
theorem dX10_bell_1 : decode cX10_bell 1 = .ok (.invokestatic 108, 3) := by decide +kernel
theorem dX10_bell_4 : decode cX10_bell 4 = .ok (.ifCond .ne 5, 3) := by decide +kernel
theorem dX10_bell_7 : decode cX10_bell 7 = .ok (.iconst (-1), 1) := by decide +kernel
theorem dX10_bell_8 : decode cX10_bell 8 = .ok (.ireturn, 1) := by decide +kernel
theorem dX10_bell_9 : decode cX10_bell 9 = .ok (.iconst 0, 1) := by decide +kernel
theorem dX10_bell_10 : decode cX10_bell 10 = .ok (.istore_n 2, 1) := by decide +kernel
theorem dX10_bell_11 : decode cX10_bell 11 = .ok (.iload_n 2, 1) := by decide +kernel
theorem dX10_bell_12 : decode cX10_bell 12 = .ok (.bipush 36, 2) := by decide +kernel
theorem dX10_bell_14 : decode cX10_bell 14 = .ok (.if_icmp .ge 18, 3) := by decide +kernel
theorem dX10_bell_17 : decode cX10_bell 17 = .ok (.aload_n 0, 1) := by decide +kernel
theorem dX10_bell_18 : decode cX10_bell 18 = .ok (.getfield 49, 3) := by decide +kernel
theorem dX10_bell_21 : decode cX10_bell 21 = .ok (.iload_n 2, 1) := by decide +kernel
theorem dX10_bell_22 : decode cX10_bell 22 = .ok (.sipush 9999, 3) := by decide +kernel
theorem dX10_bell_25 : decode cX10_bell 25 = .ok (.iastore, 1) := by decide +kernel
theorem dX10_bell_26 : decode cX10_bell 26 = .ok (.iinc 2 1, 3) := by decide +kernel
theorem dX10_bell_29 : decode cX10_bell 29 = .ok (.goto (-18), 3) := by decide +kernel
theorem dX10_bell_32 : decode cX10_bell 32 = .ok (.aload_n 0, 1) := by decide +kernel
theorem dX10_bell_33 : decode cX10_bell 33 = .ok (.getfield 49, 3) := by decide +kernel
theorem dX10_bell_36 : decode cX10_bell 36 = .ok (.aload_n 0, 1) := by decide +kernel
theorem dX10_bell_37 : decode cX10_bell 37 = .ok (.getfield 22, 3) := by decide +kernel
theorem dX10_bell_40 : decode cX10_bell 40 = .ok (.iconst 1, 1) := by decide +kernel
theorem dX10_bell_41 : decode cX10_bell 41 = .ok (.iaload, 1) := by decide +kernel
theorem dX10_bell_42 : decode cX10_bell 42 = .ok (.iconst 0, 1) := by decide +kernel
theorem dX10_bell_43 : decode cX10_bell 43 = .ok (.iastore, 1) := by decide +kernel
theorem dX10_bell_44 : decode cX10_bell 44 = .ok (.iconst 1, 1) := by decide +kernel
theorem dX10_bell_45 : decode cX10_bell 45 = .ok (.istore_n 2, 1) := by decide +kernel
theorem dX10_bell_46 : decode cX10_bell 46 = .ok (.iload_n 2, 1) := by decide +kernel
theorem dX10_bell_47 : decode cX10_bell 47 = .ok (.ifCond .eq 130, 3) := by decide +kernel
theorem dX10_bell_50 : decode cX10_bell 50 = .ok (.iconst 0, 1) := by decide +kernel
theorem dX10_bell_51 : decode cX10_bell 51 = .ok (.istore_n 2, 1) := by decide +kernel
theorem dX10_bell_52 : decode cX10_bell 52 = .ok (.iconst 0, 1) := by decide +kernel
theorem dX10_bell_53 : decode cX10_bell 53 = .ok (.istore_n 3, 1) := by decide +kernel
theorem dX10_bell_54 : decode cX10_bell 54 = .ok (.iload_n 3, 1) := by decide +kernel
theorem dX10_bell_55 : decode cX10_bell 55 = .ok (.sipush 144, 3) := by decide +kernel
theorem dX10_bell_58 : decode cX10_bell 58 = .ok (.if_icmp .ge 116, 3) := by decide +kernel
theorem dX10_bell_61 : decode cX10_bell 61 = .ok (.iload_n 3, 1) := by decide +kernel
theorem dX10_bell_62 : decode cX10_bell 62 = .ok (.iconst 4, 1) := by decide +kernel
theorem dX10_bell_63 : decode cX10_bell 63 = .ok (.idiv, 1) := by decide +kernel
theorem dX10_bell_64 : decode cX10_bell 64 = .ok (.istore 4, 2) := by decide +kernel
theorem dX10_bell_66 : decode cX10_bell 66 = .ok (.iload 4, 2) := by decide +kernel
theorem dX10_bell_68 : decode cX10_bell 68 = .ok (.iload_n 3, 1) := by decide +kernel
theorem dX10_bell_69 : decode cX10_bell 69 = .ok (.iconst 4, 1) := by decide +kernel
theorem dX10_bell_70 : decode cX10_bell 70 = .ok (.irem, 1) := by decide +kernel
theorem dX10_bell_71 : decode cX10_bell 71 = .ok (.invokestatic 82, 3) := by decide +kernel
theorem dX10_bell_74 : decode cX10_bell 74 = .ok (.istore 5, 2) := by decide +kernel
theorem dX10_bell_76 : decode cX10_bell 76 = .ok (.iload 5, 2) := by decide +kernel
theorem dX10_bell_78 : decode cX10_bell 78 = .ok (.ifCond .lt 90, 3) := by decide +kernel
theorem dX10_bell_81 : decode cX10_bell 81 = .ok (.aload_n 0, 1) := by decide +kernel
theorem dX10_bell_82 : decode cX10_bell 82 = .ok (.getfield 49, 3) := by decide +kernel
theorem dX10_bell_85 : decode cX10_bell 85 = .ok (.iload 4, 2) := by decide +kernel
theorem dX10_bell_87 : decode cX10_bell 87 = .ok (.iaload, 1) := by decide +kernel
theorem dX10_bell_88 : decode cX10_bell 88 = .ok (.iconst 5, 1) := by decide +kernel
theorem dX10_bell_89 : decode cX10_bell 89 = .ok (.iadd, 1) := by decide +kernel
theorem dX10_bell_90 : decode cX10_bell 90 = .ok (.aload_n 0, 1) := by decide +kernel
theorem dX10_bell_91 : decode cX10_bell 91 = .ok (.iload 4, 2) := by decide +kernel
theorem dX10_bell_93 : decode cX10_bell 93 = .ok (.iload_n 3, 1) := by decide +kernel
theorem dX10_bell_94 : decode cX10_bell 94 = .ok (.iconst 4, 1) := by decide +kernel
theorem dX10_bell_95 : decode cX10_bell 95 = .ok (.irem, 1) := by decide +kernel
theorem dX10_bell_96 : decode cX10_bell 96 = .ok (.invokevirtual 127, 3) := by decide +kernel
theorem dX10_bell_99 : decode cX10_bell 99 = .ok (.ifCond .eq 7, 3) := by decide +kernel
theorem dX10_bell_102 : decode cX10_bell 102 = .ok (.iconst 0, 1) := by decide +kernel
theorem dX10_bell_103 : decode cX10_bell 103 = .ok (.goto 9, 3) := by decide +kernel
theorem dX10_bell_106 : decode cX10_bell 106 = .ok (.aload_n 0, 1) := by decide +kernel
theorem dX10_bell_107 : decode cX10_bell 107 = .ok (.getfield 22, 3) := by decide +kernel
theorem dX10_bell_110 : decode cX10_bell 110 = .ok (.iconst 0, 1) := by decide +kernel
theorem dX10_bell_111 : decode cX10_bell 111 = .ok (.iaload, 1) := by decide +kernel
theorem dX10_bell_112 : decode cX10_bell 112 = .ok (.iadd, 1) := by decide +kernel
theorem dX10_bell_113 : decode cX10_bell 113 = .ok (.istore 6, 2) := by decide +kernel
theorem dX10_bell_115 : decode cX10_bell 115 = .ok (.iload_n 2, 1) := by decide +kernel
theorem dX10_bell_116 : decode cX10_bell 116 = .ok (.ifCond .ne 15, 3) := by decide +kernel
theorem dX10_bell_119 : decode cX10_bell 119 = .ok (.iload 6, 2) := by decide +kernel
theorem dX10_bell_121 : decode cX10_bell 121 = .ok (.aload_n 0, 1) := by decide +kernel
