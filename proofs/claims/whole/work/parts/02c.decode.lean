theorem dX6_advance_6 : decode cX6_advance 6 = .ok (.iadd, 1) := by decide +kernel
theorem dX6_advance_7 : decode cX6_advance 7 = .ok (.putfield 22, 3) := by decide +kernel
theorem dX6_advance_10 : decode cX6_advance 10 = .ok (.aload_n 0, 1) := by decide +kernel
theorem dX6_advance_11 : decode cX6_advance 11 = .ok (.getfield 22, 3) := by decide +kernel
theorem dX6_advance_14 : decode cX6_advance 14 = .ok (.aload_n 0, 1) := by decide +kernel
theorem dX6_advance_15 : decode cX6_advance 15 = .ok (.getfield 19, 3) := by decide +kernel
theorem dX6_advance_18 : decode cX6_advance 18 = .ok (.if_icmp .ge 17, 3) := by decide +kernel
theorem dX6_advance_21 : decode cX6_advance 21 = .ok (.aload_n 0, 1) := by decide +kernel
theorem dX6_advance_22 : decode cX6_advance 22 = .ok (.getfield 9, 3) := by decide +kernel
theorem dX6_advance_25 : decode cX6_advance 25 = .ok (.aload_n 0, 1) := by decide +kernel
theorem dX6_advance_26 : decode cX6_advance 26 = .ok (.getfield 22, 3) := by decide +kernel
theorem dX6_advance_29 : decode cX6_advance 29 = .ok (.iaload, 1) := by decide +kernel
theorem dX6_advance_30 : decode cX6_advance 30 = .ok (.bipush 32, 2) := by decide +kernel
theorem dX6_advance_32 : decode cX6_advance 32 = .ok (.if_icmp .eq (-32), 3) := by decide +kernel
theorem dX6_advance_35 : decode cX6_advance 35 = .ok (.return_, 1) := by decide +kernel
theorem dX6_letter_0 : decode cX6_letter 0 = .ok (.aload_n 0, 1) := by decide +kernel
theorem dX6_letter_1 : decode cX6_letter 1 = .ok (.getfield 22, 3) := by decide +kernel
theorem dX6_letter_4 : decode cX6_letter 4 = .ok (.aload_n 0, 1) := by decide +kernel
theorem dX6_letter_5 : decode cX6_letter 5 = .ok (.getfield 19, 3) := by decide +kernel
theorem dX6_letter_8 : decode cX6_letter 8 = .ok (.if_icmp .ge 15, 3) := by decide +kernel
theorem dX6_letter_11 : decode cX6_letter 11 = .ok (.aload_n 0, 1) := by decide +kernel
theorem dX6_letter_12 : decode cX6_letter 12 = .ok (.getfield 9, 3) := by decide +kernel
theorem dX6_letter_15 : decode cX6_letter 15 = .ok (.aload_n 0, 1) := by decide +kernel
theorem dX6_letter_16 : decode cX6_letter 16 = .ok (.getfield 22, 3) := by decide +kernel
theorem dX6_letter_19 : decode cX6_letter 19 = .ok (.iaload, 1) := by decide +kernel
theorem dX6_letter_20 : decode cX6_letter 20 = .ok (.goto 5, 3) := by decide +kernel
theorem dX6_letter_23 : decode cX6_letter 23 = .ok (.bipush 32, 2) := by decide +kernel
theorem dX6_letter_25 : decode cX6_letter 25 = .ok (.ireturn, 1) := by decide +kernel
theorem dX6_fault_0 : decode cX6_fault 0 = .ok (.bipush (-20), 2) := by decide +kernel
theorem dX6_fault_2 : decode cX6_fault 2 = .ok (.aload_n 0, 1) := by decide +kernel
theorem dX6_fault_3 : decode cX6_fault 3 = .ok (.getfield 22, 3) := by decide +kernel
theorem dX6_fault_6 : decode cX6_fault 6 = .ok (.isub, 1) := by decide +kernel
theorem dX6_fault_7 : decode cX6_fault 7 = .ok (.ireturn, 1) := by decide +kernel
theorem dX6_readFurrow_0 : decode cX6_readFurrow 0 = .ok (.aload_n 1, 1) := by decide +kernel
theorem dX6_readFurrow_1 : decode cX6_readFurrow 1 = .ok (.invokevirtual 41, 3) := by decide +kernel
theorem dX6_readFurrow_4 : decode cX6_readFurrow 4 = .ok (.aload_n 1, 1) := by decide +kernel
theorem dX6_readFurrow_5 : decode cX6_readFurrow 5 = .ok (.aload_n 0, 1) := by decide +kernel
theorem dX6_readFurrow_6 : decode cX6_readFurrow 6 = .ok (.invokevirtual 46, 3) := by decide +kernel
theorem dX6_readFurrow_9 : decode cX6_readFurrow 9 = .ok (.invokevirtual 50, 3) := by decide +kernel
theorem dX6_readFurrow_12 : decode cX6_readFurrow 12 = .ok (.ifCond .ne 8, 3) := by decide +kernel
theorem dX6_readFurrow_15 : decode cX6_readFurrow 15 = .ok (.aload_n 0, 1) := by decide +kernel
theorem dX6_readFurrow_16 : decode cX6_readFurrow 16 = .ok (.invokevirtual 54, 3) := by decide +kernel
theorem dX6_readFurrow_19 : decode cX6_readFurrow 19 = .ok (.ireturn, 1) := by decide +kernel
theorem dX6_readFurrow_20 : decode cX6_readFurrow 20 = .ok (.iconst 0, 1) := by decide +kernel
theorem dX6_readFurrow_21 : decode cX6_readFurrow 21 = .ok (.istore_n 2, 1) := by decide +kernel
theorem dX6_readFurrow_22 : decode cX6_readFurrow 22 = .ok (.iload_n 2, 1) := by decide +kernel
theorem dX6_readFurrow_23 : decode cX6_readFurrow 23 = .ok (.bipush 36, 2) := by decide +kernel
theorem dX6_readFurrow_25 : decode cX6_readFurrow 25 = .ok (.if_icmp .ge 52, 3) := by decide +kernel
theorem dX6_readFurrow_28 : decode cX6_readFurrow 28 = .ok (.aload_n 0, 1) := by decide +kernel
theorem dX6_readFurrow_29 : decode cX6_readFurrow 29 = .ok (.getfield 22, 3) := by decide +kernel
theorem dX6_readFurrow_32 : decode cX6_readFurrow 32 = .ok (.aload_n 0, 1) := by decide +kernel
theorem dX6_readFurrow_33 : decode cX6_readFurrow 33 = .ok (.getfield 19, 3) := by decide +kernel
theorem dX6_readFurrow_36 : decode cX6_readFurrow 36 = .ok (.if_icmp .ge 41, 3) := by decide +kernel
theorem dX6_readFurrow_39 : decode cX6_readFurrow 39 = .ok (.aload_n 0, 1) := by decide +kernel
theorem dX6_readFurrow_40 : decode cX6_readFurrow 40 = .ok (.invokevirtual 57, 3) := by decide +kernel
theorem dX6_readFurrow_43 : decode cX6_readFurrow 43 = .ok (.invokestatic 60, 3) := by decide +kernel
theorem dX6_readFurrow_46 : decode cX6_readFurrow 46 = .ok (.istore_n 3, 1) := by decide +kernel
theorem dX6_readFurrow_47 : decode cX6_readFurrow 47 = .ok (.aload_n 1, 1) := by decide +kernel
theorem dX6_readFurrow_48 : decode cX6_readFurrow 48 = .ok (.aload_n 1, 1) := by decide +kernel
theorem dX6_readFurrow_49 : decode cX6_readFurrow 49 = .ok (.invokevirtual 66, 3) := by decide +kernel
theorem dX6_readFurrow_52 : decode cX6_readFurrow 52 = .ok (.iload_n 3, 1) := by decide +kernel
theorem dX6_readFurrow_53 : decode cX6_readFurrow 53 = .ok (.invokestatic 69, 3) := by decide +kernel
theorem dX6_readFurrow_56 : decode cX6_readFurrow 56 = .ok (.invokevirtual 50, 3) := by decide +kernel
theorem dX6_readFurrow_59 : decode cX6_readFurrow 59 = .ok (.ifCond .ne 8, 3) := by decide +kernel
theorem dX6_readFurrow_62 : decode cX6_readFurrow 62 = .ok (.aload_n 0, 1) := by decide +kernel
theorem dX6_readFurrow_63 : decode cX6_readFurrow 63 = .ok (.invokevirtual 54, 3) := by decide +kernel
theorem dX6_readFurrow_66 : decode cX6_readFurrow 66 = .ok (.ireturn, 1) := by decide +kernel
theorem dX6_readFurrow_67 : decode cX6_readFurrow 67 = .ok (.aload_n 0, 1) := by decide +kernel
theorem dX6_readFurrow_68 : decode cX6_readFurrow 68 = .ok (.invokevirtual 38, 3) := by decide +kernel
theorem dX6_readFurrow_71 : decode cX6_readFurrow 71 = .ok (.iinc 2 1, 3) := by decide +kernel
theorem dX6_readFurrow_74 : decode cX6_readFurrow 74 = .ok (.goto (-52), 3) := by decide +kernel
theorem dX6_readFurrow_77 : decode cX6_readFurrow 77 = .ok (.aload_n 1, 1) := by decide +kernel
theorem dX6_readFurrow_78 : decode cX6_readFurrow 78 = .ok (.getfield 73, 3) := by decide +kernel
theorem dX6_readFurrow_81 : decode cX6_readFurrow 81 = .ok (.ireturn, 1) := by decide +kernel
theorem dX6_readSeen_0 : decode cX6_readSeen 0 = .ok (.aload_n 0, 1) := by decide +kernel
theorem dX6_readSeen_1 : decode cX6_readSeen 1 = .ok (.lconst 0, 1) := by decide +kernel
theorem dX6_readSeen_2 : decode cX6_readSeen 2 = .ok (.putfield 25, 3) := by decide +kernel
theorem dX6_readSeen_5 : decode cX6_readSeen 5 = .ok (.aload_n 0, 1) := by decide +kernel
theorem dX6_readSeen_6 : decode cX6_readSeen 6 = .ok (.lconst 0, 1) := by decide +kernel
theorem dX6_readSeen_7 : decode cX6_readSeen 7 = .ok (.putfield 29, 3) := by decide +kernel
theorem dX6_readSeen_10 : decode cX6_readSeen 10 = .ok (.iconst 1, 1) := by decide +kernel
theorem dX6_readSeen_11 : decode cX6_readSeen 11 = .ok (.istore_n 1, 1) := by decide +kernel
theorem dX6_readSeen_12 : decode cX6_readSeen 12 = .ok (.iload_n 1, 1) := by decide +kernel
theorem dX6_readSeen_13 : decode cX6_readSeen 13 = .ok (.bipush 12, 2) := by decide +kernel
theorem dX6_readSeen_15 : decode cX6_readSeen 15 = .ok (.if_icmp .gt 58, 3) := by decide +kernel
theorem dX6_readSeen_18 : decode cX6_readSeen 18 = .ok (.aload_n 0, 1) := by decide +kernel
theorem dX6_readSeen_19 : decode cX6_readSeen 19 = .ok (.invokevirtual 74, 3) := by decide +kernel
theorem dX6_readSeen_22 : decode cX6_readSeen 22 = .ok (.ifCond .ne 8, 3) := by decide +kernel
theorem dX6_readSeen_25 : decode cX6_readSeen 25 = .ok (.aload_n 0, 1) := by decide +kernel
theorem dX6_readSeen_26 : decode cX6_readSeen 26 = .ok (.invokevirtual 54, 3) := by decide +kernel
theorem dX6_readSeen_29 : decode cX6_readSeen 29 = .ok (.ireturn, 1) := by decide +kernel
theorem dX6_readSeen_30 : decode cX6_readSeen 30 = .ok (.aload_n 0, 1) := by decide +kernel
theorem dX6_readSeen_31 : decode cX6_readSeen 31 = .ok (.getfield 22, 3) := by decide +kernel
theorem dX6_readSeen_34 : decode cX6_readSeen 34 = .ok (.aload_n 0, 1) := by decide +kernel
theorem dX6_readSeen_35 : decode cX6_readSeen 35 = .ok (.getfield 19, 3) := by decide +kernel
theorem dX6_readSeen_38 : decode cX6_readSeen 38 = .ok (.if_icmp .lt 5, 3) := by decide +kernel
theorem dX6_readSeen_41 : decode cX6_readSeen 41 = .ok (.iload_n 1, 1) := by decide +kernel
theorem dX6_readSeen_42 : decode cX6_readSeen 42 = .ok (.ireturn, 1) := by decide +kernel
theorem dX6_readSeen_43 : decode cX6_readSeen 43 = .ok (.aload_n 0, 1) := by decide +kernel
theorem dX6_readSeen_44 : decode cX6_readSeen 44 = .ok (.invokevirtual 57, 3) := by decide +kernel
theorem dX6_readSeen_47 : decode cX6_readSeen 47 = .ok (.bipush 44, 2) := by decide +kernel
theorem dX6_readSeen_49 : decode cX6_readSeen 49 = .ok (.if_icmp .ne 9, 3) := by decide +kernel
theorem dX6_readSeen_52 : decode cX6_readSeen 52 = .ok (.iload_n 1, 1) := by decide +kernel
theorem dX6_readSeen_53 : decode cX6_readSeen 53 = .ok (.bipush 12, 2) := by decide +kernel
theorem dX6_readSeen_55 : decode cX6_readSeen 55 = .ok (.if_icmp .ne 8, 3) := by decide +kernel
theorem dX6_readSeen_58 : decode cX6_readSeen 58 = .ok (.aload_n 0, 1) := by decide +kernel
theorem dX6_readSeen_59 : decode cX6_readSeen 59 = .ok (.invokevirtual 54, 3) := by decide +kernel
theorem dX6_readSeen_62 : decode cX6_readSeen 62 = .ok (.ireturn, 1) := by decide +kernel
theorem dX6_readSeen_63 : decode cX6_readSeen 63 = .ok (.aload_n 0, 1) := by decide +kernel
theorem dX6_readSeen_64 : decode cX6_readSeen 64 = .ok (.invokevirtual 38, 3) := by decide +kernel
theorem dX6_readSeen_67 : decode cX6_readSeen 67 = .ok (.iinc 1 1, 3) := by decide +kernel
theorem dX6_readSeen_70 : decode cX6_readSeen 70 = .ok (.goto (-58), 3) := by decide +kernel
theorem dX6_readSeen_73 : decode cX6_readSeen 73 = .ok (.aload_n 0, 1) := by decide +kernel
theorem dX6_readSeen_74 : decode cX6_readSeen 74 = .ok (.invokevirtual 54, 3) := by decide +kernel
theorem dX6_readSeen_77 : decode cX6_readSeen 77 = .ok (.ireturn, 1) := by decide +kernel
theorem dX6_readPart_0 : decode cX6_readPart 0 = .ok (.aload_n 0, 1) := by decide +kernel
theorem dX6_readPart_1 : decode cX6_readPart 1 = .ok (.invokevirtual 46, 3) := by decide +kernel
theorem dX6_readPart_4 : decode cX6_readPart 4 = .ok (.istore_n 1, 1) := by decide +kernel
theorem dX6_readPart_5 : decode cX6_readPart 5 = .ok (.iload_n 1, 1) := by decide +kernel
theorem dX6_readPart_6 : decode cX6_readPart 6 = .ok (.ifCond .ge 5, 3) := by decide +kernel
theorem dX6_readPart_9 : decode cX6_readPart 9 = .ok (.iconst 0, 1) := by decide +kernel
theorem dX6_readPart_10 : decode cX6_readPart 10 = .ok (.ireturn, 1) := by decide +kernel
theorem dX6_readPart_11 : decode cX6_readPart 11 = .ok (.iload_n 1, 1) := by decide +kernel
theorem dX6_readPart_12 : decode cX6_readPart 12 = .ok (.aload_n 0, 1) := by decide +kernel
theorem dX6_readPart_13 : decode cX6_readPart 13 = .ok (.invokevirtual 57, 3) := by decide +kernel
theorem dX6_readPart_16 : decode cX6_readPart 16 = .ok (.invokestatic 60, 3) := by decide +kernel
theorem dX6_readPart_19 : decode cX6_readPart 19 = .ok (.invokestatic 78, 3) := by decide +kernel
theorem dX6_readPart_22 : decode cX6_readPart 22 = .ok (.lstore_n 2, 1) := by decide +kernel
theorem dX6_readPart_23 : decode cX6_readPart 23 = .ok (.lload_n 2, 1) := by decide +kernel
theorem dX6_readPart_24 : decode cX6_readPart 24 = .ok (.lconst 0, 1) := by decide +kernel
theorem dX6_readPart_25 : decode cX6_readPart 25 = .ok (.lcmp, 1) := by decide +kernel
theorem dX6_readPart_26 : decode cX6_readPart 26 = .ok (.ifCond .ne 5, 3) := by decide +kernel
theorem dX6_readPart_29 : decode cX6_readPart 29 = .ok (.iconst 0, 1) := by decide +kernel
theorem dX6_readPart_30 : decode cX6_readPart 30 = .ok (.ireturn, 1) := by decide +kernel
theorem dX6_readPart_31 : decode cX6_readPart 31 = .ok (.aload_n 0, 1) := by decide +kernel
theorem dX6_readPart_32 : decode cX6_readPart 32 = .ok (.invokevirtual 38, 3) := by decide +kernel
theorem dX6_readPart_35 : decode cX6_readPart 35 = .ok (.aload_n 0, 1) := by decide +kernel
theorem dX6_readPart_36 : decode cX6_readPart 36 = .ok (.invokevirtual 57, 3) := by decide +kernel
theorem dX6_readPart_39 : decode cX6_readPart 39 = .ok (.bipush 43, 2) := by decide +kernel
theorem dX6_readPart_41 : decode cX6_readPart 41 = .ok (.if_icmp .ne 27, 3) := by decide +kernel
theorem dX6_readPart_44 : decode cX6_readPart 44 = .ok (.aload_n 0, 1) := by decide +kernel
theorem dX6_readPart_45 : decode cX6_readPart 45 = .ok (.getfield 29, 3) := by decide +kernel
theorem dX6_readPart_48 : decode cX6_readPart 48 = .ok (.lload_n 2, 1) := by decide +kernel
theorem dX6_readPart_49 : decode cX6_readPart 49 = .ok (.land, 1) := by decide +kernel
theorem dX6_readPart_50 : decode cX6_readPart 50 = .ok (.lconst 0, 1) := by decide +kernel
theorem dX6_readPart_51 : decode cX6_readPart 51 = .ok (.lcmp, 1) := by decide +kernel
theorem dX6_readPart_52 : decode cX6_readPart 52 = .ok (.ifCond .ne 16, 3) := by decide +kernel
theorem dX6_readPart_55 : decode cX6_readPart 55 = .ok (.aload_n 0, 1) := by decide +kernel
theorem dX6_readPart_56 : decode cX6_readPart 56 = .ok (.dup, 1) := by decide +kernel
theorem dX6_readPart_57 : decode cX6_readPart 57 = .ok (.getfield 25, 3) := by decide +kernel
theorem dX6_readPart_60 : decode cX6_readPart 60 = .ok (.lload_n 2, 1) := by decide +kernel
theorem dX6_readPart_61 : decode cX6_readPart 61 = .ok (.lor, 1) := by decide +kernel
theorem dX6_readPart_62 : decode cX6_readPart 62 = .ok (.putfield 25, 3) := by decide +kernel
theorem dX6_readPart_65 : decode cX6_readPart 65 = .ok (.goto 38, 3) := by decide +kernel
theorem dX6_readPart_68 : decode cX6_readPart 68 = .ok (.aload_n 0, 1) := by decide +kernel
theorem dX6_readPart_69 : decode cX6_readPart 69 = .ok (.invokevirtual 57, 3) := by decide +kernel
theorem dX6_readPart_72 : decode cX6_readPart 72 = .ok (.bipush 45, 2) := by decide +kernel
theorem dX6_readPart_74 : decode cX6_readPart 74 = .ok (.if_icmp .ne 27, 3) := by decide +kernel
theorem dX6_readPart_77 : decode cX6_readPart 77 = .ok (.aload_n 0, 1) := by decide +kernel
theorem dX6_readPart_78 : decode cX6_readPart 78 = .ok (.getfield 25, 3) := by decide +kernel
theorem dX6_readPart_81 : decode cX6_readPart 81 = .ok (.lload_n 2, 1) := by decide +kernel
theorem dX6_readPart_82 : decode cX6_readPart 82 = .ok (.land, 1) := by decide +kernel
theorem dX6_readPart_83 : decode cX6_readPart 83 = .ok (.lconst 0, 1) := by decide +kernel
theorem dX6_readPart_84 : decode cX6_readPart 84 = .ok (.lcmp, 1) := by decide +kernel
theorem dX6_readPart_85 : decode cX6_readPart 85 = .ok (.ifCond .ne 16, 3) := by decide +kernel
theorem dX6_readPart_88 : decode cX6_readPart 88 = .ok (.aload_n 0, 1) := by decide +kernel
theorem dX6_readPart_89 : decode cX6_readPart 89 = .ok (.dup, 1) := by decide +kernel
theorem dX6_readPart_90 : decode cX6_readPart 90 = .ok (.getfield 29, 3) := by decide +kernel
theorem dX6_readPart_93 : decode cX6_readPart 93 = .ok (.lload_n 2, 1) := by decide +kernel
theorem dX6_readPart_94 : decode cX6_readPart 94 = .ok (.lor, 1) := by decide +kernel
theorem dX6_readPart_95 : decode cX6_readPart 95 = .ok (.putfield 29, 3) := by decide +kernel
theorem dX6_readPart_98 : decode cX6_readPart 98 = .ok (.goto 5, 3) := by decide +kernel
theorem dX6_readPart_101 : decode cX6_readPart 101 = .ok (.iconst 0, 1) := by decide +kernel
theorem dX6_readPart_102 : decode cX6_readPart 102 = .ok (.ireturn, 1) := by decide +kernel
theorem dX6_readPart_103 : decode cX6_readPart 103 = .ok (.aload_n 0, 1) := by decide +kernel
theorem dX6_readPart_104 : decode cX6_readPart 104 = .ok (.invokevirtual 38, 3) := by decide +kernel
theorem dX6_readPart_107 : decode cX6_readPart 107 = .ok (.iconst 1, 1) := by decide +kernel
theorem dX6_readPart_108 : decode cX6_readPart 108 = .ok (.ireturn, 1) := by decide +kernel
theorem dX6_readSquare_0 : decode cX6_readSquare 0 = .ok (.aload_n 0, 1) := by decide +kernel
theorem dX6_readSquare_1 : decode cX6_readSquare 1 = .ok (.invokevirtual 82, 3) := by decide +kernel
theorem dX6_readSquare_4 : decode cX6_readSquare 4 = .ok (.istore_n 1, 1) := by decide +kernel
theorem dX6_readSquare_5 : decode cX6_readSquare 5 = .ok (.iload_n 1, 1) := by decide +kernel
theorem dX6_readSquare_6 : decode cX6_readSquare 6 = .ok (.ifCond .ge 6, 3) := by decide +kernel
theorem dX6_readSquare_9 : decode cX6_readSquare 9 = .ok (.bipush (-4), 2) := by decide +kernel
theorem dX6_readSquare_11 : decode cX6_readSquare 11 = .ok (.ireturn, 1) := by decide +kernel
theorem dX6_readSquare_12 : decode cX6_readSquare 12 = .ok (.aload_n 0, 1) := by decide +kernel
theorem dX6_readSquare_13 : decode cX6_readSquare 13 = .ok (.invokevirtual 82, 3) := by decide +kernel
theorem dX6_readSquare_16 : decode cX6_readSquare 16 = .ok (.istore_n 2, 1) := by decide +kernel
theorem dX6_readSquare_17 : decode cX6_readSquare 17 = .ok (.iload_n 2, 1) := by decide +kernel
theorem dX6_readSquare_18 : decode cX6_readSquare 18 = .ok (.ifCond .ge 8, 3) := by decide +kernel
theorem dX6_readSquare_21 : decode cX6_readSquare 21 = .ok (.bipush (-4), 2) := by decide +kernel
theorem dX6_readSquare_23 : decode cX6_readSquare 23 = .ok (.goto 9, 3) := by decide +kernel
theorem dX6_readSquare_26 : decode cX6_readSquare 26 = .ok (.iload_n 1, 1) := by decide +kernel
theorem dX6_readSquare_27 : decode cX6_readSquare 27 = .ok (.bipush 6, 2) := by decide +kernel
theorem dX6_readSquare_29 : decode cX6_readSquare 29 = .ok (.imul, 1) := by decide +kernel
theorem dX6_readSquare_30 : decode cX6_readSquare 30 = .ok (.iload_n 2, 1) := by decide +kernel
theorem dX6_readSquare_31 : decode cX6_readSquare 31 = .ok (.iadd, 1) := by decide +kernel
theorem dX6_readSquare_32 : decode cX6_readSquare 32 = .ok (.ireturn, 1) := by decide +kernel
theorem dX6_readDigit_0 : decode cX6_readDigit 0 = .ok (.aload_n 0, 1) := by decide +kernel
theorem dX6_readDigit_1 : decode cX6_readDigit 1 = .ok (.invokevirtual 57, 3) := by decide +kernel
theorem dX6_readDigit_4 : decode cX6_readDigit 4 = .ok (.bipush 48, 2) := by decide +kernel
theorem dX6_readDigit_6 : decode cX6_readDigit 6 = .ok (.isub, 1) := by decide +kernel
theorem dX6_readDigit_7 : decode cX6_readDigit 7 = .ok (.istore_n 1, 1) := by decide +kernel
theorem dX6_readDigit_8 : decode cX6_readDigit 8 = .ok (.iload_n 1, 1) := by decide +kernel
theorem dX6_readDigit_9 : decode cX6_readDigit 9 = .ok (.ifCond .lt 9, 3) := by decide +kernel
theorem dX6_readDigit_12 : decode cX6_readDigit 12 = .ok (.iload_n 1, 1) := by decide +kernel
theorem dX6_readDigit_13 : decode cX6_readDigit 13 = .ok (.bipush 6, 2) := by decide +kernel
theorem dX6_readDigit_15 : decode cX6_readDigit 15 = .ok (.if_icmp .lt 6, 3) := by decide +kernel
theorem dX6_readDigit_18 : decode cX6_readDigit 18 = .ok (.bipush (-4), 2) := by decide +kernel
theorem dX6_readDigit_20 : decode cX6_readDigit 20 = .ok (.ireturn, 1) := by decide +kernel
theorem dX6_readDigit_21 : decode cX6_readDigit 21 = .ok (.aload_n 0, 1) := by decide +kernel
theorem dX6_readDigit_22 : decode cX6_readDigit 22 = .ok (.invokevirtual 38, 3) := by decide +kernel
theorem dX6_readDigit_25 : decode cX6_readDigit 25 = .ok (.iload_n 1, 1) := by decide +kernel
theorem dX6_readDigit_26 : decode cX6_readDigit 26 = .ok (.ireturn, 1) := by decide +kernel
theorem dX7_init_0 : decode cX7_init 0 = .ok (.aload_n 0, 1) := by decide +kernel
theorem dX7_init_1 : decode cX7_init 1 = .ok (.invokespecial 3, 3) := by decide +kernel
theorem dX7_init_4 : decode cX7_init 4 = .ok (.aload_n 0, 1) := by decide +kernel
theorem dX7_init_5 : decode cX7_init 5 = .ok (.bipush 36, 2) := by decide +kernel
theorem dX7_init_7 : decode cX7_init 7 = .ok (.newarray .int, 2) := by decide +kernel
theorem dX7_init_9 : decode cX7_init 9 = .ok (.putfield 9, 3) := by decide +kernel
theorem dX7_init_12 : decode cX7_init 12 = .ok (.aload_n 0, 1) := by decide +kernel
theorem dX7_init_13 : decode cX7_init 13 = .ok (.iconst 0, 1) := by decide +kernel
theorem dX7_init_14 : decode cX7_init 14 = .ok (.putfield 15, 3) := by decide +kernel
theorem dX7_init_17 : decode cX7_init 17 = .ok (.aload_n 0, 1) := by decide +kernel
theorem dX7_init_18 : decode cX7_init 18 = .ok (.iconst 0, 1) := by decide +kernel
theorem dX7_init_19 : decode cX7_init 19 = .ok (.putfield 19, 3) := by decide +kernel
theorem dX7_init_22 : decode cX7_init 22 = .ok (.aload_n 0, 1) := by decide +kernel
theorem dX7_init_23 : decode cX7_init 23 = .ok (.iconst 0, 1) := by decide +kernel
theorem dX7_init_24 : decode cX7_init 24 = .ok (.putfield 22, 3) := by decide +kernel
theorem dX7_init_27 : decode cX7_init 27 = .ok (.return_, 1) := by decide +kernel
theorem dX7_begin_0 : decode cX7_begin 0 = .ok (.aload_n 0, 1) := by decide +kernel
theorem dX7_begin_1 : decode cX7_begin 1 = .ok (.iload_n 1, 1) := by decide +kernel
theorem dX7_begin_2 : decode cX7_begin 2 = .ok (.putfield 15, 3) := by decide +kernel
theorem dX7_begin_5 : decode cX7_begin 5 = .ok (.aload_n 0, 1) := by decide +kernel
theorem dX7_begin_6 : decode cX7_begin 6 = .ok (.iload_n 2, 1) := by decide +kernel
theorem dX7_begin_7 : decode cX7_begin 7 = .ok (.putfield 19, 3) := by decide +kernel
theorem dX7_begin_10 : decode cX7_begin 10 = .ok (.aload_n 0, 1) := by decide +kernel
theorem dX7_begin_11 : decode cX7_begin 11 = .ok (.iload_n 3, 1) := by decide +kernel
theorem dX7_begin_12 : decode cX7_begin 12 = .ok (.putfield 22, 3) := by decide +kernel
theorem dX7_begin_15 : decode cX7_begin 15 = .ok (.iconst 0, 1) := by decide +kernel
theorem dX7_begin_16 : decode cX7_begin 16 = .ok (.istore 4, 2) := by decide +kernel
theorem dX7_begin_18 : decode cX7_begin 18 = .ok (.iload 4, 2) := by decide +kernel
theorem dX7_begin_20 : decode cX7_begin 20 = .ok (.bipush 36, 2) := by decide +kernel
theorem dX7_begin_22 : decode cX7_begin 22 = .ok (.if_icmp .ge 17, 3) := by decide +kernel
theorem dX7_begin_25 : decode cX7_begin 25 = .ok (.aload_n 0, 1) := by decide +kernel
theorem dX7_begin_26 : decode cX7_begin 26 = .ok (.getfield 9, 3) := by decide +kernel
theorem dX7_begin_29 : decode cX7_begin 29 = .ok (.iload 4, 2) := by decide +kernel
theorem dX7_begin_31 : decode cX7_begin 31 = .ok (.iconst 0, 1) := by decide +kernel
theorem dX7_begin_32 : decode cX7_begin 32 = .ok (.iastore, 1) := by decide +kernel
theorem dX7_begin_33 : decode cX7_begin 33 = .ok (.iinc 4 1, 3) := by decide +kernel
theorem dX7_begin_36 : decode cX7_begin 36 = .ok (.goto (-18), 3) := by decide +kernel
theorem dX7_begin_39 : decode cX7_begin 39 = .ok (.return_, 1) := by decide +kernel
theorem dX7_step_0 : decode cX7_step 0 = .ok (.aload_n 0, 1) := by decide +kernel
theorem dX7_step_1 : decode cX7_step 1 = .ok (.aload_n 1, 1) := by decide +kernel
theorem dX7_step_2 : decode cX7_step 2 = .ok (.invokevirtual 25, 3) := by decide +kernel
theorem dX7_step_5 : decode cX7_step 5 = .ok (.istore_n 2, 1) := by decide +kernel
theorem dX7_step_6 : decode cX7_step 6 = .ok (.aload_n 0, 1) := by decide +kernel
theorem dX7_step_7 : decode cX7_step 7 = .ok (.getfield 19, 3) := by decide +kernel
theorem dX7_step_10 : decode cX7_step 10 = .ok (.iload_n 2, 1) := by decide +kernel
theorem dX7_step_11 : decode cX7_step 11 = .ok (.invokestatic 29, 3) := by decide +kernel
theorem dX7_step_14 : decode cX7_step 14 = .ok (.istore_n 3, 1) := by decide +kernel
theorem dX7_step_15 : decode cX7_step 15 = .ok (.iload_n 3, 1) := by decide +kernel
theorem dX7_step_16 : decode cX7_step 16 = .ok (.ifCond .ge 4, 3) := by decide +kernel
theorem dX7_step_19 : decode cX7_step 19 = .ok (.return_, 1) := by decide +kernel
theorem dX7_step_20 : decode cX7_step 20 = .ok (.aload_n 0, 1) := by decide +kernel
theorem dX7_step_21 : decode cX7_step 21 = .ok (.getfield 9, 3) := by decide +kernel
theorem dX7_step_24 : decode cX7_step 24 = .ok (.aload_n 0, 1) := by decide +kernel
theorem dX7_step_25 : decode cX7_step 25 = .ok (.getfield 19, 3) := by decide +kernel
theorem dX7_step_28 : decode cX7_step 28 = .ok (.dup2, 1) := by decide +kernel
theorem dX7_step_29 : decode cX7_step 29 = .ok (.iaload, 1) := by decide +kernel
theorem dX7_step_30 : decode cX7_step 30 = .ok (.iconst 1, 1) := by decide +kernel
theorem dX7_step_31 : decode cX7_step 31 = .ok (.iadd, 1) := by decide +kernel
theorem dX7_step_32 : decode cX7_step 32 = .ok (.iastore, 1) := by decide +kernel
theorem dX7_step_33 : decode cX7_step 33 = .ok (.aload_n 0, 1) := by decide +kernel
theorem dX7_step_34 : decode cX7_step 34 = .ok (.iload_n 3, 1) := by decide +kernel
theorem dX7_step_35 : decode cX7_step 35 = .ok (.putfield 19, 3) := by decide +kernel
theorem dX7_step_38 : decode cX7_step 38 = .ok (.aload_n 0, 1) := by decide +kernel
theorem dX7_step_39 : decode cX7_step 39 = .ok (.iload_n 2, 1) := by decide +kernel
theorem dX7_step_40 : decode cX7_step 40 = .ok (.putfield 22, 3) := by decide +kernel
theorem dX7_step_43 : decode cX7_step 43 = .ok (.return_, 1) := by decide +kernel
theorem dX7_chosenSide_0 : decode cX7_chosenSide 0 = .ok (.aload_n 0, 1) := by decide +kernel
theorem dX7_chosenSide_1 : decode cX7_chosenSide 1 = .ok (.getfield 15, 3) := by decide +kernel
theorem dX7_chosenSide_4 : decode cX7_chosenSide 4 = .ok (.ifCond .ne 10, 3) := by decide +kernel
theorem dX7_chosenSide_7 : decode cX7_chosenSide 7 = .ok (.aload_n 0, 1) := by decide +kernel
theorem dX7_chosenSide_8 : decode cX7_chosenSide 8 = .ok (.getfield 22, 3) := by decide +kernel
theorem dX7_chosenSide_11 : decode cX7_chosenSide 11 = .ok (.goto 10, 3) := by decide +kernel
theorem dX7_chosenSide_14 : decode cX7_chosenSide 14 = .ok (.aload_n 0, 1) := by decide +kernel
theorem dX7_chosenSide_15 : decode cX7_chosenSide 15 = .ok (.getfield 22, 3) := by decide +kernel
theorem dX7_chosenSide_18 : decode cX7_chosenSide 18 = .ok (.invokestatic 35, 3) := by decide +kernel
theorem dX7_chosenSide_21 : decode cX7_chosenSide 21 = .ok (.istore_n 2, 1) := by decide +kernel
theorem dX7_chosenSide_22 : decode cX7_chosenSide 22 = .ok (.bipush (-4), 2) := by decide +kernel
theorem dX7_chosenSide_24 : decode cX7_chosenSide 24 = .ok (.istore_n 3, 1) := by decide +kernel
theorem dX7_chosenSide_25 : decode cX7_chosenSide 25 = .ok (.iconst 0, 1) := by decide +kernel
theorem dX7_chosenSide_26 : decode cX7_chosenSide 26 = .ok (.istore 4, 2) := by decide +kernel
theorem dX7_chosenSide_28 : decode cX7_chosenSide 28 = .ok (.iload 4, 2) := by decide +kernel
theorem dX7_chosenSide_30 : decode cX7_chosenSide 30 = .ok (.iconst 4, 1) := by decide +kernel
theorem dX7_chosenSide_31 : decode cX7_chosenSide 31 = .ok (.if_icmp .ge 54, 3) := by decide +kernel
theorem dX7_chosenSide_34 : decode cX7_chosenSide 34 = .ok (.aload_n 1, 1) := by decide +kernel
theorem dX7_chosenSide_35 : decode cX7_chosenSide 35 = .ok (.aload_n 0, 1) := by decide +kernel
theorem dX7_chosenSide_36 : decode cX7_chosenSide 36 = .ok (.getfield 15, 3) := by decide +kernel
theorem dX7_chosenSide_39 : decode cX7_chosenSide 39 = .ok (.iconst 3, 1) := by decide +kernel
theorem dX7_chosenSide_40 : decode cX7_chosenSide 40 = .ok (.if_icmp .ne 7, 3) := by decide +kernel
theorem dX7_chosenSide_43 : decode cX7_chosenSide 43 = .ok (.iconst 1, 1) := by decide +kernel
theorem dX7_chosenSide_44 : decode cX7_chosenSide 44 = .ok (.goto 4, 3) := by decide +kernel
theorem dX7_chosenSide_47 : decode cX7_chosenSide 47 = .ok (.iconst 0, 1) := by decide +kernel
theorem dX7_chosenSide_48 : decode cX7_chosenSide 48 = .ok (.aload_n 0, 1) := by decide +kernel
theorem dX7_chosenSide_49 : decode cX7_chosenSide 49 = .ok (.getfield 19, 3) := by decide +kernel
theorem dX7_chosenSide_52 : decode cX7_chosenSide 52 = .ok (.iload_n 2, 1) := by decide +kernel
theorem dX7_chosenSide_53 : decode cX7_chosenSide 53 = .ok (.invokevirtual 39, 3) := by decide +kernel
theorem dX7_chosenSide_56 : decode cX7_chosenSide 56 = .ok (.ifCond .eq 18, 3) := by decide +kernel
theorem dX7_chosenSide_59 : decode cX7_chosenSide 59 = .ok (.iload_n 3, 1) := by decide +kernel
theorem dX7_chosenSide_60 : decode cX7_chosenSide 60 = .ok (.ifCond .lt 12, 3) := by decide +kernel
theorem dX7_chosenSide_63 : decode cX7_chosenSide 63 = .ok (.aload_n 0, 1) := by decide +kernel
theorem dX7_chosenSide_64 : decode cX7_chosenSide 64 = .ok (.iload_n 2, 1) := by decide +kernel
theorem dX7_chosenSide_65 : decode cX7_chosenSide 65 = .ok (.iload_n 3, 1) := by decide +kernel
theorem dX7_chosenSide_66 : decode cX7_chosenSide 66 = .ok (.invokevirtual 45, 3) := by decide +kernel
theorem dX7_chosenSide_69 : decode cX7_chosenSide 69 = .ok (.ifCond .eq 5, 3) := by decide +kernel
theorem dX7_chosenSide_72 : decode cX7_chosenSide 72 = .ok (.iload_n 2, 1) := by decide +kernel
theorem dX7_chosenSide_73 : decode cX7_chosenSide 73 = .ok (.istore_n 3, 1) := by decide +kernel
theorem dX7_chosenSide_74 : decode cX7_chosenSide 74 = .ok (.iload_n 2, 1) := by decide +kernel
theorem dX7_chosenSide_75 : decode cX7_chosenSide 75 = .ok (.invokestatic 49, 3) := by decide +kernel
theorem dX7_chosenSide_78 : decode cX7_chosenSide 78 = .ok (.istore_n 2, 1) := by decide +kernel
theorem dX7_chosenSide_79 : decode cX7_chosenSide 79 = .ok (.iinc 4 1, 3) := by decide +kernel
theorem dX7_chosenSide_82 : decode cX7_chosenSide 82 = .ok (.goto (-54), 3) := by decide +kernel
theorem dX7_chosenSide_85 : decode cX7_chosenSide 85 = .ok (.iload_n 3, 1) := by decide +kernel
theorem dX7_chosenSide_86 : decode cX7_chosenSide 86 = .ok (.ireturn, 1) := by decide +kernel
theorem dX7_isBetter_0 : decode cX7_isBetter 0 = .ok (.aload_n 0, 1) := by decide +kernel
theorem dX7_isBetter_1 : decode cX7_isBetter 1 = .ok (.getfield 15, 3) := by decide +kernel
theorem dX7_isBetter_4 : decode cX7_isBetter 4 = .ok (.iconst 2, 1) := by decide +kernel
theorem dX7_isBetter_5 : decode cX7_isBetter 5 = .ok (.if_icmp .lt 20, 3) := by decide +kernel
theorem dX7_isBetter_8 : decode cX7_isBetter 8 = .ok (.aload_n 0, 1) := by decide +kernel
theorem dX7_isBetter_9 : decode cX7_isBetter 9 = .ok (.iload_n 1, 1) := by decide +kernel
theorem dX7_isBetter_10 : decode cX7_isBetter 10 = .ok (.invokevirtual 52, 3) := by decide +kernel
theorem dX7_isBetter_13 : decode cX7_isBetter 13 = .ok (.aload_n 0, 1) := by decide +kernel
theorem dX7_isBetter_14 : decode cX7_isBetter 14 = .ok (.iload_n 2, 1) := by decide +kernel
theorem dX7_isBetter_15 : decode cX7_isBetter 15 = .ok (.invokevirtual 52, 3) := by decide +kernel
theorem dX7_isBetter_18 : decode cX7_isBetter 18 = .ok (.if_icmp .ge 7, 3) := by decide +kernel
theorem dX7_isBetter_21 : decode cX7_isBetter 21 = .ok (.iconst 1, 1) := by decide +kernel
theorem dX7_isBetter_22 : decode cX7_isBetter 22 = .ok (.goto 4, 3) := by decide +kernel
theorem dX7_isBetter_25 : decode cX7_isBetter 25 = .ok (.iconst 0, 1) := by decide +kernel
theorem dX7_isBetter_26 : decode cX7_isBetter 26 = .ok (.ireturn, 1) := by decide +kernel
theorem dX7_marksAt_0 : decode cX7_marksAt 0 = .ok (.aload_n 0, 1) := by decide +kernel
theorem dX7_marksAt_1 : decode cX7_marksAt 1 = .ok (.getfield 19, 3) := by decide +kernel
theorem dX7_marksAt_4 : decode cX7_marksAt 4 = .ok (.iload_n 1, 1) := by decide +kernel
theorem dX7_marksAt_5 : decode cX7_marksAt 5 = .ok (.invokestatic 29, 3) := by decide +kernel
theorem dX7_marksAt_8 : decode cX7_marksAt 8 = .ok (.istore_n 2, 1) := by decide +kernel
theorem dX7_marksAt_9 : decode cX7_marksAt 9 = .ok (.iload_n 2, 1) := by decide +kernel
theorem dX7_marksAt_10 : decode cX7_marksAt 10 = .ok (.ifCond .ge 7, 3) := by decide +kernel
theorem dX7_marksAt_13 : decode cX7_marksAt 13 = .ok (.iconst 0, 1) := by decide +kernel
theorem dX7_marksAt_14 : decode cX7_marksAt 14 = .ok (.goto 9, 3) := by decide +kernel
theorem dX7_marksAt_17 : decode cX7_marksAt 17 = .ok (.aload_n 0, 1) := by decide +kernel
theorem dX7_marksAt_18 : decode cX7_marksAt 18 = .ok (.getfield 9, 3) := by decide +kernel
theorem dX7_marksAt_21 : decode cX7_marksAt 21 = .ok (.iload_n 2, 1) := by decide +kernel
theorem dX7_marksAt_22 : decode cX7_marksAt 22 = .ok (.iaload, 1) := by decide +kernel
theorem dX7_marksAt_23 : decode cX7_marksAt 23 = .ok (.ireturn, 1) := by decide +kernel
theorem dX8_init_0 : decode cX8_init 0 = .ok (.aload_n 0, 1) := by decide +kernel
theorem dX8_init_1 : decode cX8_init 1 = .ok (.invokespecial 3, 3) := by decide +kernel
theorem dX8_init_4 : decode cX8_init 4 = .ok (.aload_n 0, 1) := by decide +kernel
theorem dX8_init_5 : decode cX8_init 5 = .ok (.bipush 72, 2) := by decide +kernel
theorem dX8_init_7 : decode cX8_init 7 = .ok (.newarray .int, 2) := by decide +kernel
theorem dX8_init_9 : decode cX8_init 9 = .ok (.putfield 9, 3) := by decide +kernel
theorem dX8_init_12 : decode cX8_init 12 = .ok (.aload_n 0, 1) := by decide +kernel
theorem dX8_init_13 : decode cX8_init 13 = .ok (.bipush 72, 2) := by decide +kernel
theorem dX8_init_15 : decode cX8_init 15 = .ok (.newarray .int, 2) := by decide +kernel
theorem dX8_init_17 : decode cX8_init 17 = .ok (.putfield 15, 3) := by decide +kernel
theorem dX8_init_20 : decode cX8_init 20 = .ok (.aload_n 0, 1) := by decide +kernel
theorem dX8_init_21 : decode cX8_init 21 = .ok (.iconst 0, 1) := by decide +kernel
theorem dX8_init_22 : decode cX8_init 22 = .ok (.putfield 18, 3) := by decide +kernel
theorem dX8_init_25 : decode cX8_init 25 = .ok (.return_, 1) := by decide +kernel
theorem dX8_measure_0 : decode cX8_measure 0 = .ok (.aload_n 0, 1) := by decide +kernel
theorem dX8_measure_1 : decode cX8_measure 1 = .ok (.invokevirtual 22, 3) := by decide +kernel
theorem dX8_measure_4 : decode cX8_measure 4 = .ok (.aload_n 0, 1) := by decide +kernel
theorem dX8_measure_5 : decode cX8_measure 5 = .ok (.aload_n 1, 1) := by decide +kernel
theorem dX8_measure_6 : decode cX8_measure 6 = .ok (.getfield 25, 3) := by decide +kernel
theorem dX8_measure_9 : decode cX8_measure 9 = .ok (.iconst 0, 1) := by decide +kernel
theorem dX8_measure_10 : decode cX8_measure 10 = .ok (.invokevirtual 30, 3) := by decide +kernel
theorem dX8_measure_13 : decode cX8_measure 13 = .ok (.aload_n 1, 1) := by decide +kernel
theorem dX8_measure_14 : decode cX8_measure 14 = .ok (.iload 5, 2) := by decide +kernel
theorem dX8_measure_16 : decode cX8_measure 16 = .ok (.invokevirtual 34, 3) := by decide +kernel
theorem dX8_measure_19 : decode cX8_measure 19 = .ok (.ifCond .eq 7, 3) := by decide +kernel
theorem dX8_measure_22 : decode cX8_measure 22 = .ok (.lload_n 2, 1) := by decide +kernel
theorem dX8_measure_23 : decode cX8_measure 23 = .ok (.goto 6, 3) := by decide +kernel
theorem dX8_measure_26 : decode cX8_measure 26 = .ok (.ldc2_w 38, 3) := by decide +kernel
theorem dX8_measure_29 : decode cX8_measure 29 = .ok (.lstore 6, 2) := by decide +kernel
theorem dX8_measure_31 : decode cX8_measure 31 = .ok (.iconst 0, 1) := by decide +kernel
theorem dX8_measure_32 : decode cX8_measure 32 = .ok (.istore 8, 2) := by decide +kernel
theorem dX8_measure_34 : decode cX8_measure 34 = .ok (.iload 8, 2) := by decide +kernel
theorem dX8_measure_36 : decode cX8_measure 36 = .ok (.aload_n 0, 1) := by decide +kernel
theorem dX8_measure_37 : decode cX8_measure 37 = .ok (.getfield 18, 3) := by decide +kernel
theorem dX8_measure_40 : decode cX8_measure 40 = .ok (.if_icmp .ge 56, 3) := by decide +kernel
theorem dX8_measure_43 : decode cX8_measure 43 = .ok (.iload 8, 2) := by decide +kernel
theorem dX8_measure_45 : decode cX8_measure 45 = .ok (.aload_n 0, 1) := by decide +kernel
theorem dX8_measure_46 : decode cX8_measure 46 = .ok (.getfield 15, 3) := by decide +kernel
theorem dX8_measure_49 : decode cX8_measure 49 = .ok (.arraylength, 1) := by decide +kernel
theorem dX8_measure_50 : decode cX8_measure 50 = .ok (.if_icmp .ge 46, 3) := by decide +kernel
theorem dX8_measure_53 : decode cX8_measure 53 = .ok (.iload 5, 2) := by decide +kernel
theorem dX8_measure_55 : decode cX8_measure 55 = .ok (.ifCond .ne 20, 3) := by decide +kernel
theorem dX8_measure_58 : decode cX8_measure 58 = .ok (.aload_n 1, 1) := by decide +kernel
theorem dX8_measure_59 : decode cX8_measure 59 = .ok (.aload_n 0, 1) := by decide +kernel
theorem dX8_measure_60 : decode cX8_measure 60 = .ok (.getfield 15, 3) := by decide +kernel
theorem dX8_measure_63 : decode cX8_measure 63 = .ok (.iload 8, 2) := by decide +kernel
theorem dX8_measure_65 : decode cX8_measure 65 = .ok (.iaload, 1) := by decide +kernel
theorem dX8_measure_66 : decode cX8_measure 66 = .ok (.bipush 36, 2) := by decide +kernel
theorem dX8_measure_68 : decode cX8_measure 68 = .ok (.irem, 1) := by decide +kernel
theorem dX8_measure_69 : decode cX8_measure 69 = .ok (.invokevirtual 40, 3) := by decide +kernel
theorem dX8_measure_72 : decode cX8_measure 72 = .ok (.ifCond .ne 18, 3) := by decide +kernel
theorem dX8_measure_75 : decode cX8_measure 75 = .ok (.aload_n 0, 1) := by decide +kernel
theorem dX8_measure_76 : decode cX8_measure 76 = .ok (.lload 6, 2) := by decide +kernel
theorem dX8_measure_78 : decode cX8_measure 78 = .ok (.aload_n 0, 1) := by decide +kernel
theorem dX8_measure_79 : decode cX8_measure 79 = .ok (.getfield 15, 3) := by decide +kernel
theorem dX8_measure_82 : decode cX8_measure 82 = .ok (.iload 8, 2) := by decide +kernel
theorem dX8_measure_84 : decode cX8_measure 84 = .ok (.iaload, 1) := by decide +kernel
theorem dX8_measure_85 : decode cX8_measure 85 = .ok (.iload 4, 2) := by decide +kernel
theorem dX8_measure_87 : decode cX8_measure 87 = .ok (.invokevirtual 44, 3) := by decide +kernel
theorem dX8_measure_90 : decode cX8_measure 90 = .ok (.iinc 8 1, 3) := by decide +kernel
theorem dX8_measure_93 : decode cX8_measure 93 = .ok (.goto (-59), 3) := by decide +kernel
theorem dX8_measure_96 : decode cX8_measure 96 = .ok (.return_, 1) := by decide +kernel
theorem dX8_fewestFrom_0 : decode cX8_fewestFrom 0 = .ok (.iload_n 1, 1) := by decide +kernel
theorem dX8_fewestFrom_1 : decode cX8_fewestFrom 1 = .ok (.invokestatic 48, 3) := by decide +kernel
theorem dX8_fewestFrom_4 : decode cX8_fewestFrom 4 = .ok (.ifCond .ne 6, 3) := by decide +kernel
theorem dX8_fewestFrom_7 : decode cX8_fewestFrom 7 = .ok (.bipush (-4), 2) := by decide +kernel
theorem dX8_fewestFrom_9 : decode cX8_fewestFrom 9 = .ok (.ireturn, 1) := by decide +kernel
theorem dX8_fewestFrom_10 : decode cX8_fewestFrom 10 = .ok (.aload_n 0, 1) := by decide +kernel
theorem dX8_fewestFrom_11 : decode cX8_fewestFrom 11 = .ok (.getfield 9, 3) := by decide +kernel
theorem dX8_fewestFrom_14 : decode cX8_fewestFrom 14 = .ok (.iload_n 1, 1) := by decide +kernel
theorem dX8_fewestFrom_15 : decode cX8_fewestFrom 15 = .ok (.iaload, 1) := by decide +kernel
theorem dX8_fewestFrom_16 : decode cX8_fewestFrom 16 = .ok (.istore_n 2, 1) := by decide +kernel
theorem dX8_fewestFrom_17 : decode cX8_fewestFrom 17 = .ok (.aload_n 0, 1) := by decide +kernel
theorem dX8_fewestFrom_18 : decode cX8_fewestFrom 18 = .ok (.getfield 9, 3) := by decide +kernel
theorem dX8_fewestFrom_21 : decode cX8_fewestFrom 21 = .ok (.bipush 36, 2) := by decide +kernel
theorem dX8_fewestFrom_23 : decode cX8_fewestFrom 23 = .ok (.iload_n 1, 1) := by decide +kernel
theorem dX8_fewestFrom_24 : decode cX8_fewestFrom 24 = .ok (.iadd, 1) := by decide +kernel
theorem dX8_fewestFrom_25 : decode cX8_fewestFrom 25 = .ok (.iaload, 1) := by decide +kernel
theorem dX8_fewestFrom_26 : decode cX8_fewestFrom 26 = .ok (.istore_n 3, 1) := by decide +kernel
theorem dX8_fewestFrom_27 : decode cX8_fewestFrom 27 = .ok (.iload_n 2, 1) := by decide +kernel
theorem dX8_fewestFrom_28 : decode cX8_fewestFrom 28 = .ok (.ifCond .lt 7, 3) := by decide +kernel
theorem dX8_fewestFrom_31 : decode cX8_fewestFrom 31 = .ok (.iload_n 3, 1) := by decide +kernel
theorem dX8_fewestFrom_32 : decode cX8_fewestFrom 32 = .ok (.ifCond .ge 9, 3) := by decide +kernel
theorem dX8_fewestFrom_35 : decode cX8_fewestFrom 35 = .ok (.iload_n 2, 1) := by decide +kernel
theorem dX8_fewestFrom_36 : decode cX8_fewestFrom 36 = .ok (.iload_n 3, 1) := by decide +kernel
theorem dX8_fewestFrom_37 : decode cX8_fewestFrom 37 = .ok (.invokestatic 53, 3) := by decide +kernel
theorem dX8_fewestFrom_40 : decode cX8_fewestFrom 40 = .ok (.ireturn, 1) := by decide +kernel
theorem dX8_fewestFrom_41 : decode cX8_fewestFrom 41 = .ok (.iload_n 2, 1) := by decide +kernel
theorem dX8_fewestFrom_42 : decode cX8_fewestFrom 42 = .ok (.iload_n 3, 1) := by decide +kernel
theorem dX8_fewestFrom_43 : decode cX8_fewestFrom 43 = .ok (.invokestatic 59, 3) := by decide +kernel
theorem dX8_fewestFrom_46 : decode cX8_fewestFrom 46 = .ok (.ireturn, 1) := by decide +kernel
theorem dX8_forget_0 : decode cX8_forget 0 = .ok (.aload_n 0, 1) := by decide +kernel
theorem dX8_forget_1 : decode cX8_forget 1 = .ok (.iconst 0, 1) := by decide +kernel
theorem dX8_forget_2 : decode cX8_forget 2 = .ok (.putfield 18, 3) := by decide +kernel
theorem dX8_forget_5 : decode cX8_forget 5 = .ok (.iconst 0, 1) := by decide +kernel
theorem dX8_forget_6 : decode cX8_forget 6 = .ok (.istore_n 1, 1) := by decide +kernel
theorem dX8_forget_7 : decode cX8_forget 7 = .ok (.iload_n 1, 1) := by decide +kernel
theorem dX8_forget_8 : decode cX8_forget 8 = .ok (.aload_n 0, 1) := by decide +kernel
theorem dX8_forget_9 : decode cX8_forget 9 = .ok (.getfield 9, 3) := by decide +kernel
theorem dX8_forget_12 : decode cX8_forget 12 = .ok (.arraylength, 1) := by decide +kernel
theorem dX8_forget_13 : decode cX8_forget 13 = .ok (.if_icmp .ge 17, 3) := by decide +kernel
theorem dX8_forget_16 : decode cX8_forget 16 = .ok (.aload_n 0, 1) := by decide +kernel
theorem dX8_forget_17 : decode cX8_forget 17 = .ok (.getfield 9, 3) := by decide +kernel
theorem dX8_forget_20 : decode cX8_forget 20 = .ok (.iload_n 1, 1) := by decide +kernel
theorem dX8_forget_21 : decode cX8_forget 21 = .ok (.bipush (-4), 2) := by decide +kernel
theorem dX8_forget_23 : decode cX8_forget 23 = .ok (.iastore, 1) := by decide +kernel
theorem dX8_forget_24 : decode cX8_forget 24 = .ok (.iinc 1 1, 3) := by decide +kernel
theorem dX8_forget_27 : decode cX8_forget 27 = .ok (.goto (-20), 3) := by decide +kernel
theorem dX8_forget_30 : decode cX8_forget 30 = .ok (.return_, 1) := by decide +kernel
theorem dX8_spread_0 : decode cX8_spread 0 = .ok (.iload_n 3, 1) := by decide +kernel
theorem dX8_spread_1 : decode cX8_spread 1 = .ok (.bipush 36, 2) := by decide +kernel
theorem dX8_spread_3 : decode cX8_spread 3 = .ok (.irem, 1) := by decide +kernel
theorem dX8_spread_4 : decode cX8_spread 4 = .ok (.istore 5, 2) := by decide +kernel
theorem dX8_spread_6 : decode cX8_spread 6 = .ok (.iload_n 3, 1) := by decide +kernel
theorem dX8_spread_7 : decode cX8_spread 7 = .ok (.bipush 36, 2) := by decide +kernel
theorem dX8_spread_9 : decode cX8_spread 9 = .ok (.idiv, 1) := by decide +kernel
theorem dX8_spread_10 : decode cX8_spread 10 = .ok (.istore 6, 2) := by decide +kernel
theorem dX8_spread_12 : decode cX8_spread 12 = .ok (.iconst 0, 1) := by decide +kernel
theorem dX8_spread_13 : decode cX8_spread 13 = .ok (.istore 7, 2) := by decide +kernel
theorem dX8_spread_15 : decode cX8_spread 15 = .ok (.iload 7, 2) := by decide +kernel
theorem dX8_spread_17 : decode cX8_spread 17 = .ok (.iconst 4, 1) := by decide +kernel
theorem dX8_spread_18 : decode cX8_spread 18 = .ok (.if_icmp .ge 91, 3) := by decide +kernel
theorem dX8_spread_21 : decode cX8_spread 21 = .ok (.iload 5, 2) := by decide +kernel
theorem dX8_spread_23 : decode cX8_spread 23 = .ok (.iload 7, 2) := by decide +kernel
theorem dX8_spread_25 : decode cX8_spread 25 = .ok (.invokestatic 62, 3) := by decide +kernel
theorem dX8_spread_28 : decode cX8_spread 28 = .ok (.istore 8, 2) := by decide +kernel
theorem dX8_spread_30 : decode cX8_spread 30 = .ok (.iload 8, 2) := by decide +kernel
theorem dX8_spread_32 : decode cX8_spread 32 = .ok (.ifCond .ge 6, 3) := by decide +kernel
theorem dX8_spread_35 : decode cX8_spread 35 = .ok (.goto 68, 3) := by decide +kernel
theorem dX8_spread_38 : decode cX8_spread 38 = .ok (.lload_n 1, 1) := by decide +kernel
theorem dX8_spread_39 : decode cX8_spread 39 = .ok (.iload 5, 2) := by decide +kernel
theorem dX8_spread_41 : decode cX8_spread 41 = .ok (.iload 8, 2) := by decide +kernel
theorem dX8_spread_43 : decode cX8_spread 43 = .ok (.invokestatic 65, 3) := by decide +kernel
theorem dX8_spread_46 : decode cX8_spread 46 = .ok (.land, 1) := by decide +kernel
theorem dX8_spread_47 : decode cX8_spread 47 = .ok (.lconst 0, 1) := by decide +kernel
theorem dX8_spread_48 : decode cX8_spread 48 = .ok (.lcmp, 1) := by decide +kernel
theorem dX8_spread_49 : decode cX8_spread 49 = .ok (.ifCond .eq 7, 3) := by decide +kernel
theorem dX8_spread_52 : decode cX8_spread 52 = .ok (.iconst 1, 1) := by decide +kernel
theorem dX8_spread_53 : decode cX8_spread 53 = .ok (.goto 4, 3) := by decide +kernel
theorem dX8_spread_56 : decode cX8_spread 56 = .ok (.iconst 0, 1) := by decide +kernel
theorem dX8_spread_57 : decode cX8_spread 57 = .ok (.istore 9, 2) := by decide +kernel
theorem dX8_spread_59 : decode cX8_spread 59 = .ok (.iload 9, 2) := by decide +kernel
theorem dX8_spread_61 : decode cX8_spread 61 = .ok (.ifCond .ne 10, 3) := by decide +kernel
theorem dX8_spread_64 : decode cX8_spread 64 = .ok (.iload 6, 2) := by decide +kernel
theorem dX8_spread_66 : decode cX8_spread 66 = .ok (.iload 4, 2) := by decide +kernel
theorem dX8_spread_68 : decode cX8_spread 68 = .ok (.if_icmp .ge 35, 3) := by decide +kernel
theorem dX8_spread_71 : decode cX8_spread 71 = .ok (.aload_n 0, 1) := by decide +kernel
theorem dX8_spread_72 : decode cX8_spread 72 = .ok (.iload 8, 2) := by decide +kernel
theorem dX8_spread_74 : decode cX8_spread 74 = .ok (.iload 9, 2) := by decide +kernel
theorem dX8_spread_76 : decode cX8_spread 76 = .ok (.ifCond .eq 8, 3) := by decide +kernel
theorem dX8_spread_79 : decode cX8_spread 79 = .ok (.iload 6, 2) := by decide +kernel
theorem dX8_spread_81 : decode cX8_spread 81 = .ok (.goto 7, 3) := by decide +kernel
theorem dX8_spread_84 : decode cX8_spread 84 = .ok (.iload 6, 2) := by decide +kernel
theorem dX8_spread_86 : decode cX8_spread 86 = .ok (.iconst 1, 1) := by decide +kernel
theorem dX8_spread_87 : decode cX8_spread 87 = .ok (.iadd, 1) := by decide +kernel
theorem dX8_spread_88 : decode cX8_spread 88 = .ok (.bipush 36, 2) := by decide +kernel
theorem dX8_spread_90 : decode cX8_spread 90 = .ok (.imul, 1) := by decide +kernel
theorem dX8_spread_91 : decode cX8_spread 91 = .ok (.iadd, 1) := by decide +kernel
theorem dX8_spread_92 : decode cX8_spread 92 = .ok (.aload_n 0, 1) := by decide +kernel
theorem dX8_spread_93 : decode cX8_spread 93 = .ok (.getfield 9, 3) := by decide +kernel
theorem dX8_spread_96 : decode cX8_spread 96 = .ok (.iload_n 3, 1) := by decide +kernel
theorem dX8_spread_97 : decode cX8_spread 97 = .ok (.iaload, 1) := by decide +kernel
theorem dX8_spread_98 : decode cX8_spread 98 = .ok (.iconst 1, 1) := by decide +kernel
theorem dX8_spread_99 : decode cX8_spread 99 = .ok (.iadd, 1) := by decide +kernel
theorem dX8_spread_100 : decode cX8_spread 100 = .ok (.invokevirtual 30, 3) := by decide +kernel
theorem dX8_spread_103 : decode cX8_spread 103 = .ok (.iinc 7 1, 3) := by decide +kernel
theorem dX8_spread_106 : decode cX8_spread 106 = .ok (.goto (-91), 3) := by decide +kernel
theorem dX8_spread_109 : decode cX8_spread 109 = .ok (.return_, 1) := by decide +kernel
theorem dX8_reach_0 : decode cX8_reach 0 = .ok (.iload_n 1, 1) := by decide +kernel
theorem dX8_reach_1 : decode cX8_reach 1 = .ok (.ifCond .lt 33, 3) := by decide +kernel
theorem dX8_reach_4 : decode cX8_reach 4 = .ok (.iload_n 1, 1) := by decide +kernel
theorem dX8_reach_5 : decode cX8_reach 5 = .ok (.aload_n 0, 1) := by decide +kernel
theorem dX8_reach_6 : decode cX8_reach 6 = .ok (.getfield 9, 3) := by decide +kernel
theorem dX8_reach_9 : decode cX8_reach 9 = .ok (.arraylength, 1) := by decide +kernel
theorem dX8_reach_10 : decode cX8_reach 10 = .ok (.if_icmp .ge 24, 3) := by decide +kernel
theorem dX8_reach_13 : decode cX8_reach 13 = .ok (.aload_n 0, 1) := by decide +kernel
theorem dX8_reach_14 : decode cX8_reach 14 = .ok (.getfield 9, 3) := by decide +kernel
theorem dX8_reach_17 : decode cX8_reach 17 = .ok (.iload_n 1, 1) := by decide +kernel
theorem dX8_reach_18 : decode cX8_reach 18 = .ok (.iaload, 1) := by decide +kernel
theorem dX8_reach_19 : decode cX8_reach 19 = .ok (.ifCond .ge 15, 3) := by decide +kernel
theorem dX8_reach_22 : decode cX8_reach 22 = .ok (.aload_n 0, 1) := by decide +kernel
theorem dX8_reach_23 : decode cX8_reach 23 = .ok (.getfield 18, 3) := by decide +kernel
theorem dX8_reach_26 : decode cX8_reach 26 = .ok (.aload_n 0, 1) := by decide +kernel
theorem dX8_reach_27 : decode cX8_reach 27 = .ok (.getfield 15, 3) := by decide +kernel
theorem dX8_reach_30 : decode cX8_reach 30 = .ok (.arraylength, 1) := by decide +kernel
theorem dX8_reach_31 : decode cX8_reach 31 = .ok (.if_icmp .lt 4, 3) := by decide +kernel
theorem dX8_reach_34 : decode cX8_reach 34 = .ok (.return_, 1) := by decide +kernel
theorem dX8_reach_35 : decode cX8_reach 35 = .ok (.aload_n 0, 1) := by decide +kernel
theorem dX8_reach_36 : decode cX8_reach 36 = .ok (.getfield 9, 3) := by decide +kernel
theorem dX8_reach_39 : decode cX8_reach 39 = .ok (.iload_n 1, 1) := by decide +kernel
theorem dX8_reach_40 : decode cX8_reach 40 = .ok (.iload_n 2, 1) := by decide +kernel
theorem dX8_reach_41 : decode cX8_reach 41 = .ok (.iastore, 1) := by decide +kernel
theorem dX8_reach_42 : decode cX8_reach 42 = .ok (.aload_n 0, 1) := by decide +kernel
theorem dX8_reach_43 : decode cX8_reach 43 = .ok (.getfield 15, 3) := by decide +kernel
theorem dX8_reach_46 : decode cX8_reach 46 = .ok (.aload_n 0, 1) := by decide +kernel
theorem dX8_reach_47 : decode cX8_reach 47 = .ok (.getfield 18, 3) := by decide +kernel
theorem dX8_reach_50 : decode cX8_reach 50 = .ok (.iload_n 1, 1) := by decide +kernel
theorem dX8_reach_51 : decode cX8_reach 51 = .ok (.iastore, 1) := by decide +kernel
theorem dX8_reach_52 : decode cX8_reach 52 = .ok (.aload_n 0, 1) := by decide +kernel
theorem dX8_reach_53 : decode cX8_reach 53 = .ok (.dup, 1) := by decide +kernel
theorem dX8_reach_54 : decode cX8_reach 54 = .ok (.getfield 18, 3) := by decide +kernel
theorem dX8_reach_57 : decode cX8_reach 57 = .ok (.iconst 1, 1) := by decide +kernel
theorem dX8_reach_58 : decode cX8_reach 58 = .ok (.iadd, 1) := by decide +kernel
theorem dX8_reach_59 : decode cX8_reach 59 = .ok (.putfield 18, 3) := by decide +kernel
theorem dX8_reach_62 : decode cX8_reach 62 = .ok (.return_, 1) := by decide +kernel
theorem dX8_countParts_0 : decode cX8_countParts 0 = .ok (.aload_n 0, 1) := by decide +kernel
theorem dX8_countParts_1 : decode cX8_countParts 1 = .ok (.invokevirtual 22, 3) := by decide +kernel
theorem dX8_countParts_4 : decode cX8_countParts 4 = .ok (.iconst 0, 1) := by decide +kernel
theorem dX8_countParts_5 : decode cX8_countParts 5 = .ok (.istore_n 2, 1) := by decide +kernel
theorem dX8_countParts_6 : decode cX8_countParts 6 = .ok (.iconst 0, 1) := by decide +kernel
theorem dX8_countParts_7 : decode cX8_countParts 7 = .ok (.istore_n 3, 1) := by decide +kernel
theorem dX8_countParts_8 : decode cX8_countParts 8 = .ok (.iload_n 3, 1) := by decide +kernel
theorem dX8_countParts_9 : decode cX8_countParts 9 = .ok (.bipush 36, 2) := by decide +kernel
theorem dX8_countParts_11 : decode cX8_countParts 11 = .ok (.if_icmp .ge 27, 3) := by decide +kernel
theorem dX8_countParts_14 : decode cX8_countParts 14 = .ok (.aload_n 0, 1) := by decide +kernel
theorem dX8_countParts_15 : decode cX8_countParts 15 = .ok (.getfield 9, 3) := by decide +kernel
theorem dX8_countParts_18 : decode cX8_countParts 18 = .ok (.iload_n 3, 1) := by decide +kernel
theorem dX8_countParts_19 : decode cX8_countParts 19 = .ok (.iaload, 1) := by decide +kernel
theorem dX8_countParts_20 : decode cX8_countParts 20 = .ok (.ifCond .ge 12, 3) := by decide +kernel
theorem dX8_countParts_23 : decode cX8_countParts 23 = .ok (.iinc 2 1, 3) := by decide +kernel
theorem dX8_countParts_26 : decode cX8_countParts 26 = .ok (.aload_n 0, 1) := by decide +kernel
theorem dX8_countParts_27 : decode cX8_countParts 27 = .ok (.aload_n 1, 1) := by decide +kernel
theorem dX8_countParts_28 : decode cX8_countParts 28 = .ok (.iload_n 3, 1) := by decide +kernel
theorem dX8_countParts_29 : decode cX8_countParts 29 = .ok (.invokevirtual 69, 3) := by decide +kernel
theorem dX8_countParts_32 : decode cX8_countParts 32 = .ok (.iinc 3 1, 3) := by decide +kernel
theorem dX8_countParts_35 : decode cX8_countParts 35 = .ok (.goto (-27), 3) := by decide +kernel
theorem dX8_countParts_38 : decode cX8_countParts 38 = .ok (.iload_n 2, 1) := by decide +kernel
theorem dX8_countParts_39 : decode cX8_countParts 39 = .ok (.ireturn, 1) := by decide +kernel
theorem dX8_hangTogether_0 : decode cX8_hangTogether 0 = .ok (.aload_n 0, 1) := by decide +kernel
theorem dX8_hangTogether_1 : decode cX8_hangTogether 1 = .ok (.getfield 18, 3) := by decide +kernel
theorem dX8_hangTogether_4 : decode cX8_hangTogether 4 = .ok (.istore_n 3, 1) := by decide +kernel
theorem dX8_hangTogether_5 : decode cX8_hangTogether 5 = .ok (.aload_n 0, 1) := by decide +kernel
theorem dX8_hangTogether_6 : decode cX8_hangTogether 6 = .ok (.iload_n 2, 1) := by decide +kernel
theorem dX8_hangTogether_7 : decode cX8_hangTogether 7 = .ok (.iconst 0, 1) := by decide +kernel
theorem dX8_hangTogether_8 : decode cX8_hangTogether 8 = .ok (.invokevirtual 30, 3) := by decide +kernel
theorem dX8_hangTogether_11 : decode cX8_hangTogether 11 = .ok (.iload_n 3, 1) := by decide +kernel
theorem dX8_hangTogether_12 : decode cX8_hangTogether 12 = .ok (.istore 4, 2) := by decide +kernel
theorem dX8_hangTogether_14 : decode cX8_hangTogether 14 = .ok (.iload 4, 2) := by decide +kernel
theorem dX8_hangTogether_16 : decode cX8_hangTogether 16 = .ok (.aload_n 0, 1) := by decide +kernel
theorem dX8_hangTogether_17 : decode cX8_hangTogether 17 = .ok (.getfield 18, 3) := by decide +kernel
theorem dX8_hangTogether_20 : decode cX8_hangTogether 20 = .ok (.if_icmp .ge 73, 3) := by decide +kernel
theorem dX8_hangTogether_23 : decode cX8_hangTogether 23 = .ok (.iload 4, 2) := by decide +kernel
theorem dX8_hangTogether_25 : decode cX8_hangTogether 25 = .ok (.aload_n 0, 1) := by decide +kernel
theorem dX8_hangTogether_26 : decode cX8_hangTogether 26 = .ok (.getfield 15, 3) := by decide +kernel
theorem dX8_hangTogether_29 : decode cX8_hangTogether 29 = .ok (.arraylength, 1) := by decide +kernel
theorem dX8_hangTogether_30 : decode cX8_hangTogether 30 = .ok (.if_icmp .ge 63, 3) := by decide +kernel
theorem dX8_hangTogether_33 : decode cX8_hangTogether 33 = .ok (.iconst 0, 1) := by decide +kernel
theorem dX8_hangTogether_34 : decode cX8_hangTogether 34 = .ok (.istore 5, 2) := by decide +kernel
theorem dX8_hangTogether_36 : decode cX8_hangTogether 36 = .ok (.iload 5, 2) := by decide +kernel
theorem dX8_hangTogether_38 : decode cX8_hangTogether 38 = .ok (.iconst 4, 1) := by decide +kernel
theorem dX8_hangTogether_39 : decode cX8_hangTogether 39 = .ok (.if_icmp .ge 48, 3) := by decide +kernel
theorem dX8_hangTogether_42 : decode cX8_hangTogether 42 = .ok (.aload_n 1, 1) := by decide +kernel
theorem dX8_hangTogether_43 : decode cX8_hangTogether 43 = .ok (.getfield 73, 3) := by decide +kernel
theorem dX8_hangTogether_46 : decode cX8_hangTogether 46 = .ok (.aload_n 0, 1) := by decide +kernel
theorem dX8_hangTogether_47 : decode cX8_hangTogether 47 = .ok (.getfield 15, 3) := by decide +kernel
theorem dX8_hangTogether_50 : decode cX8_hangTogether 50 = .ok (.iload 4, 2) := by decide +kernel
theorem dX8_hangTogether_52 : decode cX8_hangTogether 52 = .ok (.iaload, 1) := by decide +kernel
theorem dX8_hangTogether_53 : decode cX8_hangTogether 53 = .ok (.iload 5, 2) := by decide +kernel
theorem dX8_hangTogether_55 : decode cX8_hangTogether 55 = .ok (.invokestatic 77, 3) := by decide +kernel
theorem dX8_hangTogether_58 : decode cX8_hangTogether 58 = .ok (.land, 1) := by decide +kernel
theorem dX8_hangTogether_59 : decode cX8_hangTogether 59 = .ok (.lconst 0, 1) := by decide +kernel
theorem dX8_hangTogether_60 : decode cX8_hangTogether 60 = .ok (.lcmp, 1) := by decide +kernel
theorem dX8_hangTogether_61 : decode cX8_hangTogether 61 = .ok (.ifCond .eq 20, 3) := by decide +kernel
theorem dX8_hangTogether_64 : decode cX8_hangTogether 64 = .ok (.aload_n 0, 1) := by decide +kernel
theorem dX8_hangTogether_65 : decode cX8_hangTogether 65 = .ok (.aload_n 0, 1) := by decide +kernel
theorem dX8_hangTogether_66 : decode cX8_hangTogether 66 = .ok (.getfield 15, 3) := by decide +kernel
theorem dX8_hangTogether_69 : decode cX8_hangTogether 69 = .ok (.iload 4, 2) := by decide +kernel
theorem dX8_hangTogether_71 : decode cX8_hangTogether 71 = .ok (.iaload, 1) := by decide +kernel
theorem dX8_hangTogether_72 : decode cX8_hangTogether 72 = .ok (.iload 5, 2) := by decide +kernel
theorem dX8_hangTogether_74 : decode cX8_hangTogether 74 = .ok (.invokestatic 62, 3) := by decide +kernel
theorem dX8_hangTogether_77 : decode cX8_hangTogether 77 = .ok (.iconst 0, 1) := by decide +kernel
theorem dX8_hangTogether_78 : decode cX8_hangTogether 78 = .ok (.invokevirtual 30, 3) := by decide +kernel
theorem dX8_hangTogether_81 : decode cX8_hangTogether 81 = .ok (.iinc 5 1, 3) := by decide +kernel
theorem dX8_hangTogether_84 : decode cX8_hangTogether 84 = .ok (.goto (-48), 3) := by decide +kernel
theorem dX8_hangTogether_87 : decode cX8_hangTogether 87 = .ok (.iinc 4 1, 3) := by decide +kernel
theorem dX8_hangTogether_90 : decode cX8_hangTogether 90 = .ok (.goto (-76), 3) := by decide +kernel
theorem dX8_hangTogether_93 : decode cX8_hangTogether 93 = .ok (.return_, 1) := by decide +kernel
theorem dX8_heard_0 : decode cX8_heard 0 = .ok (.iload_n 2, 1) := by decide +kernel
theorem dX8_heard_1 : decode cX8_heard 1 = .ok (.invokestatic 48, 3) := by decide +kernel
theorem dX8_heard_4 : decode cX8_heard 4 = .ok (.ifCond .eq 13, 3) := by decide +kernel
theorem dX8_heard_7 : decode cX8_heard 7 = .ok (.aload_n 1, 1) := by decide +kernel
theorem dX8_heard_8 : decode cX8_heard 8 = .ok (.getfield 25, 3) := by decide +kernel
theorem dX8_heard_11 : decode cX8_heard 11 = .ok (.invokestatic 48, 3) := by decide +kernel
theorem dX8_heard_14 : decode cX8_heard 14 = .ok (.ifCond .ne 5, 3) := by decide +kernel
theorem dX8_heard_17 : decode cX8_heard 17 = .ok (.iconst 0, 1) := by decide +kernel
theorem dX8_heard_18 : decode cX8_heard 18 = .ok (.ireturn, 1) := by decide +kernel
theorem dX8_heard_19 : decode cX8_heard 19 = .ok (.aload_n 0, 1) := by decide +kernel
theorem dX8_heard_20 : decode cX8_heard 20 = .ok (.invokevirtual 22, 3) := by decide +kernel
theorem dX8_heard_23 : decode cX8_heard 23 = .ok (.aload_n 0, 1) := by decide +kernel
theorem dX8_heard_24 : decode cX8_heard 24 = .ok (.getfield 9, 3) := by decide +kernel
theorem dX8_heard_27 : decode cX8_heard 27 = .ok (.aload_n 1, 1) := by decide +kernel
theorem dX8_heard_28 : decode cX8_heard 28 = .ok (.getfield 25, 3) := by decide +kernel
theorem dX8_heard_31 : decode cX8_heard 31 = .ok (.iconst 0, 1) := by decide +kernel
theorem dX8_heard_32 : decode cX8_heard 32 = .ok (.iastore, 1) := by decide +kernel
theorem dX8_heard_33 : decode cX8_heard 33 = .ok (.iconst 1, 1) := by decide +kernel
theorem dX8_heard_34 : decode cX8_heard 34 = .ok (.istore_n 3, 1) := by decide +kernel
theorem dX8_heard_35 : decode cX8_heard 35 = .ok (.iconst 0, 1) := by decide +kernel
theorem dX8_heard_36 : decode cX8_heard 36 = .ok (.istore 4, 2) := by decide +kernel
theorem dX8_heard_38 : decode cX8_heard 38 = .ok (.iload 4, 2) := by decide +kernel
theorem dX8_heard_40 : decode cX8_heard 40 = .ok (.bipush 36, 2) := by decide +kernel
theorem dX8_heard_42 : decode cX8_heard 42 = .ok (.if_icmp .ge 19, 3) := by decide +kernel
theorem dX8_heard_45 : decode cX8_heard 45 = .ok (.iload_n 3, 1) := by decide +kernel
theorem dX8_heard_46 : decode cX8_heard 46 = .ok (.ifCond .eq 15, 3) := by decide +kernel
theorem dX8_heard_49 : decode cX8_heard 49 = .ok (.aload_n 0, 1) := by decide +kernel
theorem dX8_heard_50 : decode cX8_heard 50 = .ok (.aload_n 1, 1) := by decide +kernel
theorem dX8_heard_51 : decode cX8_heard 51 = .ok (.invokevirtual 80, 3) := by decide +kernel
theorem dX8_heard_54 : decode cX8_heard 54 = .ok (.istore_n 3, 1) := by decide +kernel
theorem dX8_heard_55 : decode cX8_heard 55 = .ok (.iinc 4 1, 3) := by decide +kernel
theorem dX8_heard_58 : decode cX8_heard 58 = .ok (.goto (-20), 3) := by decide +kernel
theorem dX8_heard_61 : decode cX8_heard 61 = .ok (.aload_n 0, 1) := by decide +kernel
theorem dX8_heard_62 : decode cX8_heard 62 = .ok (.getfield 9, 3) := by decide +kernel
theorem dX8_heard_65 : decode cX8_heard 65 = .ok (.iload_n 2, 1) := by decide +kernel
theorem dX8_heard_66 : decode cX8_heard 66 = .ok (.iaload, 1) := by decide +kernel
theorem dX8_heard_67 : decode cX8_heard 67 = .ok (.ifCond .ge 7, 3) := by decide +kernel
theorem dX8_heard_70 : decode cX8_heard 70 = .ok (.iconst 0, 1) := by decide +kernel
theorem dX8_heard_71 : decode cX8_heard 71 = .ok (.goto 16, 3) := by decide +kernel
theorem dX8_heard_74 : decode cX8_heard 74 = .ok (.iconst 0, 1) := by decide +kernel
theorem dX8_heard_75 : decode cX8_heard 75 = .ok (.bipush 40, 2) := by decide +kernel
theorem dX8_heard_77 : decode cX8_heard 77 = .ok (.aload_n 0, 1) := by decide +kernel
theorem dX8_heard_78 : decode cX8_heard 78 = .ok (.getfield 9, 3) := by decide +kernel
theorem dX8_heard_81 : decode cX8_heard 81 = .ok (.iload_n 2, 1) := by decide +kernel
theorem dX8_heard_82 : decode cX8_heard 82 = .ok (.iaload, 1) := by decide +kernel
theorem dX8_heard_83 : decode cX8_heard 83 = .ok (.isub, 1) := by decide +kernel
theorem dX8_heard_84 : decode cX8_heard 84 = .ok (.invokestatic 53, 3) := by decide +kernel
theorem dX8_heard_87 : decode cX8_heard 87 = .ok (.ireturn, 1) := by decide +kernel
theorem dX8_lessenLosses_0 : decode cX8_lessenLosses 0 = .ok (.iconst 0, 1) := by decide +kernel
theorem dX8_lessenLosses_1 : decode cX8_lessenLosses 1 = .ok (.istore_n 2, 1) := by decide +kernel
theorem dX8_lessenLosses_2 : decode cX8_lessenLosses 2 = .ok (.iconst 0, 1) := by decide +kernel
theorem dX8_lessenLosses_3 : decode cX8_lessenLosses 3 = .ok (.istore_n 3, 1) := by decide +kernel
theorem dX8_lessenLosses_4 : decode cX8_lessenLosses 4 = .ok (.iload_n 3, 1) := by decide +kernel
theorem dX8_lessenLosses_5 : decode cX8_lessenLosses 5 = .ok (.bipush 36, 2) := by decide +kernel
theorem dX8_lessenLosses_7 : decode cX8_lessenLosses 7 = .ok (.if_icmp .ge 129, 3) := by decide +kernel
theorem dX8_lessenLosses_10 : decode cX8_lessenLosses 10 = .ok (.iconst 0, 1) := by decide +kernel
theorem dX8_lessenLosses_11 : decode cX8_lessenLosses 11 = .ok (.istore 4, 2) := by decide +kernel
theorem dX8_lessenLosses_13 : decode cX8_lessenLosses 13 = .ok (.iload 4, 2) := by decide +kernel
theorem dX8_lessenLosses_15 : decode cX8_lessenLosses 15 = .ok (.iconst 4, 1) := by decide +kernel
theorem dX8_lessenLosses_16 : decode cX8_lessenLosses 16 = .ok (.if_icmp .ge 114, 3) := by decide +kernel
theorem dX8_lessenLosses_19 : decode cX8_lessenLosses 19 = .ok (.aload_n 0, 1) := by decide +kernel
theorem dX8_lessenLosses_20 : decode cX8_lessenLosses 20 = .ok (.getfield 9, 3) := by decide +kernel
theorem dX8_lessenLosses_23 : decode cX8_lessenLosses 23 = .ok (.iload_n 3, 1) := by decide +kernel
theorem dX8_lessenLosses_24 : decode cX8_lessenLosses 24 = .ok (.iaload, 1) := by decide +kernel
theorem dX8_lessenLosses_25 : decode cX8_lessenLosses 25 = .ok (.ifCond .lt 105, 3) := by decide +kernel
theorem dX8_lessenLosses_28 : decode cX8_lessenLosses 28 = .ok (.iload_n 3, 1) := by decide +kernel
theorem dX8_lessenLosses_29 : decode cX8_lessenLosses 29 = .ok (.iload 4, 2) := by decide +kernel
theorem dX8_lessenLosses_31 : decode cX8_lessenLosses 31 = .ok (.invokestatic 62, 3) := by decide +kernel
theorem dX8_lessenLosses_34 : decode cX8_lessenLosses 34 = .ok (.istore 5, 2) := by decide +kernel
theorem dX8_lessenLosses_36 : decode cX8_lessenLosses 36 = .ok (.iload 5, 2) := by decide +kernel
theorem dX8_lessenLosses_38 : decode cX8_lessenLosses 38 = .ok (.ifCond .ge 6, 3) := by decide +kernel
theorem dX8_lessenLosses_41 : decode cX8_lessenLosses 41 = .ok (.goto 83, 3) := by decide +kernel
theorem dX8_lessenLosses_44 : decode cX8_lessenLosses 44 = .ok (.aload_n 1, 1) := by decide +kernel
theorem dX8_lessenLosses_45 : decode cX8_lessenLosses 45 = .ok (.getfield 73, 3) := by decide +kernel
theorem dX8_lessenLosses_48 : decode cX8_lessenLosses 48 = .ok (.iload_n 3, 1) := by decide +kernel
theorem dX8_lessenLosses_49 : decode cX8_lessenLosses 49 = .ok (.iload 4, 2) := by decide +kernel
theorem dX8_lessenLosses_51 : decode cX8_lessenLosses 51 = .ok (.invokestatic 77, 3) := by decide +kernel
theorem dX8_lessenLosses_54 : decode cX8_lessenLosses 54 = .ok (.land, 1) := by decide +kernel
theorem dX8_lessenLosses_55 : decode cX8_lessenLosses 55 = .ok (.lconst 0, 1) := by decide +kernel
theorem dX8_lessenLosses_56 : decode cX8_lessenLosses 56 = .ok (.lcmp, 1) := by decide +kernel
theorem dX8_lessenLosses_57 : decode cX8_lessenLosses 57 = .ok (.ifCond .eq 7, 3) := by decide +kernel
theorem dX8_lessenLosses_60 : decode cX8_lessenLosses 60 = .ok (.iconst 1, 1) := by decide +kernel
theorem dX8_lessenLosses_61 : decode cX8_lessenLosses 61 = .ok (.goto 4, 3) := by decide +kernel
theorem dX8_lessenLosses_64 : decode cX8_lessenLosses 64 = .ok (.iconst 0, 1) := by decide +kernel
theorem dX8_lessenLosses_65 : decode cX8_lessenLosses 65 = .ok (.istore 6, 2) := by decide +kernel
theorem dX8_lessenLosses_67 : decode cX8_lessenLosses 67 = .ok (.aload_n 0, 1) := by decide +kernel
theorem dX8_lessenLosses_68 : decode cX8_lessenLosses 68 = .ok (.getfield 9, 3) := by decide +kernel
theorem dX8_lessenLosses_71 : decode cX8_lessenLosses 71 = .ok (.iload_n 3, 1) := by decide +kernel
theorem dX8_lessenLosses_72 : decode cX8_lessenLosses 72 = .ok (.iaload, 1) := by decide +kernel
theorem dX8_lessenLosses_73 : decode cX8_lessenLosses 73 = .ok (.iconst 5, 1) := by decide +kernel
theorem dX8_lessenLosses_74 : decode cX8_lessenLosses 74 = .ok (.iadd, 1) := by decide +kernel
theorem dX8_lessenLosses_75 : decode cX8_lessenLosses 75 = .ok (.iload 6, 2) := by decide +kernel
theorem dX8_lessenLosses_77 : decode cX8_lessenLosses 77 = .ok (.ifCond .eq 7, 3) := by decide +kernel
theorem dX8_lessenLosses_80 : decode cX8_lessenLosses 80 = .ok (.iconst 0, 1) := by decide +kernel
theorem dX8_lessenLosses_81 : decode cX8_lessenLosses 81 = .ok (.goto 7, 3) := by decide +kernel
theorem dX8_lessenLosses_84 : decode cX8_lessenLosses 84 = .ok (.aload_n 1, 1) := by decide +kernel
theorem dX8_lessenLosses_85 : decode cX8_lessenLosses 85 = .ok (.getfield 84, 3) := by decide +kernel
theorem dX8_lessenLosses_88 : decode cX8_lessenLosses 88 = .ok (.iadd, 1) := by decide +kernel
theorem dX8_lessenLosses_89 : decode cX8_lessenLosses 89 = .ok (.istore 7, 2) := by decide +kernel
theorem dX8_lessenLosses_91 : decode cX8_lessenLosses 91 = .ok (.aload_n 0, 1) := by decide +kernel
theorem dX8_lessenLosses_92 : decode cX8_lessenLosses 92 = .ok (.getfield 9, 3) := by decide +kernel
theorem dX8_lessenLosses_95 : decode cX8_lessenLosses 95 = .ok (.iload 5, 2) := by decide +kernel
theorem dX8_lessenLosses_97 : decode cX8_lessenLosses 97 = .ok (.iaload, 1) := by decide +kernel
theorem dX8_lessenLosses_98 : decode cX8_lessenLosses 98 = .ok (.ifCond .lt 15, 3) := by decide +kernel
theorem dX8_lessenLosses_101 : decode cX8_lessenLosses 101 = .ok (.iload 7, 2) := by decide +kernel
theorem dX8_lessenLosses_103 : decode cX8_lessenLosses 103 = .ok (.aload_n 0, 1) := by decide +kernel
theorem dX8_lessenLosses_104 : decode cX8_lessenLosses 104 = .ok (.getfield 9, 3) := by decide +kernel
theorem dX8_lessenLosses_107 : decode cX8_lessenLosses 107 = .ok (.iload 5, 2) := by decide +kernel
theorem dX8_lessenLosses_109 : decode cX8_lessenLosses 109 = .ok (.iaload, 1) := by decide +kernel
theorem dX8_lessenLosses_110 : decode cX8_lessenLosses 110 = .ok (.if_icmp .ge 14, 3) := by decide +kernel
theorem dX8_lessenLosses_113 : decode cX8_lessenLosses 113 = .ok (.aload_n 0, 1) := by decide +kernel
theorem dX8_lessenLosses_114 : decode cX8_lessenLosses 114 = .ok (.getfield 9, 3) := by decide +kernel
theorem dX8_lessenLosses_117 : decode cX8_lessenLosses 117 = .ok (.iload 5, 2) := by decide +kernel
theorem dX8_lessenLosses_119 : decode cX8_lessenLosses 119 = .ok (.iload 7, 2) := by decide +kernel
theorem dX8_lessenLosses_121 : decode cX8_lessenLosses 121 = .ok (.iastore, 1) := by decide +kernel
theorem dX8_lessenLosses_122 : decode cX8_lessenLosses 122 = .ok (.iconst 1, 1) := by decide +kernel
theorem dX8_lessenLosses_123 : decode cX8_lessenLosses 123 = .ok (.istore_n 2, 1) := by decide +kernel
theorem dX8_lessenLosses_124 : decode cX8_lessenLosses 124 = .ok (.iinc 4 1, 3) := by decide +kernel
theorem dX8_lessenLosses_127 : decode cX8_lessenLosses 127 = .ok (.goto (-114), 3) := by decide +kernel
theorem dX8_lessenLosses_130 : decode cX8_lessenLosses 130 = .ok (.iinc 3 1, 3) := by decide +kernel
theorem dX8_lessenLosses_133 : decode cX8_lessenLosses 133 = .ok (.goto (-129), 3) := by decide +kernel
theorem dX8_lessenLosses_136 : decode cX8_lessenLosses 136 = .ok (.iload_n 2, 1) := by decide +kernel
theorem dX8_lessenLosses_137 : decode cX8_lessenLosses 137 = .ok (.ireturn, 1) := by decide +kernel
theorem dX9_init_0 : decode cX9_init 0 = .ok (.aload_n 0, 1) := by decide +kernel
theorem dX9_init_1 : decode cX9_init 1 = .ok (.invokespecial 1, 3) := by decide +kernel
theorem dX9_init_4 : decode cX9_init 4 = .ok (.aload_n 0, 1) := by decide +kernel
theorem dX9_init_5 : decode cX9_init 5 = .ok (.new 7, 3) := by decide +kernel
theorem dX9_init_8 : decode cX9_init 8 = .ok (.dup, 1) := by decide +kernel
theorem dX9_init_9 : decode cX9_init 9 = .ok (.invokespecial 9, 3) := by decide +kernel
theorem dX9_init_12 : decode cX9_init 12 = .ok (.putfield 10, 3) := by decide +kernel
theorem dX9_init_15 : decode cX9_init 15 = .ok (.aload_n 0, 1) := by decide +kernel
theorem dX9_init_16 : decode cX9_init 16 = .ok (.new 7, 3) := by decide +kernel
theorem dX9_init_19 : decode cX9_init 19 = .ok (.dup, 1) := by decide +kernel
theorem dX9_init_20 : decode cX9_init 20 = .ok (.invokespecial 9, 3) := by decide +kernel
theorem dX9_init_23 : decode cX9_init 23 = .ok (.putfield 16, 3) := by decide +kernel
theorem dX9_init_26 : decode cX9_init 26 = .ok (.aload_n 0, 1) := by decide +kernel
theorem dX9_init_27 : decode cX9_init 27 = .ok (.iconst 0, 1) := by decide +kernel
theorem dX9_init_28 : decode cX9_init 28 = .ok (.putfield 19, 3) := by decide +kernel
theorem dX9_init_31 : decode cX9_init 31 = .ok (.aload_n 0, 1) := by decide +kernel
theorem dX9_init_32 : decode cX9_init 32 = .ok (.new 23, 3) := by decide +kernel
theorem dX9_init_35 : decode cX9_init 35 = .ok (.dup, 1) := by decide +kernel
theorem dX9_init_36 : decode cX9_init 36 = .ok (.invokespecial 25, 3) := by decide +kernel
theorem dX9_init_39 : decode cX9_init 39 = .ok (.putfield 26, 3) := by decide +kernel
theorem dX9_init_42 : decode cX9_init 42 = .ok (.aload_n 0, 1) := by decide +kernel
theorem dX9_init_43 : decode cX9_init 43 = .ok (.new 30, 3) := by decide +kernel
theorem dX9_init_46 : decode cX9_init 46 = .ok (.dup, 1) := by decide +kernel
theorem dX9_init_47 : decode cX9_init 47 = .ok (.invokespecial 32, 3) := by decide +kernel
theorem dX9_init_50 : decode cX9_init 50 = .ok (.putfield 33, 3) := by decide +kernel
theorem dX9_init_53 : decode cX9_init 53 = .ok (.aload_n 0, 1) := by decide +kernel
theorem dX9_init_54 : decode cX9_init 54 = .ok (.new 37, 3) := by decide +kernel
theorem dX9_init_57 : decode cX9_init 57 = .ok (.dup, 1) := by decide +kernel
theorem dX9_init_58 : decode cX9_init 58 = .ok (.invokespecial 39, 3) := by decide +kernel
theorem dX9_init_61 : decode cX9_init 61 = .ok (.putfield 40, 3) := by decide +kernel
theorem dX9_init_64 : decode cX9_init 64 = .ok (.aload_n 0, 1) := by decide +kernel
theorem dX9_init_65 : decode cX9_init 65 = .ok (.new 37, 3) := by decide +kernel
theorem dX9_init_68 : decode cX9_init 68 = .ok (.dup, 1) := by decide +kernel
theorem dX9_init_69 : decode cX9_init 69 = .ok (.invokespecial 39, 3) := by decide +kernel
theorem dX9_init_72 : decode cX9_init 72 = .ok (.putfield 44, 3) := by decide +kernel
theorem dX9_init_75 : decode cX9_init 75 = .ok (.aload_n 0, 1) := by decide +kernel
theorem dX9_init_76 : decode cX9_init 76 = .ok (.new 47, 3) := by decide +kernel
theorem dX9_init_79 : decode cX9_init 79 = .ok (.dup, 1) := by decide +kernel
theorem dX9_init_80 : decode cX9_init 80 = .ok (.invokespecial 49, 3) := by decide +kernel
theorem dX9_init_83 : decode cX9_init 83 = .ok (.putfield 50, 3) := by decide +kernel
theorem dX9_init_86 : decode cX9_init 86 = .ok (.aload_n 0, 1) := by decide +kernel
theorem dX9_init_87 : decode cX9_init 87 = .ok (.new 54, 3) := by decide +kernel
theorem dX9_init_90 : decode cX9_init 90 = .ok (.dup, 1) := by decide +kernel
theorem dX9_init_91 : decode cX9_init 91 = .ok (.invokespecial 56, 3) := by decide +kernel
theorem dX9_init_94 : decode cX9_init 94 = .ok (.putfield 57, 3) := by decide +kernel
theorem dX9_init_97 : decode cX9_init 97 = .ok (.aload_n 0, 1) := by decide +kernel
theorem dX9_init_98 : decode cX9_init 98 = .ok (.new 61, 3) := by decide +kernel
theorem dX9_init_101 : decode cX9_init 101 = .ok (.dup, 1) := by decide +kernel
theorem dX9_init_102 : decode cX9_init 102 = .ok (.invokespecial 63, 3) := by decide +kernel
theorem dX9_init_105 : decode cX9_init 105 = .ok (.putfield 64, 3) := by decide +kernel
theorem dX9_init_108 : decode cX9_init 108 = .ok (.aload_n 0, 1) := by decide +kernel
theorem dX9_init_109 : decode cX9_init 109 = .ok (.iconst 4, 1) := by decide +kernel
theorem dX9_init_110 : decode cX9_init 110 = .ok (.anewarray 68, 3) := by decide +kernel
theorem dX9_init_113 : decode cX9_init 113 = .ok (.putfield 70, 3) := by decide +kernel
theorem dX9_init_116 : decode cX9_init 116 = .ok (.iconst 0, 1) := by decide +kernel
theorem dX9_init_117 : decode cX9_init 117 = .ok (.istore_n 1, 1) := by decide +kernel
theorem dX9_init_118 : decode cX9_init 118 = .ok (.iload_n 1, 1) := by decide +kernel
theorem dX9_init_119 : decode cX9_init 119 = .ok (.iconst 4, 1) := by decide +kernel
theorem dX9_init_120 : decode cX9_init 120 = .ok (.if_icmp .ge 22, 3) := by decide +kernel
theorem dX9_init_123 : decode cX9_init 123 = .ok (.aload_n 0, 1) := by decide +kernel
theorem dX9_init_124 : decode cX9_init 124 = .ok (.getfield 70, 3) := by decide +kernel
theorem dX9_init_127 : decode cX9_init 127 = .ok (.iload_n 1, 1) := by decide +kernel
theorem dX9_init_128 : decode cX9_init 128 = .ok (.new 68, 3) := by decide +kernel
theorem dX9_init_131 : decode cX9_init 131 = .ok (.dup, 1) := by decide +kernel
theorem dX9_init_132 : decode cX9_init 132 = .ok (.invokespecial 74, 3) := by decide +kernel
theorem dX9_init_135 : decode cX9_init 135 = .ok (.aastore, 1) := by decide +kernel
theorem dX9_init_136 : decode cX9_init 136 = .ok (.iinc 1 1, 3) := by decide +kernel
theorem dX9_init_139 : decode cX9_init 139 = .ok (.goto (-21), 3) := by decide +kernel
theorem dX9_init_142 : decode cX9_init 142 = .ok (.return_, 1) := by decide +kernel
theorem dX9_plough_0 : decode cX9_plough 0 = .ok (.iload_n 1, 1) := by decide +kernel
theorem dX9_plough_1 : decode cX9_plough 1 = .ok (.invokestatic 75, 3) := by decide +kernel
theorem dX9_plough_4 : decode cX9_plough 4 = .ok (.ifCond .ne 5, 3) := by decide +kernel
theorem dX9_plough_7 : decode cX9_plough 7 = .ok (.iconst (-1), 1) := by decide +kernel
theorem dX9_plough_8 : decode cX9_plough 8 = .ok (.ireturn, 1) := by decide +kernel
theorem dX9_plough_9 : decode cX9_plough 9 = .ok (.aload_n 0, 1) := by decide +kernel
theorem dX9_plough_10 : decode cX9_plough 10 = .ok (.getfield 10, 3) := by decide +kernel
theorem dX9_plough_13 : decode cX9_plough 13 = .ok (.getfield 81, 3) := by decide +kernel
theorem dX9_plough_16 : decode cX9_plough 16 = .ok (.iload_n 1, 1) := by decide +kernel
theorem dX9_plough_17 : decode cX9_plough 17 = .ok (.invokevirtual 84, 3) := by decide +kernel
theorem dX9_plough_20 : decode cX9_plough 20 = .ok (.ifCond .ne 6, 3) := by decide +kernel
theorem dX9_plough_23 : decode cX9_plough 23 = .ok (.bipush (-2), 2) := by decide +kernel
theorem dX9_plough_25 : decode cX9_plough 25 = .ok (.ireturn, 1) := by decide +kernel
theorem dX9_plough_26 : decode cX9_plough 26 = .ok (.aload_n 0, 1) := by decide +kernel
theorem dX9_plough_27 : decode cX9_plough 27 = .ok (.getfield 10, 3) := by decide +kernel
theorem dX9_plough_30 : decode cX9_plough 30 = .ok (.invokevirtual 87, 3) := by decide +kernel
theorem dX9_plough_33 : decode cX9_plough 33 = .ok (.aload_n 0, 1) := by decide +kernel
theorem dX9_plough_34 : decode cX9_plough 34 = .ok (.getfield 10, 3) := by decide +kernel
theorem dX9_plough_37 : decode cX9_plough 37 = .ok (.getfield 81, 3) := by decide +kernel
theorem dX9_plough_40 : decode cX9_plough 40 = .ok (.getfield 90, 3) := by decide +kernel
theorem dX9_plough_43 : decode cX9_plough 43 = .ok (.ireturn, 1) := by decide +kernel
theorem dX9_back_0 : decode cX9_back 0 = .ok (.iload_n 1, 1) := by decide +kernel
theorem dX9_back_1 : decode cX9_back 1 = .ok (.iconst 1, 1) := by decide +kernel
theorem dX9_back_2 : decode cX9_back 2 = .ok (.if_icmp .lt 9, 3) := by decide +kernel
theorem dX9_back_5 : decode cX9_back 5 = .ok (.iload_n 1, 1) := by decide +kernel
theorem dX9_back_6 : decode cX9_back 6 = .ok (.bipush 36, 2) := by decide +kernel
theorem dX9_back_8 : decode cX9_back 8 = .ok (.if_icmp .le 5, 3) := by decide +kernel
theorem dX9_back_11 : decode cX9_back 11 = .ok (.iconst (-1), 1) := by decide +kernel
theorem dX9_back_12 : decode cX9_back 12 = .ok (.ireturn, 1) := by decide +kernel
theorem dX9_back_13 : decode cX9_back 13 = .ok (.iload_n 1, 1) := by decide +kernel
theorem dX9_back_14 : decode cX9_back 14 = .ok (.aload_n 0, 1) := by decide +kernel
theorem dX9_back_15 : decode cX9_back 15 = .ok (.getfield 10, 3) := by decide +kernel
theorem dX9_back_18 : decode cX9_back 18 = .ok (.getfield 81, 3) := by decide +kernel
theorem dX9_back_21 : decode cX9_back 21 = .ok (.getfield 90, 3) := by decide +kernel
theorem dX9_back_24 : decode cX9_back 24 = .ok (.if_icmp .le 6, 3) := by decide +kernel
theorem dX9_back_27 : decode cX9_back 27 = .ok (.bipush (-2), 2) := by decide +kernel
theorem dX9_back_29 : decode cX9_back 29 = .ok (.ireturn, 1) := by decide +kernel
theorem dX9_back_30 : decode cX9_back 30 = .ok (.iconst 0, 1) := by decide +kernel
theorem dX9_back_31 : decode cX9_back 31 = .ok (.istore_n 2, 1) := by decide +kernel
theorem dX9_back_32 : decode cX9_back 32 = .ok (.iload_n 2, 1) := by decide +kernel
theorem dX9_back_33 : decode cX9_back 33 = .ok (.iload_n 1, 1) := by decide +kernel
theorem dX9_back_34 : decode cX9_back 34 = .ok (.if_icmp .ge 19, 3) := by decide +kernel
theorem dX9_back_37 : decode cX9_back 37 = .ok (.aload_n 0, 1) := by decide +kernel
theorem dX9_back_38 : decode cX9_back 38 = .ok (.getfield 10, 3) := by decide +kernel
theorem dX9_back_41 : decode cX9_back 41 = .ok (.getfield 81, 3) := by decide +kernel
theorem dX9_back_44 : decode cX9_back 44 = .ok (.invokevirtual 94, 3) := by decide +kernel
theorem dX9_back_47 : decode cX9_back 47 = .ok (.iinc 2 1, 3) := by decide +kernel
theorem dX9_back_50 : decode cX9_back 50 = .ok (.goto (-18), 3) := by decide +kernel
theorem dX9_back_53 : decode cX9_back 53 = .ok (.aload_n 0, 1) := by decide +kernel
theorem dX9_back_54 : decode cX9_back 54 = .ok (.getfield 10, 3) := by decide +kernel
theorem dX9_back_57 : decode cX9_back 57 = .ok (.invokevirtual 87, 3) := by decide +kernel
theorem dX9_back_60 : decode cX9_back 60 = .ok (.aload_n 0, 1) := by decide +kernel
theorem dX9_back_61 : decode cX9_back 61 = .ok (.getfield 10, 3) := by decide +kernel
theorem dX9_back_64 : decode cX9_back 64 = .ok (.getfield 81, 3) := by decide +kernel
theorem dX9_back_67 : decode cX9_back 67 = .ok (.getfield 90, 3) := by decide +kernel
theorem dX9_back_70 : decode cX9_back 70 = .ok (.ireturn, 1) := by decide +kernel
theorem dX9_deer_0 : decode cX9_deer 0 = .ok (.iload_n 1, 1) := by decide +kernel
theorem dX9_deer_1 : decode cX9_deer 1 = .ok (.invokestatic 75, 3) := by decide +kernel
theorem dX9_deer_4 : decode cX9_deer 4 = .ok (.ifCond .eq 10, 3) := by decide +kernel
theorem dX9_deer_7 : decode cX9_deer 7 = .ok (.iload_n 2, 1) := by decide +kernel
theorem dX9_deer_8 : decode cX9_deer 8 = .ok (.invokestatic 97, 3) := by decide +kernel
theorem dX9_deer_11 : decode cX9_deer 11 = .ok (.ifCond .ne 5, 3) := by decide +kernel
theorem dX9_deer_14 : decode cX9_deer 14 = .ok (.iconst (-1), 1) := by decide +kernel
theorem dX9_deer_15 : decode cX9_deer 15 = .ok (.ireturn, 1) := by decide +kernel
theorem dX9_deer_16 : decode cX9_deer 16 = .ok (.iload_n 1, 1) := by decide +kernel
theorem dX9_deer_17 : decode cX9_deer 17 = .ok (.iload_n 2, 1) := by decide +kernel
theorem dX9_deer_18 : decode cX9_deer 18 = .ok (.invokestatic 100, 3) := by decide +kernel
theorem dX9_deer_21 : decode cX9_deer 21 = .ok (.lstore_n 3, 1) := by decide +kernel
theorem dX9_deer_22 : decode cX9_deer 22 = .ok (.lload_n 3, 1) := by decide +kernel
theorem dX9_deer_23 : decode cX9_deer 23 = .ok (.lconst 0, 1) := by decide +kernel
theorem dX9_deer_24 : decode cX9_deer 24 = .ok (.lcmp, 1) := by decide +kernel
theorem dX9_deer_25 : decode cX9_deer 25 = .ok (.ifCond .eq 17, 3) := by decide +kernel
theorem dX9_deer_28 : decode cX9_deer 28 = .ok (.aload_n 0, 1) := by decide +kernel
theorem dX9_deer_29 : decode cX9_deer 29 = .ok (.getfield 10, 3) := by decide +kernel
theorem dX9_deer_32 : decode cX9_deer 32 = .ok (.getfield 104, 3) := by decide +kernel
theorem dX9_deer_35 : decode cX9_deer 35 = .ok (.lload_n 3, 1) := by decide +kernel
theorem dX9_deer_36 : decode cX9_deer 36 = .ok (.land, 1) := by decide +kernel
theorem dX9_deer_37 : decode cX9_deer 37 = .ok (.lconst 0, 1) := by decide +kernel
theorem dX9_deer_38 : decode cX9_deer 38 = .ok (.lcmp, 1) := by decide +kernel
theorem dX9_deer_39 : decode cX9_deer 39 = .ok (.ifCond .eq 6, 3) := by decide +kernel
theorem dX9_deer_42 : decode cX9_deer 42 = .ok (.bipush (-2), 2) := by decide +kernel
theorem dX9_deer_44 : decode cX9_deer 44 = .ok (.ireturn, 1) := by decide +kernel
theorem dX9_deer_45 : decode cX9_deer 45 = .ok (.aload_n 0, 1) := by decide +kernel
theorem dX9_deer_46 : decode cX9_deer 46 = .ok (.getfield 10, 3) := by decide +kernel
theorem dX9_deer_49 : decode cX9_deer 49 = .ok (.getfield 104, 3) := by decide +kernel
theorem dX9_deer_52 : decode cX9_deer 52 = .ok (.invokestatic 108, 3) := by decide +kernel
theorem dX9_deer_55 : decode cX9_deer 55 = .ok (.bipush 10, 2) := by decide +kernel
theorem dX9_deer_57 : decode cX9_deer 57 = .ok (.if_icmp .lt 6, 3) := by decide +kernel
theorem dX9_deer_60 : decode cX9_deer 60 = .ok (.bipush (-3), 2) := by decide +kernel
theorem dX9_deer_62 : decode cX9_deer 62 = .ok (.ireturn, 1) := by decide +kernel
theorem dX9_deer_63 : decode cX9_deer 63 = .ok (.aload_n 0, 1) := by decide +kernel
theorem dX9_deer_64 : decode cX9_deer 64 = .ok (.getfield 10, 3) := by decide +kernel
theorem dX9_deer_67 : decode cX9_deer 67 = .ok (.dup, 1) := by decide +kernel
theorem dX9_deer_68 : decode cX9_deer 68 = .ok (.getfield 104, 3) := by decide +kernel
theorem dX9_deer_71 : decode cX9_deer 71 = .ok (.lload_n 3, 1) := by decide +kernel
theorem dX9_deer_72 : decode cX9_deer 72 = .ok (.lor, 1) := by decide +kernel
theorem dX9_deer_73 : decode cX9_deer 73 = .ok (.putfield 104, 3) := by decide +kernel
theorem dX9_deer_76 : decode cX9_deer 76 = .ok (.aload_n 0, 1) := by decide +kernel
theorem dX9_deer_77 : decode cX9_deer 77 = .ok (.getfield 10, 3) := by decide +kernel
theorem dX9_deer_80 : decode cX9_deer 80 = .ok (.invokevirtual 87, 3) := by decide +kernel
theorem dX9_deer_83 : decode cX9_deer 83 = .ok (.aload_n 0, 1) := by decide +kernel
theorem dX9_deer_84 : decode cX9_deer 84 = .ok (.getfield 10, 3) := by decide +kernel
theorem dX9_deer_87 : decode cX9_deer 87 = .ok (.getfield 104, 3) := by decide +kernel
theorem dX9_deer_90 : decode cX9_deer 90 = .ok (.invokestatic 108, 3) := by decide +kernel
theorem dX9_deer_93 : decode cX9_deer 93 = .ok (.ireturn, 1) := by decide +kernel
theorem dX9_shut_0 : decode cX9_shut 0 = .ok (.iload_n 1, 1) := by decide +kernel
theorem dX9_shut_1 : decode cX9_shut 1 = .ok (.invokestatic 75, 3) := by decide +kernel
theorem dX9_shut_4 : decode cX9_shut 4 = .ok (.ifCond .eq 10, 3) := by decide +kernel
theorem dX9_shut_7 : decode cX9_shut 7 = .ok (.iload_n 2, 1) := by decide +kernel
theorem dX9_shut_8 : decode cX9_shut 8 = .ok (.invokestatic 97, 3) := by decide +kernel
theorem dX9_shut_11 : decode cX9_shut 11 = .ok (.ifCond .ne 5, 3) := by decide +kernel
theorem dX9_shut_14 : decode cX9_shut 14 = .ok (.iconst (-1), 1) := by decide +kernel
theorem dX9_shut_15 : decode cX9_shut 15 = .ok (.ireturn, 1) := by decide +kernel
theorem dX9_shut_16 : decode cX9_shut 16 = .ok (.iload_n 1, 1) := by decide +kernel
theorem dX9_shut_17 : decode cX9_shut 17 = .ok (.iload_n 2, 1) := by decide +kernel
theorem dX9_shut_18 : decode cX9_shut 18 = .ok (.invokestatic 100, 3) := by decide +kernel
theorem dX9_shut_21 : decode cX9_shut 21 = .ok (.lstore 4, 2) := by decide +kernel
theorem dX9_shut_23 : decode cX9_shut 23 = .ok (.lload 4, 2) := by decide +kernel
theorem dX9_shut_25 : decode cX9_shut 25 = .ok (.lconst 0, 1) := by decide +kernel
theorem dX9_shut_26 : decode cX9_shut 26 = .ok (.lcmp, 1) := by decide +kernel
theorem dX9_shut_27 : decode cX9_shut 27 = .ok (.ifCond .ne 6, 3) := by decide +kernel
theorem dX9_shut_30 : decode cX9_shut 30 = .ok (.bipush (-2), 2) := by decide +kernel
theorem dX9_shut_32 : decode cX9_shut 32 = .ok (.ireturn, 1) := by decide +kernel
theorem dX9_shut_33 : decode cX9_shut 33 = .ok (.aload_n 0, 1) := by decide +kernel
theorem dX9_shut_34 : decode cX9_shut 34 = .ok (.getfield 10, 3) := by decide +kernel
theorem dX9_shut_37 : decode cX9_shut 37 = .ok (.getfield 114, 3) := by decide +kernel
theorem dX9_shut_40 : decode cX9_shut 40 = .ok (.lload 4, 2) := by decide +kernel
theorem dX9_shut_42 : decode cX9_shut 42 = .ok (.land, 1) := by decide +kernel
theorem dX9_shut_43 : decode cX9_shut 43 = .ok (.lconst 0, 1) := by decide +kernel
theorem dX9_shut_44 : decode cX9_shut 44 = .ok (.lcmp, 1) := by decide +kernel
theorem dX9_shut_45 : decode cX9_shut 45 = .ok (.ifCond .eq 7, 3) := by decide +kernel
theorem dX9_shut_48 : decode cX9_shut 48 = .ok (.iconst 1, 1) := by decide +kernel
theorem dX9_shut_49 : decode cX9_shut 49 = .ok (.goto 4, 3) := by decide +kernel
theorem dX9_shut_52 : decode cX9_shut 52 = .ok (.iconst 0, 1) := by decide +kernel
theorem dX9_shut_53 : decode cX9_shut 53 = .ok (.istore 6, 2) := by decide +kernel
theorem dX9_shut_55 : decode cX9_shut 55 = .ok (.aload_n 0, 1) := by decide +kernel
theorem dX9_shut_56 : decode cX9_shut 56 = .ok (.getfield 10, 3) := by decide +kernel
theorem dX9_shut_59 : decode cX9_shut 59 = .ok (.iload_n 3, 1) := by decide +kernel
theorem dX9_shut_60 : decode cX9_shut 60 = .ok (.ifCond .eq 16, 3) := by decide +kernel
theorem dX9_shut_63 : decode cX9_shut 63 = .ok (.aload_n 0, 1) := by decide +kernel
theorem dX9_shut_64 : decode cX9_shut 64 = .ok (.getfield 10, 3) := by decide +kernel
theorem dX9_shut_67 : decode cX9_shut 67 = .ok (.getfield 114, 3) := by decide +kernel
theorem dX9_shut_70 : decode cX9_shut 70 = .ok (.lload 4, 2) := by decide +kernel
theorem dX9_shut_72 : decode cX9_shut 72 = .ok (.lor, 1) := by decide +kernel
theorem dX9_shut_73 : decode cX9_shut 73 = .ok (.goto 17, 3) := by decide +kernel
theorem dX9_shut_76 : decode cX9_shut 76 = .ok (.aload_n 0, 1) := by decide +kernel
theorem dX9_shut_77 : decode cX9_shut 77 = .ok (.getfield 10, 3) := by decide +kernel
theorem dX9_shut_80 : decode cX9_shut 80 = .ok (.getfield 114, 3) := by decide +kernel
theorem dX9_shut_83 : decode cX9_shut 83 = .ok (.lload 4, 2) := by decide +kernel
theorem dX9_shut_85 : decode cX9_shut 85 = .ok (.ldc2_w 117, 3) := by decide +kernel
theorem dX9_shut_88 : decode cX9_shut 88 = .ok (.lxor, 1) := by decide +kernel
theorem dX9_shut_89 : decode cX9_shut 89 = .ok (.land, 1) := by decide +kernel
theorem dX9_shut_90 : decode cX9_shut 90 = .ok (.putfield 114, 3) := by decide +kernel
theorem dX9_shut_93 : decode cX9_shut 93 = .ok (.aload_n 0, 1) := by decide +kernel
theorem dX9_shut_94 : decode cX9_shut 94 = .ok (.getfield 10, 3) := by decide +kernel
theorem dX9_shut_97 : decode cX9_shut 97 = .ok (.invokevirtual 87, 3) := by decide +kernel
theorem dX9_shut_100 : decode cX9_shut 100 = .ok (.iload 6, 2) := by decide +kernel
theorem dX9_shut_102 : decode cX9_shut 102 = .ok (.ireturn, 1) := by decide +kernel
theorem dX9_straw_0 : decode cX9_straw 0 = .ok (.iload_n 1, 1) := by decide +kernel
theorem dX9_straw_1 : decode cX9_straw 1 = .ok (.invokestatic 75, 3) := by decide +kernel
theorem dX9_straw_4 : decode cX9_straw 4 = .ok (.ifCond .ne 5, 3) := by decide +kernel
theorem dX9_straw_7 : decode cX9_straw 7 = .ok (.iconst (-1), 1) := by decide +kernel
theorem dX9_straw_8 : decode cX9_straw 8 = .ok (.ireturn, 1) := by decide +kernel
theorem dX9_straw_9 : decode cX9_straw 9 = .ok (.aload_n 0, 1) := by decide +kernel
theorem dX9_straw_10 : decode cX9_straw 10 = .ok (.getfield 10, 3) := by decide +kernel
theorem dX9_straw_13 : decode cX9_straw 13 = .ok (.iload_n 1, 1) := by decide +kernel
theorem dX9_straw_14 : decode cX9_straw 14 = .ok (.invokevirtual 119, 3) := by decide +kernel
theorem dX9_straw_17 : decode cX9_straw 17 = .ok (.ifCond .eq 7, 3) := by decide +kernel
theorem dX9_straw_20 : decode cX9_straw 20 = .ok (.iconst 1, 1) := by decide +kernel
theorem dX9_straw_21 : decode cX9_straw 21 = .ok (.goto 4, 3) := by decide +kernel
theorem dX9_straw_24 : decode cX9_straw 24 = .ok (.iconst 0, 1) := by decide +kernel
theorem dX9_straw_25 : decode cX9_straw 25 = .ok (.istore_n 3, 1) := by decide +kernel
theorem dX9_straw_26 : decode cX9_straw 26 = .ok (.lconst 1, 1) := by decide +kernel
theorem dX9_straw_27 : decode cX9_straw 27 = .ok (.iload_n 1, 1) := by decide +kernel
theorem dX9_straw_28 : decode cX9_straw 28 = .ok (.lshl, 1) := by decide +kernel
theorem dX9_straw_29 : decode cX9_straw 29 = .ok (.lstore 4, 2) := by decide +kernel
