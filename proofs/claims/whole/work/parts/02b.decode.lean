theorem dX0_init_0 : decode cX0_init 0 = .ok (.aload_n 0, 1) := by decide +kernel
theorem dX0_init_1 : decode cX0_init 1 = .ok (.invokespecial 3, 3) := by decide +kernel
theorem dX0_init_4 : decode cX0_init 4 = .ok (.aload_n 0, 1) := by decide +kernel
theorem dX0_init_5 : decode cX0_init 5 = .ok (.bipush (-4), 2) := by decide +kernel
theorem dX0_init_7 : decode cX0_init 7 = .ok (.putfield 9, 3) := by decide +kernel
theorem dX0_init_10 : decode cX0_init 10 = .ok (.aload_n 0, 1) := by decide +kernel
theorem dX0_init_11 : decode cX0_init 11 = .ok (.bipush (-4), 2) := by decide +kernel
theorem dX0_init_13 : decode cX0_init 13 = .ok (.putfield 15, 3) := by decide +kernel
theorem dX0_init_16 : decode cX0_init 16 = .ok (.aload_n 0, 1) := by decide +kernel
theorem dX0_init_17 : decode cX0_init 17 = .ok (.bipush (-4), 2) := by decide +kernel
theorem dX0_init_19 : decode cX0_init 19 = .ok (.putfield 18, 3) := by decide +kernel
theorem dX0_init_22 : decode cX0_init 22 = .ok (.return_, 1) := by decide +kernel
theorem dX0_find_0 : decode cX0_find 0 = .ok (.aload_n 0, 1) := by decide +kernel
theorem dX0_find_1 : decode cX0_find 1 = .ok (.bipush (-4), 2) := by decide +kernel
theorem dX0_find_3 : decode cX0_find 3 = .ok (.putfield 18, 3) := by decide +kernel
theorem dX0_find_6 : decode cX0_find 6 = .ok (.iconst 0, 1) := by decide +kernel
theorem dX0_find_7 : decode cX0_find 7 = .ok (.istore_n 3, 1) := by decide +kernel
theorem dX0_find_8 : decode cX0_find 8 = .ok (.iload_n 3, 1) := by decide +kernel
theorem dX0_find_9 : decode cX0_find 9 = .ok (.bipush 36, 2) := by decide +kernel
theorem dX0_find_11 : decode cX0_find 11 = .ok (.if_icmp .ge 25, 3) := by decide +kernel
theorem dX0_find_14 : decode cX0_find 14 = .ok (.aload_n 0, 1) := by decide +kernel
theorem dX0_find_15 : decode cX0_find 15 = .ok (.aload_n 1, 1) := by decide +kernel
theorem dX0_find_16 : decode cX0_find 16 = .ok (.aload_n 2, 1) := by decide +kernel
theorem dX0_find_17 : decode cX0_find 17 = .ok (.iload_n 3, 1) := by decide +kernel
theorem dX0_find_18 : decode cX0_find 18 = .ok (.iconst 2, 1) := by decide +kernel
theorem dX0_find_19 : decode cX0_find 19 = .ok (.invokevirtual 21, 3) := by decide +kernel
theorem dX0_find_22 : decode cX0_find 22 = .ok (.aload_n 0, 1) := by decide +kernel
theorem dX0_find_23 : decode cX0_find 23 = .ok (.aload_n 1, 1) := by decide +kernel
theorem dX0_find_24 : decode cX0_find 24 = .ok (.aload_n 2, 1) := by decide +kernel
theorem dX0_find_25 : decode cX0_find 25 = .ok (.iload_n 3, 1) := by decide +kernel
theorem dX0_find_26 : decode cX0_find 26 = .ok (.iconst 3, 1) := by decide +kernel
theorem dX0_find_27 : decode cX0_find 27 = .ok (.invokevirtual 21, 3) := by decide +kernel
theorem dX0_find_30 : decode cX0_find 30 = .ok (.iinc 3 1, 3) := by decide +kernel
theorem dX0_find_33 : decode cX0_find 33 = .ok (.goto (-25), 3) := by decide +kernel
theorem dX0_find_36 : decode cX0_find 36 = .ok (.aload_n 0, 1) := by decide +kernel
theorem dX0_find_37 : decode cX0_find 37 = .ok (.getfield 18, 3) := by decide +kernel
theorem dX0_find_40 : decode cX0_find 40 = .ok (.ifCond .lt 7, 3) := by decide +kernel
theorem dX0_find_43 : decode cX0_find 43 = .ok (.iconst 1, 1) := by decide +kernel
theorem dX0_find_44 : decode cX0_find 44 = .ok (.goto 4, 3) := by decide +kernel
theorem dX0_find_47 : decode cX0_find 47 = .ok (.iconst 0, 1) := by decide +kernel
theorem dX0_find_48 : decode cX0_find 48 = .ok (.ireturn, 1) := by decide +kernel
theorem dX0_weigh_0 : decode cX0_weigh 0 = .ok (.iload_n 3, 1) := by decide +kernel
theorem dX0_weigh_1 : decode cX0_weigh 1 = .ok (.iload 4, 2) := by decide +kernel
theorem dX0_weigh_3 : decode cX0_weigh 3 = .ok (.invokestatic 25, 3) := by decide +kernel
theorem dX0_weigh_6 : decode cX0_weigh 6 = .ok (.lstore 5, 2) := by decide +kernel
theorem dX0_weigh_8 : decode cX0_weigh 8 = .ok (.aload_n 1, 1) := by decide +kernel
theorem dX0_weigh_9 : decode cX0_weigh 9 = .ok (.getfield 31, 3) := by decide +kernel
theorem dX0_weigh_12 : decode cX0_weigh 12 = .ok (.lload 5, 2) := by decide +kernel
theorem dX0_weigh_14 : decode cX0_weigh 14 = .ok (.land, 1) := by decide +kernel
theorem dX0_weigh_15 : decode cX0_weigh 15 = .ok (.lconst 0, 1) := by decide +kernel
theorem dX0_weigh_16 : decode cX0_weigh 16 = .ok (.lcmp, 1) := by decide +kernel
theorem dX0_weigh_17 : decode cX0_weigh 17 = .ok (.ifCond .ne 4, 3) := by decide +kernel
theorem dX0_weigh_20 : decode cX0_weigh 20 = .ok (.return_, 1) := by decide +kernel
theorem dX0_weigh_21 : decode cX0_weigh 21 = .ok (.aload_n 2, 1) := by decide +kernel
theorem dX0_weigh_22 : decode cX0_weigh 22 = .ok (.aload_n 1, 1) := by decide +kernel
theorem dX0_weigh_23 : decode cX0_weigh 23 = .ok (.aload_n 1, 1) := by decide +kernel
theorem dX0_weigh_24 : decode cX0_weigh 24 = .ok (.getfield 31, 3) := by decide +kernel
theorem dX0_weigh_27 : decode cX0_weigh 27 = .ok (.lload 5, 2) := by decide +kernel
theorem dX0_weigh_29 : decode cX0_weigh 29 = .ok (.ldc2_w 37, 3) := by decide +kernel
theorem dX0_weigh_32 : decode cX0_weigh 32 = .ok (.lxor, 1) := by decide +kernel
theorem dX0_weigh_33 : decode cX0_weigh 33 = .ok (.land, 1) := by decide +kernel
theorem dX0_weigh_34 : decode cX0_weigh 34 = .ok (.iconst 0, 1) := by decide +kernel
theorem dX0_weigh_35 : decode cX0_weigh 35 = .ok (.iconst 0, 1) := by decide +kernel
theorem dX0_weigh_36 : decode cX0_weigh 36 = .ok (.invokevirtual 39, 3) := by decide +kernel
theorem dX0_weigh_39 : decode cX0_weigh 39 = .ok (.aload_n 2, 1) := by decide +kernel
theorem dX0_weigh_40 : decode cX0_weigh 40 = .ok (.aload_n 1, 1) := by decide +kernel
theorem dX0_weigh_41 : decode cX0_weigh 41 = .ok (.getfield 45, 3) := by decide +kernel
theorem dX0_weigh_44 : decode cX0_weigh 44 = .ok (.invokevirtual 48, 3) := by decide +kernel
theorem dX0_weigh_47 : decode cX0_weigh 47 = .ok (.istore 7, 2) := by decide +kernel
theorem dX0_weigh_49 : decode cX0_weigh 49 = .ok (.iload 7, 2) := by decide +kernel
theorem dX0_weigh_51 : decode cX0_weigh 51 = .ok (.aload_n 0, 1) := by decide +kernel
theorem dX0_weigh_52 : decode cX0_weigh 52 = .ok (.getfield 18, 3) := by decide +kernel
theorem dX0_weigh_55 : decode cX0_weigh 55 = .ok (.if_icmp .le 20, 3) := by decide +kernel
theorem dX0_weigh_58 : decode cX0_weigh 58 = .ok (.aload_n 0, 1) := by decide +kernel
theorem dX0_weigh_59 : decode cX0_weigh 59 = .ok (.iload 7, 2) := by decide +kernel
theorem dX0_weigh_61 : decode cX0_weigh 61 = .ok (.putfield 18, 3) := by decide +kernel
theorem dX0_weigh_64 : decode cX0_weigh 64 = .ok (.aload_n 0, 1) := by decide +kernel
theorem dX0_weigh_65 : decode cX0_weigh 65 = .ok (.iload_n 3, 1) := by decide +kernel
theorem dX0_weigh_66 : decode cX0_weigh 66 = .ok (.putfield 9, 3) := by decide +kernel
theorem dX0_weigh_69 : decode cX0_weigh 69 = .ok (.aload_n 0, 1) := by decide +kernel
theorem dX0_weigh_70 : decode cX0_weigh 70 = .ok (.iload 4, 2) := by decide +kernel
theorem dX0_weigh_72 : decode cX0_weigh 72 = .ok (.putfield 15, 3) := by decide +kernel
theorem dX0_weigh_75 : decode cX0_weigh 75 = .ok (.return_, 1) := by decide +kernel
theorem dX1_init_0 : decode cX1_init 0 = .ok (.aload_n 0, 1) := by decide +kernel
theorem dX1_init_1 : decode cX1_init 1 = .ok (.invokespecial 3, 3) := by decide +kernel
theorem dX1_init_4 : decode cX1_init 4 = .ok (.aload_n 0, 1) := by decide +kernel
theorem dX1_init_5 : decode cX1_init 5 = .ok (.new 9, 3) := by decide +kernel
theorem dX1_init_8 : decode cX1_init 8 = .ok (.dup, 1) := by decide +kernel
theorem dX1_init_9 : decode cX1_init 9 = .ok (.invokespecial 11, 3) := by decide +kernel
theorem dX1_init_12 : decode cX1_init 12 = .ok (.putfield 12, 3) := by decide +kernel
theorem dX1_init_15 : decode cX1_init 15 = .ok (.aload_n 0, 1) := by decide +kernel
theorem dX1_init_16 : decode cX1_init 16 = .ok (.lconst 0, 1) := by decide +kernel
theorem dX1_init_17 : decode cX1_init 17 = .ok (.putfield 18, 3) := by decide +kernel
theorem dX1_init_20 : decode cX1_init 20 = .ok (.aload_n 0, 1) := by decide +kernel
theorem dX1_init_21 : decode cX1_init 21 = .ok (.lconst 0, 1) := by decide +kernel
theorem dX1_init_22 : decode cX1_init 22 = .ok (.putfield 22, 3) := by decide +kernel
theorem dX1_init_25 : decode cX1_init 25 = .ok (.aload_n 0, 1) := by decide +kernel
theorem dX1_init_26 : decode cX1_init 26 = .ok (.lconst 0, 1) := by decide +kernel
theorem dX1_init_27 : decode cX1_init 27 = .ok (.putfield 25, 3) := by decide +kernel
theorem dX1_init_30 : decode cX1_init 30 = .ok (.aload_n 0, 1) := by decide +kernel
theorem dX1_init_31 : decode cX1_init 31 = .ok (.lconst 0, 1) := by decide +kernel
theorem dX1_init_32 : decode cX1_init 32 = .ok (.putfield 28, 3) := by decide +kernel
theorem dX1_init_35 : decode cX1_init 35 = .ok (.aload_n 0, 1) := by decide +kernel
theorem dX1_init_36 : decode cX1_init 36 = .ok (.bipush 9, 2) := by decide +kernel
theorem dX1_init_38 : decode cX1_init 38 = .ok (.putfield 31, 3) := by decide +kernel
theorem dX1_init_41 : decode cX1_init 41 = .ok (.aload_n 0, 1) := by decide +kernel
theorem dX1_init_42 : decode cX1_init 42 = .ok (.bipush 14, 2) := by decide +kernel
theorem dX1_init_44 : decode cX1_init 44 = .ok (.putfield 35, 3) := by decide +kernel
theorem dX1_init_47 : decode cX1_init 47 = .ok (.aload_n 0, 1) := by decide +kernel
theorem dX1_init_48 : decode cX1_init 48 = .ok (.iconst 0, 1) := by decide +kernel
theorem dX1_init_49 : decode cX1_init 49 = .ok (.putfield 38, 3) := by decide +kernel
theorem dX1_init_52 : decode cX1_init 52 = .ok (.aload_n 0, 1) := by decide +kernel
theorem dX1_init_53 : decode cX1_init 53 = .ok (.lconst 0, 1) := by decide +kernel
theorem dX1_init_54 : decode cX1_init 54 = .ok (.putfield 41, 3) := by decide +kernel
theorem dX1_init_57 : decode cX1_init 57 = .ok (.aload_n 0, 1) := by decide +kernel
theorem dX1_init_58 : decode cX1_init 58 = .ok (.lconst 0, 1) := by decide +kernel
theorem dX1_init_59 : decode cX1_init 59 = .ok (.putfield 44, 3) := by decide +kernel
theorem dX1_init_62 : decode cX1_init 62 = .ok (.aload_n 0, 1) := by decide +kernel
theorem dX1_init_63 : decode cX1_init 63 = .ok (.iconst 0, 1) := by decide +kernel
theorem dX1_init_64 : decode cX1_init 64 = .ok (.putfield 47, 3) := by decide +kernel
theorem dX1_init_67 : decode cX1_init 67 = .ok (.return_, 1) := by decide +kernel
theorem dX1_refresh_0 : decode cX1_refresh 0 = .ok (.aload_n 0, 1) := by decide +kernel
theorem dX1_refresh_1 : decode cX1_refresh 1 = .ok (.aload_n 0, 1) := by decide +kernel
theorem dX1_refresh_2 : decode cX1_refresh 2 = .ok (.getfield 12, 3) := by decide +kernel
theorem dX1_refresh_5 : decode cX1_refresh 5 = .ok (.getfield 50, 3) := by decide +kernel
theorem dX1_refresh_8 : decode cX1_refresh 8 = .ok (.aload_n 0, 1) := by decide +kernel
theorem dX1_refresh_9 : decode cX1_refresh 9 = .ok (.getfield 12, 3) := by decide +kernel
theorem dX1_refresh_12 : decode cX1_refresh 12 = .ok (.invokevirtual 53, 3) := by decide +kernel
theorem dX1_refresh_15 : decode cX1_refresh 15 = .ok (.lor, 1) := by decide +kernel
theorem dX1_refresh_16 : decode cX1_refresh 16 = .ok (.aload_n 0, 1) := by decide +kernel
theorem dX1_refresh_17 : decode cX1_refresh 17 = .ok (.getfield 18, 3) := by decide +kernel
theorem dX1_refresh_20 : decode cX1_refresh 20 = .ok (.lor, 1) := by decide +kernel
theorem dX1_refresh_21 : decode cX1_refresh 21 = .ok (.aload_n 0, 1) := by decide +kernel
theorem dX1_refresh_22 : decode cX1_refresh 22 = .ok (.getfield 22, 3) := by decide +kernel
theorem dX1_refresh_25 : decode cX1_refresh 25 = .ok (.ldc2_w 57, 3) := by decide +kernel
theorem dX1_refresh_28 : decode cX1_refresh 28 = .ok (.lxor, 1) := by decide +kernel
theorem dX1_refresh_29 : decode cX1_refresh 29 = .ok (.land, 1) := by decide +kernel
theorem dX1_refresh_30 : decode cX1_refresh 30 = .ok (.putfield 25, 3) := by decide +kernel
theorem dX1_refresh_33 : decode cX1_refresh 33 = .ok (.return_, 1) := by decide +kernel
theorem dX1_copy_0 : decode cX1_copy 0 = .ok (.aload_n 0, 1) := by decide +kernel
theorem dX1_copy_1 : decode cX1_copy 1 = .ok (.getfield 12, 3) := by decide +kernel
theorem dX1_copy_4 : decode cX1_copy 4 = .ok (.aload_n 1, 1) := by decide +kernel
theorem dX1_copy_5 : decode cX1_copy 5 = .ok (.getfield 12, 3) := by decide +kernel
theorem dX1_copy_8 : decode cX1_copy 8 = .ok (.invokevirtual 59, 3) := by decide +kernel
theorem dX1_copy_11 : decode cX1_copy 11 = .ok (.aload_n 0, 1) := by decide +kernel
theorem dX1_copy_12 : decode cX1_copy 12 = .ok (.aload_n 1, 1) := by decide +kernel
theorem dX1_copy_13 : decode cX1_copy 13 = .ok (.getfield 18, 3) := by decide +kernel
theorem dX1_copy_16 : decode cX1_copy 16 = .ok (.putfield 18, 3) := by decide +kernel
theorem dX1_copy_19 : decode cX1_copy 19 = .ok (.aload_n 0, 1) := by decide +kernel
theorem dX1_copy_20 : decode cX1_copy 20 = .ok (.aload_n 1, 1) := by decide +kernel
theorem dX1_copy_21 : decode cX1_copy 21 = .ok (.getfield 22, 3) := by decide +kernel
theorem dX1_copy_24 : decode cX1_copy 24 = .ok (.putfield 22, 3) := by decide +kernel
theorem dX1_copy_27 : decode cX1_copy 27 = .ok (.aload_n 0, 1) := by decide +kernel
theorem dX1_copy_28 : decode cX1_copy 28 = .ok (.aload_n 1, 1) := by decide +kernel
theorem dX1_copy_29 : decode cX1_copy 29 = .ok (.getfield 25, 3) := by decide +kernel
theorem dX1_copy_32 : decode cX1_copy 32 = .ok (.putfield 25, 3) := by decide +kernel
theorem dX1_copy_35 : decode cX1_copy 35 = .ok (.aload_n 0, 1) := by decide +kernel
theorem dX1_copy_36 : decode cX1_copy 36 = .ok (.aload_n 1, 1) := by decide +kernel
theorem dX1_copy_37 : decode cX1_copy 37 = .ok (.getfield 28, 3) := by decide +kernel
theorem dX1_copy_40 : decode cX1_copy 40 = .ok (.putfield 28, 3) := by decide +kernel
theorem dX1_copy_43 : decode cX1_copy 43 = .ok (.aload_n 0, 1) := by decide +kernel
theorem dX1_copy_44 : decode cX1_copy 44 = .ok (.aload_n 1, 1) := by decide +kernel
theorem dX1_copy_45 : decode cX1_copy 45 = .ok (.getfield 31, 3) := by decide +kernel
theorem dX1_copy_48 : decode cX1_copy 48 = .ok (.putfield 31, 3) := by decide +kernel
theorem dX1_copy_51 : decode cX1_copy 51 = .ok (.aload_n 0, 1) := by decide +kernel
theorem dX1_copy_52 : decode cX1_copy 52 = .ok (.aload_n 1, 1) := by decide +kernel
theorem dX1_copy_53 : decode cX1_copy 53 = .ok (.getfield 35, 3) := by decide +kernel
theorem dX1_copy_56 : decode cX1_copy 56 = .ok (.putfield 35, 3) := by decide +kernel
theorem dX1_copy_59 : decode cX1_copy 59 = .ok (.aload_n 0, 1) := by decide +kernel
theorem dX1_copy_60 : decode cX1_copy 60 = .ok (.aload_n 1, 1) := by decide +kernel
theorem dX1_copy_61 : decode cX1_copy 61 = .ok (.getfield 38, 3) := by decide +kernel
theorem dX1_copy_64 : decode cX1_copy 64 = .ok (.putfield 38, 3) := by decide +kernel
theorem dX1_copy_67 : decode cX1_copy 67 = .ok (.aload_n 0, 1) := by decide +kernel
theorem dX1_copy_68 : decode cX1_copy 68 = .ok (.aload_n 1, 1) := by decide +kernel
theorem dX1_copy_69 : decode cX1_copy 69 = .ok (.getfield 41, 3) := by decide +kernel
theorem dX1_copy_72 : decode cX1_copy 72 = .ok (.putfield 41, 3) := by decide +kernel
theorem dX1_copy_75 : decode cX1_copy 75 = .ok (.aload_n 0, 1) := by decide +kernel
theorem dX1_copy_76 : decode cX1_copy 76 = .ok (.aload_n 1, 1) := by decide +kernel
theorem dX1_copy_77 : decode cX1_copy 77 = .ok (.getfield 44, 3) := by decide +kernel
theorem dX1_copy_80 : decode cX1_copy 80 = .ok (.putfield 44, 3) := by decide +kernel
theorem dX1_copy_83 : decode cX1_copy 83 = .ok (.aload_n 0, 1) := by decide +kernel
theorem dX1_copy_84 : decode cX1_copy 84 = .ok (.aload_n 1, 1) := by decide +kernel
theorem dX1_copy_85 : decode cX1_copy 85 = .ok (.getfield 47, 3) := by decide +kernel
theorem dX1_copy_88 : decode cX1_copy 88 = .ok (.putfield 47, 3) := by decide +kernel
theorem dX1_copy_91 : decode cX1_copy 91 = .ok (.return_, 1) := by decide +kernel
theorem dX1_hasStrawMan_0 : decode cX1_hasStrawMan 0 = .ok (.aload_n 0, 1) := by decide +kernel
theorem dX1_hasStrawMan_1 : decode cX1_hasStrawMan 1 = .ok (.getfield 28, 3) := by decide +kernel
theorem dX1_hasStrawMan_4 : decode cX1_hasStrawMan 4 = .ok (.iload_n 1, 1) := by decide +kernel
theorem dX1_hasStrawMan_5 : decode cX1_hasStrawMan 5 = .ok (.lshr, 1) := by decide +kernel
theorem dX1_hasStrawMan_6 : decode cX1_hasStrawMan 6 = .ok (.lconst 1, 1) := by decide +kernel
theorem dX1_hasStrawMan_7 : decode cX1_hasStrawMan 7 = .ok (.land, 1) := by decide +kernel
theorem dX1_hasStrawMan_8 : decode cX1_hasStrawMan 8 = .ok (.lconst 0, 1) := by decide +kernel
theorem dX1_hasStrawMan_9 : decode cX1_hasStrawMan 9 = .ok (.lcmp, 1) := by decide +kernel
theorem dX1_hasStrawMan_10 : decode cX1_hasStrawMan 10 = .ok (.ifCond .eq 7, 3) := by decide +kernel
theorem dX1_hasStrawMan_13 : decode cX1_hasStrawMan 13 = .ok (.iconst 1, 1) := by decide +kernel
theorem dX1_hasStrawMan_14 : decode cX1_hasStrawMan 14 = .ok (.goto 4, 3) := by decide +kernel
theorem dX1_hasStrawMan_17 : decode cX1_hasStrawMan 17 = .ok (.iconst 0, 1) := by decide +kernel
theorem dX1_hasStrawMan_18 : decode cX1_hasStrawMan 18 = .ok (.ireturn, 1) := by decide +kernel
theorem dX1_gapSides_0 : decode cX1_gapSides 0 = .ok (.iconst 0, 1) := by decide +kernel
theorem dX1_gapSides_1 : decode cX1_gapSides 1 = .ok (.istore_n 2, 1) := by decide +kernel
theorem dX1_gapSides_2 : decode cX1_gapSides 2 = .ok (.iconst 0, 1) := by decide +kernel
theorem dX1_gapSides_3 : decode cX1_gapSides 3 = .ok (.istore_n 3, 1) := by decide +kernel
theorem dX1_gapSides_4 : decode cX1_gapSides 4 = .ok (.iload_n 3, 1) := by decide +kernel
theorem dX1_gapSides_5 : decode cX1_gapSides 5 = .ok (.iconst 4, 1) := by decide +kernel
theorem dX1_gapSides_6 : decode cX1_gapSides 6 = .ok (.if_icmp .ge 30, 3) := by decide +kernel
theorem dX1_gapSides_9 : decode cX1_gapSides 9 = .ok (.aload_n 0, 1) := by decide +kernel
theorem dX1_gapSides_10 : decode cX1_gapSides 10 = .ok (.getfield 25, 3) := by decide +kernel
theorem dX1_gapSides_13 : decode cX1_gapSides 13 = .ok (.iload_n 1, 1) := by decide +kernel
theorem dX1_gapSides_14 : decode cX1_gapSides 14 = .ok (.iload_n 3, 1) := by decide +kernel
theorem dX1_gapSides_15 : decode cX1_gapSides 15 = .ok (.invokestatic 63, 3) := by decide +kernel
theorem dX1_gapSides_18 : decode cX1_gapSides 18 = .ok (.land, 1) := by decide +kernel
theorem dX1_gapSides_19 : decode cX1_gapSides 19 = .ok (.lconst 0, 1) := by decide +kernel
theorem dX1_gapSides_20 : decode cX1_gapSides 20 = .ok (.lcmp, 1) := by decide +kernel
theorem dX1_gapSides_21 : decode cX1_gapSides 21 = .ok (.ifCond .eq 9, 3) := by decide +kernel
theorem dX1_gapSides_24 : decode cX1_gapSides 24 = .ok (.iload_n 2, 1) := by decide +kernel
theorem dX1_gapSides_25 : decode cX1_gapSides 25 = .ok (.iconst 1, 1) := by decide +kernel
theorem dX1_gapSides_26 : decode cX1_gapSides 26 = .ok (.iload_n 3, 1) := by decide +kernel
theorem dX1_gapSides_27 : decode cX1_gapSides 27 = .ok (.ishl, 1) := by decide +kernel
theorem dX1_gapSides_28 : decode cX1_gapSides 28 = .ok (.ior, 1) := by decide +kernel
theorem dX1_gapSides_29 : decode cX1_gapSides 29 = .ok (.istore_n 2, 1) := by decide +kernel
theorem dX1_gapSides_30 : decode cX1_gapSides 30 = .ok (.iinc 3 1, 3) := by decide +kernel
theorem dX1_gapSides_33 : decode cX1_gapSides 33 = .ok (.goto (-29), 3) := by decide +kernel
theorem dX1_gapSides_36 : decode cX1_gapSides 36 = .ok (.iload_n 2, 1) := by decide +kernel
theorem dX1_gapSides_37 : decode cX1_gapSides 37 = .ok (.ireturn, 1) := by decide +kernel
theorem dX1_cornStops_0 : decode cX1_cornStops 0 = .ok (.aload_n 0, 1) := by decide +kernel
theorem dX1_cornStops_1 : decode cX1_cornStops 1 = .ok (.getfield 31, 3) := by decide +kernel
theorem dX1_cornStops_4 : decode cX1_cornStops 4 = .ok (.iload_n 1, 1) := by decide +kernel
theorem dX1_cornStops_5 : decode cX1_cornStops 5 = .ok (.ifCond .eq 8, 3) := by decide +kernel
theorem dX1_cornStops_8 : decode cX1_cornStops 8 = .ok (.bipush 7, 2) := by decide +kernel
theorem dX1_cornStops_10 : decode cX1_cornStops 10 = .ok (.goto 4, 3) := by decide +kernel
theorem dX1_cornStops_13 : decode cX1_cornStops 13 = .ok (.iconst 3, 1) := by decide +kernel
theorem dX1_cornStops_14 : decode cX1_cornStops 14 = .ok (.if_icmp .lt 7, 3) := by decide +kernel
theorem dX1_cornStops_17 : decode cX1_cornStops 17 = .ok (.iconst 1, 1) := by decide +kernel
theorem dX1_cornStops_18 : decode cX1_cornStops 18 = .ok (.goto 4, 3) := by decide +kernel
theorem dX1_cornStops_21 : decode cX1_cornStops 21 = .ok (.iconst 0, 1) := by decide +kernel
theorem dX1_cornStops_22 : decode cX1_cornStops 22 = .ok (.ireturn, 1) := by decide +kernel
theorem dX1_isPassable_0 : decode cX1_isPassable 0 = .ok (.iload_n 2, 1) := by decide +kernel
theorem dX1_isPassable_1 : decode cX1_isPassable 1 = .ok (.iload_n 3, 1) := by decide +kernel
theorem dX1_isPassable_2 : decode cX1_isPassable 2 = .ok (.invokestatic 69, 3) := by decide +kernel
theorem dX1_isPassable_5 : decode cX1_isPassable 5 = .ok (.istore 4, 2) := by decide +kernel
theorem dX1_isPassable_7 : decode cX1_isPassable 7 = .ok (.iload 4, 2) := by decide +kernel
theorem dX1_isPassable_9 : decode cX1_isPassable 9 = .ok (.ifCond .lt 16, 3) := by decide +kernel
theorem dX1_isPassable_12 : decode cX1_isPassable 12 = .ok (.iload_n 1, 1) := by decide +kernel
theorem dX1_isPassable_13 : decode cX1_isPassable 13 = .ok (.ifCond .ne 14, 3) := by decide +kernel
theorem dX1_isPassable_16 : decode cX1_isPassable 16 = .ok (.aload_n 0, 1) := by decide +kernel
theorem dX1_isPassable_17 : decode cX1_isPassable 17 = .ok (.iload 4, 2) := by decide +kernel
theorem dX1_isPassable_19 : decode cX1_isPassable 19 = .ok (.invokevirtual 73, 3) := by decide +kernel
theorem dX1_isPassable_22 : decode cX1_isPassable 22 = .ok (.ifCond .eq 5, 3) := by decide +kernel
theorem dX1_isPassable_25 : decode cX1_isPassable 25 = .ok (.iconst 0, 1) := by decide +kernel
theorem dX1_isPassable_26 : decode cX1_isPassable 26 = .ok (.ireturn, 1) := by decide +kernel
theorem dX1_isPassable_27 : decode cX1_isPassable 27 = .ok (.aload_n 0, 1) := by decide +kernel
theorem dX1_isPassable_28 : decode cX1_isPassable 28 = .ok (.getfield 25, 3) := by decide +kernel
theorem dX1_isPassable_31 : decode cX1_isPassable 31 = .ok (.iload_n 2, 1) := by decide +kernel
theorem dX1_isPassable_32 : decode cX1_isPassable 32 = .ok (.iload_n 3, 1) := by decide +kernel
theorem dX1_isPassable_33 : decode cX1_isPassable 33 = .ok (.invokestatic 63, 3) := by decide +kernel
theorem dX1_isPassable_36 : decode cX1_isPassable 36 = .ok (.land, 1) := by decide +kernel
theorem dX1_isPassable_37 : decode cX1_isPassable 37 = .ok (.lconst 0, 1) := by decide +kernel
theorem dX1_isPassable_38 : decode cX1_isPassable 38 = .ok (.lcmp, 1) := by decide +kernel
theorem dX1_isPassable_39 : decode cX1_isPassable 39 = .ok (.ifCond .ne 11, 3) := by decide +kernel
theorem dX1_isPassable_42 : decode cX1_isPassable 42 = .ok (.aload_n 0, 1) := by decide +kernel
theorem dX1_isPassable_43 : decode cX1_isPassable 43 = .ok (.iload_n 1, 1) := by decide +kernel
theorem dX1_isPassable_44 : decode cX1_isPassable 44 = .ok (.invokevirtual 77, 3) := by decide +kernel
theorem dX1_isPassable_47 : decode cX1_isPassable 47 = .ok (.ifCond .ne 7, 3) := by decide +kernel
theorem dX1_isPassable_50 : decode cX1_isPassable 50 = .ok (.iconst 1, 1) := by decide +kernel
theorem dX1_isPassable_51 : decode cX1_isPassable 51 = .ok (.goto 4, 3) := by decide +kernel
theorem dX1_isPassable_54 : decode cX1_isPassable 54 = .ok (.iconst 0, 1) := by decide +kernel
theorem dX1_isPassable_55 : decode cX1_isPassable 55 = .ok (.ireturn, 1) := by decide +kernel
theorem dX2_init_0 : decode cX2_init 0 = .ok (.aload_n 0, 1) := by decide +kernel
theorem dX2_init_1 : decode cX2_init 1 = .ok (.invokespecial 3, 3) := by decide +kernel
theorem dX2_init_4 : decode cX2_init 4 = .ok (.aload_n 0, 1) := by decide +kernel
theorem dX2_init_5 : decode cX2_init 5 = .ok (.bipush 36, 2) := by decide +kernel
theorem dX2_init_7 : decode cX2_init 7 = .ok (.newarray .int, 2) := by decide +kernel
theorem dX2_init_9 : decode cX2_init 9 = .ok (.putfield 9, 3) := by decide +kernel
theorem dX2_init_12 : decode cX2_init 12 = .ok (.aload_n 0, 1) := by decide +kernel
theorem dX2_init_13 : decode cX2_init 13 = .ok (.iconst 0, 1) := by decide +kernel
theorem dX2_init_14 : decode cX2_init 14 = .ok (.putfield 15, 3) := by decide +kernel
theorem dX2_init_17 : decode cX2_init 17 = .ok (.aload_n 0, 1) := by decide +kernel
theorem dX2_init_18 : decode cX2_init 18 = .ok (.lconst 0, 1) := by decide +kernel
theorem dX2_init_19 : decode cX2_init 19 = .ok (.putfield 19, 3) := by decide +kernel
theorem dX2_init_22 : decode cX2_init 22 = .ok (.aload_n 0, 1) := by decide +kernel
theorem dX2_init_23 : decode cX2_init 23 = .ok (.lconst 0, 1) := by decide +kernel
theorem dX2_init_24 : decode cX2_init 24 = .ok (.putfield 23, 3) := by decide +kernel
theorem dX2_init_27 : decode cX2_init 27 = .ok (.return_, 1) := by decide +kernel
theorem dX2_add_0 : decode cX2_add 0 = .ok (.iload_n 1, 1) := by decide +kernel
theorem dX2_add_1 : decode cX2_add 1 = .ok (.invokestatic 26, 3) := by decide +kernel
theorem dX2_add_4 : decode cX2_add 4 = .ok (.ifCond .eq 25, 3) := by decide +kernel
theorem dX2_add_7 : decode cX2_add 7 = .ok (.aload_n 0, 1) := by decide +kernel
theorem dX2_add_8 : decode cX2_add 8 = .ok (.getfield 15, 3) := by decide +kernel
theorem dX2_add_11 : decode cX2_add 11 = .ok (.bipush 36, 2) := by decide +kernel
theorem dX2_add_13 : decode cX2_add 13 = .ok (.if_icmp .ge 16, 3) := by decide +kernel
theorem dX2_add_16 : decode cX2_add 16 = .ok (.aload_n 0, 1) := by decide +kernel
theorem dX2_add_17 : decode cX2_add 17 = .ok (.getfield 19, 3) := by decide +kernel
theorem dX2_add_20 : decode cX2_add 20 = .ok (.iload_n 1, 1) := by decide +kernel
theorem dX2_add_21 : decode cX2_add 21 = .ok (.lshr, 1) := by decide +kernel
theorem dX2_add_22 : decode cX2_add 22 = .ok (.lconst 1, 1) := by decide +kernel
theorem dX2_add_23 : decode cX2_add 23 = .ok (.land, 1) := by decide +kernel
theorem dX2_add_24 : decode cX2_add 24 = .ok (.lconst 0, 1) := by decide +kernel
theorem dX2_add_25 : decode cX2_add 25 = .ok (.lcmp, 1) := by decide +kernel
theorem dX2_add_26 : decode cX2_add 26 = .ok (.ifCond .eq 5, 3) := by decide +kernel
theorem dX2_add_29 : decode cX2_add 29 = .ok (.iconst 0, 1) := by decide +kernel
theorem dX2_add_30 : decode cX2_add 30 = .ok (.ireturn, 1) := by decide +kernel
theorem dX2_add_31 : decode cX2_add 31 = .ok (.aload_n 0, 1) := by decide +kernel
theorem dX2_add_32 : decode cX2_add 32 = .ok (.getfield 15, 3) := by decide +kernel
theorem dX2_add_35 : decode cX2_add 35 = .ok (.ifCond .le 37, 3) := by decide +kernel
theorem dX2_add_38 : decode cX2_add 38 = .ok (.aload_n 0, 1) := by decide +kernel
theorem dX2_add_39 : decode cX2_add 39 = .ok (.getfield 9, 3) := by decide +kernel
theorem dX2_add_42 : decode cX2_add 42 = .ok (.aload_n 0, 1) := by decide +kernel
theorem dX2_add_43 : decode cX2_add 43 = .ok (.getfield 15, 3) := by decide +kernel
theorem dX2_add_46 : decode cX2_add 46 = .ok (.iconst 1, 1) := by decide +kernel
theorem dX2_add_47 : decode cX2_add 47 = .ok (.isub, 1) := by decide +kernel
theorem dX2_add_48 : decode cX2_add 48 = .ok (.iaload, 1) := by decide +kernel
theorem dX2_add_49 : decode cX2_add 49 = .ok (.iload_n 1, 1) := by decide +kernel
theorem dX2_add_50 : decode cX2_add 50 = .ok (.invokestatic 32, 3) := by decide +kernel
theorem dX2_add_53 : decode cX2_add 53 = .ok (.lstore_n 2, 1) := by decide +kernel
theorem dX2_add_54 : decode cX2_add 54 = .ok (.lload_n 2, 1) := by decide +kernel
theorem dX2_add_55 : decode cX2_add 55 = .ok (.lconst 0, 1) := by decide +kernel
theorem dX2_add_56 : decode cX2_add 56 = .ok (.lcmp, 1) := by decide +kernel
theorem dX2_add_57 : decode cX2_add 57 = .ok (.ifCond .ne 5, 3) := by decide +kernel
theorem dX2_add_60 : decode cX2_add 60 = .ok (.iconst 0, 1) := by decide +kernel
theorem dX2_add_61 : decode cX2_add 61 = .ok (.ireturn, 1) := by decide +kernel
theorem dX2_add_62 : decode cX2_add 62 = .ok (.aload_n 0, 1) := by decide +kernel
theorem dX2_add_63 : decode cX2_add 63 = .ok (.dup, 1) := by decide +kernel
theorem dX2_add_64 : decode cX2_add 64 = .ok (.getfield 23, 3) := by decide +kernel
theorem dX2_add_67 : decode cX2_add 67 = .ok (.lload_n 2, 1) := by decide +kernel
theorem dX2_add_68 : decode cX2_add 68 = .ok (.lor, 1) := by decide +kernel
theorem dX2_add_69 : decode cX2_add 69 = .ok (.putfield 23, 3) := by decide +kernel
theorem dX2_add_72 : decode cX2_add 72 = .ok (.aload_n 0, 1) := by decide +kernel
theorem dX2_add_73 : decode cX2_add 73 = .ok (.getfield 9, 3) := by decide +kernel
theorem dX2_add_76 : decode cX2_add 76 = .ok (.aload_n 0, 1) := by decide +kernel
theorem dX2_add_77 : decode cX2_add 77 = .ok (.getfield 15, 3) := by decide +kernel
theorem dX2_add_80 : decode cX2_add 80 = .ok (.iload_n 1, 1) := by decide +kernel
theorem dX2_add_81 : decode cX2_add 81 = .ok (.iastore, 1) := by decide +kernel
theorem dX2_add_82 : decode cX2_add 82 = .ok (.aload_n 0, 1) := by decide +kernel
theorem dX2_add_83 : decode cX2_add 83 = .ok (.dup, 1) := by decide +kernel
theorem dX2_add_84 : decode cX2_add 84 = .ok (.getfield 15, 3) := by decide +kernel
theorem dX2_add_87 : decode cX2_add 87 = .ok (.iconst 1, 1) := by decide +kernel
theorem dX2_add_88 : decode cX2_add 88 = .ok (.iadd, 1) := by decide +kernel
theorem dX2_add_89 : decode cX2_add 89 = .ok (.putfield 15, 3) := by decide +kernel
theorem dX2_add_92 : decode cX2_add 92 = .ok (.aload_n 0, 1) := by decide +kernel
theorem dX2_add_93 : decode cX2_add 93 = .ok (.dup, 1) := by decide +kernel
theorem dX2_add_94 : decode cX2_add 94 = .ok (.getfield 19, 3) := by decide +kernel
theorem dX2_add_97 : decode cX2_add 97 = .ok (.lconst 1, 1) := by decide +kernel
theorem dX2_add_98 : decode cX2_add 98 = .ok (.iload_n 1, 1) := by decide +kernel
theorem dX2_add_99 : decode cX2_add 99 = .ok (.lshl, 1) := by decide +kernel
theorem dX2_add_100 : decode cX2_add 100 = .ok (.lor, 1) := by decide +kernel
theorem dX2_add_101 : decode cX2_add 101 = .ok (.putfield 19, 3) := by decide +kernel
theorem dX2_add_104 : decode cX2_add 104 = .ok (.iconst 1, 1) := by decide +kernel
theorem dX2_add_105 : decode cX2_add 105 = .ok (.ireturn, 1) := by decide +kernel
theorem dX2_removeLast_0 : decode cX2_removeLast 0 = .ok (.aload_n 0, 1) := by decide +kernel
theorem dX2_removeLast_1 : decode cX2_removeLast 1 = .ok (.getfield 15, 3) := by decide +kernel
theorem dX2_removeLast_4 : decode cX2_removeLast 4 = .ok (.ifCond .ne 4, 3) := by decide +kernel
theorem dX2_removeLast_7 : decode cX2_removeLast 7 = .ok (.return_, 1) := by decide +kernel
theorem dX2_removeLast_8 : decode cX2_removeLast 8 = .ok (.aload_n 0, 1) := by decide +kernel
theorem dX2_removeLast_9 : decode cX2_removeLast 9 = .ok (.dup, 1) := by decide +kernel
theorem dX2_removeLast_10 : decode cX2_removeLast 10 = .ok (.getfield 15, 3) := by decide +kernel
theorem dX2_removeLast_13 : decode cX2_removeLast 13 = .ok (.iconst 1, 1) := by decide +kernel
theorem dX2_removeLast_14 : decode cX2_removeLast 14 = .ok (.isub, 1) := by decide +kernel
theorem dX2_removeLast_15 : decode cX2_removeLast 15 = .ok (.putfield 15, 3) := by decide +kernel
theorem dX2_removeLast_18 : decode cX2_removeLast 18 = .ok (.aload_n 0, 1) := by decide +kernel
theorem dX2_removeLast_19 : decode cX2_removeLast 19 = .ok (.dup, 1) := by decide +kernel
theorem dX2_removeLast_20 : decode cX2_removeLast 20 = .ok (.getfield 19, 3) := by decide +kernel
theorem dX2_removeLast_23 : decode cX2_removeLast 23 = .ok (.lconst 1, 1) := by decide +kernel
theorem dX2_removeLast_24 : decode cX2_removeLast 24 = .ok (.aload_n 0, 1) := by decide +kernel
theorem dX2_removeLast_25 : decode cX2_removeLast 25 = .ok (.getfield 9, 3) := by decide +kernel
theorem dX2_removeLast_28 : decode cX2_removeLast 28 = .ok (.aload_n 0, 1) := by decide +kernel
theorem dX2_removeLast_29 : decode cX2_removeLast 29 = .ok (.getfield 15, 3) := by decide +kernel
theorem dX2_removeLast_32 : decode cX2_removeLast 32 = .ok (.iaload, 1) := by decide +kernel
theorem dX2_removeLast_33 : decode cX2_removeLast 33 = .ok (.lshl, 1) := by decide +kernel
theorem dX2_removeLast_34 : decode cX2_removeLast 34 = .ok (.ldc2_w 36, 3) := by decide +kernel
theorem dX2_removeLast_37 : decode cX2_removeLast 37 = .ok (.lxor, 1) := by decide +kernel
theorem dX2_removeLast_38 : decode cX2_removeLast 38 = .ok (.land, 1) := by decide +kernel
theorem dX2_removeLast_39 : decode cX2_removeLast 39 = .ok (.putfield 19, 3) := by decide +kernel
theorem dX2_removeLast_42 : decode cX2_removeLast 42 = .ok (.aload_n 0, 1) := by decide +kernel
theorem dX2_removeLast_43 : decode cX2_removeLast 43 = .ok (.getfield 15, 3) := by decide +kernel
theorem dX2_removeLast_46 : decode cX2_removeLast 46 = .ok (.ifCond .le 39, 3) := by decide +kernel
theorem dX2_removeLast_49 : decode cX2_removeLast 49 = .ok (.aload_n 0, 1) := by decide +kernel
theorem dX2_removeLast_50 : decode cX2_removeLast 50 = .ok (.dup, 1) := by decide +kernel
theorem dX2_removeLast_51 : decode cX2_removeLast 51 = .ok (.getfield 23, 3) := by decide +kernel
theorem dX2_removeLast_54 : decode cX2_removeLast 54 = .ok (.aload_n 0, 1) := by decide +kernel
theorem dX2_removeLast_55 : decode cX2_removeLast 55 = .ok (.getfield 9, 3) := by decide +kernel
theorem dX2_removeLast_58 : decode cX2_removeLast 58 = .ok (.aload_n 0, 1) := by decide +kernel
theorem dX2_removeLast_59 : decode cX2_removeLast 59 = .ok (.getfield 15, 3) := by decide +kernel
theorem dX2_removeLast_62 : decode cX2_removeLast 62 = .ok (.iconst 1, 1) := by decide +kernel
theorem dX2_removeLast_63 : decode cX2_removeLast 63 = .ok (.isub, 1) := by decide +kernel
theorem dX2_removeLast_64 : decode cX2_removeLast 64 = .ok (.iaload, 1) := by decide +kernel
theorem dX2_removeLast_65 : decode cX2_removeLast 65 = .ok (.aload_n 0, 1) := by decide +kernel
theorem dX2_removeLast_66 : decode cX2_removeLast 66 = .ok (.getfield 9, 3) := by decide +kernel
theorem dX2_removeLast_69 : decode cX2_removeLast 69 = .ok (.aload_n 0, 1) := by decide +kernel
theorem dX2_removeLast_70 : decode cX2_removeLast 70 = .ok (.getfield 15, 3) := by decide +kernel
theorem dX2_removeLast_73 : decode cX2_removeLast 73 = .ok (.iaload, 1) := by decide +kernel
theorem dX2_removeLast_74 : decode cX2_removeLast 74 = .ok (.invokestatic 32, 3) := by decide +kernel
theorem dX2_removeLast_77 : decode cX2_removeLast 77 = .ok (.ldc2_w 36, 3) := by decide +kernel
theorem dX2_removeLast_80 : decode cX2_removeLast 80 = .ok (.lxor, 1) := by decide +kernel
theorem dX2_removeLast_81 : decode cX2_removeLast 81 = .ok (.land, 1) := by decide +kernel
theorem dX2_removeLast_82 : decode cX2_removeLast 82 = .ok (.putfield 23, 3) := by decide +kernel
theorem dX2_removeLast_85 : decode cX2_removeLast 85 = .ok (.return_, 1) := by decide +kernel
theorem dX2_clear_0 : decode cX2_clear 0 = .ok (.aload_n 0, 1) := by decide +kernel
theorem dX2_clear_1 : decode cX2_clear 1 = .ok (.iconst 0, 1) := by decide +kernel
theorem dX2_clear_2 : decode cX2_clear 2 = .ok (.putfield 15, 3) := by decide +kernel
theorem dX2_clear_5 : decode cX2_clear 5 = .ok (.aload_n 0, 1) := by decide +kernel
theorem dX2_clear_6 : decode cX2_clear 6 = .ok (.lconst 0, 1) := by decide +kernel
theorem dX2_clear_7 : decode cX2_clear 7 = .ok (.putfield 19, 3) := by decide +kernel
theorem dX2_clear_10 : decode cX2_clear 10 = .ok (.aload_n 0, 1) := by decide +kernel
theorem dX2_clear_11 : decode cX2_clear 11 = .ok (.lconst 0, 1) := by decide +kernel
theorem dX2_clear_12 : decode cX2_clear 12 = .ok (.putfield 23, 3) := by decide +kernel
theorem dX2_clear_15 : decode cX2_clear 15 = .ok (.return_, 1) := by decide +kernel
theorem dX2_copy_0 : decode cX2_copy 0 = .ok (.aload_n 1, 1) := by decide +kernel
theorem dX2_copy_1 : decode cX2_copy 1 = .ok (.getfield 9, 3) := by decide +kernel
theorem dX2_copy_4 : decode cX2_copy 4 = .ok (.iconst 0, 1) := by decide +kernel
theorem dX2_copy_5 : decode cX2_copy 5 = .ok (.aload_n 0, 1) := by decide +kernel
theorem dX2_copy_6 : decode cX2_copy 6 = .ok (.getfield 9, 3) := by decide +kernel
theorem dX2_copy_9 : decode cX2_copy 9 = .ok (.iconst 0, 1) := by decide +kernel
theorem dX2_copy_10 : decode cX2_copy 10 = .ok (.bipush 36, 2) := by decide +kernel
theorem dX2_copy_12 : decode cX2_copy 12 = .ok (.invokestatic 38, 3) := by decide +kernel
theorem dX2_copy_15 : decode cX2_copy 15 = .ok (.aload_n 0, 1) := by decide +kernel
theorem dX2_copy_16 : decode cX2_copy 16 = .ok (.aload_n 1, 1) := by decide +kernel
theorem dX2_copy_17 : decode cX2_copy 17 = .ok (.getfield 15, 3) := by decide +kernel
theorem dX2_copy_20 : decode cX2_copy 20 = .ok (.putfield 15, 3) := by decide +kernel
theorem dX2_copy_23 : decode cX2_copy 23 = .ok (.aload_n 0, 1) := by decide +kernel
theorem dX2_copy_24 : decode cX2_copy 24 = .ok (.aload_n 1, 1) := by decide +kernel
theorem dX2_copy_25 : decode cX2_copy 25 = .ok (.getfield 19, 3) := by decide +kernel
theorem dX2_copy_28 : decode cX2_copy 28 = .ok (.putfield 19, 3) := by decide +kernel
theorem dX2_copy_31 : decode cX2_copy 31 = .ok (.aload_n 0, 1) := by decide +kernel
theorem dX2_copy_32 : decode cX2_copy 32 = .ok (.aload_n 1, 1) := by decide +kernel
theorem dX2_copy_33 : decode cX2_copy 33 = .ok (.getfield 23, 3) := by decide +kernel
theorem dX2_copy_36 : decode cX2_copy 36 = .ok (.putfield 23, 3) := by decide +kernel
theorem dX2_copy_39 : decode cX2_copy 39 = .ok (.return_, 1) := by decide +kernel
theorem dX2_squareAt_0 : decode cX2_squareAt 0 = .ok (.iload_n 1, 1) := by decide +kernel
theorem dX2_squareAt_1 : decode cX2_squareAt 1 = .ok (.ifCond .lt 20, 3) := by decide +kernel
theorem dX2_squareAt_4 : decode cX2_squareAt 4 = .ok (.iload_n 1, 1) := by decide +kernel
theorem dX2_squareAt_5 : decode cX2_squareAt 5 = .ok (.aload_n 0, 1) := by decide +kernel
theorem dX2_squareAt_6 : decode cX2_squareAt 6 = .ok (.getfield 15, 3) := by decide +kernel
theorem dX2_squareAt_9 : decode cX2_squareAt 9 = .ok (.if_icmp .ge 12, 3) := by decide +kernel
theorem dX2_squareAt_12 : decode cX2_squareAt 12 = .ok (.aload_n 0, 1) := by decide +kernel
theorem dX2_squareAt_13 : decode cX2_squareAt 13 = .ok (.getfield 9, 3) := by decide +kernel
theorem dX2_squareAt_16 : decode cX2_squareAt 16 = .ok (.iload_n 1, 1) := by decide +kernel
theorem dX2_squareAt_17 : decode cX2_squareAt 17 = .ok (.iaload, 1) := by decide +kernel
theorem dX2_squareAt_18 : decode cX2_squareAt 18 = .ok (.goto 5, 3) := by decide +kernel
theorem dX2_squareAt_21 : decode cX2_squareAt 21 = .ok (.bipush (-4), 2) := by decide +kernel
theorem dX2_squareAt_23 : decode cX2_squareAt 23 = .ok (.ireturn, 1) := by decide +kernel
theorem dX2_lastSquare_0 : decode cX2_lastSquare 0 = .ok (.aload_n 0, 1) := by decide +kernel
theorem dX2_lastSquare_1 : decode cX2_lastSquare 1 = .ok (.aload_n 0, 1) := by decide +kernel
theorem dX2_lastSquare_2 : decode cX2_lastSquare 2 = .ok (.getfield 15, 3) := by decide +kernel
theorem dX2_lastSquare_5 : decode cX2_lastSquare 5 = .ok (.iconst 1, 1) := by decide +kernel
theorem dX2_lastSquare_6 : decode cX2_lastSquare 6 = .ok (.isub, 1) := by decide +kernel
theorem dX2_lastSquare_7 : decode cX2_lastSquare 7 = .ok (.invokevirtual 44, 3) := by decide +kernel
theorem dX2_lastSquare_10 : decode cX2_lastSquare 10 = .ok (.ireturn, 1) := by decide +kernel
theorem dX2_placeOf_0 : decode cX2_placeOf 0 = .ok (.iconst 0, 1) := by decide +kernel
theorem dX2_placeOf_1 : decode cX2_placeOf 1 = .ok (.istore_n 2, 1) := by decide +kernel
theorem dX2_placeOf_2 : decode cX2_placeOf 2 = .ok (.iload_n 2, 1) := by decide +kernel
theorem dX2_placeOf_3 : decode cX2_placeOf 3 = .ok (.aload_n 0, 1) := by decide +kernel
theorem dX2_placeOf_4 : decode cX2_placeOf 4 = .ok (.getfield 15, 3) := by decide +kernel
theorem dX2_placeOf_7 : decode cX2_placeOf 7 = .ok (.if_icmp .ge 21, 3) := by decide +kernel
theorem dX2_placeOf_10 : decode cX2_placeOf 10 = .ok (.aload_n 0, 1) := by decide +kernel
theorem dX2_placeOf_11 : decode cX2_placeOf 11 = .ok (.getfield 9, 3) := by decide +kernel
theorem dX2_placeOf_14 : decode cX2_placeOf 14 = .ok (.iload_n 2, 1) := by decide +kernel
theorem dX2_placeOf_15 : decode cX2_placeOf 15 = .ok (.iaload, 1) := by decide +kernel
theorem dX2_placeOf_16 : decode cX2_placeOf 16 = .ok (.iload_n 1, 1) := by decide +kernel
theorem dX2_placeOf_17 : decode cX2_placeOf 17 = .ok (.if_icmp .ne 5, 3) := by decide +kernel
theorem dX2_placeOf_20 : decode cX2_placeOf 20 = .ok (.iload_n 2, 1) := by decide +kernel
theorem dX2_placeOf_21 : decode cX2_placeOf 21 = .ok (.ireturn, 1) := by decide +kernel
theorem dX2_placeOf_22 : decode cX2_placeOf 22 = .ok (.iinc 2 1, 3) := by decide +kernel
theorem dX2_placeOf_25 : decode cX2_placeOf 25 = .ok (.goto (-23), 3) := by decide +kernel
theorem dX2_placeOf_28 : decode cX2_placeOf 28 = .ok (.bipush (-4), 2) := by decide +kernel
theorem dX2_placeOf_30 : decode cX2_placeOf 30 = .ok (.ireturn, 1) := by decide +kernel
theorem dX2_ring_0 : decode cX2_ring 0 = .ok (.aload_n 0, 1) := by decide +kernel
theorem dX2_ring_1 : decode cX2_ring 1 = .ok (.getfield 15, 3) := by decide +kernel
theorem dX2_ring_4 : decode cX2_ring 4 = .ok (.iconst 4, 1) := by decide +kernel
theorem dX2_ring_5 : decode cX2_ring 5 = .ok (.if_icmp .lt 26, 3) := by decide +kernel
theorem dX2_ring_8 : decode cX2_ring 8 = .ok (.aload_n 0, 1) := by decide +kernel
theorem dX2_ring_9 : decode cX2_ring 9 = .ok (.getfield 9, 3) := by decide +kernel
theorem dX2_ring_12 : decode cX2_ring 12 = .ok (.aload_n 0, 1) := by decide +kernel
theorem dX2_ring_13 : decode cX2_ring 13 = .ok (.getfield 15, 3) := by decide +kernel
theorem dX2_ring_16 : decode cX2_ring 16 = .ok (.iconst 1, 1) := by decide +kernel
theorem dX2_ring_17 : decode cX2_ring 17 = .ok (.isub, 1) := by decide +kernel
theorem dX2_ring_18 : decode cX2_ring 18 = .ok (.iaload, 1) := by decide +kernel
theorem dX2_ring_19 : decode cX2_ring 19 = .ok (.aload_n 0, 1) := by decide +kernel
theorem dX2_ring_20 : decode cX2_ring 20 = .ok (.getfield 9, 3) := by decide +kernel
theorem dX2_ring_23 : decode cX2_ring 23 = .ok (.iconst 0, 1) := by decide +kernel
theorem dX2_ring_24 : decode cX2_ring 24 = .ok (.iaload, 1) := by decide +kernel
theorem dX2_ring_25 : decode cX2_ring 25 = .ok (.invokestatic 32, 3) := by decide +kernel
theorem dX2_ring_28 : decode cX2_ring 28 = .ok (.goto 4, 3) := by decide +kernel
theorem dX2_ring_31 : decode cX2_ring 31 = .ok (.lconst 0, 1) := by decide +kernel
theorem dX2_ring_32 : decode cX2_ring 32 = .ok (.lreturn, 1) := by decide +kernel
theorem dX3_isSquare_0 : decode cX3_isSquare 0 = .ok (.iload_n 0, 1) := by decide +kernel
theorem dX3_isSquare_1 : decode cX3_isSquare 1 = .ok (.ifCond .lt 13, 3) := by decide +kernel
theorem dX3_isSquare_4 : decode cX3_isSquare 4 = .ok (.iload_n 0, 1) := by decide +kernel
theorem dX3_isSquare_5 : decode cX3_isSquare 5 = .ok (.bipush 36, 2) := by decide +kernel
theorem dX3_isSquare_7 : decode cX3_isSquare 7 = .ok (.if_icmp .ge 7, 3) := by decide +kernel
theorem dX3_isSquare_10 : decode cX3_isSquare 10 = .ok (.iconst 1, 1) := by decide +kernel
theorem dX3_isSquare_11 : decode cX3_isSquare 11 = .ok (.goto 4, 3) := by decide +kernel
theorem dX3_isSquare_14 : decode cX3_isSquare 14 = .ok (.iconst 0, 1) := by decide +kernel
theorem dX3_isSquare_15 : decode cX3_isSquare 15 = .ok (.ireturn, 1) := by decide +kernel
theorem dX3_isSide_0 : decode cX3_isSide 0 = .ok (.iload_n 0, 1) := by decide +kernel
theorem dX3_isSide_1 : decode cX3_isSide 1 = .ok (.ifCond .lt 12, 3) := by decide +kernel
theorem dX3_isSide_4 : decode cX3_isSide 4 = .ok (.iload_n 0, 1) := by decide +kernel
theorem dX3_isSide_5 : decode cX3_isSide 5 = .ok (.iconst 4, 1) := by decide +kernel
theorem dX3_isSide_6 : decode cX3_isSide 6 = .ok (.if_icmp .ge 7, 3) := by decide +kernel
theorem dX3_isSide_9 : decode cX3_isSide 9 = .ok (.iconst 1, 1) := by decide +kernel
theorem dX3_isSide_10 : decode cX3_isSide 10 = .ok (.goto 4, 3) := by decide +kernel
theorem dX3_isSide_13 : decode cX3_isSide 13 = .ok (.iconst 0, 1) := by decide +kernel
theorem dX3_isSide_14 : decode cX3_isSide 14 = .ok (.ireturn, 1) := by decide +kernel
theorem dX3_next_0 : decode cX3_next 0 = .ok (.iload_n 0, 1) := by decide +kernel
theorem dX3_next_1 : decode cX3_next 1 = .ok (.ifCond .lt 9, 3) := by decide +kernel
theorem dX3_next_4 : decode cX3_next 4 = .ok (.iload_n 0, 1) := by decide +kernel
theorem dX3_next_5 : decode cX3_next 5 = .ok (.bipush 36, 2) := by decide +kernel
theorem dX3_next_7 : decode cX3_next 7 = .ok (.if_icmp .lt 6, 3) := by decide +kernel
theorem dX3_next_10 : decode cX3_next 10 = .ok (.bipush (-4), 2) := by decide +kernel
theorem dX3_next_12 : decode cX3_next 12 = .ok (.ireturn, 1) := by decide +kernel
theorem dX3_next_13 : decode cX3_next 13 = .ok (.iload_n 1, 1) := by decide +kernel
theorem dX3_next_14 : decode cX3_next 14 = .ok (.tableswitch 95 0 3 #[30, 46, 62, 79], 30) := by decide +kernel
theorem dX3_next_44 : decode cX3_next 44 = .ok (.iload_n 0, 1) := by decide +kernel
theorem dX3_next_45 : decode cX3_next 45 = .ok (.bipush 6, 2) := by decide +kernel
theorem dX3_next_47 : decode cX3_next 47 = .ok (.if_icmp .lt 10, 3) := by decide +kernel
theorem dX3_next_50 : decode cX3_next 50 = .ok (.iload_n 0, 1) := by decide +kernel
theorem dX3_next_51 : decode cX3_next 51 = .ok (.bipush 6, 2) := by decide +kernel
theorem dX3_next_53 : decode cX3_next 53 = .ok (.isub, 1) := by decide +kernel
theorem dX3_next_54 : decode cX3_next 54 = .ok (.goto 5, 3) := by decide +kernel
theorem dX3_next_57 : decode cX3_next 57 = .ok (.bipush (-4), 2) := by decide +kernel
theorem dX3_next_59 : decode cX3_next 59 = .ok (.ireturn, 1) := by decide +kernel
theorem dX3_next_60 : decode cX3_next 60 = .ok (.iload_n 0, 1) := by decide +kernel
theorem dX3_next_61 : decode cX3_next 61 = .ok (.bipush 6, 2) := by decide +kernel
theorem dX3_next_63 : decode cX3_next 63 = .ok (.irem, 1) := by decide +kernel
theorem dX3_next_64 : decode cX3_next 64 = .ok (.ifCond .le 9, 3) := by decide +kernel
theorem dX3_next_67 : decode cX3_next 67 = .ok (.iload_n 0, 1) := by decide +kernel
theorem dX3_next_68 : decode cX3_next 68 = .ok (.iconst 1, 1) := by decide +kernel
theorem dX3_next_69 : decode cX3_next 69 = .ok (.isub, 1) := by decide +kernel
theorem dX3_next_70 : decode cX3_next 70 = .ok (.goto 5, 3) := by decide +kernel
theorem dX3_next_73 : decode cX3_next 73 = .ok (.bipush (-4), 2) := by decide +kernel
theorem dX3_next_75 : decode cX3_next 75 = .ok (.ireturn, 1) := by decide +kernel
theorem dX3_next_76 : decode cX3_next 76 = .ok (.iload_n 0, 1) := by decide +kernel
theorem dX3_next_77 : decode cX3_next 77 = .ok (.bipush 6, 2) := by decide +kernel
theorem dX3_next_79 : decode cX3_next 79 = .ok (.irem, 1) := by decide +kernel
theorem dX3_next_80 : decode cX3_next 80 = .ok (.iconst 5, 1) := by decide +kernel
theorem dX3_next_81 : decode cX3_next 81 = .ok (.if_icmp .ge 9, 3) := by decide +kernel
theorem dX3_next_84 : decode cX3_next 84 = .ok (.iload_n 0, 1) := by decide +kernel
theorem dX3_next_85 : decode cX3_next 85 = .ok (.iconst 1, 1) := by decide +kernel
theorem dX3_next_86 : decode cX3_next 86 = .ok (.iadd, 1) := by decide +kernel
theorem dX3_next_87 : decode cX3_next 87 = .ok (.goto 5, 3) := by decide +kernel
theorem dX3_next_90 : decode cX3_next 90 = .ok (.bipush (-4), 2) := by decide +kernel
theorem dX3_next_92 : decode cX3_next 92 = .ok (.ireturn, 1) := by decide +kernel
theorem dX3_next_93 : decode cX3_next 93 = .ok (.iload_n 0, 1) := by decide +kernel
theorem dX3_next_94 : decode cX3_next 94 = .ok (.bipush 30, 2) := by decide +kernel
theorem dX3_next_96 : decode cX3_next 96 = .ok (.if_icmp .ge 10, 3) := by decide +kernel
theorem dX3_next_99 : decode cX3_next 99 = .ok (.iload_n 0, 1) := by decide +kernel
theorem dX3_next_100 : decode cX3_next 100 = .ok (.bipush 6, 2) := by decide +kernel
theorem dX3_next_102 : decode cX3_next 102 = .ok (.iadd, 1) := by decide +kernel
theorem dX3_next_103 : decode cX3_next 103 = .ok (.goto 5, 3) := by decide +kernel
theorem dX3_next_106 : decode cX3_next 106 = .ok (.bipush (-4), 2) := by decide +kernel
theorem dX3_next_108 : decode cX3_next 108 = .ok (.ireturn, 1) := by decide +kernel
theorem dX3_next_109 : decode cX3_next 109 = .ok (.bipush (-4), 2) := by decide +kernel
theorem dX3_next_111 : decode cX3_next 111 = .ok (.ireturn, 1) := by decide +kernel
theorem dX3_edge_0 : decode cX3_edge 0 = .ok (.iload_n 0, 1) := by decide +kernel
theorem dX3_edge_1 : decode cX3_edge 1 = .ok (.iload_n 0, 1) := by decide +kernel
theorem dX3_edge_2 : decode cX3_edge 2 = .ok (.iload_n 1, 1) := by decide +kernel
theorem dX3_edge_3 : decode cX3_edge 3 = .ok (.invokestatic 9, 3) := by decide +kernel
theorem dX3_edge_6 : decode cX3_edge 6 = .ok (.invokestatic 15, 3) := by decide +kernel
theorem dX3_edge_9 : decode cX3_edge 9 = .ok (.lreturn, 1) := by decide +kernel
theorem dX3_between_0 : decode cX3_between 0 = .ok (.iload_n 0, 1) := by decide +kernel
theorem dX3_between_1 : decode cX3_between 1 = .ok (.iload_n 1, 1) := by decide +kernel
theorem dX3_between_2 : decode cX3_between 2 = .ok (.if_icmp .ge 7, 3) := by decide +kernel
theorem dX3_between_5 : decode cX3_between 5 = .ok (.iload_n 0, 1) := by decide +kernel
theorem dX3_between_6 : decode cX3_between 6 = .ok (.goto 4, 3) := by decide +kernel
theorem dX3_between_9 : decode cX3_between 9 = .ok (.iload_n 1, 1) := by decide +kernel
theorem dX3_between_10 : decode cX3_between 10 = .ok (.istore_n 2, 1) := by decide +kernel
theorem dX3_between_11 : decode cX3_between 11 = .ok (.iload_n 0, 1) := by decide +kernel
theorem dX3_between_12 : decode cX3_between 12 = .ok (.iload_n 1, 1) := by decide +kernel
theorem dX3_between_13 : decode cX3_between 13 = .ok (.if_icmp .ge 7, 3) := by decide +kernel
theorem dX3_between_16 : decode cX3_between 16 = .ok (.iload_n 1, 1) := by decide +kernel
theorem dX3_between_17 : decode cX3_between 17 = .ok (.goto 4, 3) := by decide +kernel
theorem dX3_between_20 : decode cX3_between 20 = .ok (.iload_n 0, 1) := by decide +kernel
theorem dX3_between_21 : decode cX3_between 21 = .ok (.istore_n 3, 1) := by decide +kernel
theorem dX3_between_22 : decode cX3_between 22 = .ok (.iload_n 2, 1) := by decide +kernel
theorem dX3_between_23 : decode cX3_between 23 = .ok (.ifCond .lt 9, 3) := by decide +kernel
theorem dX3_between_26 : decode cX3_between 26 = .ok (.iload_n 3, 1) := by decide +kernel
theorem dX3_between_27 : decode cX3_between 27 = .ok (.bipush 36, 2) := by decide +kernel
theorem dX3_between_29 : decode cX3_between 29 = .ok (.if_icmp .lt 5, 3) := by decide +kernel
theorem dX3_between_32 : decode cX3_between 32 = .ok (.lconst 0, 1) := by decide +kernel
theorem dX3_between_33 : decode cX3_between 33 = .ok (.lreturn, 1) := by decide +kernel
theorem dX3_between_34 : decode cX3_between 34 = .ok (.iload_n 3, 1) := by decide +kernel
theorem dX3_between_35 : decode cX3_between 35 = .ok (.iload_n 2, 1) := by decide +kernel
theorem dX3_between_36 : decode cX3_between 36 = .ok (.isub, 1) := by decide +kernel
theorem dX3_between_37 : decode cX3_between 37 = .ok (.bipush 6, 2) := by decide +kernel
theorem dX3_between_39 : decode cX3_between 39 = .ok (.if_icmp .ne 7, 3) := by decide +kernel
theorem dX3_between_42 : decode cX3_between 42 = .ok (.lconst 1, 1) := by decide +kernel
theorem dX3_between_43 : decode cX3_between 43 = .ok (.iload_n 2, 1) := by decide +kernel
theorem dX3_between_44 : decode cX3_between 44 = .ok (.lshl, 1) := by decide +kernel
theorem dX3_between_45 : decode cX3_between 45 = .ok (.lreturn, 1) := by decide +kernel
theorem dX3_between_46 : decode cX3_between 46 = .ok (.iload_n 3, 1) := by decide +kernel
theorem dX3_between_47 : decode cX3_between 47 = .ok (.iload_n 2, 1) := by decide +kernel
theorem dX3_between_48 : decode cX3_between 48 = .ok (.isub, 1) := by decide +kernel
theorem dX3_between_49 : decode cX3_between 49 = .ok (.iconst 1, 1) := by decide +kernel
theorem dX3_between_50 : decode cX3_between 50 = .ok (.if_icmp .ne 24, 3) := by decide +kernel
theorem dX3_between_53 : decode cX3_between 53 = .ok (.iload_n 3, 1) := by decide +kernel
theorem dX3_between_54 : decode cX3_between 54 = .ok (.bipush 6, 2) := by decide +kernel
theorem dX3_between_56 : decode cX3_between 56 = .ok (.irem, 1) := by decide +kernel
theorem dX3_between_57 : decode cX3_between 57 = .ok (.ifCond .eq 17, 3) := by decide +kernel
theorem dX3_between_60 : decode cX3_between 60 = .ok (.lconst 1, 1) := by decide +kernel
theorem dX3_between_61 : decode cX3_between 61 = .ok (.bipush 30, 2) := by decide +kernel
theorem dX3_between_63 : decode cX3_between 63 = .ok (.iload_n 2, 1) := by decide +kernel
theorem dX3_between_64 : decode cX3_between 64 = .ok (.iadd, 1) := by decide +kernel
theorem dX3_between_65 : decode cX3_between 65 = .ok (.iload_n 2, 1) := by decide +kernel
theorem dX3_between_66 : decode cX3_between 66 = .ok (.bipush 6, 2) := by decide +kernel
theorem dX3_between_68 : decode cX3_between 68 = .ok (.idiv, 1) := by decide +kernel
theorem dX3_between_69 : decode cX3_between 69 = .ok (.isub, 1) := by decide +kernel
theorem dX3_between_70 : decode cX3_between 70 = .ok (.lshl, 1) := by decide +kernel
theorem dX3_between_71 : decode cX3_between 71 = .ok (.goto 4, 3) := by decide +kernel
theorem dX3_between_74 : decode cX3_between 74 = .ok (.lconst 0, 1) := by decide +kernel
theorem dX3_between_75 : decode cX3_between 75 = .ok (.lreturn, 1) := by decide +kernel
theorem dX3_rightOf_0 : decode cX3_rightOf 0 = .ok (.iload_n 0, 1) := by decide +kernel
theorem dX3_rightOf_1 : decode cX3_rightOf 1 = .ok (.invokestatic 19, 3) := by decide +kernel
theorem dX3_rightOf_4 : decode cX3_rightOf 4 = .ok (.ifCond .eq 11, 3) := by decide +kernel
theorem dX3_rightOf_7 : decode cX3_rightOf 7 = .ok (.getstatic 23, 3) := by decide +kernel
theorem dX3_rightOf_10 : decode cX3_rightOf 10 = .ok (.iload_n 0, 1) := by decide +kernel
theorem dX3_rightOf_11 : decode cX3_rightOf 11 = .ok (.iaload, 1) := by decide +kernel
theorem dX3_rightOf_12 : decode cX3_rightOf 12 = .ok (.goto 4, 3) := by decide +kernel
theorem dX3_rightOf_15 : decode cX3_rightOf 15 = .ok (.iload_n 0, 1) := by decide +kernel
theorem dX3_rightOf_16 : decode cX3_rightOf 16 = .ok (.ireturn, 1) := by decide +kernel
theorem dX3_backOf_0 : decode cX3_backOf 0 = .ok (.iconst 3, 1) := by decide +kernel
theorem dX3_backOf_1 : decode cX3_backOf 1 = .ok (.iload_n 0, 1) := by decide +kernel
theorem dX3_backOf_2 : decode cX3_backOf 2 = .ok (.isub, 1) := by decide +kernel
theorem dX3_backOf_3 : decode cX3_backOf 3 = .ok (.ireturn, 1) := by decide +kernel
theorem dX3_leftOf_0 : decode cX3_leftOf 0 = .ok (.iload_n 0, 1) := by decide +kernel
theorem dX3_leftOf_1 : decode cX3_leftOf 1 = .ok (.invokestatic 27, 3) := by decide +kernel
theorem dX3_leftOf_4 : decode cX3_leftOf 4 = .ok (.invokestatic 31, 3) := by decide +kernel
theorem dX3_leftOf_7 : decode cX3_leftOf 7 = .ok (.ireturn, 1) := by decide +kernel
theorem dX3_sideOfLetter_0 : decode cX3_sideOfLetter 0 = .ok (.iload_n 0, 1) := by decide +kernel
theorem dX3_sideOfLetter_1 : decode cX3_sideOfLetter 1 = .ok (.lookupswitch 51 #[(100, 49), (108, 45), (114, 47), (117, 43)], 43) := by decide +kernel
theorem dX3_sideOfLetter_44 : decode cX3_sideOfLetter 44 = .ok (.iconst 0, 1) := by decide +kernel
theorem dX3_sideOfLetter_45 : decode cX3_sideOfLetter 45 = .ok (.ireturn, 1) := by decide +kernel
theorem dX3_sideOfLetter_46 : decode cX3_sideOfLetter 46 = .ok (.iconst 1, 1) := by decide +kernel
theorem dX3_sideOfLetter_47 : decode cX3_sideOfLetter 47 = .ok (.ireturn, 1) := by decide +kernel
theorem dX3_sideOfLetter_48 : decode cX3_sideOfLetter 48 = .ok (.iconst 2, 1) := by decide +kernel
theorem dX3_sideOfLetter_49 : decode cX3_sideOfLetter 49 = .ok (.ireturn, 1) := by decide +kernel
theorem dX3_sideOfLetter_50 : decode cX3_sideOfLetter 50 = .ok (.iconst 3, 1) := by decide +kernel
theorem dX3_sideOfLetter_51 : decode cX3_sideOfLetter 51 = .ok (.ireturn, 1) := by decide +kernel
theorem dX3_sideOfLetter_52 : decode cX3_sideOfLetter 52 = .ok (.bipush (-4), 2) := by decide +kernel
theorem dX3_sideOfLetter_54 : decode cX3_sideOfLetter 54 = .ok (.ireturn, 1) := by decide +kernel
theorem dX4_init_0 : decode cX4_init 0 = .ok (.aload_n 0, 1) := by decide +kernel
theorem dX4_init_1 : decode cX4_init 1 = .ok (.invokespecial 3, 3) := by decide +kernel
theorem dX4_init_4 : decode cX4_init 4 = .ok (.aload_n 0, 1) := by decide +kernel
theorem dX4_init_5 : decode cX4_init 5 = .ok (.new 9, 3) := by decide +kernel
theorem dX4_init_8 : decode cX4_init 8 = .ok (.dup, 1) := by decide +kernel
theorem dX4_init_9 : decode cX4_init 9 = .ok (.invokespecial 11, 3) := by decide +kernel
theorem dX4_init_12 : decode cX4_init 12 = .ok (.putfield 12, 3) := by decide +kernel
theorem dX4_init_15 : decode cX4_init 15 = .ok (.aload_n 0, 1) := by decide +kernel
theorem dX4_init_16 : decode cX4_init 16 = .ok (.new 9, 3) := by decide +kernel
theorem dX4_init_19 : decode cX4_init 19 = .ok (.dup, 1) := by decide +kernel
theorem dX4_init_20 : decode cX4_init 20 = .ok (.invokespecial 11, 3) := by decide +kernel
theorem dX4_init_23 : decode cX4_init 23 = .ok (.putfield 18, 3) := by decide +kernel
theorem dX4_init_26 : decode cX4_init 26 = .ok (.aload_n 0, 1) := by decide +kernel
theorem dX4_init_27 : decode cX4_init 27 = .ok (.iconst 0, 1) := by decide +kernel
theorem dX4_init_28 : decode cX4_init 28 = .ok (.putfield 21, 3) := by decide +kernel
theorem dX4_init_31 : decode cX4_init 31 = .ok (.aload_n 0, 1) := by decide +kernel
theorem dX4_init_32 : decode cX4_init 32 = .ok (.iconst 0, 1) := by decide +kernel
theorem dX4_init_33 : decode cX4_init 33 = .ok (.putfield 25, 3) := by decide +kernel
theorem dX4_init_36 : decode cX4_init 36 = .ok (.aload_n 0, 1) := by decide +kernel
theorem dX4_init_37 : decode cX4_init 37 = .ok (.bipush (-4), 2) := by decide +kernel
theorem dX4_init_39 : decode cX4_init 39 = .ok (.putfield 28, 3) := by decide +kernel
theorem dX4_init_42 : decode cX4_init 42 = .ok (.return_, 1) := by decide +kernel
theorem dX4_run_0 : decode cX4_run 0 = .ok (.aload_n 0, 1) := by decide +kernel
theorem dX4_run_1 : decode cX4_run 1 = .ok (.iload_n 3, 1) := by decide +kernel
theorem dX4_run_2 : decode cX4_run 2 = .ok (.putfield 21, 3) := by decide +kernel
theorem dX4_run_5 : decode cX4_run 5 = .ok (.aload_n 0, 1) := by decide +kernel
theorem dX4_run_6 : decode cX4_run 6 = .ok (.iconst 0, 1) := by decide +kernel
theorem dX4_run_7 : decode cX4_run 7 = .ok (.putfield 25, 3) := by decide +kernel
theorem dX4_run_10 : decode cX4_run 10 = .ok (.aload_n 0, 1) := by decide +kernel
theorem dX4_run_11 : decode cX4_run 11 = .ok (.bipush (-4), 2) := by decide +kernel
theorem dX4_run_13 : decode cX4_run 13 = .ok (.putfield 28, 3) := by decide +kernel
theorem dX4_run_16 : decode cX4_run 16 = .ok (.aload_n 0, 1) := by decide +kernel
theorem dX4_run_17 : decode cX4_run 17 = .ok (.getfield 12, 3) := by decide +kernel
theorem dX4_run_20 : decode cX4_run 20 = .ok (.invokevirtual 31, 3) := by decide +kernel
theorem dX4_run_23 : decode cX4_run 23 = .ok (.aload_n 0, 1) := by decide +kernel
theorem dX4_run_24 : decode cX4_run 24 = .ok (.getfield 12, 3) := by decide +kernel
theorem dX4_run_27 : decode cX4_run 27 = .ok (.iload_n 2, 1) := by decide +kernel
theorem dX4_run_28 : decode cX4_run 28 = .ok (.invokevirtual 34, 3) := by decide +kernel
theorem dX4_run_31 : decode cX4_run 31 = .ok (.ifCond .eq 9, 3) := by decide +kernel
theorem dX4_run_34 : decode cX4_run 34 = .ok (.aload_n 0, 1) := by decide +kernel
theorem dX4_run_35 : decode cX4_run 35 = .ok (.aload_n 1, 1) := by decide +kernel
theorem dX4_run_36 : decode cX4_run 36 = .ok (.iconst 1, 1) := by decide +kernel
theorem dX4_run_37 : decode cX4_run 37 = .ok (.invokestatic 38, 3) := by decide +kernel
theorem dX4_run_40 : decode cX4_run 40 = .ok (.return_, 1) := by decide +kernel
theorem dX4_goOn_0 : decode cX4_goOn 0 = .ok (.iload_n 2, 1) := by decide +kernel
theorem dX4_goOn_1 : decode cX4_goOn 1 = .ok (.aload_n 0, 1) := by decide +kernel
theorem dX4_goOn_2 : decode cX4_goOn 2 = .ok (.getfield 21, 3) := by decide +kernel
theorem dX4_goOn_5 : decode cX4_goOn 5 = .ok (.if_icmp .ge 9, 3) := by decide +kernel
theorem dX4_goOn_8 : decode cX4_goOn 8 = .ok (.iload_n 2, 1) := by decide +kernel
theorem dX4_goOn_9 : decode cX4_goOn 9 = .ok (.bipush 9, 2) := by decide +kernel
theorem dX4_goOn_11 : decode cX4_goOn 11 = .ok (.if_icmp .lt 9, 3) := by decide +kernel
theorem dX4_goOn_14 : decode cX4_goOn 14 = .ok (.aload_n 0, 1) := by decide +kernel
theorem dX4_goOn_15 : decode cX4_goOn 15 = .ok (.aload_n 1, 1) := by decide +kernel
theorem dX4_goOn_16 : decode cX4_goOn 16 = .ok (.invokevirtual 42, 3) := by decide +kernel
theorem dX4_goOn_19 : decode cX4_goOn 19 = .ok (.return_, 1) := by decide +kernel
theorem dX4_goOn_20 : decode cX4_goOn 20 = .ok (.aload_n 0, 1) := by decide +kernel
theorem dX4_goOn_21 : decode cX4_goOn 21 = .ok (.getfield 12, 3) := by decide +kernel
theorem dX4_goOn_24 : decode cX4_goOn 24 = .ok (.invokevirtual 46, 3) := by decide +kernel
theorem dX4_goOn_27 : decode cX4_goOn 27 = .ok (.istore_n 3, 1) := by decide +kernel
theorem dX4_goOn_28 : decode cX4_goOn 28 = .ok (.iconst 0, 1) := by decide +kernel
theorem dX4_goOn_29 : decode cX4_goOn 29 = .ok (.istore 4, 2) := by decide +kernel
theorem dX4_goOn_31 : decode cX4_goOn 31 = .ok (.iload 4, 2) := by decide +kernel
theorem dX4_goOn_33 : decode cX4_goOn 33 = .ok (.iconst 4, 1) := by decide +kernel
theorem dX4_goOn_34 : decode cX4_goOn 34 = .ok (.if_icmp .ge 68, 3) := by decide +kernel
theorem dX4_goOn_37 : decode cX4_goOn 37 = .ok (.aload_n 1, 1) := by decide +kernel
theorem dX4_goOn_38 : decode cX4_goOn 38 = .ok (.getfield 50, 3) := by decide +kernel
theorem dX4_goOn_41 : decode cX4_goOn 41 = .ok (.iload_n 3, 1) := by decide +kernel
theorem dX4_goOn_42 : decode cX4_goOn 42 = .ok (.iload 4, 2) := by decide +kernel
theorem dX4_goOn_44 : decode cX4_goOn 44 = .ok (.invokestatic 56, 3) := by decide +kernel
theorem dX4_goOn_47 : decode cX4_goOn 47 = .ok (.land, 1) := by decide +kernel
theorem dX4_goOn_48 : decode cX4_goOn 48 = .ok (.lconst 0, 1) := by decide +kernel
theorem dX4_goOn_49 : decode cX4_goOn 49 = .ok (.lcmp, 1) := by decide +kernel
theorem dX4_goOn_50 : decode cX4_goOn 50 = .ok (.ifCond .eq 7, 3) := by decide +kernel
theorem dX4_goOn_53 : decode cX4_goOn 53 = .ok (.iconst 1, 1) := by decide +kernel
theorem dX4_goOn_54 : decode cX4_goOn 54 = .ok (.goto 4, 3) := by decide +kernel
theorem dX4_goOn_57 : decode cX4_goOn 57 = .ok (.iconst 0, 1) := by decide +kernel
theorem dX4_goOn_58 : decode cX4_goOn 58 = .ok (.istore 5, 2) := by decide +kernel
theorem dX4_goOn_60 : decode cX4_goOn 60 = .ok (.iload 5, 2) := by decide +kernel
theorem dX4_goOn_62 : decode cX4_goOn 62 = .ok (.ifCond .ne 34, 3) := by decide +kernel
theorem dX4_goOn_65 : decode cX4_goOn 65 = .ok (.aload_n 0, 1) := by decide +kernel
theorem dX4_goOn_66 : decode cX4_goOn 66 = .ok (.getfield 12, 3) := by decide +kernel
theorem dX4_goOn_69 : decode cX4_goOn 69 = .ok (.iload_n 3, 1) := by decide +kernel
theorem dX4_goOn_70 : decode cX4_goOn 70 = .ok (.iload 4, 2) := by decide +kernel
theorem dX4_goOn_72 : decode cX4_goOn 72 = .ok (.invokestatic 62, 3) := by decide +kernel
theorem dX4_goOn_75 : decode cX4_goOn 75 = .ok (.invokevirtual 34, 3) := by decide +kernel
theorem dX4_goOn_78 : decode cX4_goOn 78 = .ok (.ifCond .eq 18, 3) := by decide +kernel
theorem dX4_goOn_81 : decode cX4_goOn 81 = .ok (.aload_n 0, 1) := by decide +kernel
theorem dX4_goOn_82 : decode cX4_goOn 82 = .ok (.aload_n 1, 1) := by decide +kernel
theorem dX4_goOn_83 : decode cX4_goOn 83 = .ok (.iload_n 2, 1) := by decide +kernel
theorem dX4_goOn_84 : decode cX4_goOn 84 = .ok (.iconst 1, 1) := by decide +kernel
theorem dX4_goOn_85 : decode cX4_goOn 85 = .ok (.iadd, 1) := by decide +kernel
theorem dX4_goOn_86 : decode cX4_goOn 86 = .ok (.invokestatic 38, 3) := by decide +kernel
theorem dX4_goOn_89 : decode cX4_goOn 89 = .ok (.aload_n 0, 1) := by decide +kernel
theorem dX4_goOn_90 : decode cX4_goOn 90 = .ok (.getfield 12, 3) := by decide +kernel
theorem dX4_goOn_93 : decode cX4_goOn 93 = .ok (.invokevirtual 66, 3) := by decide +kernel
theorem dX4_goOn_96 : decode cX4_goOn 96 = .ok (.iinc 4 1, 3) := by decide +kernel
theorem dX4_goOn_99 : decode cX4_goOn 99 = .ok (.goto (-68), 3) := by decide +kernel
theorem dX4_goOn_102 : decode cX4_goOn 102 = .ok (.return_, 1) := by decide +kernel
theorem dX4_weigh_0 : decode cX4_weigh 0 = .ok (.aload_n 0, 1) := by decide +kernel
theorem dX4_weigh_1 : decode cX4_weigh 1 = .ok (.getfield 12, 3) := by decide +kernel
theorem dX4_weigh_4 : decode cX4_weigh 4 = .ok (.invokevirtual 69, 3) := by decide +kernel
theorem dX4_weigh_7 : decode cX4_weigh 7 = .ok (.lstore_n 2, 1) := by decide +kernel
theorem dX4_weigh_8 : decode cX4_weigh 8 = .ok (.aload_n 0, 1) := by decide +kernel
theorem dX4_weigh_9 : decode cX4_weigh 9 = .ok (.getfield 12, 3) := by decide +kernel
theorem dX4_weigh_12 : decode cX4_weigh 12 = .ok (.getfield 73, 3) := by decide +kernel
theorem dX4_weigh_15 : decode cX4_weigh 15 = .ok (.lload_n 2, 1) := by decide +kernel
theorem dX4_weigh_16 : decode cX4_weigh 16 = .ok (.lor, 1) := by decide +kernel
theorem dX4_weigh_17 : decode cX4_weigh 17 = .ok (.lstore 4, 2) := by decide +kernel
theorem dX4_weigh_19 : decode cX4_weigh 19 = .ok (.lload 4, 2) := by decide +kernel
theorem dX4_weigh_21 : decode cX4_weigh 21 = .ok (.aload_n 1, 1) := by decide +kernel
theorem dX4_weigh_22 : decode cX4_weigh 22 = .ok (.getfield 50, 3) := by decide +kernel
theorem dX4_weigh_25 : decode cX4_weigh 25 = .ok (.land, 1) := by decide +kernel
theorem dX4_weigh_26 : decode cX4_weigh 26 = .ok (.lconst 0, 1) := by decide +kernel
theorem dX4_weigh_27 : decode cX4_weigh 27 = .ok (.lcmp, 1) := by decide +kernel
theorem dX4_weigh_28 : decode cX4_weigh 28 = .ok (.ifCond .ne 19, 3) := by decide +kernel
theorem dX4_weigh_31 : decode cX4_weigh 31 = .ok (.aload_n 1, 1) := by decide +kernel
theorem dX4_weigh_32 : decode cX4_weigh 32 = .ok (.getfield 76, 3) := by decide +kernel
theorem dX4_weigh_35 : decode cX4_weigh 35 = .ok (.lload 4, 2) := by decide +kernel
theorem dX4_weigh_37 : decode cX4_weigh 37 = .ok (.ldc2_w 79, 3) := by decide +kernel
theorem dX4_weigh_40 : decode cX4_weigh 40 = .ok (.lxor, 1) := by decide +kernel
theorem dX4_weigh_41 : decode cX4_weigh 41 = .ok (.land, 1) := by decide +kernel
theorem dX4_weigh_42 : decode cX4_weigh 42 = .ok (.lconst 0, 1) := by decide +kernel
theorem dX4_weigh_43 : decode cX4_weigh 43 = .ok (.lcmp, 1) := by decide +kernel
theorem dX4_weigh_44 : decode cX4_weigh 44 = .ok (.ifCond .eq 4, 3) := by decide +kernel
theorem dX4_weigh_47 : decode cX4_weigh 47 = .ok (.return_, 1) := by decide +kernel
theorem dX4_weigh_48 : decode cX4_weigh 48 = .ok (.aload_n 0, 1) := by decide +kernel
theorem dX4_weigh_49 : decode cX4_weigh 49 = .ok (.dup, 1) := by decide +kernel
theorem dX4_weigh_50 : decode cX4_weigh 50 = .ok (.getfield 25, 3) := by decide +kernel
theorem dX4_weigh_53 : decode cX4_weigh 53 = .ok (.iconst 1, 1) := by decide +kernel
theorem dX4_weigh_54 : decode cX4_weigh 54 = .ok (.iadd, 1) := by decide +kernel
theorem dX4_weigh_55 : decode cX4_weigh 55 = .ok (.putfield 25, 3) := by decide +kernel
theorem dX4_weigh_58 : decode cX4_weigh 58 = .ok (.aload_n 0, 1) := by decide +kernel
theorem dX4_weigh_59 : decode cX4_weigh 59 = .ok (.getfield 12, 3) := by decide +kernel
theorem dX4_weigh_62 : decode cX4_weigh 62 = .ok (.aload_n 1, 1) := by decide +kernel
theorem dX4_weigh_63 : decode cX4_weigh 63 = .ok (.getfield 81, 3) := by decide +kernel
theorem dX4_weigh_66 : decode cX4_weigh 66 = .ok (.invokevirtual 84, 3) := by decide +kernel
theorem dX4_weigh_69 : decode cX4_weigh 69 = .ok (.istore 6, 2) := by decide +kernel
theorem dX4_weigh_71 : decode cX4_weigh 71 = .ok (.lload_n 2, 1) := by decide +kernel
theorem dX4_weigh_72 : decode cX4_weigh 72 = .ok (.lconst 0, 1) := by decide +kernel
theorem dX4_weigh_73 : decode cX4_weigh 73 = .ok (.lcmp, 1) := by decide +kernel
theorem dX4_weigh_74 : decode cX4_weigh 74 = .ok (.ifCond .eq 18, 3) := by decide +kernel
theorem dX4_weigh_77 : decode cX4_weigh 77 = .ok (.iload 6, 2) := by decide +kernel
theorem dX4_weigh_79 : decode cX4_weigh 79 = .ok (.aload_n 0, 1) := by decide +kernel
theorem dX4_weigh_80 : decode cX4_weigh 80 = .ok (.getfield 21, 3) := by decide +kernel
theorem dX4_weigh_83 : decode cX4_weigh 83 = .ok (.iload 6, 2) := by decide +kernel
theorem dX4_weigh_85 : decode cX4_weigh 85 = .ok (.isub, 1) := by decide +kernel
theorem dX4_weigh_86 : decode cX4_weigh 86 = .ok (.invokestatic 88, 3) := by decide +kernel
theorem dX4_weigh_89 : decode cX4_weigh 89 = .ok (.goto 5, 3) := by decide +kernel
theorem dX4_weigh_92 : decode cX4_weigh 92 = .ok (.iload 6, 2) := by decide +kernel
theorem dX4_weigh_94 : decode cX4_weigh 94 = .ok (.istore 7, 2) := by decide +kernel
theorem dX4_weigh_96 : decode cX4_weigh 96 = .ok (.iload 6, 2) := by decide +kernel
theorem dX4_weigh_98 : decode cX4_weigh 98 = .ok (.ifCond .lt 29, 3) := by decide +kernel
theorem dX4_weigh_101 : decode cX4_weigh 101 = .ok (.iload 7, 2) := by decide +kernel
theorem dX4_weigh_103 : decode cX4_weigh 103 = .ok (.aload_n 0, 1) := by decide +kernel
theorem dX4_weigh_104 : decode cX4_weigh 104 = .ok (.getfield 28, 3) := by decide +kernel
theorem dX4_weigh_107 : decode cX4_weigh 107 = .ok (.if_icmp .le 20, 3) := by decide +kernel
theorem dX4_weigh_110 : decode cX4_weigh 110 = .ok (.aload_n 0, 1) := by decide +kernel
theorem dX4_weigh_111 : decode cX4_weigh 111 = .ok (.iload 7, 2) := by decide +kernel
theorem dX4_weigh_113 : decode cX4_weigh 113 = .ok (.putfield 28, 3) := by decide +kernel
theorem dX4_weigh_116 : decode cX4_weigh 116 = .ok (.aload_n 0, 1) := by decide +kernel
theorem dX4_weigh_117 : decode cX4_weigh 117 = .ok (.getfield 18, 3) := by decide +kernel
theorem dX4_weigh_120 : decode cX4_weigh 120 = .ok (.aload_n 0, 1) := by decide +kernel
theorem dX4_weigh_121 : decode cX4_weigh 121 = .ok (.getfield 12, 3) := by decide +kernel
theorem dX4_weigh_124 : decode cX4_weigh 124 = .ok (.invokevirtual 93, 3) := by decide +kernel
theorem dX4_weigh_127 : decode cX4_weigh 127 = .ok (.return_, 1) := by decide +kernel
theorem dX5_init_0 : decode cX5_init 0 = .ok (.aload_n 0, 1) := by decide +kernel
theorem dX5_init_1 : decode cX5_init 1 = .ok (.invokespecial 3, 3) := by decide +kernel
theorem dX5_init_4 : decode cX5_init 4 = .ok (.aload_n 0, 1) := by decide +kernel
theorem dX5_init_5 : decode cX5_init 5 = .ok (.bipush 36, 2) := by decide +kernel
theorem dX5_init_7 : decode cX5_init 7 = .ok (.newarray .int, 2) := by decide +kernel
theorem dX5_init_9 : decode cX5_init 9 = .ok (.putfield 9, 3) := by decide +kernel
theorem dX5_init_12 : decode cX5_init 12 = .ok (.aload_n 0, 1) := by decide +kernel
theorem dX5_init_13 : decode cX5_init 13 = .ok (.iconst (-1), 1) := by decide +kernel
theorem dX5_init_14 : decode cX5_init 14 = .ok (.putfield 15, 3) := by decide +kernel
theorem dX5_init_17 : decode cX5_init 17 = .ok (.aload_n 0, 1) := by decide +kernel
theorem dX5_init_18 : decode cX5_init 18 = .ok (.iconst 0, 1) := by decide +kernel
theorem dX5_init_19 : decode cX5_init 19 = .ok (.putfield 19, 3) := by decide +kernel
theorem dX5_init_22 : decode cX5_init 22 = .ok (.return_, 1) := by decide +kernel
theorem dX5_isThere_0 : decode cX5_isThere 0 = .ok (.aload_n 0, 1) := by decide +kernel
theorem dX5_isThere_1 : decode cX5_isThere 1 = .ok (.getfield 15, 3) := by decide +kernel
theorem dX5_isThere_4 : decode cX5_isThere 4 = .ok (.iconst (-1), 1) := by decide +kernel
theorem dX5_isThere_5 : decode cX5_isThere 5 = .ok (.if_icmp .eq 7, 3) := by decide +kernel
theorem dX5_isThere_8 : decode cX5_isThere 8 = .ok (.iconst 1, 1) := by decide +kernel
theorem dX5_isThere_9 : decode cX5_isThere 9 = .ok (.goto 4, 3) := by decide +kernel
theorem dX5_isThere_12 : decode cX5_isThere 12 = .ok (.iconst 0, 1) := by decide +kernel
theorem dX5_isThere_13 : decode cX5_isThere 13 = .ok (.ireturn, 1) := by decide +kernel
theorem dX5_renew_0 : decode cX5_renew 0 = .ok (.aload_n 0, 1) := by decide +kernel
theorem dX5_renew_1 : decode cX5_renew 1 = .ok (.iload_n 1, 1) := by decide +kernel
theorem dX5_renew_2 : decode cX5_renew 2 = .ok (.putfield 15, 3) := by decide +kernel
theorem dX5_renew_5 : decode cX5_renew 5 = .ok (.aload_n 0, 1) := by decide +kernel
theorem dX5_renew_6 : decode cX5_renew 6 = .ok (.iload_n 2, 1) := by decide +kernel
theorem dX5_renew_7 : decode cX5_renew 7 = .ok (.putfield 19, 3) := by decide +kernel
theorem dX5_renew_10 : decode cX5_renew 10 = .ok (.iconst 0, 1) := by decide +kernel
theorem dX5_renew_11 : decode cX5_renew 11 = .ok (.istore_n 3, 1) := by decide +kernel
theorem dX5_renew_12 : decode cX5_renew 12 = .ok (.iload_n 3, 1) := by decide +kernel
theorem dX5_renew_13 : decode cX5_renew 13 = .ok (.bipush 36, 2) := by decide +kernel
theorem dX5_renew_15 : decode cX5_renew 15 = .ok (.if_icmp .ge 16, 3) := by decide +kernel
theorem dX5_renew_18 : decode cX5_renew 18 = .ok (.aload_n 0, 1) := by decide +kernel
theorem dX5_renew_19 : decode cX5_renew 19 = .ok (.getfield 9, 3) := by decide +kernel
theorem dX5_renew_22 : decode cX5_renew 22 = .ok (.iload_n 3, 1) := by decide +kernel
theorem dX5_renew_23 : decode cX5_renew 23 = .ok (.iconst 0, 1) := by decide +kernel
theorem dX5_renew_24 : decode cX5_renew 24 = .ok (.iastore, 1) := by decide +kernel
theorem dX5_renew_25 : decode cX5_renew 25 = .ok (.iinc 3 1, 3) := by decide +kernel
theorem dX5_renew_28 : decode cX5_renew 28 = .ok (.goto (-16), 3) := by decide +kernel
theorem dX5_renew_31 : decode cX5_renew 31 = .ok (.return_, 1) := by decide +kernel
theorem dX5_empty_0 : decode cX5_empty 0 = .ok (.aload_n 0, 1) := by decide +kernel
theorem dX5_empty_1 : decode cX5_empty 1 = .ok (.iconst (-1), 1) := by decide +kernel
theorem dX5_empty_2 : decode cX5_empty 2 = .ok (.putfield 15, 3) := by decide +kernel
theorem dX5_empty_5 : decode cX5_empty 5 = .ok (.aload_n 0, 1) := by decide +kernel
theorem dX5_empty_6 : decode cX5_empty 6 = .ok (.iconst 0, 1) := by decide +kernel
theorem dX5_empty_7 : decode cX5_empty 7 = .ok (.putfield 19, 3) := by decide +kernel
theorem dX5_empty_10 : decode cX5_empty 10 = .ok (.return_, 1) := by decide +kernel
theorem dX5_trouble_0 : decode cX5_trouble 0 = .ok (.aload_n 0, 1) := by decide +kernel
theorem dX5_trouble_1 : decode cX5_trouble 1 = .ok (.invokevirtual 22, 3) := by decide +kernel
theorem dX5_trouble_4 : decode cX5_trouble 4 = .ok (.ifCond .ne 6, 3) := by decide +kernel
theorem dX5_trouble_7 : decode cX5_trouble 7 = .ok (.bipush (-11), 2) := by decide +kernel
theorem dX5_trouble_9 : decode cX5_trouble 9 = .ok (.ireturn, 1) := by decide +kernel
theorem dX5_trouble_10 : decode cX5_trouble 10 = .ok (.iload_n 1, 1) := by decide +kernel
theorem dX5_trouble_11 : decode cX5_trouble 11 = .ok (.aload_n 0, 1) := by decide +kernel
theorem dX5_trouble_12 : decode cX5_trouble 12 = .ok (.getfield 15, 3) := by decide +kernel
theorem dX5_trouble_15 : decode cX5_trouble 15 = .ok (.if_icmp .eq 6, 3) := by decide +kernel
theorem dX5_trouble_18 : decode cX5_trouble 18 = .ok (.bipush (-12), 2) := by decide +kernel
theorem dX5_trouble_20 : decode cX5_trouble 20 = .ok (.ireturn, 1) := by decide +kernel
theorem dX5_trouble_21 : decode cX5_trouble 21 = .ok (.iload_n 2, 1) := by decide +kernel
theorem dX5_trouble_22 : decode cX5_trouble 22 = .ok (.ifCond .lt 13, 3) := by decide +kernel
theorem dX5_trouble_25 : decode cX5_trouble 25 = .ok (.iload_n 2, 1) := by decide +kernel
theorem dX5_trouble_26 : decode cX5_trouble 26 = .ok (.aload_n 0, 1) := by decide +kernel
theorem dX5_trouble_27 : decode cX5_trouble 27 = .ok (.getfield 19, 3) := by decide +kernel
theorem dX5_trouble_30 : decode cX5_trouble 30 = .ok (.iload_n 3, 1) := by decide +kernel
theorem dX5_trouble_31 : decode cX5_trouble 31 = .ok (.isub, 1) := by decide +kernel
theorem dX5_trouble_32 : decode cX5_trouble 32 = .ok (.if_icmp .le 8, 3) := by decide +kernel
theorem dX5_trouble_35 : decode cX5_trouble 35 = .ok (.bipush (-13), 2) := by decide +kernel
theorem dX5_trouble_37 : decode cX5_trouble 37 = .ok (.goto 4, 3) := by decide +kernel
theorem dX5_trouble_40 : decode cX5_trouble 40 = .ok (.iconst 0, 1) := by decide +kernel
theorem dX5_trouble_41 : decode cX5_trouble 41 = .ok (.ireturn, 1) := by decide +kernel
theorem dX5_put_0 : decode cX5_put 0 = .ok (.iload_n 1, 1) := by decide +kernel
theorem dX5_put_1 : decode cX5_put 1 = .ok (.ifCond .lt 11, 3) := by decide +kernel
theorem dX5_put_4 : decode cX5_put 4 = .ok (.iload_n 1, 1) := by decide +kernel
theorem dX5_put_5 : decode cX5_put 5 = .ok (.aload_n 0, 1) := by decide +kernel
theorem dX5_put_6 : decode cX5_put 6 = .ok (.getfield 19, 3) := by decide +kernel
theorem dX5_put_9 : decode cX5_put 9 = .ok (.if_icmp .lt 4, 3) := by decide +kernel
theorem dX5_put_12 : decode cX5_put 12 = .ok (.return_, 1) := by decide +kernel
theorem dX5_put_13 : decode cX5_put 13 = .ok (.aload_n 0, 1) := by decide +kernel
theorem dX5_put_14 : decode cX5_put 14 = .ok (.getfield 9, 3) := by decide +kernel
theorem dX5_put_17 : decode cX5_put 17 = .ok (.iload_n 1, 1) := by decide +kernel
theorem dX5_put_18 : decode cX5_put 18 = .ok (.aload_n 0, 1) := by decide +kernel
theorem dX5_put_19 : decode cX5_put 19 = .ok (.getfield 15, 3) := by decide +kernel
theorem dX5_put_22 : decode cX5_put 22 = .ok (.ifCond .ne 8, 3) := by decide +kernel
theorem dX5_put_25 : decode cX5_put 25 = .ok (.iload_n 2, 1) := by decide +kernel
theorem dX5_put_26 : decode cX5_put 26 = .ok (.i2b, 1) := by decide +kernel
theorem dX5_put_27 : decode cX5_put 27 = .ok (.goto 17, 3) := by decide +kernel
theorem dX5_put_30 : decode cX5_put 30 = .ok (.aload_n 0, 1) := by decide +kernel
theorem dX5_put_31 : decode cX5_put 31 = .ok (.getfield 15, 3) := by decide +kernel
theorem dX5_put_34 : decode cX5_put 34 = .ok (.iconst 1, 1) := by decide +kernel
theorem dX5_put_35 : decode cX5_put 35 = .ok (.if_icmp .ne 8, 3) := by decide +kernel
theorem dX5_put_38 : decode cX5_put 38 = .ok (.iload_n 2, 1) := by decide +kernel
theorem dX5_put_39 : decode cX5_put 39 = .ok (.i2s, 1) := by decide +kernel
theorem dX5_put_40 : decode cX5_put 40 = .ok (.goto 4, 3) := by decide +kernel
theorem dX5_put_43 : decode cX5_put 43 = .ok (.iload_n 2, 1) := by decide +kernel
theorem dX5_put_44 : decode cX5_put 44 = .ok (.iastore, 1) := by decide +kernel
theorem dX5_put_45 : decode cX5_put 45 = .ok (.return_, 1) := by decide +kernel
theorem dX6_init_0 : decode cX6_init 0 = .ok (.aload_n 0, 1) := by decide +kernel
theorem dX6_init_1 : decode cX6_init 1 = .ok (.invokespecial 3, 3) := by decide +kernel
theorem dX6_init_4 : decode cX6_init 4 = .ok (.aload_n 0, 1) := by decide +kernel
theorem dX6_init_5 : decode cX6_init 5 = .ok (.bipush 80, 2) := by decide +kernel
theorem dX6_init_7 : decode cX6_init 7 = .ok (.newarray .int, 2) := by decide +kernel
theorem dX6_init_9 : decode cX6_init 9 = .ok (.putfield 9, 3) := by decide +kernel
theorem dX6_init_12 : decode cX6_init 12 = .ok (.aload_n 0, 1) := by decide +kernel
theorem dX6_init_13 : decode cX6_init 13 = .ok (.iconst 0, 1) := by decide +kernel
theorem dX6_init_14 : decode cX6_init 14 = .ok (.putfield 15, 3) := by decide +kernel
theorem dX6_init_17 : decode cX6_init 17 = .ok (.aload_n 0, 1) := by decide +kernel
theorem dX6_init_18 : decode cX6_init 18 = .ok (.iconst 0, 1) := by decide +kernel
theorem dX6_init_19 : decode cX6_init 19 = .ok (.putfield 19, 3) := by decide +kernel
theorem dX6_init_22 : decode cX6_init 22 = .ok (.aload_n 0, 1) := by decide +kernel
theorem dX6_init_23 : decode cX6_init 23 = .ok (.iconst 0, 1) := by decide +kernel
theorem dX6_init_24 : decode cX6_init 24 = .ok (.putfield 22, 3) := by decide +kernel
theorem dX6_init_27 : decode cX6_init 27 = .ok (.aload_n 0, 1) := by decide +kernel
theorem dX6_init_28 : decode cX6_init 28 = .ok (.lconst 0, 1) := by decide +kernel
theorem dX6_init_29 : decode cX6_init 29 = .ok (.putfield 25, 3) := by decide +kernel
theorem dX6_init_32 : decode cX6_init 32 = .ok (.aload_n 0, 1) := by decide +kernel
theorem dX6_init_33 : decode cX6_init 33 = .ok (.lconst 0, 1) := by decide +kernel
theorem dX6_init_34 : decode cX6_init 34 = .ok (.putfield 29, 3) := by decide +kernel
theorem dX6_init_37 : decode cX6_init 37 = .ok (.return_, 1) := by decide +kernel
theorem dX6_isTypeable_0 : decode cX6_isTypeable 0 = .ok (.iconst 0, 1) := by decide +kernel
theorem dX6_isTypeable_1 : decode cX6_isTypeable 1 = .ok (.istore_n 3, 1) := by decide +kernel
theorem dX6_isTypeable_2 : decode cX6_isTypeable 2 = .ok (.iload_n 3, 1) := by decide +kernel
theorem dX6_isTypeable_3 : decode cX6_isTypeable 3 = .ok (.iload_n 2, 1) := by decide +kernel
theorem dX6_isTypeable_4 : decode cX6_isTypeable 4 = .ok (.if_icmp .ge 32, 3) := by decide +kernel
theorem dX6_isTypeable_7 : decode cX6_isTypeable 7 = .ok (.lload_n 0, 1) := by decide +kernel
theorem dX6_isTypeable_8 : decode cX6_isTypeable 8 = .ok (.iload_n 3, 1) := by decide +kernel
theorem dX6_isTypeable_9 : decode cX6_isTypeable 9 = .ok (.invokestatic 32, 3) := by decide +kernel
theorem dX6_isTypeable_12 : decode cX6_isTypeable 12 = .ok (.istore 4, 2) := by decide +kernel
theorem dX6_isTypeable_14 : decode cX6_isTypeable 14 = .ok (.iload 4, 2) := by decide +kernel
theorem dX6_isTypeable_16 : decode cX6_isTypeable 16 = .ok (.bipush 32, 2) := by decide +kernel
theorem dX6_isTypeable_18 : decode cX6_isTypeable 18 = .ok (.if_icmp .lt 10, 3) := by decide +kernel
theorem dX6_isTypeable_21 : decode cX6_isTypeable 21 = .ok (.iload 4, 2) := by decide +kernel
theorem dX6_isTypeable_23 : decode cX6_isTypeable 23 = .ok (.bipush 126, 2) := by decide +kernel
theorem dX6_isTypeable_25 : decode cX6_isTypeable 25 = .ok (.if_icmp .le 5, 3) := by decide +kernel
theorem dX6_isTypeable_28 : decode cX6_isTypeable 28 = .ok (.iconst 0, 1) := by decide +kernel
theorem dX6_isTypeable_29 : decode cX6_isTypeable 29 = .ok (.ireturn, 1) := by decide +kernel
theorem dX6_isTypeable_30 : decode cX6_isTypeable 30 = .ok (.iinc 3 1, 3) := by decide +kernel
theorem dX6_isTypeable_33 : decode cX6_isTypeable 33 = .ok (.goto (-31), 3) := by decide +kernel
theorem dX6_isTypeable_36 : decode cX6_isTypeable 36 = .ok (.iconst 1, 1) := by decide +kernel
theorem dX6_isTypeable_37 : decode cX6_isTypeable 37 = .ok (.ireturn, 1) := by decide +kernel
theorem dX6_byteAt_0 : decode cX6_byteAt 0 = .ok (.lload_n 0, 1) := by decide +kernel
theorem dX6_byteAt_1 : decode cX6_byteAt 1 = .ok (.bipush 8, 2) := by decide +kernel
theorem dX6_byteAt_3 : decode cX6_byteAt 3 = .ok (.iload_n 2, 1) := by decide +kernel
theorem dX6_byteAt_4 : decode cX6_byteAt 4 = .ok (.imul, 1) := by decide +kernel
theorem dX6_byteAt_5 : decode cX6_byteAt 5 = .ok (.lshr, 1) := by decide +kernel
theorem dX6_byteAt_6 : decode cX6_byteAt 6 = .ok (.ldc2_w 36, 3) := by decide +kernel
theorem dX6_byteAt_9 : decode cX6_byteAt 9 = .ok (.land, 1) := by decide +kernel
theorem dX6_byteAt_10 : decode cX6_byteAt 10 = .ok (.l2i, 1) := by decide +kernel
theorem dX6_byteAt_11 : decode cX6_byteAt 11 = .ok (.ireturn, 1) := by decide +kernel
theorem dX6_append_0 : decode cX6_append 0 = .ok (.aload_n 0, 1) := by decide +kernel
theorem dX6_append_1 : decode cX6_append 1 = .ok (.getfield 15, 3) := by decide +kernel
theorem dX6_append_4 : decode cX6_append 4 = .ok (.iload_n 3, 1) := by decide +kernel
theorem dX6_append_5 : decode cX6_append 5 = .ok (.iadd, 1) := by decide +kernel
theorem dX6_append_6 : decode cX6_append 6 = .ok (.bipush 80, 2) := by decide +kernel
theorem dX6_append_8 : decode cX6_append 8 = .ok (.if_icmp .le 5, 3) := by decide +kernel
theorem dX6_append_11 : decode cX6_append 11 = .ok (.iconst 0, 1) := by decide +kernel
theorem dX6_append_12 : decode cX6_append 12 = .ok (.ireturn, 1) := by decide +kernel
theorem dX6_append_13 : decode cX6_append 13 = .ok (.iload_n 3, 1) := by decide +kernel
theorem dX6_append_14 : decode cX6_append 14 = .ok (.iconst 1, 1) := by decide +kernel
theorem dX6_append_15 : decode cX6_append 15 = .ok (.isub, 1) := by decide +kernel
theorem dX6_append_16 : decode cX6_append 16 = .ok (.istore 4, 2) := by decide +kernel
theorem dX6_append_18 : decode cX6_append 18 = .ok (.iload 4, 2) := by decide +kernel
theorem dX6_append_20 : decode cX6_append 20 = .ok (.ifCond .lt 34, 3) := by decide +kernel
theorem dX6_append_23 : decode cX6_append 23 = .ok (.aload_n 0, 1) := by decide +kernel
theorem dX6_append_24 : decode cX6_append 24 = .ok (.getfield 9, 3) := by decide +kernel
theorem dX6_append_27 : decode cX6_append 27 = .ok (.aload_n 0, 1) := by decide +kernel
theorem dX6_append_28 : decode cX6_append 28 = .ok (.getfield 15, 3) := by decide +kernel
theorem dX6_append_31 : decode cX6_append 31 = .ok (.lload_n 1, 1) := by decide +kernel
theorem dX6_append_32 : decode cX6_append 32 = .ok (.iload 4, 2) := by decide +kernel
theorem dX6_append_34 : decode cX6_append 34 = .ok (.invokestatic 32, 3) := by decide +kernel
theorem dX6_append_37 : decode cX6_append 37 = .ok (.iastore, 1) := by decide +kernel
theorem dX6_append_38 : decode cX6_append 38 = .ok (.aload_n 0, 1) := by decide +kernel
theorem dX6_append_39 : decode cX6_append 39 = .ok (.dup, 1) := by decide +kernel
theorem dX6_append_40 : decode cX6_append 40 = .ok (.getfield 15, 3) := by decide +kernel
theorem dX6_append_43 : decode cX6_append 43 = .ok (.iconst 1, 1) := by decide +kernel
theorem dX6_append_44 : decode cX6_append 44 = .ok (.iadd, 1) := by decide +kernel
theorem dX6_append_45 : decode cX6_append 45 = .ok (.putfield 15, 3) := by decide +kernel
theorem dX6_append_48 : decode cX6_append 48 = .ok (.iinc 4 (-1), 3) := by decide +kernel
theorem dX6_append_51 : decode cX6_append 51 = .ok (.goto (-33), 3) := by decide +kernel
theorem dX6_append_54 : decode cX6_append 54 = .ok (.iconst 1, 1) := by decide +kernel
theorem dX6_append_55 : decode cX6_append 55 = .ok (.ireturn, 1) := by decide +kernel
theorem dX6_takeText_0 : decode cX6_takeText 0 = .ok (.aload_n 0, 1) := by decide +kernel
theorem dX6_takeText_1 : decode cX6_takeText 1 = .ok (.aload_n 0, 1) := by decide +kernel
theorem dX6_takeText_2 : decode cX6_takeText 2 = .ok (.getfield 15, 3) := by decide +kernel
theorem dX6_takeText_5 : decode cX6_takeText 5 = .ok (.putfield 19, 3) := by decide +kernel
theorem dX6_takeText_8 : decode cX6_takeText 8 = .ok (.aload_n 0, 1) := by decide +kernel
theorem dX6_takeText_9 : decode cX6_takeText 9 = .ok (.iconst 0, 1) := by decide +kernel
theorem dX6_takeText_10 : decode cX6_takeText 10 = .ok (.putfield 15, 3) := by decide +kernel
theorem dX6_takeText_13 : decode cX6_takeText 13 = .ok (.aload_n 0, 1) := by decide +kernel
theorem dX6_takeText_14 : decode cX6_takeText 14 = .ok (.iconst (-1), 1) := by decide +kernel
theorem dX6_takeText_15 : decode cX6_takeText 15 = .ok (.putfield 22, 3) := by decide +kernel
theorem dX6_takeText_18 : decode cX6_takeText 18 = .ok (.aload_n 0, 1) := by decide +kernel
theorem dX6_takeText_19 : decode cX6_takeText 19 = .ok (.invokevirtual 38, 3) := by decide +kernel
theorem dX6_takeText_22 : decode cX6_takeText 22 = .ok (.return_, 1) := by decide +kernel
theorem dX6_advance_0 : decode cX6_advance 0 = .ok (.aload_n 0, 1) := by decide +kernel
theorem dX6_advance_1 : decode cX6_advance 1 = .ok (.dup, 1) := by decide +kernel
theorem dX6_advance_2 : decode cX6_advance 2 = .ok (.getfield 22, 3) := by decide +kernel
theorem dX6_advance_5 : decode cX6_advance 5 = .ok (.iconst 1, 1) := by decide +kernel
