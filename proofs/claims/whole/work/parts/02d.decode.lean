theorem dX9_straw_31 : decode cX9_straw 31 = .ok (.aload_n 0, 1) := by decide +kernel
theorem dX9_straw_32 : decode cX9_straw 32 = .ok (.getfield 10, 3) := by decide +kernel
theorem dX9_straw_35 : decode cX9_straw 35 = .ok (.iload_n 2, 1) := by decide +kernel
theorem dX9_straw_36 : decode cX9_straw 36 = .ok (.ifCond .eq 16, 3) := by decide +kernel
theorem dX9_straw_39 : decode cX9_straw 39 = .ok (.aload_n 0, 1) := by decide +kernel
theorem dX9_straw_40 : decode cX9_straw 40 = .ok (.getfield 10, 3) := by decide +kernel
theorem dX9_straw_43 : decode cX9_straw 43 = .ok (.getfield 122, 3) := by decide +kernel
theorem dX9_straw_46 : decode cX9_straw 46 = .ok (.lload 4, 2) := by decide +kernel
theorem dX9_straw_48 : decode cX9_straw 48 = .ok (.lor, 1) := by decide +kernel
theorem dX9_straw_49 : decode cX9_straw 49 = .ok (.goto 17, 3) := by decide +kernel
theorem dX9_straw_52 : decode cX9_straw 52 = .ok (.aload_n 0, 1) := by decide +kernel
theorem dX9_straw_53 : decode cX9_straw 53 = .ok (.getfield 10, 3) := by decide +kernel
theorem dX9_straw_56 : decode cX9_straw 56 = .ok (.getfield 122, 3) := by decide +kernel
theorem dX9_straw_59 : decode cX9_straw 59 = .ok (.lload 4, 2) := by decide +kernel
theorem dX9_straw_61 : decode cX9_straw 61 = .ok (.ldc2_w 117, 3) := by decide +kernel
theorem dX9_straw_64 : decode cX9_straw 64 = .ok (.lxor, 1) := by decide +kernel
theorem dX9_straw_65 : decode cX9_straw 65 = .ok (.land, 1) := by decide +kernel
theorem dX9_straw_66 : decode cX9_straw 66 = .ok (.putfield 122, 3) := by decide +kernel
theorem dX9_straw_69 : decode cX9_straw 69 = .ok (.iload_n 3, 1) := by decide +kernel
theorem dX9_straw_70 : decode cX9_straw 70 = .ok (.ireturn, 1) := by decide +kernel
theorem dX9_set_0 : decode cX9_set 0 = .ok (.iload_n 1, 1) := by decide +kernel
theorem dX9_set_1 : decode cX9_set 1 = .ok (.ifCond .ne 9, 3) := by decide +kernel
theorem dX9_set_4 : decode cX9_set 4 = .ok (.aload_n 0, 1) := by decide +kernel
theorem dX9_set_5 : decode cX9_set 5 = .ok (.iload_n 2, 1) := by decide +kernel
theorem dX9_set_6 : decode cX9_set 6 = .ok (.invokevirtual 125, 3) := by decide +kernel
theorem dX9_set_9 : decode cX9_set 9 = .ok (.ireturn, 1) := by decide +kernel
theorem dX9_set_10 : decode cX9_set 10 = .ok (.iload_n 1, 1) := by decide +kernel
theorem dX9_set_11 : decode cX9_set 11 = .ok (.ifCond .lt 15, 3) := by decide +kernel
theorem dX9_set_14 : decode cX9_set 14 = .ok (.iload_n 1, 1) := by decide +kernel
theorem dX9_set_15 : decode cX9_set 15 = .ok (.iconst 2, 1) := by decide +kernel
theorem dX9_set_16 : decode cX9_set 16 = .ok (.if_icmp .gt 10, 3) := by decide +kernel
theorem dX9_set_19 : decode cX9_set 19 = .ok (.iload_n 2, 1) := by decide +kernel
theorem dX9_set_20 : decode cX9_set 20 = .ok (.invokestatic 75, 3) := by decide +kernel
theorem dX9_set_23 : decode cX9_set 23 = .ok (.ifCond .ne 5, 3) := by decide +kernel
theorem dX9_set_26 : decode cX9_set 26 = .ok (.iconst (-1), 1) := by decide +kernel
theorem dX9_set_27 : decode cX9_set 27 = .ok (.ireturn, 1) := by decide +kernel
theorem dX9_set_28 : decode cX9_set 28 = .ok (.iload_n 1, 1) := by decide +kernel
theorem dX9_set_29 : decode cX9_set 29 = .ok (.iconst 1, 1) := by decide +kernel
theorem dX9_set_30 : decode cX9_set 30 = .ok (.if_icmp .ne 22, 3) := by decide +kernel
theorem dX9_set_33 : decode cX9_set 33 = .ok (.aload_n 0, 1) := by decide +kernel
theorem dX9_set_34 : decode cX9_set 34 = .ok (.getfield 10, 3) := by decide +kernel
theorem dX9_set_37 : decode cX9_set 37 = .ok (.getfield 129, 3) := by decide +kernel
theorem dX9_set_40 : decode cX9_set 40 = .ok (.istore_n 3, 1) := by decide +kernel
theorem dX9_set_41 : decode cX9_set 41 = .ok (.aload_n 0, 1) := by decide +kernel
theorem dX9_set_42 : decode cX9_set 42 = .ok (.getfield 10, 3) := by decide +kernel
theorem dX9_set_45 : decode cX9_set 45 = .ok (.iload_n 2, 1) := by decide +kernel
theorem dX9_set_46 : decode cX9_set 46 = .ok (.putfield 129, 3) := by decide +kernel
theorem dX9_set_49 : decode cX9_set 49 = .ok (.goto 19, 3) := by decide +kernel
theorem dX9_set_52 : decode cX9_set 52 = .ok (.aload_n 0, 1) := by decide +kernel
theorem dX9_set_53 : decode cX9_set 53 = .ok (.getfield 10, 3) := by decide +kernel
theorem dX9_set_56 : decode cX9_set 56 = .ok (.getfield 132, 3) := by decide +kernel
theorem dX9_set_59 : decode cX9_set 59 = .ok (.istore_n 3, 1) := by decide +kernel
theorem dX9_set_60 : decode cX9_set 60 = .ok (.aload_n 0, 1) := by decide +kernel
theorem dX9_set_61 : decode cX9_set 61 = .ok (.getfield 10, 3) := by decide +kernel
theorem dX9_set_64 : decode cX9_set 64 = .ok (.iload_n 2, 1) := by decide +kernel
theorem dX9_set_65 : decode cX9_set 65 = .ok (.putfield 132, 3) := by decide +kernel
theorem dX9_set_68 : decode cX9_set 68 = .ok (.iload_n 3, 1) := by decide +kernel
theorem dX9_set_69 : decode cX9_set 69 = .ok (.ireturn, 1) := by decide +kernel
theorem dX9_told_0 : decode cX9_told 0 = .ok (.iload_n 1, 1) := by decide +kernel
theorem dX9_told_1 : decode cX9_told 1 = .ok (.invokestatic 75, 3) := by decide +kernel
theorem dX9_told_4 : decode cX9_told 4 = .ok (.ifCond .ne 5, 3) := by decide +kernel
theorem dX9_told_7 : decode cX9_told 7 = .ok (.iconst (-1), 1) := by decide +kernel
theorem dX9_told_8 : decode cX9_told 8 = .ok (.ireturn, 1) := by decide +kernel
theorem dX9_told_9 : decode cX9_told 9 = .ok (.iload_n 2, 1) := by decide +kernel
theorem dX9_told_10 : decode cX9_told 10 = .ok (.tableswitch 64 0 2 #[26, 38, 47], 26) := by decide +kernel
theorem dX9_told_36 : decode cX9_told 36 = .ok (.aload_n 0, 1) := by decide +kernel
theorem dX9_told_37 : decode cX9_told 37 = .ok (.getfield 10, 3) := by decide +kernel
theorem dX9_told_40 : decode cX9_told 40 = .ok (.getfield 81, 3) := by decide +kernel
theorem dX9_told_43 : decode cX9_told 43 = .ok (.iload_n 1, 1) := by decide +kernel
theorem dX9_told_44 : decode cX9_told 44 = .ok (.invokevirtual 135, 3) := by decide +kernel
theorem dX9_told_47 : decode cX9_told 47 = .ok (.ireturn, 1) := by decide +kernel
theorem dX9_told_48 : decode cX9_told 48 = .ok (.aload_n 0, 1) := by decide +kernel
theorem dX9_told_49 : decode cX9_told 49 = .ok (.getfield 10, 3) := by decide +kernel
theorem dX9_told_52 : decode cX9_told 52 = .ok (.iload_n 1, 1) := by decide +kernel
theorem dX9_told_53 : decode cX9_told 53 = .ok (.invokevirtual 138, 3) := by decide +kernel
theorem dX9_told_56 : decode cX9_told 56 = .ok (.ireturn, 1) := by decide +kernel
theorem dX9_told_57 : decode cX9_told 57 = .ok (.aload_n 0, 1) := by decide +kernel
theorem dX9_told_58 : decode cX9_told 58 = .ok (.getfield 10, 3) := by decide +kernel
theorem dX9_told_61 : decode cX9_told 61 = .ok (.iload_n 1, 1) := by decide +kernel
theorem dX9_told_62 : decode cX9_told 62 = .ok (.invokevirtual 119, 3) := by decide +kernel
theorem dX9_told_65 : decode cX9_told 65 = .ok (.ifCond .eq 7, 3) := by decide +kernel
theorem dX9_told_68 : decode cX9_told 68 = .ok (.iconst 1, 1) := by decide +kernel
theorem dX9_told_69 : decode cX9_told 69 = .ok (.goto 4, 3) := by decide +kernel
theorem dX9_told_72 : decode cX9_told 72 = .ok (.iconst 0, 1) := by decide +kernel
theorem dX9_told_73 : decode cX9_told 73 = .ok (.ireturn, 1) := by decide +kernel
theorem dX9_told_74 : decode cX9_told 74 = .ok (.iconst (-1), 1) := by decide +kernel
theorem dX9_told_75 : decode cX9_told 75 = .ok (.ireturn, 1) := by decide +kernel
theorem dX9_type_0 : decode cX9_type 0 = .ok (.iload_n 3, 1) := by decide +kernel
theorem dX9_type_1 : decode cX9_type 1 = .ok (.iconst 1, 1) := by decide +kernel
theorem dX9_type_2 : decode cX9_type 2 = .ok (.if_icmp .lt 17, 3) := by decide +kernel
theorem dX9_type_5 : decode cX9_type 5 = .ok (.iload_n 3, 1) := by decide +kernel
theorem dX9_type_6 : decode cX9_type 6 = .ok (.bipush 8, 2) := by decide +kernel
theorem dX9_type_8 : decode cX9_type 8 = .ok (.if_icmp .gt 11, 3) := by decide +kernel
theorem dX9_type_11 : decode cX9_type 11 = .ok (.lload_n 1, 1) := by decide +kernel
theorem dX9_type_12 : decode cX9_type 12 = .ok (.iload_n 3, 1) := by decide +kernel
theorem dX9_type_13 : decode cX9_type 13 = .ok (.invokestatic 141, 3) := by decide +kernel
theorem dX9_type_16 : decode cX9_type 16 = .ok (.ifCond .ne 5, 3) := by decide +kernel
theorem dX9_type_19 : decode cX9_type 19 = .ok (.iconst (-1), 1) := by decide +kernel
theorem dX9_type_20 : decode cX9_type 20 = .ok (.ireturn, 1) := by decide +kernel
theorem dX9_type_21 : decode cX9_type 21 = .ok (.aload_n 0, 1) := by decide +kernel
theorem dX9_type_22 : decode cX9_type 22 = .ok (.getfield 26, 3) := by decide +kernel
theorem dX9_type_25 : decode cX9_type 25 = .ok (.lload_n 1, 1) := by decide +kernel
theorem dX9_type_26 : decode cX9_type 26 = .ok (.iload_n 3, 1) := by decide +kernel
theorem dX9_type_27 : decode cX9_type 27 = .ok (.invokevirtual 145, 3) := by decide +kernel
theorem dX9_type_30 : decode cX9_type 30 = .ok (.ifCond .ne 6, 3) := by decide +kernel
theorem dX9_type_33 : decode cX9_type 33 = .ok (.bipush (-3), 2) := by decide +kernel
theorem dX9_type_35 : decode cX9_type 35 = .ok (.ireturn, 1) := by decide +kernel
theorem dX9_type_36 : decode cX9_type 36 = .ok (.aload_n 0, 1) := by decide +kernel
theorem dX9_type_37 : decode cX9_type 37 = .ok (.getfield 26, 3) := by decide +kernel
theorem dX9_type_40 : decode cX9_type 40 = .ok (.getfield 148, 3) := by decide +kernel
theorem dX9_type_43 : decode cX9_type 43 = .ok (.ireturn, 1) := by decide +kernel
theorem dX9_furrow_0 : decode cX9_furrow 0 = .ok (.aload_n 0, 1) := by decide +kernel
theorem dX9_furrow_1 : decode cX9_furrow 1 = .ok (.getfield 26, 3) := by decide +kernel
theorem dX9_furrow_4 : decode cX9_furrow 4 = .ok (.invokevirtual 149, 3) := by decide +kernel
theorem dX9_furrow_7 : decode cX9_furrow 7 = .ok (.aload_n 0, 1) := by decide +kernel
theorem dX9_furrow_8 : decode cX9_furrow 8 = .ok (.getfield 26, 3) := by decide +kernel
theorem dX9_furrow_11 : decode cX9_furrow 11 = .ok (.aload_n 0, 1) := by decide +kernel
theorem dX9_furrow_12 : decode cX9_furrow 12 = .ok (.getfield 33, 3) := by decide +kernel
theorem dX9_furrow_15 : decode cX9_furrow 15 = .ok (.invokevirtual 152, 3) := by decide +kernel
theorem dX9_furrow_18 : decode cX9_furrow 18 = .ok (.istore_n 1, 1) := by decide +kernel
theorem dX9_furrow_19 : decode cX9_furrow 19 = .ok (.iload_n 1, 1) := by decide +kernel
theorem dX9_furrow_20 : decode cX9_furrow 20 = .ok (.ifCond .lt 24, 3) := by decide +kernel
theorem dX9_furrow_23 : decode cX9_furrow 23 = .ok (.aload_n 0, 1) := by decide +kernel
theorem dX9_furrow_24 : decode cX9_furrow 24 = .ok (.getfield 10, 3) := by decide +kernel
theorem dX9_furrow_27 : decode cX9_furrow 27 = .ok (.getfield 81, 3) := by decide +kernel
theorem dX9_furrow_30 : decode cX9_furrow 30 = .ok (.aload_n 0, 1) := by decide +kernel
theorem dX9_furrow_31 : decode cX9_furrow 31 = .ok (.getfield 33, 3) := by decide +kernel
theorem dX9_furrow_34 : decode cX9_furrow 34 = .ok (.invokevirtual 156, 3) := by decide +kernel
theorem dX9_furrow_37 : decode cX9_furrow 37 = .ok (.aload_n 0, 1) := by decide +kernel
theorem dX9_furrow_38 : decode cX9_furrow 38 = .ok (.getfield 10, 3) := by decide +kernel
theorem dX9_furrow_41 : decode cX9_furrow 41 = .ok (.invokevirtual 87, 3) := by decide +kernel
theorem dX9_furrow_44 : decode cX9_furrow 44 = .ok (.iload_n 1, 1) := by decide +kernel
theorem dX9_furrow_45 : decode cX9_furrow 45 = .ok (.ireturn, 1) := by decide +kernel
theorem dX9_seen_0 : decode cX9_seen 0 = .ok (.aload_n 0, 1) := by decide +kernel
theorem dX9_seen_1 : decode cX9_seen 1 = .ok (.getfield 26, 3) := by decide +kernel
theorem dX9_seen_4 : decode cX9_seen 4 = .ok (.invokevirtual 149, 3) := by decide +kernel
theorem dX9_seen_7 : decode cX9_seen 7 = .ok (.aload_n 0, 1) := by decide +kernel
theorem dX9_seen_8 : decode cX9_seen 8 = .ok (.getfield 26, 3) := by decide +kernel
theorem dX9_seen_11 : decode cX9_seen 11 = .ok (.invokevirtual 160, 3) := by decide +kernel
theorem dX9_seen_14 : decode cX9_seen 14 = .ok (.istore_n 1, 1) := by decide +kernel
theorem dX9_seen_15 : decode cX9_seen 15 = .ok (.iload_n 1, 1) := by decide +kernel
theorem dX9_seen_16 : decode cX9_seen 16 = .ok (.ifCond .lt 39, 3) := by decide +kernel
theorem dX9_seen_19 : decode cX9_seen 19 = .ok (.aload_n 0, 1) := by decide +kernel
theorem dX9_seen_20 : decode cX9_seen 20 = .ok (.getfield 10, 3) := by decide +kernel
theorem dX9_seen_23 : decode cX9_seen 23 = .ok (.aload_n 0, 1) := by decide +kernel
theorem dX9_seen_24 : decode cX9_seen 24 = .ok (.getfield 26, 3) := by decide +kernel
theorem dX9_seen_27 : decode cX9_seen 27 = .ok (.getfield 164, 3) := by decide +kernel
theorem dX9_seen_30 : decode cX9_seen 30 = .ok (.putfield 167, 3) := by decide +kernel
theorem dX9_seen_33 : decode cX9_seen 33 = .ok (.aload_n 0, 1) := by decide +kernel
theorem dX9_seen_34 : decode cX9_seen 34 = .ok (.getfield 10, 3) := by decide +kernel
theorem dX9_seen_37 : decode cX9_seen 37 = .ok (.aload_n 0, 1) := by decide +kernel
theorem dX9_seen_38 : decode cX9_seen 38 = .ok (.getfield 26, 3) := by decide +kernel
theorem dX9_seen_41 : decode cX9_seen 41 = .ok (.getfield 170, 3) := by decide +kernel
theorem dX9_seen_44 : decode cX9_seen 44 = .ok (.putfield 173, 3) := by decide +kernel
theorem dX9_seen_47 : decode cX9_seen 47 = .ok (.aload_n 0, 1) := by decide +kernel
theorem dX9_seen_48 : decode cX9_seen 48 = .ok (.getfield 10, 3) := by decide +kernel
theorem dX9_seen_51 : decode cX9_seen 51 = .ok (.iload_n 1, 1) := by decide +kernel
theorem dX9_seen_52 : decode cX9_seen 52 = .ok (.putfield 176, 3) := by decide +kernel
theorem dX9_seen_55 : decode cX9_seen 55 = .ok (.iload_n 1, 1) := by decide +kernel
theorem dX9_seen_56 : decode cX9_seen 56 = .ok (.ireturn, 1) := by decide +kernel
theorem dX9_count_0 : decode cX9_count 0 = .ok (.iload_n 1, 1) := by decide +kernel
theorem dX9_count_1 : decode cX9_count 1 = .ok (.tableswitch 127 0 6 #[43, 54, 75, 86, 97, 108, 119], 43) := by decide +kernel
theorem dX9_count_44 : decode cX9_count 44 = .ok (.aload_n 0, 1) := by decide +kernel
theorem dX9_count_45 : decode cX9_count 45 = .ok (.getfield 10, 3) := by decide +kernel
theorem dX9_count_48 : decode cX9_count 48 = .ok (.getfield 81, 3) := by decide +kernel
theorem dX9_count_51 : decode cX9_count 51 = .ok (.getfield 90, 3) := by decide +kernel
theorem dX9_count_54 : decode cX9_count 54 = .ok (.ireturn, 1) := by decide +kernel
theorem dX9_count_55 : decode cX9_count 55 = .ok (.aload_n 0, 1) := by decide +kernel
theorem dX9_count_56 : decode cX9_count 56 = .ok (.getfield 10, 3) := by decide +kernel
theorem dX9_count_59 : decode cX9_count 59 = .ok (.getfield 81, 3) := by decide +kernel
theorem dX9_count_62 : decode cX9_count 62 = .ok (.invokevirtual 179, 3) := by decide +kernel
theorem dX9_count_65 : decode cX9_count 65 = .ok (.lconst 0, 1) := by decide +kernel
theorem dX9_count_66 : decode cX9_count 66 = .ok (.lcmp, 1) := by decide +kernel
theorem dX9_count_67 : decode cX9_count 67 = .ok (.ifCond .eq 7, 3) := by decide +kernel
theorem dX9_count_70 : decode cX9_count 70 = .ok (.iconst 1, 1) := by decide +kernel
theorem dX9_count_71 : decode cX9_count 71 = .ok (.goto 4, 3) := by decide +kernel
theorem dX9_count_74 : decode cX9_count 74 = .ok (.iconst 0, 1) := by decide +kernel
theorem dX9_count_75 : decode cX9_count 75 = .ok (.ireturn, 1) := by decide +kernel
theorem dX9_count_76 : decode cX9_count 76 = .ok (.aload_n 0, 1) := by decide +kernel
theorem dX9_count_77 : decode cX9_count 77 = .ok (.getfield 10, 3) := by decide +kernel
theorem dX9_count_80 : decode cX9_count 80 = .ok (.getfield 183, 3) := by decide +kernel
theorem dX9_count_83 : decode cX9_count 83 = .ok (.invokestatic 108, 3) := by decide +kernel
theorem dX9_count_86 : decode cX9_count 86 = .ok (.ireturn, 1) := by decide +kernel
theorem dX9_count_87 : decode cX9_count 87 = .ok (.aload_n 0, 1) := by decide +kernel
theorem dX9_count_88 : decode cX9_count 88 = .ok (.getfield 10, 3) := by decide +kernel
theorem dX9_count_91 : decode cX9_count 91 = .ok (.getfield 104, 3) := by decide +kernel
theorem dX9_count_94 : decode cX9_count 94 = .ok (.invokestatic 108, 3) := by decide +kernel
theorem dX9_count_97 : decode cX9_count 97 = .ok (.ireturn, 1) := by decide +kernel
theorem dX9_count_98 : decode cX9_count 98 = .ok (.aload_n 0, 1) := by decide +kernel
theorem dX9_count_99 : decode cX9_count 99 = .ok (.getfield 10, 3) := by decide +kernel
theorem dX9_count_102 : decode cX9_count 102 = .ok (.getfield 114, 3) := by decide +kernel
theorem dX9_count_105 : decode cX9_count 105 = .ok (.invokestatic 108, 3) := by decide +kernel
theorem dX9_count_108 : decode cX9_count 108 = .ok (.ireturn, 1) := by decide +kernel
theorem dX9_count_109 : decode cX9_count 109 = .ok (.aload_n 0, 1) := by decide +kernel
theorem dX9_count_110 : decode cX9_count 110 = .ok (.getfield 10, 3) := by decide +kernel
theorem dX9_count_113 : decode cX9_count 113 = .ok (.getfield 122, 3) := by decide +kernel
theorem dX9_count_116 : decode cX9_count 116 = .ok (.invokestatic 108, 3) := by decide +kernel
theorem dX9_count_119 : decode cX9_count 119 = .ok (.ireturn, 1) := by decide +kernel
theorem dX9_count_120 : decode cX9_count 120 = .ok (.aload_n 0, 1) := by decide +kernel
theorem dX9_count_121 : decode cX9_count 121 = .ok (.getfield 10, 3) := by decide +kernel
theorem dX9_count_124 : decode cX9_count 124 = .ok (.getfield 176, 3) := by decide +kernel
theorem dX9_count_127 : decode cX9_count 127 = .ok (.ireturn, 1) := by decide +kernel
theorem dX9_count_128 : decode cX9_count 128 = .ok (.iconst (-1), 1) := by decide +kernel
theorem dX9_count_129 : decode cX9_count 129 = .ok (.ireturn, 1) := by decide +kernel
theorem dX9_walk_0 : decode cX9_walk 0 = .ok (.iload_n 1, 1) := by decide +kernel
theorem dX9_walk_1 : decode cX9_walk 1 = .ok (.iload_n 2, 1) := by decide +kernel
theorem dX9_walk_2 : decode cX9_walk 2 = .ok (.iload_n 3, 1) := by decide +kernel
theorem dX9_walk_3 : decode cX9_walk 3 = .ok (.invokestatic 186, 3) := by decide +kernel
theorem dX9_walk_6 : decode cX9_walk 6 = .ok (.ifCond .ne 5, 3) := by decide +kernel
theorem dX9_walk_9 : decode cX9_walk 9 = .ok (.iconst (-1), 1) := by decide +kernel
theorem dX9_walk_10 : decode cX9_walk 10 = .ok (.ireturn, 1) := by decide +kernel
theorem dX9_walk_11 : decode cX9_walk 11 = .ok (.aload_n 0, 1) := by decide +kernel
theorem dX9_walk_12 : decode cX9_walk 12 = .ok (.getfield 50, 3) := by decide +kernel
theorem dX9_walk_15 : decode cX9_walk 15 = .ok (.aload_n 0, 1) := by decide +kernel
theorem dX9_walk_16 : decode cX9_walk 16 = .ok (.getfield 10, 3) := by decide +kernel
theorem dX9_walk_19 : decode cX9_walk 19 = .ok (.aload_n 0, 1) := by decide +kernel
theorem dX9_walk_20 : decode cX9_walk 20 = .ok (.getfield 10, 3) := by decide +kernel
theorem dX9_walk_23 : decode cX9_walk 23 = .ok (.getfield 183, 3) := by decide +kernel
theorem dX9_walk_26 : decode cX9_walk 26 = .ok (.iconst 0, 1) := by decide +kernel
theorem dX9_walk_27 : decode cX9_walk 27 = .ok (.iload_n 1, 1) := by decide +kernel
theorem dX9_walk_28 : decode cX9_walk 28 = .ok (.iconst 3, 1) := by decide +kernel
theorem dX9_walk_29 : decode cX9_walk 29 = .ok (.if_icmp .ne 7, 3) := by decide +kernel
theorem dX9_walk_32 : decode cX9_walk 32 = .ok (.iconst 1, 1) := by decide +kernel
theorem dX9_walk_33 : decode cX9_walk 33 = .ok (.goto 4, 3) := by decide +kernel
theorem dX9_walk_36 : decode cX9_walk 36 = .ok (.iconst 0, 1) := by decide +kernel
theorem dX9_walk_37 : decode cX9_walk 37 = .ok (.invokevirtual 190, 3) := by decide +kernel
theorem dX9_walk_40 : decode cX9_walk 40 = .ok (.aload_n 0, 1) := by decide +kernel
theorem dX9_walk_41 : decode cX9_walk 41 = .ok (.iload_n 1, 1) := by decide +kernel
theorem dX9_walk_42 : decode cX9_walk 42 = .ok (.iload_n 2, 1) := by decide +kernel
theorem dX9_walk_43 : decode cX9_walk 43 = .ok (.iload_n 3, 1) := by decide +kernel
theorem dX9_walk_44 : decode cX9_walk 44 = .ok (.invokevirtual 194, 3) := by decide +kernel
theorem dX9_walk_47 : decode cX9_walk 47 = .ok (.ireturn, 1) := by decide +kernel
theorem dX9_at_0 : decode cX9_at 0 = .ok (.iload_n 1, 1) := by decide +kernel
theorem dX9_at_1 : decode cX9_at 1 = .ok (.iload_n 2, 1) := by decide +kernel
theorem dX9_at_2 : decode cX9_at 2 = .ok (.iload_n 3, 1) := by decide +kernel
theorem dX9_at_3 : decode cX9_at 3 = .ok (.invokestatic 186, 3) := by decide +kernel
theorem dX9_at_6 : decode cX9_at 6 = .ok (.ifCond .eq 16, 3) := by decide +kernel
theorem dX9_at_9 : decode cX9_at 9 = .ok (.iload 4, 2) := by decide +kernel
theorem dX9_at_11 : decode cX9_at 11 = .ok (.ifCond .lt 11, 3) := by decide +kernel
theorem dX9_at_14 : decode cX9_at 14 = .ok (.iload 4, 2) := by decide +kernel
theorem dX9_at_16 : decode cX9_at 16 = .ok (.sipush 999, 3) := by decide +kernel
theorem dX9_at_19 : decode cX9_at 19 = .ok (.if_icmp .le 5, 3) := by decide +kernel
theorem dX9_at_22 : decode cX9_at 22 = .ok (.iconst (-1), 1) := by decide +kernel
theorem dX9_at_23 : decode cX9_at 23 = .ok (.ireturn, 1) := by decide +kernel
theorem dX9_at_24 : decode cX9_at 24 = .ok (.aload_n 0, 1) := by decide +kernel
theorem dX9_at_25 : decode cX9_at 25 = .ok (.getfield 40, 3) := by decide +kernel
theorem dX9_at_28 : decode cX9_at 28 = .ok (.iload_n 1, 1) := by decide +kernel
theorem dX9_at_29 : decode cX9_at 29 = .ok (.iload_n 2, 1) := by decide +kernel
theorem dX9_at_30 : decode cX9_at 30 = .ok (.iload_n 3, 1) := by decide +kernel
theorem dX9_at_31 : decode cX9_at 31 = .ok (.invokevirtual 198, 3) := by decide +kernel
theorem dX9_at_34 : decode cX9_at 34 = .ok (.iconst 0, 1) := by decide +kernel
theorem dX9_at_35 : decode cX9_at 35 = .ok (.istore 5, 2) := by decide +kernel
theorem dX9_at_37 : decode cX9_at 37 = .ok (.iload 5, 2) := by decide +kernel
theorem dX9_at_39 : decode cX9_at 39 = .ok (.iload 4, 2) := by decide +kernel
theorem dX9_at_41 : decode cX9_at 41 = .ok (.if_icmp .ge 37, 3) := by decide +kernel
theorem dX9_at_44 : decode cX9_at 44 = .ok (.aload_n 0, 1) := by decide +kernel
theorem dX9_at_45 : decode cX9_at 45 = .ok (.getfield 40, 3) := by decide +kernel
theorem dX9_at_48 : decode cX9_at 48 = .ok (.getfield 202, 3) := by decide +kernel
theorem dX9_at_51 : decode cX9_at 51 = .ok (.aload_n 0, 1) := by decide +kernel
theorem dX9_at_52 : decode cX9_at 52 = .ok (.getfield 10, 3) := by decide +kernel
theorem dX9_at_55 : decode cX9_at 55 = .ok (.getfield 129, 3) := by decide +kernel
theorem dX9_at_58 : decode cX9_at 58 = .ok (.if_icmp .eq 20, 3) := by decide +kernel
theorem dX9_at_61 : decode cX9_at 61 = .ok (.aload_n 0, 1) := by decide +kernel
theorem dX9_at_62 : decode cX9_at 62 = .ok (.getfield 40, 3) := by decide +kernel
theorem dX9_at_65 : decode cX9_at 65 = .ok (.aload_n 0, 1) := by decide +kernel
theorem dX9_at_66 : decode cX9_at 66 = .ok (.getfield 10, 3) := by decide +kernel
theorem dX9_at_69 : decode cX9_at 69 = .ok (.invokevirtual 205, 3) := by decide +kernel
theorem dX9_at_72 : decode cX9_at 72 = .ok (.iinc 5 1, 3) := by decide +kernel
theorem dX9_at_75 : decode cX9_at 75 = .ok (.goto (-38), 3) := by decide +kernel
theorem dX9_at_78 : decode cX9_at 78 = .ok (.aload_n 0, 1) := by decide +kernel
theorem dX9_at_79 : decode cX9_at 79 = .ok (.getfield 40, 3) := by decide +kernel
theorem dX9_at_82 : decode cX9_at 82 = .ok (.getfield 202, 3) := by decide +kernel
theorem dX9_at_85 : decode cX9_at 85 = .ok (.ireturn, 1) := by decide +kernel
theorem dX9_worst_0 : decode cX9_worst 0 = .ok (.iload_n 1, 1) := by decide +kernel
theorem dX9_worst_1 : decode cX9_worst 1 = .ok (.invokestatic 209, 3) := by decide +kernel
theorem dX9_worst_4 : decode cX9_worst 4 = .ok (.ifCond .eq 19, 3) := by decide +kernel
theorem dX9_worst_7 : decode cX9_worst 7 = .ok (.iload_n 2, 1) := by decide +kernel
theorem dX9_worst_8 : decode cX9_worst 8 = .ok (.invokestatic 97, 3) := by decide +kernel
theorem dX9_worst_11 : decode cX9_worst 11 = .ok (.ifCond .eq 12, 3) := by decide +kernel
theorem dX9_worst_14 : decode cX9_worst 14 = .ok (.iload_n 3, 1) := by decide +kernel
theorem dX9_worst_15 : decode cX9_worst 15 = .ok (.ifCond .lt 8, 3) := by decide +kernel
theorem dX9_worst_18 : decode cX9_worst 18 = .ok (.iload_n 3, 1) := by decide +kernel
theorem dX9_worst_19 : decode cX9_worst 19 = .ok (.iconst 2, 1) := by decide +kernel
theorem dX9_worst_20 : decode cX9_worst 20 = .ok (.if_icmp .le 5, 3) := by decide +kernel
theorem dX9_worst_23 : decode cX9_worst 23 = .ok (.iconst (-1), 1) := by decide +kernel
theorem dX9_worst_24 : decode cX9_worst 24 = .ok (.ireturn, 1) := by decide +kernel
theorem dX9_worst_25 : decode cX9_worst 25 = .ok (.bipush (-4), 2) := by decide +kernel
theorem dX9_worst_27 : decode cX9_worst 27 = .ok (.istore 4, 2) := by decide +kernel
theorem dX9_worst_29 : decode cX9_worst 29 = .ok (.bipush (-4), 2) := by decide +kernel
theorem dX9_worst_31 : decode cX9_worst 31 = .ok (.istore 5, 2) := by decide +kernel
theorem dX9_worst_33 : decode cX9_worst 33 = .ok (.iconst 0, 1) := by decide +kernel
theorem dX9_worst_34 : decode cX9_worst 34 = .ok (.istore 6, 2) := by decide +kernel
theorem dX9_worst_36 : decode cX9_worst 36 = .ok (.aload_n 0, 1) := by decide +kernel
theorem dX9_worst_37 : decode cX9_worst 37 = .ok (.getfield 50, 3) := by decide +kernel
theorem dX9_worst_40 : decode cX9_worst 40 = .ok (.aload_n 0, 1) := by decide +kernel
theorem dX9_worst_41 : decode cX9_worst 41 = .ok (.getfield 10, 3) := by decide +kernel
theorem dX9_worst_44 : decode cX9_worst 44 = .ok (.aload_n 0, 1) := by decide +kernel
theorem dX9_worst_45 : decode cX9_worst 45 = .ok (.getfield 10, 3) := by decide +kernel
theorem dX9_worst_48 : decode cX9_worst 48 = .ok (.getfield 183, 3) := by decide +kernel
theorem dX9_worst_51 : decode cX9_worst 51 = .ok (.iconst 0, 1) := by decide +kernel
theorem dX9_worst_52 : decode cX9_worst 52 = .ok (.iload_n 1, 1) := by decide +kernel
theorem dX9_worst_53 : decode cX9_worst 53 = .ok (.iconst 3, 1) := by decide +kernel
theorem dX9_worst_54 : decode cX9_worst 54 = .ok (.if_icmp .ne 7, 3) := by decide +kernel
theorem dX9_worst_57 : decode cX9_worst 57 = .ok (.iconst 1, 1) := by decide +kernel
theorem dX9_worst_58 : decode cX9_worst 58 = .ok (.goto 4, 3) := by decide +kernel
theorem dX9_worst_61 : decode cX9_worst 61 = .ok (.iconst 0, 1) := by decide +kernel
theorem dX9_worst_62 : decode cX9_worst 62 = .ok (.invokevirtual 190, 3) := by decide +kernel
theorem dX9_worst_65 : decode cX9_worst 65 = .ok (.iconst 0, 1) := by decide +kernel
theorem dX9_worst_66 : decode cX9_worst 66 = .ok (.istore 7, 2) := by decide +kernel
theorem dX9_worst_68 : decode cX9_worst 68 = .ok (.iload 7, 2) := by decide +kernel
theorem dX9_worst_70 : decode cX9_worst 70 = .ok (.bipush 36, 2) := by decide +kernel
theorem dX9_worst_72 : decode cX9_worst 72 = .ok (.if_icmp .ge 45, 3) := by decide +kernel
theorem dX9_worst_75 : decode cX9_worst 75 = .ok (.aload_n 0, 1) := by decide +kernel
theorem dX9_worst_76 : decode cX9_worst 76 = .ok (.iload_n 1, 1) := by decide +kernel
theorem dX9_worst_77 : decode cX9_worst 77 = .ok (.iload 7, 2) := by decide +kernel
theorem dX9_worst_79 : decode cX9_worst 79 = .ok (.iload_n 2, 1) := by decide +kernel
theorem dX9_worst_80 : decode cX9_worst 80 = .ok (.invokevirtual 194, 3) := by decide +kernel
theorem dX9_worst_83 : decode cX9_worst 83 = .ok (.istore 8, 2) := by decide +kernel
theorem dX9_worst_85 : decode cX9_worst 85 = .ok (.iload 8, 2) := by decide +kernel
theorem dX9_worst_87 : decode cX9_worst 87 = .ok (.ifCond .ge 9, 3) := by decide +kernel
theorem dX9_worst_90 : decode cX9_worst 90 = .ok (.iinc 6 1, 3) := by decide +kernel
theorem dX9_worst_93 : decode cX9_worst 93 = .ok (.goto 18, 3) := by decide +kernel
theorem dX9_worst_96 : decode cX9_worst 96 = .ok (.iload 8, 2) := by decide +kernel
theorem dX9_worst_98 : decode cX9_worst 98 = .ok (.iload 4, 2) := by decide +kernel
theorem dX9_worst_100 : decode cX9_worst 100 = .ok (.if_icmp .le 11, 3) := by decide +kernel
theorem dX9_worst_103 : decode cX9_worst 103 = .ok (.iload 8, 2) := by decide +kernel
theorem dX9_worst_105 : decode cX9_worst 105 = .ok (.istore 4, 2) := by decide +kernel
theorem dX9_worst_107 : decode cX9_worst 107 = .ok (.iload 7, 2) := by decide +kernel
theorem dX9_worst_109 : decode cX9_worst 109 = .ok (.istore 5, 2) := by decide +kernel
theorem dX9_worst_111 : decode cX9_worst 111 = .ok (.iinc 7 1, 3) := by decide +kernel
theorem dX9_worst_114 : decode cX9_worst 114 = .ok (.goto (-46), 3) := by decide +kernel
theorem dX9_worst_117 : decode cX9_worst 117 = .ok (.iload_n 3, 1) := by decide +kernel
theorem dX9_worst_118 : decode cX9_worst 118 = .ok (.ifCond .ne 8, 3) := by decide +kernel
theorem dX9_worst_121 : decode cX9_worst 121 = .ok (.iload 4, 2) := by decide +kernel
theorem dX9_worst_123 : decode cX9_worst 123 = .ok (.goto 15, 3) := by decide +kernel
theorem dX9_worst_126 : decode cX9_worst 126 = .ok (.iload_n 3, 1) := by decide +kernel
theorem dX9_worst_127 : decode cX9_worst 127 = .ok (.iconst 1, 1) := by decide +kernel
theorem dX9_worst_128 : decode cX9_worst 128 = .ok (.if_icmp .ne 8, 3) := by decide +kernel
theorem dX9_worst_131 : decode cX9_worst 131 = .ok (.iload 5, 2) := by decide +kernel
theorem dX9_worst_133 : decode cX9_worst 133 = .ok (.goto 5, 3) := by decide +kernel
theorem dX9_worst_136 : decode cX9_worst 136 = .ok (.iload 6, 2) := by decide +kernel
theorem dX9_worst_138 : decode cX9_worst 138 = .ok (.ireturn, 1) := by decide +kernel
theorem dX9_far_0 : decode cX9_far 0 = .ok (.iload_n 1, 1) := by decide +kernel
theorem dX9_far_1 : decode cX9_far 1 = .ok (.invokestatic 75, 3) := by decide +kernel
theorem dX9_far_4 : decode cX9_far 4 = .ok (.ifCond .ne 5, 3) := by decide +kernel
theorem dX9_far_7 : decode cX9_far 7 = .ok (.iconst (-1), 1) := by decide +kernel
theorem dX9_far_8 : decode cX9_far 8 = .ok (.ireturn, 1) := by decide +kernel
theorem dX9_far_9 : decode cX9_far 9 = .ok (.aload_n 0, 1) := by decide +kernel
theorem dX9_far_10 : decode cX9_far 10 = .ok (.getfield 50, 3) := by decide +kernel
theorem dX9_far_13 : decode cX9_far 13 = .ok (.aload_n 0, 1) := by decide +kernel
theorem dX9_far_14 : decode cX9_far 14 = .ok (.getfield 10, 3) := by decide +kernel
theorem dX9_far_17 : decode cX9_far 17 = .ok (.aload_n 0, 1) := by decide +kernel
theorem dX9_far_18 : decode cX9_far 18 = .ok (.getfield 10, 3) := by decide +kernel
theorem dX9_far_21 : decode cX9_far 21 = .ok (.getfield 183, 3) := by decide +kernel
theorem dX9_far_24 : decode cX9_far 24 = .ok (.iconst 0, 1) := by decide +kernel
theorem dX9_far_25 : decode cX9_far 25 = .ok (.iconst 0, 1) := by decide +kernel
theorem dX9_far_26 : decode cX9_far 26 = .ok (.invokevirtual 190, 3) := by decide +kernel
theorem dX9_far_29 : decode cX9_far 29 = .ok (.aload_n 0, 1) := by decide +kernel
theorem dX9_far_30 : decode cX9_far 30 = .ok (.getfield 50, 3) := by decide +kernel
theorem dX9_far_33 : decode cX9_far 33 = .ok (.iload_n 1, 1) := by decide +kernel
theorem dX9_far_34 : decode cX9_far 34 = .ok (.invokevirtual 212, 3) := by decide +kernel
theorem dX9_far_37 : decode cX9_far 37 = .ok (.ireturn, 1) := by decide +kernel
theorem dX9_roped_0 : decode cX9_roped 0 = .ok (.iload_n 1, 1) := by decide +kernel
theorem dX9_roped_1 : decode cX9_roped 1 = .ok (.invokestatic 75, 3) := by decide +kernel
theorem dX9_roped_4 : decode cX9_roped 4 = .ok (.ifCond .ne 5, 3) := by decide +kernel
theorem dX9_roped_7 : decode cX9_roped 7 = .ok (.iconst (-1), 1) := by decide +kernel
theorem dX9_roped_8 : decode cX9_roped 8 = .ok (.ireturn, 1) := by decide +kernel
theorem dX9_roped_9 : decode cX9_roped 9 = .ok (.aload_n 0, 1) := by decide +kernel
theorem dX9_roped_10 : decode cX9_roped 10 = .ok (.getfield 50, 3) := by decide +kernel
theorem dX9_roped_13 : decode cX9_roped 13 = .ok (.aload_n 0, 1) := by decide +kernel
theorem dX9_roped_14 : decode cX9_roped 14 = .ok (.getfield 10, 3) := by decide +kernel
theorem dX9_roped_17 : decode cX9_roped 17 = .ok (.aload_n 0, 1) := by decide +kernel
theorem dX9_roped_18 : decode cX9_roped 18 = .ok (.getfield 10, 3) := by decide +kernel
theorem dX9_roped_21 : decode cX9_roped 21 = .ok (.getfield 183, 3) := by decide +kernel
theorem dX9_roped_24 : decode cX9_roped 24 = .ok (.iconst 1, 1) := by decide +kernel
theorem dX9_roped_25 : decode cX9_roped 25 = .ok (.iconst 0, 1) := by decide +kernel
theorem dX9_roped_26 : decode cX9_roped 26 = .ok (.invokevirtual 190, 3) := by decide +kernel
theorem dX9_roped_29 : decode cX9_roped 29 = .ok (.aload_n 0, 1) := by decide +kernel
theorem dX9_roped_30 : decode cX9_roped 30 = .ok (.getfield 50, 3) := by decide +kernel
theorem dX9_roped_33 : decode cX9_roped 33 = .ok (.iload_n 1, 1) := by decide +kernel
theorem dX9_roped_34 : decode cX9_roped 34 = .ok (.invokevirtual 212, 3) := by decide +kernel
theorem dX9_roped_37 : decode cX9_roped 37 = .ok (.ireturn, 1) := by decide +kernel
theorem dX9_two_0 : decode cX9_two 0 = .ok (.iload_n 1, 1) := by decide +kernel
theorem dX9_two_1 : decode cX9_two 1 = .ok (.iload_n 2, 1) := by decide +kernel
theorem dX9_two_2 : decode cX9_two 2 = .ok (.iload 5, 2) := by decide +kernel
theorem dX9_two_4 : decode cX9_two 4 = .ok (.invokestatic 186, 3) := by decide +kernel
theorem dX9_two_7 : decode cX9_two 7 = .ok (.ifCond .eq 14, 3) := by decide +kernel
theorem dX9_two_10 : decode cX9_two 10 = .ok (.iload_n 3, 1) := by decide +kernel
theorem dX9_two_11 : decode cX9_two 11 = .ok (.iload 4, 2) := by decide +kernel
theorem dX9_two_13 : decode cX9_two 13 = .ok (.iload 5, 2) := by decide +kernel
theorem dX9_two_15 : decode cX9_two 15 = .ok (.invokestatic 186, 3) := by decide +kernel
theorem dX9_two_18 : decode cX9_two 18 = .ok (.ifCond .ne 5, 3) := by decide +kernel
theorem dX9_two_21 : decode cX9_two 21 = .ok (.iconst (-1), 1) := by decide +kernel
theorem dX9_two_22 : decode cX9_two 22 = .ok (.ireturn, 1) := by decide +kernel
theorem dX9_two_23 : decode cX9_two 23 = .ok (.iload_n 2, 1) := by decide +kernel
theorem dX9_two_24 : decode cX9_two 24 = .ok (.aload_n 0, 1) := by decide +kernel
theorem dX9_two_25 : decode cX9_two 25 = .ok (.getfield 10, 3) := by decide +kernel
theorem dX9_two_28 : decode cX9_two 28 = .ok (.getfield 129, 3) := by decide +kernel
theorem dX9_two_31 : decode cX9_two 31 = .ok (.if_icmp .eq 15, 3) := by decide +kernel
theorem dX9_two_34 : decode cX9_two 34 = .ok (.iload 4, 2) := by decide +kernel
theorem dX9_two_36 : decode cX9_two 36 = .ok (.aload_n 0, 1) := by decide +kernel
theorem dX9_two_37 : decode cX9_two 37 = .ok (.getfield 10, 3) := by decide +kernel
theorem dX9_two_40 : decode cX9_two 40 = .ok (.getfield 129, 3) := by decide +kernel
theorem dX9_two_43 : decode cX9_two 43 = .ok (.if_icmp .ne 5, 3) := by decide +kernel
theorem dX9_two_46 : decode cX9_two 46 = .ok (.iconst 0, 1) := by decide +kernel
theorem dX9_two_47 : decode cX9_two 47 = .ok (.ireturn, 1) := by decide +kernel
theorem dX9_two_48 : decode cX9_two 48 = .ok (.aload_n 0, 1) := by decide +kernel
theorem dX9_two_49 : decode cX9_two 49 = .ok (.getfield 40, 3) := by decide +kernel
theorem dX9_two_52 : decode cX9_two 52 = .ok (.iload_n 1, 1) := by decide +kernel
theorem dX9_two_53 : decode cX9_two 53 = .ok (.iload_n 2, 1) := by decide +kernel
theorem dX9_two_54 : decode cX9_two 54 = .ok (.iload 5, 2) := by decide +kernel
theorem dX9_two_56 : decode cX9_two 56 = .ok (.invokevirtual 198, 3) := by decide +kernel
theorem dX9_two_59 : decode cX9_two 59 = .ok (.aload_n 0, 1) := by decide +kernel
theorem dX9_two_60 : decode cX9_two 60 = .ok (.getfield 44, 3) := by decide +kernel
theorem dX9_two_63 : decode cX9_two 63 = .ok (.iload_n 3, 1) := by decide +kernel
theorem dX9_two_64 : decode cX9_two 64 = .ok (.iload 4, 2) := by decide +kernel
theorem dX9_two_66 : decode cX9_two 66 = .ok (.iload 5, 2) := by decide +kernel
theorem dX9_two_68 : decode cX9_two 68 = .ok (.invokevirtual 198, 3) := by decide +kernel
theorem dX9_two_71 : decode cX9_two 71 = .ok (.iconst 1, 1) := by decide +kernel
theorem dX9_two_72 : decode cX9_two 72 = .ok (.istore 6, 2) := by decide +kernel
theorem dX9_two_74 : decode cX9_two 74 = .ok (.iload 6, 2) := by decide +kernel
theorem dX9_two_76 : decode cX9_two 76 = .ok (.sipush 1998, 3) := by decide +kernel
theorem dX9_two_79 : decode cX9_two 79 = .ok (.if_icmp .gt 57, 3) := by decide +kernel
theorem dX9_two_82 : decode cX9_two 82 = .ok (.iload 6, 2) := by decide +kernel
theorem dX9_two_84 : decode cX9_two 84 = .ok (.iconst 2, 1) := by decide +kernel
theorem dX9_two_85 : decode cX9_two 85 = .ok (.irem, 1) := by decide +kernel
theorem dX9_two_86 : decode cX9_two 86 = .ok (.iconst 1, 1) := by decide +kernel
theorem dX9_two_87 : decode cX9_two 87 = .ok (.if_icmp .ne 10, 3) := by decide +kernel
theorem dX9_two_90 : decode cX9_two 90 = .ok (.aload_n 0, 1) := by decide +kernel
theorem dX9_two_91 : decode cX9_two 91 = .ok (.getfield 40, 3) := by decide +kernel
theorem dX9_two_94 : decode cX9_two 94 = .ok (.goto 7, 3) := by decide +kernel
theorem dX9_two_97 : decode cX9_two 97 = .ok (.aload_n 0, 1) := by decide +kernel
theorem dX9_two_98 : decode cX9_two 98 = .ok (.getfield 44, 3) := by decide +kernel
theorem dX9_two_101 : decode cX9_two 101 = .ok (.astore 7, 2) := by decide +kernel
theorem dX9_two_103 : decode cX9_two 103 = .ok (.aload 7, 2) := by decide +kernel
theorem dX9_two_105 : decode cX9_two 105 = .ok (.aload_n 0, 1) := by decide +kernel
theorem dX9_two_106 : decode cX9_two 106 = .ok (.getfield 10, 3) := by decide +kernel
theorem dX9_two_109 : decode cX9_two 109 = .ok (.invokevirtual 205, 3) := by decide +kernel
theorem dX9_two_112 : decode cX9_two 112 = .ok (.aload 7, 2) := by decide +kernel
theorem dX9_two_114 : decode cX9_two 114 = .ok (.getfield 202, 3) := by decide +kernel
theorem dX9_two_117 : decode cX9_two 117 = .ok (.aload_n 0, 1) := by decide +kernel
theorem dX9_two_118 : decode cX9_two 118 = .ok (.getfield 10, 3) := by decide +kernel
theorem dX9_two_121 : decode cX9_two 121 = .ok (.getfield 129, 3) := by decide +kernel
theorem dX9_two_124 : decode cX9_two 124 = .ok (.if_icmp .ne 6, 3) := by decide +kernel
theorem dX9_two_127 : decode cX9_two 127 = .ok (.iload 6, 2) := by decide +kernel
theorem dX9_two_129 : decode cX9_two 129 = .ok (.ireturn, 1) := by decide +kernel
theorem dX9_two_130 : decode cX9_two 130 = .ok (.iinc 6 1, 3) := by decide +kernel
theorem dX9_two_133 : decode cX9_two 133 = .ok (.goto (-59), 3) := by decide +kernel
theorem dX9_two_136 : decode cX9_two 136 = .ok (.bipush (-4), 2) := by decide +kernel
theorem dX9_two_138 : decode cX9_two 138 = .ok (.ireturn, 1) := by decide +kernel
theorem dX9_parts_0 : decode cX9_parts 0 = .ok (.aload_n 0, 1) := by decide +kernel
theorem dX9_parts_1 : decode cX9_parts 1 = .ok (.getfield 50, 3) := by decide +kernel
theorem dX9_parts_4 : decode cX9_parts 4 = .ok (.aload_n 0, 1) := by decide +kernel
theorem dX9_parts_5 : decode cX9_parts 5 = .ok (.getfield 10, 3) := by decide +kernel
theorem dX9_parts_8 : decode cX9_parts 8 = .ok (.invokevirtual 215, 3) := by decide +kernel
theorem dX9_parts_11 : decode cX9_parts 11 = .ok (.ireturn, 1) := by decide +kernel
theorem dX9_shutting_0 : decode cX9_shutting 0 = .ok (.iload_n 1, 1) := by decide +kernel
theorem dX9_shutting_1 : decode cX9_shutting 1 = .ok (.ifCond .lt 8, 3) := by decide +kernel
theorem dX9_shutting_4 : decode cX9_shutting 4 = .ok (.iload_n 1, 1) := by decide +kernel
theorem dX9_shutting_5 : decode cX9_shutting 5 = .ok (.iconst 2, 1) := by decide +kernel
theorem dX9_shutting_6 : decode cX9_shutting 6 = .ok (.if_icmp .le 5, 3) := by decide +kernel
theorem dX9_shutting_9 : decode cX9_shutting 9 = .ok (.iconst (-1), 1) := by decide +kernel
theorem dX9_shutting_10 : decode cX9_shutting 10 = .ok (.ireturn, 1) := by decide +kernel
theorem dX9_shutting_11 : decode cX9_shutting 11 = .ok (.aload_n 0, 1) := by decide +kernel
theorem dX9_shutting_12 : decode cX9_shutting 12 = .ok (.getfield 57, 3) := by decide +kernel
theorem dX9_shutting_15 : decode cX9_shutting 15 = .ok (.aload_n 0, 1) := by decide +kernel
theorem dX9_shutting_16 : decode cX9_shutting 16 = .ok (.getfield 10, 3) := by decide +kernel
theorem dX9_shutting_19 : decode cX9_shutting 19 = .ok (.aload_n 0, 1) := by decide +kernel
theorem dX9_shutting_20 : decode cX9_shutting 20 = .ok (.getfield 50, 3) := by decide +kernel
theorem dX9_shutting_23 : decode cX9_shutting 23 = .ok (.invokevirtual 219, 3) := by decide +kernel
theorem dX9_shutting_26 : decode cX9_shutting 26 = .ok (.ifCond .ne 6, 3) := by decide +kernel
theorem dX9_shutting_29 : decode cX9_shutting 29 = .ok (.bipush (-4), 2) := by decide +kernel
theorem dX9_shutting_31 : decode cX9_shutting 31 = .ok (.ireturn, 1) := by decide +kernel
theorem dX9_shutting_32 : decode cX9_shutting 32 = .ok (.iload_n 1, 1) := by decide +kernel
theorem dX9_shutting_33 : decode cX9_shutting 33 = .ok (.ifCond .ne 13, 3) := by decide +kernel
theorem dX9_shutting_36 : decode cX9_shutting 36 = .ok (.aload_n 0, 1) := by decide +kernel
theorem dX9_shutting_37 : decode cX9_shutting 37 = .ok (.getfield 57, 3) := by decide +kernel
theorem dX9_shutting_40 : decode cX9_shutting 40 = .ok (.getfield 223, 3) := by decide +kernel
theorem dX9_shutting_43 : decode cX9_shutting 43 = .ok (.goto 25, 3) := by decide +kernel
theorem dX9_shutting_46 : decode cX9_shutting 46 = .ok (.iload_n 1, 1) := by decide +kernel
theorem dX9_shutting_47 : decode cX9_shutting 47 = .ok (.iconst 1, 1) := by decide +kernel
theorem dX9_shutting_48 : decode cX9_shutting 48 = .ok (.if_icmp .ne 13, 3) := by decide +kernel
theorem dX9_shutting_51 : decode cX9_shutting 51 = .ok (.aload_n 0, 1) := by decide +kernel
theorem dX9_shutting_52 : decode cX9_shutting 52 = .ok (.getfield 57, 3) := by decide +kernel
theorem dX9_shutting_55 : decode cX9_shutting 55 = .ok (.getfield 224, 3) := by decide +kernel
theorem dX9_shutting_58 : decode cX9_shutting 58 = .ok (.goto 10, 3) := by decide +kernel
theorem dX9_shutting_61 : decode cX9_shutting 61 = .ok (.aload_n 0, 1) := by decide +kernel
theorem dX9_shutting_62 : decode cX9_shutting 62 = .ok (.getfield 57, 3) := by decide +kernel
theorem dX9_shutting_65 : decode cX9_shutting 65 = .ok (.getfield 227, 3) := by decide +kernel
theorem dX9_shutting_68 : decode cX9_shutting 68 = .ok (.ireturn, 1) := by decide +kernel
theorem dX9_days_0 : decode cX9_days 0 = .ok (.iload_n 1, 1) := by decide +kernel
theorem dX9_days_1 : decode cX9_days 1 = .ok (.iconst 1, 1) := by decide +kernel
theorem dX9_days_2 : decode cX9_days 2 = .ok (.if_icmp .lt 9, 3) := by decide +kernel
theorem dX9_days_5 : decode cX9_days 5 = .ok (.iload_n 1, 1) := by decide +kernel
theorem dX9_days_6 : decode cX9_days 6 = .ok (.bipush 20, 2) := by decide +kernel
theorem dX9_days_8 : decode cX9_days 8 = .ok (.if_icmp .le 5, 3) := by decide +kernel
theorem dX9_days_11 : decode cX9_days 11 = .ok (.iconst (-1), 1) := by decide +kernel
theorem dX9_days_12 : decode cX9_days 12 = .ok (.ireturn, 1) := by decide +kernel
theorem dX9_days_13 : decode cX9_days 13 = .ok (.iconst 0, 1) := by decide +kernel
theorem dX9_days_14 : decode cX9_days 14 = .ok (.istore_n 2, 1) := by decide +kernel
theorem dX9_days_15 : decode cX9_days 15 = .ok (.iload_n 2, 1) := by decide +kernel
theorem dX9_days_16 : decode cX9_days 16 = .ok (.iload_n 1, 1) := by decide +kernel
theorem dX9_days_17 : decode cX9_days 17 = .ok (.if_icmp .ge 63, 3) := by decide +kernel
theorem dX9_days_20 : decode cX9_days 20 = .ok (.aload_n 0, 1) := by decide +kernel
theorem dX9_days_21 : decode cX9_days 21 = .ok (.getfield 57, 3) := by decide +kernel
theorem dX9_days_24 : decode cX9_days 24 = .ok (.aload_n 0, 1) := by decide +kernel
theorem dX9_days_25 : decode cX9_days 25 = .ok (.getfield 10, 3) := by decide +kernel
theorem dX9_days_28 : decode cX9_days 28 = .ok (.aload_n 0, 1) := by decide +kernel
theorem dX9_days_29 : decode cX9_days 29 = .ok (.getfield 50, 3) := by decide +kernel
theorem dX9_days_32 : decode cX9_days 32 = .ok (.invokevirtual 219, 3) := by decide +kernel
theorem dX9_days_35 : decode cX9_days 35 = .ok (.ifCond .eq 45, 3) := by decide +kernel
theorem dX9_days_38 : decode cX9_days 38 = .ok (.aload_n 0, 1) := by decide +kernel
theorem dX9_days_39 : decode cX9_days 39 = .ok (.getfield 10, 3) := by decide +kernel
theorem dX9_days_42 : decode cX9_days 42 = .ok (.dup, 1) := by decide +kernel
theorem dX9_days_43 : decode cX9_days 43 = .ok (.getfield 114, 3) := by decide +kernel
theorem dX9_days_46 : decode cX9_days 46 = .ok (.aload_n 0, 1) := by decide +kernel
theorem dX9_days_47 : decode cX9_days 47 = .ok (.getfield 57, 3) := by decide +kernel
theorem dX9_days_50 : decode cX9_days 50 = .ok (.getfield 223, 3) := by decide +kernel
theorem dX9_days_53 : decode cX9_days 53 = .ok (.aload_n 0, 1) := by decide +kernel
theorem dX9_days_54 : decode cX9_days 54 = .ok (.getfield 57, 3) := by decide +kernel
theorem dX9_days_57 : decode cX9_days 57 = .ok (.getfield 224, 3) := by decide +kernel
theorem dX9_days_60 : decode cX9_days 60 = .ok (.invokestatic 100, 3) := by decide +kernel
theorem dX9_days_63 : decode cX9_days 63 = .ok (.lor, 1) := by decide +kernel
theorem dX9_days_64 : decode cX9_days 64 = .ok (.putfield 114, 3) := by decide +kernel
theorem dX9_days_67 : decode cX9_days 67 = .ok (.aload_n 0, 1) := by decide +kernel
theorem dX9_days_68 : decode cX9_days 68 = .ok (.getfield 10, 3) := by decide +kernel
theorem dX9_days_71 : decode cX9_days 71 = .ok (.invokevirtual 87, 3) := by decide +kernel
theorem dX9_days_74 : decode cX9_days 74 = .ok (.iinc 2 1, 3) := by decide +kernel
theorem dX9_days_77 : decode cX9_days 77 = .ok (.goto (-62), 3) := by decide +kernel
theorem dX9_days_80 : decode cX9_days 80 = .ok (.iload_n 2, 1) := by decide +kernel
theorem dX9_days_81 : decode cX9_days 81 = .ok (.ireturn, 1) := by decide +kernel
theorem dX9_bell_0 : decode cX9_bell 0 = .ok (.iload_n 1, 1) := by decide +kernel
theorem dX9_bell_1 : decode cX9_bell 1 = .ok (.invokestatic 75, 3) := by decide +kernel
theorem dX9_bell_4 : decode cX9_bell 4 = .ok (.ifCond .ne 5, 3) := by decide +kernel
theorem dX9_bell_7 : decode cX9_bell 7 = .ok (.iconst (-1), 1) := by decide +kernel
theorem dX9_bell_8 : decode cX9_bell 8 = .ok (.ireturn, 1) := by decide +kernel
theorem dX9_bell_9 : decode cX9_bell 9 = .ok (.aload_n 0, 1) := by decide +kernel
theorem dX9_bell_10 : decode cX9_bell 10 = .ok (.getfield 50, 3) := by decide +kernel
theorem dX9_bell_13 : decode cX9_bell 13 = .ok (.aload_n 0, 1) := by decide +kernel
theorem dX9_bell_14 : decode cX9_bell 14 = .ok (.getfield 10, 3) := by decide +kernel
theorem dX9_bell_17 : decode cX9_bell 17 = .ok (.iload_n 1, 1) := by decide +kernel
theorem dX9_bell_18 : decode cX9_bell 18 = .ok (.invokevirtual 230, 3) := by decide +kernel
theorem dX9_bell_21 : decode cX9_bell 21 = .ok (.ireturn, 1) := by decide +kernel
theorem dX9_fit_0 : decode cX9_fit 0 = .ok (.iload_n 1, 1) := by decide +kernel
theorem dX9_fit_1 : decode cX9_fit 1 = .ok (.invokestatic 75, 3) := by decide +kernel
theorem dX9_fit_4 : decode cX9_fit 4 = .ok (.ifCond .eq 25, 3) := by decide +kernel
theorem dX9_fit_7 : decode cX9_fit 7 = .ok (.iload_n 2, 1) := by decide +kernel
theorem dX9_fit_8 : decode cX9_fit 8 = .ok (.iconst 2, 1) := by decide +kernel
theorem dX9_fit_9 : decode cX9_fit 9 = .ok (.if_icmp .lt 20, 3) := by decide +kernel
theorem dX9_fit_12 : decode cX9_fit 12 = .ok (.iload_n 2, 1) := by decide +kernel
theorem dX9_fit_13 : decode cX9_fit 13 = .ok (.bipush 9, 2) := by decide +kernel
theorem dX9_fit_15 : decode cX9_fit 15 = .ok (.if_icmp .gt 14, 3) := by decide +kernel
theorem dX9_fit_18 : decode cX9_fit 18 = .ok (.iload_n 3, 1) := by decide +kernel
theorem dX9_fit_19 : decode cX9_fit 19 = .ok (.bipush (-2), 2) := by decide +kernel
theorem dX9_fit_21 : decode cX9_fit 21 = .ok (.if_icmp .lt 8, 3) := by decide +kernel
theorem dX9_fit_24 : decode cX9_fit 24 = .ok (.iload_n 3, 1) := by decide +kernel
theorem dX9_fit_25 : decode cX9_fit 25 = .ok (.iload_n 2, 1) := by decide +kernel
theorem dX9_fit_26 : decode cX9_fit 26 = .ok (.if_icmp .lt 5, 3) := by decide +kernel
theorem dX9_fit_29 : decode cX9_fit 29 = .ok (.iconst (-1), 1) := by decide +kernel
theorem dX9_fit_30 : decode cX9_fit 30 = .ok (.ireturn, 1) := by decide +kernel
theorem dX9_fit_31 : decode cX9_fit 31 = .ok (.aload_n 0, 1) := by decide +kernel
theorem dX9_fit_32 : decode cX9_fit 32 = .ok (.getfield 64, 3) := by decide +kernel
theorem dX9_fit_35 : decode cX9_fit 35 = .ok (.aload_n 0, 1) := by decide +kernel
theorem dX9_fit_36 : decode cX9_fit 36 = .ok (.getfield 10, 3) := by decide +kernel
theorem dX9_fit_39 : decode cX9_fit 39 = .ok (.iload_n 1, 1) := by decide +kernel
theorem dX9_fit_40 : decode cX9_fit 40 = .ok (.iload_n 2, 1) := by decide +kernel
theorem dX9_fit_41 : decode cX9_fit 41 = .ok (.invokevirtual 234, 3) := by decide +kernel
theorem dX9_fit_44 : decode cX9_fit 44 = .ok (.iload_n 3, 1) := by decide +kernel
theorem dX9_fit_45 : decode cX9_fit 45 = .ok (.iconst (-1), 1) := by decide +kernel
theorem dX9_fit_46 : decode cX9_fit 46 = .ok (.if_icmp .ne 11, 3) := by decide +kernel
theorem dX9_fit_49 : decode cX9_fit 49 = .ok (.aload_n 0, 1) := by decide +kernel
theorem dX9_fit_50 : decode cX9_fit 50 = .ok (.getfield 64, 3) := by decide +kernel
theorem dX9_fit_53 : decode cX9_fit 53 = .ok (.getfield 238, 3) := by decide +kernel
theorem dX9_fit_56 : decode cX9_fit 56 = .ok (.ireturn, 1) := by decide +kernel
theorem dX9_fit_57 : decode cX9_fit 57 = .ok (.aload_n 0, 1) := by decide +kernel
theorem dX9_fit_58 : decode cX9_fit 58 = .ok (.getfield 64, 3) := by decide +kernel
theorem dX9_fit_61 : decode cX9_fit 61 = .ok (.getfield 241, 3) := by decide +kernel
theorem dX9_fit_64 : decode cX9_fit 64 = .ok (.ifCond .ge 6, 3) := by decide +kernel
theorem dX9_fit_67 : decode cX9_fit 67 = .ok (.bipush (-4), 2) := by decide +kernel
theorem dX9_fit_69 : decode cX9_fit 69 = .ok (.ireturn, 1) := by decide +kernel
theorem dX9_fit_70 : decode cX9_fit 70 = .ok (.iload_n 3, 1) := by decide +kernel
theorem dX9_fit_71 : decode cX9_fit 71 = .ok (.bipush (-2), 2) := by decide +kernel
theorem dX9_fit_73 : decode cX9_fit 73 = .ok (.if_icmp .ne 13, 3) := by decide +kernel
theorem dX9_fit_76 : decode cX9_fit 76 = .ok (.aload_n 0, 1) := by decide +kernel
theorem dX9_fit_77 : decode cX9_fit 77 = .ok (.getfield 64, 3) := by decide +kernel
theorem dX9_fit_80 : decode cX9_fit 80 = .ok (.getfield 241, 3) := by decide +kernel
theorem dX9_fit_83 : decode cX9_fit 83 = .ok (.goto 14, 3) := by decide +kernel
theorem dX9_fit_86 : decode cX9_fit 86 = .ok (.aload_n 0, 1) := by decide +kernel
theorem dX9_fit_87 : decode cX9_fit 87 = .ok (.getfield 64, 3) := by decide +kernel
theorem dX9_fit_90 : decode cX9_fit 90 = .ok (.getfield 244, 3) := by decide +kernel
theorem dX9_fit_93 : decode cX9_fit 93 = .ok (.iload_n 3, 1) := by decide +kernel
theorem dX9_fit_94 : decode cX9_fit 94 = .ok (.invokevirtual 247, 3) := by decide +kernel
theorem dX9_fit_97 : decode cX9_fit 97 = .ok (.ireturn, 1) := by decide +kernel
theorem dX9_image_0 : decode cX9_image 0 = .ok (.aload_n 0, 1) := by decide +kernel
theorem dX9_image_1 : decode cX9_image 1 = .ok (.getfield 16, 3) := by decide +kernel
theorem dX9_image_4 : decode cX9_image 4 = .ok (.aload_n 0, 1) := by decide +kernel
theorem dX9_image_5 : decode cX9_image 5 = .ok (.getfield 10, 3) := by decide +kernel
theorem dX9_image_8 : decode cX9_image 8 = .ok (.invokevirtual 250, 3) := by decide +kernel
theorem dX9_image_11 : decode cX9_image 11 = .ok (.aload_n 0, 1) := by decide +kernel
theorem dX9_image_12 : decode cX9_image 12 = .ok (.iconst 1, 1) := by decide +kernel
theorem dX9_image_13 : decode cX9_image 13 = .ok (.putfield 19, 3) := by decide +kernel
theorem dX9_image_16 : decode cX9_image 16 = .ok (.iconst 1, 1) := by decide +kernel
theorem dX9_image_17 : decode cX9_image 17 = .ok (.ireturn, 1) := by decide +kernel
theorem dX9_restore_0 : decode cX9_restore 0 = .ok (.aload_n 0, 1) := by decide +kernel
theorem dX9_restore_1 : decode cX9_restore 1 = .ok (.getfield 19, 3) := by decide +kernel
theorem dX9_restore_4 : decode cX9_restore 4 = .ok (.ifCond .ne 6, 3) := by decide +kernel
theorem dX9_restore_7 : decode cX9_restore 7 = .ok (.bipush (-4), 2) := by decide +kernel
theorem dX9_restore_9 : decode cX9_restore 9 = .ok (.ireturn, 1) := by decide +kernel
theorem dX9_restore_10 : decode cX9_restore 10 = .ok (.aload_n 0, 1) := by decide +kernel
theorem dX9_restore_11 : decode cX9_restore 11 = .ok (.getfield 10, 3) := by decide +kernel
theorem dX9_restore_14 : decode cX9_restore 14 = .ok (.aload_n 0, 1) := by decide +kernel
theorem dX9_restore_15 : decode cX9_restore 15 = .ok (.getfield 16, 3) := by decide +kernel
theorem dX9_restore_18 : decode cX9_restore 18 = .ok (.invokevirtual 250, 3) := by decide +kernel
theorem dX9_restore_21 : decode cX9_restore 21 = .ok (.iconst 1, 1) := by decide +kernel
theorem dX9_restore_22 : decode cX9_restore 22 = .ok (.ireturn, 1) := by decide +kernel
theorem dX9_go_0 : decode cX9_go 0 = .ok (.iload_n 1, 1) := by decide +kernel
theorem dX9_go_1 : decode cX9_go 1 = .ok (.invokestatic 252, 3) := by decide +kernel
theorem dX9_go_4 : decode cX9_go 4 = .ok (.ifCond .eq 23, 3) := by decide +kernel
theorem dX9_go_7 : decode cX9_go 7 = .ok (.iload_n 2, 1) := by decide +kernel
theorem dX9_go_8 : decode cX9_go 8 = .ok (.invokestatic 255, 3) := by decide +kernel
theorem dX9_go_11 : decode cX9_go 11 = .ok (.ifCond .eq 16, 3) := by decide +kernel
theorem dX9_go_14 : decode cX9_go 14 = .ok (.iload 4, 2) := by decide +kernel
theorem dX9_go_16 : decode cX9_go 16 = .ok (.iconst 1, 1) := by decide +kernel
theorem dX9_go_17 : decode cX9_go 17 = .ok (.if_icmp .lt 10, 3) := by decide +kernel
theorem dX9_go_20 : decode cX9_go 20 = .ok (.iload 4, 2) := by decide +kernel
theorem dX9_go_22 : decode cX9_go 22 = .ok (.bipush 36, 2) := by decide +kernel
theorem dX9_go_24 : decode cX9_go 24 = .ok (.if_icmp .le 5, 3) := by decide +kernel
theorem dX9_go_27 : decode cX9_go 27 = .ok (.iconst (-1), 1) := by decide +kernel
theorem dX9_go_28 : decode cX9_go 28 = .ok (.ireturn, 1) := by decide +kernel
theorem dX9_go_29 : decode cX9_go 29 = .ok (.aload_n 0, 1) := by decide +kernel
theorem dX9_go_30 : decode cX9_go 30 = .ok (.getfield 70, 3) := by decide +kernel
theorem dX9_go_33 : decode cX9_go 33 = .ok (.iload_n 1, 1) := by decide +kernel
theorem dX9_go_34 : decode cX9_go 34 = .ok (.aaload, 1) := by decide +kernel
theorem dX9_go_35 : decode cX9_go 35 = .ok (.astore 5, 2) := by decide +kernel
theorem dX9_go_37 : decode cX9_go 37 = .ok (.aload 5, 2) := by decide +kernel
theorem dX9_go_39 : decode cX9_go 39 = .ok (.iload_n 2, 1) := by decide +kernel
theorem dX9_go_40 : decode cX9_go 40 = .ok (.iload_n 3, 1) := by decide +kernel
theorem dX9_go_41 : decode cX9_go 41 = .ok (.iload 4, 2) := by decide +kernel
theorem dX9_go_43 : decode cX9_go 43 = .ok (.invokevirtual 258, 3) := by decide +kernel
theorem dX9_go_46 : decode cX9_go 46 = .ok (.istore 6, 2) := by decide +kernel
theorem dX9_go_48 : decode cX9_go 48 = .ok (.iload 6, 2) := by decide +kernel
theorem dX9_go_50 : decode cX9_go 50 = .ok (.ifCond .eq 6, 3) := by decide +kernel
theorem dX9_go_53 : decode cX9_go 53 = .ok (.iload 6, 2) := by decide +kernel
theorem dX9_go_55 : decode cX9_go 55 = .ok (.ireturn, 1) := by decide +kernel
theorem dX9_go_56 : decode cX9_go 56 = .ok (.aload_n 0, 1) := by decide +kernel
theorem dX9_go_57 : decode cX9_go 57 = .ok (.getfield 33, 3) := by decide +kernel
theorem dX9_go_60 : decode cX9_go 60 = .ok (.invokevirtual 261, 3) := by decide +kernel
theorem dX9_go_63 : decode cX9_go 63 = .ok (.iconst 0, 1) := by decide +kernel
theorem dX9_go_64 : decode cX9_go 64 = .ok (.istore 7, 2) := by decide +kernel
theorem dX9_go_66 : decode cX9_go 66 = .ok (.iload 7, 2) := by decide +kernel
theorem dX9_go_68 : decode cX9_go 68 = .ok (.iload 4, 2) := by decide +kernel
theorem dX9_go_70 : decode cX9_go 70 = .ok (.if_icmp .ge 32, 3) := by decide +kernel
theorem dX9_go_73 : decode cX9_go 73 = .ok (.aload_n 0, 1) := by decide +kernel
theorem dX9_go_74 : decode cX9_go 74 = .ok (.getfield 33, 3) := by decide +kernel
theorem dX9_go_77 : decode cX9_go 77 = .ok (.aload 5, 2) := by decide +kernel
theorem dX9_go_79 : decode cX9_go 79 = .ok (.getfield 264, 3) := by decide +kernel
theorem dX9_go_82 : decode cX9_go 82 = .ok (.iload_n 3, 1) := by decide +kernel
theorem dX9_go_83 : decode cX9_go 83 = .ok (.iload 7, 2) := by decide +kernel
theorem dX9_go_85 : decode cX9_go 85 = .ok (.iadd, 1) := by decide +kernel
theorem dX9_go_86 : decode cX9_go 86 = .ok (.iaload, 1) := by decide +kernel
theorem dX9_go_87 : decode cX9_go 87 = .ok (.invokevirtual 84, 3) := by decide +kernel
theorem dX9_go_90 : decode cX9_go 90 = .ok (.ifCond .ne 6, 3) := by decide +kernel
theorem dX9_go_93 : decode cX9_go 93 = .ok (.bipush (-2), 2) := by decide +kernel
theorem dX9_go_95 : decode cX9_go 95 = .ok (.ireturn, 1) := by decide +kernel
theorem dX9_go_96 : decode cX9_go 96 = .ok (.iinc 7 1, 3) := by decide +kernel
theorem dX9_go_99 : decode cX9_go 99 = .ok (.goto (-33), 3) := by decide +kernel
theorem dX9_go_102 : decode cX9_go 102 = .ok (.aload_n 0, 1) := by decide +kernel
theorem dX9_go_103 : decode cX9_go 103 = .ok (.getfield 10, 3) := by decide +kernel
theorem dX9_go_106 : decode cX9_go 106 = .ok (.getfield 81, 3) := by decide +kernel
theorem dX9_go_109 : decode cX9_go 109 = .ok (.aload_n 0, 1) := by decide +kernel
theorem dX9_go_110 : decode cX9_go 110 = .ok (.getfield 33, 3) := by decide +kernel
theorem dX9_go_113 : decode cX9_go 113 = .ok (.invokevirtual 156, 3) := by decide +kernel
theorem dX9_go_116 : decode cX9_go 116 = .ok (.aload_n 0, 1) := by decide +kernel
theorem dX9_go_117 : decode cX9_go 117 = .ok (.getfield 10, 3) := by decide +kernel
theorem dX9_go_120 : decode cX9_go 120 = .ok (.invokevirtual 87, 3) := by decide +kernel
theorem dX9_go_123 : decode cX9_go 123 = .ok (.iload 4, 2) := by decide +kernel
theorem dX9_go_125 : decode cX9_go 125 = .ok (.ireturn, 1) := by decide +kernel
theorem dX9_sheet_0 : decode cX9_sheet 0 = .ok (.iload_n 1, 1) := by decide +kernel
theorem dX9_sheet_1 : decode cX9_sheet 1 = .ok (.invokestatic 252, 3) := by decide +kernel
theorem dX9_sheet_4 : decode cX9_sheet 4 = .ok (.ifCond .eq 16, 3) := by decide +kernel
theorem dX9_sheet_7 : decode cX9_sheet 7 = .ok (.iload_n 2, 1) := by decide +kernel
theorem dX9_sheet_8 : decode cX9_sheet 8 = .ok (.invokestatic 255, 3) := by decide +kernel
theorem dX9_sheet_11 : decode cX9_sheet 11 = .ok (.ifCond .eq 9, 3) := by decide +kernel
theorem dX9_sheet_14 : decode cX9_sheet 14 = .ok (.iload_n 3, 1) := by decide +kernel
theorem dX9_sheet_15 : decode cX9_sheet 15 = .ok (.bipush 36, 2) := by decide +kernel
theorem dX9_sheet_17 : decode cX9_sheet 17 = .ok (.if_icmp .le 5, 3) := by decide +kernel
theorem dX9_sheet_20 : decode cX9_sheet 20 = .ok (.iconst (-1), 1) := by decide +kernel
theorem dX9_sheet_21 : decode cX9_sheet 21 = .ok (.ireturn, 1) := by decide +kernel
theorem dX9_sheet_22 : decode cX9_sheet 22 = .ok (.iload_n 3, 1) := by decide +kernel
theorem dX9_sheet_23 : decode cX9_sheet 23 = .ok (.ifCond .ge 6, 3) := by decide +kernel
theorem dX9_sheet_26 : decode cX9_sheet 26 = .ok (.bipush (-14), 2) := by decide +kernel
theorem dX9_sheet_28 : decode cX9_sheet 28 = .ok (.ireturn, 1) := by decide +kernel
theorem dX9_sheet_29 : decode cX9_sheet 29 = .ok (.aload_n 0, 1) := by decide +kernel
theorem dX9_sheet_30 : decode cX9_sheet 30 = .ok (.getfield 70, 3) := by decide +kernel
theorem dX9_sheet_33 : decode cX9_sheet 33 = .ok (.iload_n 1, 1) := by decide +kernel
theorem dX9_sheet_34 : decode cX9_sheet 34 = .ok (.aaload, 1) := by decide +kernel
theorem dX9_sheet_35 : decode cX9_sheet 35 = .ok (.iload_n 2, 1) := by decide +kernel
theorem dX9_sheet_36 : decode cX9_sheet 36 = .ok (.iload_n 3, 1) := by decide +kernel
theorem dX9_sheet_37 : decode cX9_sheet 37 = .ok (.invokevirtual 268, 3) := by decide +kernel
theorem dX9_sheet_40 : decode cX9_sheet 40 = .ok (.iload_n 3, 1) := by decide +kernel
theorem dX9_sheet_41 : decode cX9_sheet 41 = .ok (.ireturn, 1) := by decide +kernel
theorem dX9_drop_0 : decode cX9_drop 0 = .ok (.iload_n 1, 1) := by decide +kernel
theorem dX9_drop_1 : decode cX9_drop 1 = .ok (.invokestatic 252, 3) := by decide +kernel
theorem dX9_drop_4 : decode cX9_drop 4 = .ok (.ifCond .ne 5, 3) := by decide +kernel
theorem dX9_drop_7 : decode cX9_drop 7 = .ok (.iconst (-1), 1) := by decide +kernel
theorem dX9_drop_8 : decode cX9_drop 8 = .ok (.ireturn, 1) := by decide +kernel
theorem dX9_drop_9 : decode cX9_drop 9 = .ok (.aload_n 0, 1) := by decide +kernel
theorem dX9_drop_10 : decode cX9_drop 10 = .ok (.getfield 70, 3) := by decide +kernel
theorem dX9_drop_13 : decode cX9_drop 13 = .ok (.iload_n 1, 1) := by decide +kernel
theorem dX9_drop_14 : decode cX9_drop 14 = .ok (.aaload, 1) := by decide +kernel
theorem dX9_drop_15 : decode cX9_drop 15 = .ok (.astore_n 2, 1) := by decide +kernel
theorem dX9_drop_16 : decode cX9_drop 16 = .ok (.aload_n 2, 1) := by decide +kernel
theorem dX9_drop_17 : decode cX9_drop 17 = .ok (.invokevirtual 272, 3) := by decide +kernel
theorem dX9_drop_20 : decode cX9_drop 20 = .ok (.ifCond .ne 6, 3) := by decide +kernel
theorem dX9_drop_23 : decode cX9_drop 23 = .ok (.bipush (-11), 2) := by decide +kernel
theorem dX9_drop_25 : decode cX9_drop 25 = .ok (.ireturn, 1) := by decide +kernel
theorem dX9_drop_26 : decode cX9_drop 26 = .ok (.aload_n 2, 1) := by decide +kernel
theorem dX9_drop_27 : decode cX9_drop 27 = .ok (.getfield 276, 3) := by decide +kernel
theorem dX9_drop_30 : decode cX9_drop 30 = .ok (.istore_n 3, 1) := by decide +kernel
theorem dX9_drop_31 : decode cX9_drop 31 = .ok (.aload_n 2, 1) := by decide +kernel
theorem dX9_drop_32 : decode cX9_drop 32 = .ok (.invokevirtual 277, 3) := by decide +kernel
theorem dX9_drop_35 : decode cX9_drop 35 = .ok (.iload_n 3, 1) := by decide +kernel
theorem dX9_drop_36 : decode cX9_drop 36 = .ok (.ireturn, 1) := by decide +kernel
theorem dX9_item_0 : decode cX9_item 0 = .ok (.iload_n 1, 1) := by decide +kernel
theorem dX9_item_1 : decode cX9_item 1 = .ok (.invokestatic 252, 3) := by decide +kernel
theorem dX9_item_4 : decode cX9_item 4 = .ok (.ifCond .eq 10, 3) := by decide +kernel
theorem dX9_item_7 : decode cX9_item 7 = .ok (.iload_n 2, 1) := by decide +kernel
theorem dX9_item_8 : decode cX9_item 8 = .ok (.invokestatic 255, 3) := by decide +kernel
theorem dX9_item_11 : decode cX9_item 11 = .ok (.ifCond .ne 5, 3) := by decide +kernel
theorem dX9_item_14 : decode cX9_item 14 = .ok (.iconst (-1), 1) := by decide +kernel
theorem dX9_item_15 : decode cX9_item 15 = .ok (.ireturn, 1) := by decide +kernel
theorem dX9_item_16 : decode cX9_item 16 = .ok (.aload_n 0, 1) := by decide +kernel
theorem dX9_item_17 : decode cX9_item 17 = .ok (.getfield 70, 3) := by decide +kernel
theorem dX9_item_20 : decode cX9_item 20 = .ok (.iload_n 1, 1) := by decide +kernel
theorem dX9_item_21 : decode cX9_item 21 = .ok (.aaload, 1) := by decide +kernel
theorem dX9_item_22 : decode cX9_item 22 = .ok (.astore 5, 2) := by decide +kernel
theorem dX9_item_24 : decode cX9_item 24 = .ok (.aload 5, 2) := by decide +kernel
theorem dX9_item_26 : decode cX9_item 26 = .ok (.iload_n 2, 1) := by decide +kernel
theorem dX9_item_27 : decode cX9_item 27 = .ok (.iload_n 3, 1) := by decide +kernel
theorem dX9_item_28 : decode cX9_item 28 = .ok (.iconst 1, 1) := by decide +kernel
theorem dX9_item_29 : decode cX9_item 29 = .ok (.invokevirtual 258, 3) := by decide +kernel
theorem dX9_item_32 : decode cX9_item 32 = .ok (.istore 6, 2) := by decide +kernel
theorem dX9_item_34 : decode cX9_item 34 = .ok (.iload 6, 2) := by decide +kernel
theorem dX9_item_36 : decode cX9_item 36 = .ok (.ifCond .eq 6, 3) := by decide +kernel
theorem dX9_item_39 : decode cX9_item 39 = .ok (.iload 6, 2) := by decide +kernel
theorem dX9_item_41 : decode cX9_item 41 = .ok (.ireturn, 1) := by decide +kernel
theorem dX9_item_42 : decode cX9_item 42 = .ok (.aload 5, 2) := by decide +kernel
theorem dX9_item_44 : decode cX9_item 44 = .ok (.iload_n 3, 1) := by decide +kernel
theorem dX9_item_45 : decode cX9_item 45 = .ok (.iload 4, 2) := by decide +kernel
theorem dX9_item_47 : decode cX9_item 47 = .ok (.invokevirtual 280, 3) := by decide +kernel
theorem dX9_item_50 : decode cX9_item 50 = .ok (.iconst 1, 1) := by decide +kernel
theorem dX9_item_51 : decode cX9_item 51 = .ok (.ireturn, 1) := by decide +kernel
theorem dX9_film_0 : decode cX9_film 0 = .ok (.iload_n 1, 1) := by decide +kernel
theorem dX9_film_1 : decode cX9_film 1 = .ok (.invokestatic 252, 3) := by decide +kernel
theorem dX9_film_4 : decode cX9_film 4 = .ok (.ifCond .eq 10, 3) := by decide +kernel
theorem dX9_film_7 : decode cX9_film 7 = .ok (.iload_n 2, 1) := by decide +kernel
theorem dX9_film_8 : decode cX9_film 8 = .ok (.invokestatic 255, 3) := by decide +kernel
theorem dX9_film_11 : decode cX9_film 11 = .ok (.ifCond .ne 5, 3) := by decide +kernel
theorem dX9_film_14 : decode cX9_film 14 = .ok (.iconst (-1), 1) := by decide +kernel
theorem dX9_film_15 : decode cX9_film 15 = .ok (.ireturn, 1) := by decide +kernel
theorem dX9_film_16 : decode cX9_film 16 = .ok (.aload_n 0, 1) := by decide +kernel
theorem dX9_film_17 : decode cX9_film 17 = .ok (.getfield 70, 3) := by decide +kernel
theorem dX9_film_20 : decode cX9_film 20 = .ok (.iload_n 1, 1) := by decide +kernel
theorem dX9_film_21 : decode cX9_film 21 = .ok (.aaload, 1) := by decide +kernel
theorem dX9_film_22 : decode cX9_film 22 = .ok (.astore 4, 2) := by decide +kernel
theorem dX9_film_24 : decode cX9_film 24 = .ok (.aload 4, 2) := by decide +kernel
theorem dX9_film_26 : decode cX9_film 26 = .ok (.iload_n 2, 1) := by decide +kernel
theorem dX9_film_27 : decode cX9_film 27 = .ok (.iload_n 3, 1) := by decide +kernel
theorem dX9_film_28 : decode cX9_film 28 = .ok (.bipush 36, 2) := by decide +kernel
theorem dX9_film_30 : decode cX9_film 30 = .ok (.invokevirtual 258, 3) := by decide +kernel
theorem dX9_film_33 : decode cX9_film 33 = .ok (.istore 5, 2) := by decide +kernel
theorem dX9_film_35 : decode cX9_film 35 = .ok (.iload 5, 2) := by decide +kernel
theorem dX9_film_37 : decode cX9_film 37 = .ok (.ifCond .eq 6, 3) := by decide +kernel
theorem dX9_film_40 : decode cX9_film 40 = .ok (.iload 5, 2) := by decide +kernel
theorem dX9_film_42 : decode cX9_film 42 = .ok (.ireturn, 1) := by decide +kernel
theorem dX9_film_43 : decode cX9_film 43 = .ok (.aload_n 0, 1) := by decide +kernel
theorem dX9_film_44 : decode cX9_film 44 = .ok (.getfield 50, 3) := by decide +kernel
theorem dX9_film_47 : decode cX9_film 47 = .ok (.aload_n 0, 1) := by decide +kernel
theorem dX9_film_48 : decode cX9_film 48 = .ok (.getfield 10, 3) := by decide +kernel
theorem dX9_film_51 : decode cX9_film 51 = .ok (.aload_n 0, 1) := by decide +kernel
theorem dX9_film_52 : decode cX9_film 52 = .ok (.getfield 10, 3) := by decide +kernel
theorem dX9_film_55 : decode cX9_film 55 = .ok (.getfield 183, 3) := by decide +kernel
theorem dX9_film_58 : decode cX9_film 58 = .ok (.iconst 0, 1) := by decide +kernel
theorem dX9_film_59 : decode cX9_film 59 = .ok (.iconst 0, 1) := by decide +kernel
theorem dX9_film_60 : decode cX9_film 60 = .ok (.invokevirtual 190, 3) := by decide +kernel
theorem dX9_film_63 : decode cX9_film 63 = .ok (.iconst 0, 1) := by decide +kernel
theorem dX9_film_64 : decode cX9_film 64 = .ok (.istore 6, 2) := by decide +kernel
theorem dX9_film_66 : decode cX9_film 66 = .ok (.iload 6, 2) := by decide +kernel
theorem dX9_film_68 : decode cX9_film 68 = .ok (.bipush 36, 2) := by decide +kernel
theorem dX9_film_70 : decode cX9_film 70 = .ok (.if_icmp .ge 27, 3) := by decide +kernel
theorem dX9_film_73 : decode cX9_film 73 = .ok (.aload 4, 2) := by decide +kernel
theorem dX9_film_75 : decode cX9_film 75 = .ok (.iload_n 3, 1) := by decide +kernel
theorem dX9_film_76 : decode cX9_film 76 = .ok (.iload 6, 2) := by decide +kernel
theorem dX9_film_78 : decode cX9_film 78 = .ok (.iadd, 1) := by decide +kernel
theorem dX9_film_79 : decode cX9_film 79 = .ok (.aload_n 0, 1) := by decide +kernel
theorem dX9_film_80 : decode cX9_film 80 = .ok (.getfield 50, 3) := by decide +kernel
theorem dX9_film_83 : decode cX9_film 83 = .ok (.iload 6, 2) := by decide +kernel
theorem dX9_film_85 : decode cX9_film 85 = .ok (.invokevirtual 212, 3) := by decide +kernel
theorem dX9_film_88 : decode cX9_film 88 = .ok (.invokevirtual 280, 3) := by decide +kernel
theorem dX9_film_91 : decode cX9_film 91 = .ok (.iinc 6 1, 3) := by decide +kernel
theorem dX9_film_94 : decode cX9_film 94 = .ok (.goto (-28), 3) := by decide +kernel
theorem dX9_film_97 : decode cX9_film 97 = .ok (.bipush 36, 2) := by decide +kernel
theorem dX9_film_99 : decode cX9_film 99 = .ok (.ireturn, 1) := by decide +kernel
theorem dX9_setMonths_0 : decode cX9_setMonths 0 = .ok (.iload_n 1, 1) := by decide +kernel
theorem dX9_setMonths_1 : decode cX9_setMonths 1 = .ok (.ifCond .lt 9, 3) := by decide +kernel
theorem dX9_setMonths_4 : decode cX9_setMonths 4 = .ok (.iload_n 1, 1) := by decide +kernel
theorem dX9_setMonths_5 : decode cX9_setMonths 5 = .ok (.bipush 9, 2) := by decide +kernel
theorem dX9_setMonths_7 : decode cX9_setMonths 7 = .ok (.if_icmp .le 5, 3) := by decide +kernel
theorem dX9_setMonths_10 : decode cX9_setMonths 10 = .ok (.iconst (-1), 1) := by decide +kernel
theorem dX9_setMonths_11 : decode cX9_setMonths 11 = .ok (.ireturn, 1) := by decide +kernel
theorem dX9_setMonths_12 : decode cX9_setMonths 12 = .ok (.aload_n 0, 1) := by decide +kernel
theorem dX9_setMonths_13 : decode cX9_setMonths 13 = .ok (.getfield 10, 3) := by decide +kernel
theorem dX9_setMonths_16 : decode cX9_setMonths 16 = .ok (.getfield 283, 3) := by decide +kernel
theorem dX9_setMonths_19 : decode cX9_setMonths 19 = .ok (.istore_n 2, 1) := by decide +kernel
theorem dX9_setMonths_20 : decode cX9_setMonths 20 = .ok (.aload_n 0, 1) := by decide +kernel
theorem dX9_setMonths_21 : decode cX9_setMonths 21 = .ok (.getfield 10, 3) := by decide +kernel
theorem dX9_setMonths_24 : decode cX9_setMonths 24 = .ok (.iload_n 1, 1) := by decide +kernel
theorem dX9_setMonths_25 : decode cX9_setMonths 25 = .ok (.putfield 283, 3) := by decide +kernel
theorem dX9_setMonths_28 : decode cX9_setMonths 28 = .ok (.iload_n 2, 1) := by decide +kernel
theorem dX9_setMonths_29 : decode cX9_setMonths 29 = .ok (.ireturn, 1) := by decide +kernel
theorem dX9_stepsOfWalk_0 : decode cX9_stepsOfWalk 0 = .ok (.aload_n 0, 1) := by decide +kernel
theorem dX9_stepsOfWalk_1 : decode cX9_stepsOfWalk 1 = .ok (.getfield 50, 3) := by decide +kernel
theorem dX9_stepsOfWalk_4 : decode cX9_stepsOfWalk 4 = .ok (.iload_n 2, 1) := by decide +kernel
theorem dX9_stepsOfWalk_5 : decode cX9_stepsOfWalk 5 = .ok (.invokevirtual 212, 3) := by decide +kernel
theorem dX9_stepsOfWalk_8 : decode cX9_stepsOfWalk 8 = .ok (.ifCond .ge 6, 3) := by decide +kernel
theorem dX9_stepsOfWalk_11 : decode cX9_stepsOfWalk 11 = .ok (.bipush (-4), 2) := by decide +kernel
theorem dX9_stepsOfWalk_13 : decode cX9_stepsOfWalk 13 = .ok (.ireturn, 1) := by decide +kernel
theorem dX9_stepsOfWalk_14 : decode cX9_stepsOfWalk 14 = .ok (.aload_n 0, 1) := by decide +kernel
theorem dX9_stepsOfWalk_15 : decode cX9_stepsOfWalk 15 = .ok (.getfield 40, 3) := by decide +kernel
theorem dX9_stepsOfWalk_18 : decode cX9_stepsOfWalk 18 = .ok (.iload_n 1, 1) := by decide +kernel
theorem dX9_stepsOfWalk_19 : decode cX9_stepsOfWalk 19 = .ok (.iload_n 2, 1) := by decide +kernel
theorem dX9_stepsOfWalk_20 : decode cX9_stepsOfWalk 20 = .ok (.iload_n 3, 1) := by decide +kernel
theorem dX9_stepsOfWalk_21 : decode cX9_stepsOfWalk 21 = .ok (.invokevirtual 198, 3) := by decide +kernel
theorem dX9_stepsOfWalk_24 : decode cX9_stepsOfWalk 24 = .ok (.iload_n 1, 1) := by decide +kernel
theorem dX9_stepsOfWalk_25 : decode cX9_stepsOfWalk 25 = .ok (.iconst 2, 1) := by decide +kernel
theorem dX9_stepsOfWalk_26 : decode cX9_stepsOfWalk 26 = .ok (.if_icmp .ge 9, 3) := by decide +kernel
theorem dX9_stepsOfWalk_29 : decode cX9_stepsOfWalk 29 = .ok (.sipush 144, 3) := by decide +kernel
theorem dX9_stepsOfWalk_32 : decode cX9_stepsOfWalk 32 = .ok (.goto 6, 3) := by decide +kernel
theorem dX9_stepsOfWalk_35 : decode cX9_stepsOfWalk 35 = .ok (.sipush 999, 3) := by decide +kernel
theorem dX9_stepsOfWalk_38 : decode cX9_stepsOfWalk 38 = .ok (.istore 4, 2) := by decide +kernel
theorem dX9_stepsOfWalk_40 : decode cX9_stepsOfWalk 40 = .ok (.iconst 0, 1) := by decide +kernel
theorem dX9_stepsOfWalk_41 : decode cX9_stepsOfWalk 41 = .ok (.istore 5, 2) := by decide +kernel
theorem dX9_stepsOfWalk_43 : decode cX9_stepsOfWalk 43 = .ok (.iload 5, 2) := by decide +kernel
theorem dX9_stepsOfWalk_45 : decode cX9_stepsOfWalk 45 = .ok (.iload 4, 2) := by decide +kernel
theorem dX9_stepsOfWalk_47 : decode cX9_stepsOfWalk 47 = .ok (.if_icmp .gt 40, 3) := by decide +kernel
theorem dX9_stepsOfWalk_50 : decode cX9_stepsOfWalk 50 = .ok (.aload_n 0, 1) := by decide +kernel
theorem dX9_stepsOfWalk_51 : decode cX9_stepsOfWalk 51 = .ok (.getfield 40, 3) := by decide +kernel
theorem dX9_stepsOfWalk_54 : decode cX9_stepsOfWalk 54 = .ok (.getfield 202, 3) := by decide +kernel
theorem dX9_stepsOfWalk_57 : decode cX9_stepsOfWalk 57 = .ok (.aload_n 0, 1) := by decide +kernel
theorem dX9_stepsOfWalk_58 : decode cX9_stepsOfWalk 58 = .ok (.getfield 10, 3) := by decide +kernel
theorem dX9_stepsOfWalk_61 : decode cX9_stepsOfWalk 61 = .ok (.getfield 129, 3) := by decide +kernel
theorem dX9_stepsOfWalk_64 : decode cX9_stepsOfWalk 64 = .ok (.if_icmp .ne 6, 3) := by decide +kernel
theorem dX9_stepsOfWalk_67 : decode cX9_stepsOfWalk 67 = .ok (.iload 5, 2) := by decide +kernel
theorem dX9_stepsOfWalk_69 : decode cX9_stepsOfWalk 69 = .ok (.ireturn, 1) := by decide +kernel
theorem dX9_stepsOfWalk_70 : decode cX9_stepsOfWalk 70 = .ok (.aload_n 0, 1) := by decide +kernel
theorem dX9_stepsOfWalk_71 : decode cX9_stepsOfWalk 71 = .ok (.getfield 40, 3) := by decide +kernel
theorem dX9_stepsOfWalk_74 : decode cX9_stepsOfWalk 74 = .ok (.aload_n 0, 1) := by decide +kernel
theorem dX9_stepsOfWalk_75 : decode cX9_stepsOfWalk 75 = .ok (.getfield 10, 3) := by decide +kernel
theorem dX9_stepsOfWalk_78 : decode cX9_stepsOfWalk 78 = .ok (.invokevirtual 205, 3) := by decide +kernel
theorem dX9_stepsOfWalk_81 : decode cX9_stepsOfWalk 81 = .ok (.iinc 5 1, 3) := by decide +kernel
theorem dX9_stepsOfWalk_84 : decode cX9_stepsOfWalk 84 = .ok (.goto (-41), 3) := by decide +kernel
theorem dX9_stepsOfWalk_87 : decode cX9_stepsOfWalk 87 = .ok (.bipush (-4), 2) := by decide +kernel
theorem dX9_stepsOfWalk_89 : decode cX9_stepsOfWalk 89 = .ok (.ireturn, 1) := by decide +kernel
theorem dX9_isStart_0 : decode cX9_isStart 0 = .ok (.iload_n 0, 1) := by decide +kernel
theorem dX9_isStart_1 : decode cX9_isStart 1 = .ok (.invokestatic 209, 3) := by decide +kernel
theorem dX9_isStart_4 : decode cX9_isStart 4 = .ok (.ifCond .eq 21, 3) := by decide +kernel
theorem dX9_isStart_7 : decode cX9_isStart 7 = .ok (.iload_n 1, 1) := by decide +kernel
theorem dX9_isStart_8 : decode cX9_isStart 8 = .ok (.invokestatic 75, 3) := by decide +kernel
theorem dX9_isStart_11 : decode cX9_isStart 11 = .ok (.ifCond .eq 14, 3) := by decide +kernel
theorem dX9_isStart_14 : decode cX9_isStart 14 = .ok (.iload_n 2, 1) := by decide +kernel
theorem dX9_isStart_15 : decode cX9_isStart 15 = .ok (.invokestatic 97, 3) := by decide +kernel
theorem dX9_isStart_18 : decode cX9_isStart 18 = .ok (.ifCond .eq 7, 3) := by decide +kernel
theorem dX9_isStart_21 : decode cX9_isStart 21 = .ok (.iconst 1, 1) := by decide +kernel
theorem dX9_isStart_22 : decode cX9_isStart 22 = .ok (.goto 4, 3) := by decide +kernel
theorem dX9_isStart_25 : decode cX9_isStart 25 = .ok (.iconst 0, 1) := by decide +kernel
theorem dX9_isStart_26 : decode cX9_isStart 26 = .ok (.ireturn, 1) := by decide +kernel
theorem dX9_isKind_0 : decode cX9_isKind 0 = .ok (.iload_n 0, 1) := by decide +kernel
theorem dX9_isKind_1 : decode cX9_isKind 1 = .ok (.ifCond .lt 12, 3) := by decide +kernel
theorem dX9_isKind_4 : decode cX9_isKind 4 = .ok (.iload_n 0, 1) := by decide +kernel
theorem dX9_isKind_5 : decode cX9_isKind 5 = .ok (.iconst 4, 1) := by decide +kernel
theorem dX9_isKind_6 : decode cX9_isKind 6 = .ok (.if_icmp .ge 7, 3) := by decide +kernel
theorem dX9_isKind_9 : decode cX9_isKind 9 = .ok (.iconst 1, 1) := by decide +kernel
theorem dX9_isKind_10 : decode cX9_isKind 10 = .ok (.goto 4, 3) := by decide +kernel
theorem dX9_isKind_13 : decode cX9_isKind 13 = .ok (.iconst 0, 1) := by decide +kernel
theorem dX9_isKind_14 : decode cX9_isKind 14 = .ok (.ireturn, 1) := by decide +kernel
theorem dX9_isSheet_0 : decode cX9_isSheet 0 = .ok (.iload_n 0, 1) := by decide +kernel
theorem dX9_isSheet_1 : decode cX9_isSheet 1 = .ok (.ifCond .lt 12, 3) := by decide +kernel
theorem dX9_isSheet_4 : decode cX9_isSheet 4 = .ok (.iload_n 0, 1) := by decide +kernel
theorem dX9_isSheet_5 : decode cX9_isSheet 5 = .ok (.iconst 4, 1) := by decide +kernel
theorem dX9_isSheet_6 : decode cX9_isSheet 6 = .ok (.if_icmp .ge 7, 3) := by decide +kernel
theorem dX9_isSheet_9 : decode cX9_isSheet 9 = .ok (.iconst 1, 1) := by decide +kernel
theorem dX9_isSheet_10 : decode cX9_isSheet 10 = .ok (.goto 4, 3) := by decide +kernel
theorem dX9_isSheet_13 : decode cX9_isSheet 13 = .ok (.iconst 0, 1) := by decide +kernel
theorem dX9_isSheet_14 : decode cX9_isSheet 14 = .ok (.ireturn, 1) := by decide +kernel
theorem dX9_isLane_0 : decode cX9_isLane 0 = .ok (.iload_n 0, 1) := by decide +kernel
theorem dX9_isLane_1 : decode cX9_isLane 1 = .ok (.ifCond .lt 12, 3) := by decide +kernel
theorem dX9_isLane_4 : decode cX9_isLane 4 = .ok (.iload_n 0, 1) := by decide +kernel
theorem dX9_isLane_5 : decode cX9_isLane 5 = .ok (.iconst 3, 1) := by decide +kernel
theorem dX9_isLane_6 : decode cX9_isLane 6 = .ok (.if_icmp .ge 7, 3) := by decide +kernel
theorem dX9_isLane_9 : decode cX9_isLane 9 = .ok (.iconst 1, 1) := by decide +kernel
theorem dX9_isLane_10 : decode cX9_isLane 10 = .ok (.goto 4, 3) := by decide +kernel
theorem dX9_isLane_13 : decode cX9_isLane 13 = .ok (.iconst 0, 1) := by decide +kernel
theorem dX9_isLane_14 : decode cX9_isLane 14 = .ok (.ireturn, 1) := by decide +kernel
theorem dX10_init_0 : decode cX10_init 0 = .ok (.aload_n 0, 1) := by decide +kernel
theorem dX10_init_1 : decode cX10_init 1 = .ok (.invokespecial 1, 3) := by decide +kernel
theorem dX10_init_4 : decode cX10_init 4 = .ok (.aload_n 0, 1) := by decide +kernel
theorem dX10_init_5 : decode cX10_init 5 = .ok (.bipush 36, 2) := by decide +kernel
theorem dX10_init_7 : decode cX10_init 7 = .ok (.newarray .int, 2) := by decide +kernel
theorem dX10_init_9 : decode cX10_init 9 = .ok (.putfield 7, 3) := by decide +kernel
theorem dX10_init_12 : decode cX10_init 12 = .ok (.aload_n 0, 1) := by decide +kernel
theorem dX10_init_13 : decode cX10_init 13 = .ok (.bipush 72, 2) := by decide +kernel
theorem dX10_init_15 : decode cX10_init 15 = .ok (.newarray .int, 2) := by decide +kernel
theorem dX10_init_17 : decode cX10_init 17 = .ok (.putfield 13, 3) := by decide +kernel
theorem dX10_init_20 : decode cX10_init 20 = .ok (.aload_n 0, 1) := by decide +kernel
theorem dX10_init_21 : decode cX10_init 21 = .ok (.bipush 72, 2) := by decide +kernel
theorem dX10_init_23 : decode cX10_init 23 = .ok (.newarray .int, 2) := by decide +kernel
theorem dX10_init_25 : decode cX10_init 25 = .ok (.putfield 16, 3) := by decide +kernel
theorem dX10_init_28 : decode cX10_init 28 = .ok (.aload_n 0, 1) := by decide +kernel
theorem dX10_init_29 : decode cX10_init 29 = .ok (.bipush 36, 2) := by decide +kernel
theorem dX10_init_31 : decode cX10_init 31 = .ok (.newarray .int, 2) := by decide +kernel
theorem dX10_init_33 : decode cX10_init 33 = .ok (.putfield 19, 3) := by decide +kernel
theorem dX10_init_36 : decode cX10_init 36 = .ok (.aload_n 0, 1) := by decide +kernel
theorem dX10_init_37 : decode cX10_init 37 = .ok (.iconst 3, 1) := by decide +kernel
theorem dX10_init_38 : decode cX10_init 38 = .ok (.newarray .int, 2) := by decide +kernel
theorem dX10_init_40 : decode cX10_init 40 = .ok (.putfield 22, 3) := by decide +kernel
theorem dX10_init_43 : decode cX10_init 43 = .ok (.aload_n 0, 1) := by decide +kernel
theorem dX10_init_44 : decode cX10_init 44 = .ok (.bipush 12, 2) := by decide +kernel
theorem dX10_init_46 : decode cX10_init 46 = .ok (.newarray .int, 2) := by decide +kernel
theorem dX10_init_48 : decode cX10_init 48 = .ok (.putfield 25, 3) := by decide +kernel
theorem dX10_init_51 : decode cX10_init 51 = .ok (.aload_n 0, 1) := by decide +kernel
theorem dX10_init_52 : decode cX10_init 52 = .ok (.bipush 12, 2) := by decide +kernel
theorem dX10_init_54 : decode cX10_init 54 = .ok (.newarray .int, 2) := by decide +kernel
theorem dX10_init_56 : decode cX10_init 56 = .ok (.putfield 28, 3) := by decide +kernel
theorem dX10_init_59 : decode cX10_init 59 = .ok (.aload_n 0, 1) := by decide +kernel
theorem dX10_init_60 : decode cX10_init 60 = .ok (.bipush 80, 2) := by decide +kernel
theorem dX10_init_62 : decode cX10_init 62 = .ok (.newarray .int, 2) := by decide +kernel
theorem dX10_init_64 : decode cX10_init 64 = .ok (.putfield 31, 3) := by decide +kernel
theorem dX10_init_67 : decode cX10_init 67 = .ok (.aload_n 0, 1) := by decide +kernel
theorem dX10_init_68 : decode cX10_init 68 = .ok (.bipush 36, 2) := by decide +kernel
theorem dX10_init_70 : decode cX10_init 70 = .ok (.newarray .int, 2) := by decide +kernel
theorem dX10_init_72 : decode cX10_init 72 = .ok (.putfield 34, 3) := by decide +kernel
theorem dX10_init_75 : decode cX10_init 75 = .ok (.aload_n 0, 1) := by decide +kernel
theorem dX10_init_76 : decode cX10_init 76 = .ok (.bipush 12, 2) := by decide +kernel
theorem dX10_init_78 : decode cX10_init 78 = .ok (.newarray .int, 2) := by decide +kernel
theorem dX10_init_80 : decode cX10_init 80 = .ok (.putfield 37, 3) := by decide +kernel
theorem dX10_init_83 : decode cX10_init 83 = .ok (.aload_n 0, 1) := by decide +kernel
theorem dX10_init_84 : decode cX10_init 84 = .ok (.iconst 2, 1) := by decide +kernel
theorem dX10_init_85 : decode cX10_init 85 = .ok (.newarray .int, 2) := by decide +kernel
theorem dX10_init_87 : decode cX10_init 87 = .ok (.putfield 40, 3) := by decide +kernel
theorem dX10_init_90 : decode cX10_init 90 = .ok (.aload_n 0, 1) := by decide +kernel
theorem dX10_init_91 : decode cX10_init 91 = .ok (.iconst 2, 1) := by decide +kernel
theorem dX10_init_92 : decode cX10_init 92 = .ok (.newarray .int, 2) := by decide +kernel
theorem dX10_init_94 : decode cX10_init 94 = .ok (.putfield 43, 3) := by decide +kernel
theorem dX10_init_97 : decode cX10_init 97 = .ok (.aload_n 0, 1) := by decide +kernel
theorem dX10_init_98 : decode cX10_init 98 = .ok (.bipush 72, 2) := by decide +kernel
theorem dX10_init_100 : decode cX10_init 100 = .ok (.newarray .int, 2) := by decide +kernel
theorem dX10_init_102 : decode cX10_init 102 = .ok (.putfield 46, 3) := by decide +kernel
theorem dX10_init_105 : decode cX10_init 105 = .ok (.aload_n 0, 1) := by decide +kernel
theorem dX10_init_106 : decode cX10_init 106 = .ok (.bipush 72, 2) := by decide +kernel
theorem dX10_init_108 : decode cX10_init 108 = .ok (.newarray .int, 2) := by decide +kernel
theorem dX10_init_110 : decode cX10_init 110 = .ok (.putfield 49, 3) := by decide +kernel
theorem dX10_init_113 : decode cX10_init 113 = .ok (.aload_n 0, 1) := by decide +kernel
theorem dX10_init_114 : decode cX10_init 114 = .ok (.bipush 72, 2) := by decide +kernel
theorem dX10_init_116 : decode cX10_init 116 = .ok (.newarray .int, 2) := by decide +kernel
theorem dX10_init_118 : decode cX10_init 118 = .ok (.putfield 52, 3) := by decide +kernel
theorem dX10_init_121 : decode cX10_init 121 = .ok (.aload_n 0, 1) := by decide +kernel
theorem dX10_init_122 : decode cX10_init 122 = .ok (.bipush 9, 2) := by decide +kernel
theorem dX10_init_124 : decode cX10_init 124 = .ok (.newarray .int, 2) := by decide +kernel
theorem dX10_init_126 : decode cX10_init 126 = .ok (.putfield 55, 3) := by decide +kernel
theorem dX10_init_129 : decode cX10_init 129 = .ok (.aload_n 0, 1) := by decide +kernel
theorem dX10_init_130 : decode cX10_init 130 = .ok (.bipush 9, 2) := by decide +kernel
theorem dX10_init_132 : decode cX10_init 132 = .ok (.newarray .int, 2) := by decide +kernel
theorem dX10_init_134 : decode cX10_init 134 = .ok (.putfield 58, 3) := by decide +kernel
theorem dX10_init_137 : decode cX10_init 137 = .ok (.aload_n 0, 1) := by decide +kernel
theorem dX10_init_138 : decode cX10_init 138 = .ok (.bipush 9, 2) := by decide +kernel
theorem dX10_init_140 : decode cX10_init 140 = .ok (.newarray .int, 2) := by decide +kernel
theorem dX10_init_142 : decode cX10_init 142 = .ok (.putfield 61, 3) := by decide +kernel
theorem dX10_init_145 : decode cX10_init 145 = .ok (.aload_n 0, 1) := by decide +kernel
theorem dX10_init_146 : decode cX10_init 146 = .ok (.sipush 243, 3) := by decide +kernel
theorem dX10_init_149 : decode cX10_init 149 = .ok (.newarray .int, 2) := by decide +kernel
theorem dX10_init_151 : decode cX10_init 151 = .ok (.putfield 64, 3) := by decide +kernel
theorem dX10_init_154 : decode cX10_init 154 = .ok (.aload_n 0, 1) := by decide +kernel
theorem dX10_init_155 : decode cX10_init 155 = .ok (.iconst 4, 1) := by decide +kernel
theorem dX10_init_156 : decode cX10_init 156 = .ok (.newarray .int, 2) := by decide +kernel
theorem dX10_init_158 : decode cX10_init 158 = .ok (.putfield 67, 3) := by decide +kernel
theorem dX10_init_161 : decode cX10_init 161 = .ok (.aload_n 0, 1) := by decide +kernel
theorem dX10_init_162 : decode cX10_init 162 = .ok (.iconst 4, 1) := by decide +kernel
theorem dX10_init_163 : decode cX10_init 163 = .ok (.newarray .int, 2) := by decide +kernel
theorem dX10_init_165 : decode cX10_init 165 = .ok (.putfield 70, 3) := by decide +kernel
theorem dX10_init_168 : decode cX10_init 168 = .ok (.aload_n 0, 1) := by decide +kernel
theorem dX10_init_169 : decode cX10_init 169 = .ok (.sipush 144, 3) := by decide +kernel
theorem dX10_init_172 : decode cX10_init 172 = .ok (.newarray .int, 2) := by decide +kernel
theorem dX10_init_174 : decode cX10_init 174 = .ok (.putfield 73, 3) := by decide +kernel
theorem dX10_init_177 : decode cX10_init 177 = .ok (.iconst 0, 1) := by decide +kernel
theorem dX10_init_178 : decode cX10_init 178 = .ok (.istore_n 1, 1) := by decide +kernel
theorem dX10_init_179 : decode cX10_init 179 = .ok (.iload_n 1, 1) := by decide +kernel
theorem dX10_init_180 : decode cX10_init 180 = .ok (.iconst 4, 1) := by decide +kernel
theorem dX10_init_181 : decode cX10_init 181 = .ok (.if_icmp .ge 16, 3) := by decide +kernel
theorem dX10_init_184 : decode cX10_init 184 = .ok (.aload_n 0, 1) := by decide +kernel
theorem dX10_init_185 : decode cX10_init 185 = .ok (.getfield 67, 3) := by decide +kernel
