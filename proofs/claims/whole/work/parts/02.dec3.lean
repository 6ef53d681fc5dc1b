theorem dX10_goesRow_66 : decode cX10_goesRow 66 = .ok (.iconst 0, 1) := by decide +kernel
theorem dX10_goesRow_67 : decode cX10_goesRow 67 = .ok (.iload 5, 2) := by decide +kernel
theorem dX10_goesRow_69 : decode cX10_goesRow 69 = .ok (.aload_n 0, 1) := by decide +kernel
theorem dX10_goesRow_70 : decode cX10_goesRow 70 = .ok (.getfield 462, 3) := by decide +kernel
theorem dX10_goesRow_73 : decode cX10_goesRow 73 = .ok (.invokevirtual 426, 3) := by decide +kernel
theorem dX10_goesRow_76 : decode cX10_goesRow 76 = .ok (.aload_n 0, 1) := by decide +kernel
theorem dX10_goesRow_77 : decode cX10_goesRow 77 = .ok (.aload_n 0, 1) := by decide +kernel
theorem dX10_goesRow_78 : decode cX10_goesRow 78 = .ok (.getfield 462, 3) := by decide +kernel
theorem dX10_goesRow_81 : decode cX10_goesRow 81 = .ok (.invokestatic 429, 3) := by decide +kernel
theorem dX10_goesRow_84 : decode cX10_goesRow 84 = .ok (.putfield 462, 3) := by decide +kernel
theorem dX10_goesRow_87 : decode cX10_goesRow 87 = .ok (.iload 5, 2) := by decide +kernel
theorem dX10_goesRow_89 : decode cX10_goesRow 89 = .ok (.ifCond .ne 7, 3) := by decide +kernel
theorem dX10_goesRow_92 : decode cX10_goesRow 92 = .ok (.aload_n 0, 1) := by decide +kernel
theorem dX10_goesRow_93 : decode cX10_goesRow 93 = .ok (.invokevirtual 475, 3) := by decide +kernel
theorem dX10_goesRow_96 : decode cX10_goesRow 96 = .ok (.iinc 4 1, 3) := by decide +kernel
theorem dX10_goesRow_99 : decode cX10_goesRow 99 = .ok (.goto (-76), 3) := by decide +kernel
theorem dX10_goesRow_102 : decode cX10_goesRow 102 = .ok (.return_, 1) := by decide +kernel
theorem dX10_isCode_0 : decode cX10_isCode 0 = .ok (.iload_n 1, 1) := by decide +kernel
theorem dX10_isCode_1 : decode cX10_isCode 1 = .ok (.ifCond .lt 16, 3) := by decide +kernel
theorem dX10_isCode_4 : decode cX10_isCode 4 = .ok (.iload_n 1, 1) := by decide +kernel
theorem dX10_isCode_5 : decode cX10_isCode 5 = .ok (.iconst 1, 1) := by decide +kernel
theorem dX10_isCode_6 : decode cX10_isCode 6 = .ok (.iconst 2, 1) := by decide +kernel
theorem dX10_isCode_7 : decode cX10_isCode 7 = .ok (.iload_n 0, 1) := by decide +kernel
theorem dX10_isCode_8 : decode cX10_isCode 8 = .ok (.imul, 1) := by decide +kernel
theorem dX10_isCode_9 : decode cX10_isCode 9 = .ok (.ishl, 1) := by decide +kernel
theorem dX10_isCode_10 : decode cX10_isCode 10 = .ok (.if_icmp .ge 7, 3) := by decide +kernel
theorem dX10_isCode_13 : decode cX10_isCode 13 = .ok (.iconst 1, 1) := by decide +kernel
theorem dX10_isCode_14 : decode cX10_isCode 14 = .ok (.goto 4, 3) := by decide +kernel
theorem dX10_isCode_17 : decode cX10_isCode 17 = .ok (.iconst 0, 1) := by decide +kernel
theorem dX10_isCode_18 : decode cX10_isCode 18 = .ok (.ireturn, 1) := by decide +kernel
theorem dX10_row_0 : decode cX10_row 0 = .ok (.aload_n 0, 1) := by decide +kernel
theorem dX10_row_1 : decode cX10_row 1 = .ok (.invokevirtual 420, 3) := by decide +kernel
theorem dX10_row_4 : decode cX10_row 4 = .ok (.ifCond .eq 33, 3) := by decide +kernel
theorem dX10_row_7 : decode cX10_row 7 = .ok (.iload_n 1, 1) := by decide +kernel
theorem dX10_row_8 : decode cX10_row 8 = .ok (.i2l, 1) := by decide +kernel
theorem dX10_row_9 : decode cX10_row 9 = .ok (.lconst 1, 1) := by decide +kernel
theorem dX10_row_10 : decode cX10_row 10 = .ok (.ldc2_w 478, 3) := by decide +kernel
theorem dX10_row_13 : decode cX10_row 13 = .ok (.invokestatic 144, 3) := by decide +kernel
theorem dX10_row_16 : decode cX10_row 16 = .ok (.ifCond .eq 21, 3) := by decide +kernel
theorem dX10_row_19 : decode cX10_row 19 = .ok (.iload_n 1, 1) := by decide +kernel
theorem dX10_row_20 : decode cX10_row 20 = .ok (.iload_n 2, 1) := by decide +kernel
theorem dX10_row_21 : decode cX10_row 21 = .ok (.invokestatic 480, 3) := by decide +kernel
theorem dX10_row_24 : decode cX10_row 24 = .ok (.ifCond .eq 13, 3) := by decide +kernel
theorem dX10_row_27 : decode cX10_row 27 = .ok (.iload_n 3, 1) := by decide +kernel
theorem dX10_row_28 : decode cX10_row 28 = .ok (.i2l, 1) := by decide +kernel
theorem dX10_row_29 : decode cX10_row 29 = .ok (.lconst 0, 1) := by decide +kernel
theorem dX10_row_30 : decode cX10_row 30 = .ok (.lconst 1, 1) := by decide +kernel
theorem dX10_row_31 : decode cX10_row 31 = .ok (.invokestatic 144, 3) := by decide +kernel
theorem dX10_row_34 : decode cX10_row 34 = .ok (.ifCond .ne 7, 3) := by decide +kernel
theorem dX10_row_37 : decode cX10_row 37 = .ok (.ldc2_w 451, 3) := by decide +kernel
theorem dX10_row_40 : decode cX10_row 40 = .ok (.lreturn, 1) := by decide +kernel
theorem dX10_row_41 : decode cX10_row 41 = .ok (.aload_n 0, 1) := by decide +kernel
theorem dX10_row_42 : decode cX10_row 42 = .ok (.iload_n 1, 1) := by decide +kernel
theorem dX10_row_43 : decode cX10_row 43 = .ok (.iload_n 2, 1) := by decide +kernel
theorem dX10_row_44 : decode cX10_row 44 = .ok (.invokevirtual 483, 3) := by decide +kernel
theorem dX10_row_47 : decode cX10_row 47 = .ok (.iload_n 3, 1) := by decide +kernel
theorem dX10_row_48 : decode cX10_row 48 = .ok (.ifCond .ne 10, 3) := by decide +kernel
theorem dX10_row_51 : decode cX10_row 51 = .ok (.aload_n 0, 1) := by decide +kernel
theorem dX10_row_52 : decode cX10_row 52 = .ok (.getfield 465, 3) := by decide +kernel
theorem dX10_row_55 : decode cX10_row 55 = .ok (.goto 7, 3) := by decide +kernel
theorem dX10_row_58 : decode cX10_row 58 = .ok (.aload_n 0, 1) := by decide +kernel
theorem dX10_row_59 : decode cX10_row 59 = .ok (.getfield 472, 3) := by decide +kernel
theorem dX10_row_62 : decode cX10_row 62 = .ok (.lreturn, 1) := by decide +kernel
theorem dX10_soon_0 : decode cX10_soon 0 = .ok (.aload_n 0, 1) := by decide +kernel
theorem dX10_soon_1 : decode cX10_soon 1 = .ok (.invokevirtual 420, 3) := by decide +kernel
theorem dX10_soon_4 : decode cX10_soon 4 = .ok (.ifCond .eq 15, 3) := by decide +kernel
theorem dX10_soon_7 : decode cX10_soon 7 = .ok (.iload_n 1, 1) := by decide +kernel
theorem dX10_soon_8 : decode cX10_soon 8 = .ok (.i2l, 1) := by decide +kernel
theorem dX10_soon_9 : decode cX10_soon 9 = .ok (.lconst 1, 1) := by decide +kernel
theorem dX10_soon_10 : decode cX10_soon 10 = .ok (.ldc2_w 486, 3) := by decide +kernel
theorem dX10_soon_13 : decode cX10_soon 13 = .ok (.invokestatic 144, 3) := by decide +kernel
theorem dX10_soon_16 : decode cX10_soon 16 = .ok (.ifCond .ne 5, 3) := by decide +kernel
theorem dX10_soon_19 : decode cX10_soon 19 = .ok (.iconst (-1), 1) := by decide +kernel
theorem dX10_soon_20 : decode cX10_soon 20 = .ok (.ireturn, 1) := by decide +kernel
theorem dX10_soon_21 : decode cX10_soon 21 = .ok (.iconst (-1), 1) := by decide +kernel
theorem dX10_soon_22 : decode cX10_soon 22 = .ok (.istore_n 2, 1) := by decide +kernel
theorem dX10_soon_23 : decode cX10_soon 23 = .ok (.lconst 0, 1) := by decide +kernel
theorem dX10_soon_24 : decode cX10_soon 24 = .ok (.lstore_n 3, 1) := by decide +kernel
theorem dX10_soon_25 : decode cX10_soon 25 = .ok (.lconst 0, 1) := by decide +kernel
theorem dX10_soon_26 : decode cX10_soon 26 = .ok (.lstore 5, 2) := by decide +kernel
theorem dX10_soon_28 : decode cX10_soon 28 = .ok (.iconst 0, 1) := by decide +kernel
theorem dX10_soon_29 : decode cX10_soon 29 = .ok (.istore 7, 2) := by decide +kernel
theorem dX10_soon_31 : decode cX10_soon 31 = .ok (.iload 7, 2) := by decide +kernel
theorem dX10_soon_33 : decode cX10_soon 33 = .ok (.iconst 1, 1) := by decide +kernel
theorem dX10_soon_34 : decode cX10_soon 34 = .ok (.iconst 2, 1) := by decide +kernel
theorem dX10_soon_35 : decode cX10_soon 35 = .ok (.iload_n 1, 1) := by decide +kernel
theorem dX10_soon_36 : decode cX10_soon 36 = .ok (.imul, 1) := by decide +kernel
theorem dX10_soon_37 : decode cX10_soon 37 = .ok (.ishl, 1) := by decide +kernel
theorem dX10_soon_38 : decode cX10_soon 38 = .ok (.if_icmp .ge 65, 3) := by decide +kernel
theorem dX10_soon_41 : decode cX10_soon 41 = .ok (.aload_n 0, 1) := by decide +kernel
theorem dX10_soon_42 : decode cX10_soon 42 = .ok (.iload_n 1, 1) := by decide +kernel
theorem dX10_soon_43 : decode cX10_soon 43 = .ok (.iload 7, 2) := by decide +kernel
theorem dX10_soon_45 : decode cX10_soon 45 = .ok (.invokevirtual 483, 3) := by decide +kernel
theorem dX10_soon_48 : decode cX10_soon 48 = .ok (.iload_n 2, 1) := by decide +kernel
theorem dX10_soon_49 : decode cX10_soon 49 = .ok (.ifCond .lt 34, 3) := by decide +kernel
theorem dX10_soon_52 : decode cX10_soon 52 = .ok (.aload_n 0, 1) := by decide +kernel
theorem dX10_soon_53 : decode cX10_soon 53 = .ok (.getfield 465, 3) := by decide +kernel
theorem dX10_soon_56 : decode cX10_soon 56 = .ok (.lload_n 3, 1) := by decide +kernel
theorem dX10_soon_57 : decode cX10_soon 57 = .ok (.lcmp, 1) := by decide +kernel
theorem dX10_soon_58 : decode cX10_soon 58 = .ok (.ifCond .lt 39, 3) := by decide +kernel
theorem dX10_soon_61 : decode cX10_soon 61 = .ok (.aload_n 0, 1) := by decide +kernel
theorem dX10_soon_62 : decode cX10_soon 62 = .ok (.getfield 465, 3) := by decide +kernel
theorem dX10_soon_65 : decode cX10_soon 65 = .ok (.lload_n 3, 1) := by decide +kernel
theorem dX10_soon_66 : decode cX10_soon 66 = .ok (.lcmp, 1) := by decide +kernel
theorem dX10_soon_67 : decode cX10_soon 67 = .ok (.ifCond .ne 16, 3) := by decide +kernel
theorem dX10_soon_70 : decode cX10_soon 70 = .ok (.aload_n 0, 1) := by decide +kernel
theorem dX10_soon_71 : decode cX10_soon 71 = .ok (.getfield 472, 3) := by decide +kernel
theorem dX10_soon_74 : decode cX10_soon 74 = .ok (.lload 5, 2) := by decide +kernel
theorem dX10_soon_76 : decode cX10_soon 76 = .ok (.lcmp, 1) := by decide +kernel
theorem dX10_soon_77 : decode cX10_soon 77 = .ok (.ifCond .lt 6, 3) := by decide +kernel
theorem dX10_soon_80 : decode cX10_soon 80 = .ok (.goto 17, 3) := by decide +kernel
theorem dX10_soon_83 : decode cX10_soon 83 = .ok (.iload 7, 2) := by decide +kernel
theorem dX10_soon_85 : decode cX10_soon 85 = .ok (.istore_n 2, 1) := by decide +kernel
theorem dX10_soon_86 : decode cX10_soon 86 = .ok (.aload_n 0, 1) := by decide +kernel
theorem dX10_soon_87 : decode cX10_soon 87 = .ok (.getfield 465, 3) := by decide +kernel
theorem dX10_soon_90 : decode cX10_soon 90 = .ok (.lstore_n 3, 1) := by decide +kernel
theorem dX10_soon_91 : decode cX10_soon 91 = .ok (.aload_n 0, 1) := by decide +kernel
theorem dX10_soon_92 : decode cX10_soon 92 = .ok (.getfield 472, 3) := by decide +kernel
theorem dX10_soon_95 : decode cX10_soon 95 = .ok (.lstore 5, 2) := by decide +kernel
theorem dX10_soon_97 : decode cX10_soon 97 = .ok (.iinc 7 1, 3) := by decide +kernel
theorem dX10_soon_100 : decode cX10_soon 100 = .ok (.goto (-69), 3) := by decide +kernel
theorem dX10_soon_103 : decode cX10_soon 103 = .ok (.iload_n 2, 1) := by decide +kernel
theorem dX10_soon_104 : decode cX10_soon 104 = .ok (.ireturn, 1) := by decide +kernel
theorem dX10_left_0 : decode cX10_left 0 = .ok (.aload_n 0, 1) := by decide +kernel
theorem dX10_left_1 : decode cX10_left 1 = .ok (.invokevirtual 420, 3) := by decide +kernel
theorem dX10_left_4 : decode cX10_left 4 = .ok (.ifCond .eq 15, 3) := by decide +kernel
theorem dX10_left_7 : decode cX10_left 7 = .ok (.iload_n 1, 1) := by decide +kernel
theorem dX10_left_8 : decode cX10_left 8 = .ok (.i2l, 1) := by decide +kernel
theorem dX10_left_9 : decode cX10_left 9 = .ok (.lconst 1, 1) := by decide +kernel
theorem dX10_left_10 : decode cX10_left 10 = .ok (.ldc2_w 386, 3) := by decide +kernel
theorem dX10_left_13 : decode cX10_left 13 = .ok (.invokestatic 144, 3) := by decide +kernel
theorem dX10_left_16 : decode cX10_left 16 = .ok (.ifCond .ne 5, 3) := by decide +kernel
theorem dX10_left_19 : decode cX10_left 19 = .ok (.iconst (-1), 1) := by decide +kernel
theorem dX10_left_20 : decode cX10_left 20 = .ok (.ireturn, 1) := by decide +kernel
theorem dX10_left_21 : decode cX10_left 21 = .ok (.iconst 0, 1) := by decide +kernel
theorem dX10_left_22 : decode cX10_left 22 = .ok (.istore_n 2, 1) := by decide +kernel
theorem dX10_left_23 : decode cX10_left 23 = .ok (.iload_n 2, 1) := by decide +kernel
theorem dX10_left_24 : decode cX10_left 24 = .ok (.aload_n 0, 1) := by decide +kernel
theorem dX10_left_25 : decode cX10_left 25 = .ok (.getfield 78, 3) := by decide +kernel
theorem dX10_left_28 : decode cX10_left 28 = .ok (.iconst 2, 1) := by decide +kernel
theorem dX10_left_29 : decode cX10_left 29 = .ok (.iaload, 1) := by decide +kernel
theorem dX10_left_30 : decode cX10_left 30 = .ok (.if_icmp .ge 29, 3) := by decide +kernel
theorem dX10_left_33 : decode cX10_left 33 = .ok (.aload_n 0, 1) := by decide +kernel
theorem dX10_left_34 : decode cX10_left 34 = .ok (.getfield 78, 3) := by decide +kernel
theorem dX10_left_37 : decode cX10_left 37 = .ok (.sipush 582, 3) := by decide +kernel
theorem dX10_left_40 : decode cX10_left 40 = .ok (.iconst 4, 1) := by decide +kernel
theorem dX10_left_41 : decode cX10_left 41 = .ok (.iload_n 2, 1) := by decide +kernel
theorem dX10_left_42 : decode cX10_left 42 = .ok (.imul, 1) := by decide +kernel
theorem dX10_left_43 : decode cX10_left 43 = .ok (.iadd, 1) := by decide +kernel
theorem dX10_left_44 : decode cX10_left 44 = .ok (.iconst 3, 1) := by decide +kernel
theorem dX10_left_45 : decode cX10_left 45 = .ok (.iadd, 1) := by decide +kernel
theorem dX10_left_46 : decode cX10_left 46 = .ok (.iaload, 1) := by decide +kernel
theorem dX10_left_47 : decode cX10_left 47 = .ok (.iload_n 1, 1) := by decide +kernel
theorem dX10_left_48 : decode cX10_left 48 = .ok (.if_icmp .ge 5, 3) := by decide +kernel
theorem dX10_left_51 : decode cX10_left 51 = .ok (.iload_n 2, 1) := by decide +kernel
theorem dX10_left_52 : decode cX10_left 52 = .ok (.ireturn, 1) := by decide +kernel
theorem dX10_left_53 : decode cX10_left 53 = .ok (.iinc 2 1, 3) := by decide +kernel
theorem dX10_left_56 : decode cX10_left 56 = .ok (.goto (-33), 3) := by decide +kernel
theorem dX10_left_59 : decode cX10_left 59 = .ok (.bipush (-2), 2) := by decide +kernel
theorem dX10_left_61 : decode cX10_left 61 = .ok (.ireturn, 1) := by decide +kernel
theorem dX10_fork_0 : decode cX10_fork 0 = .ok (.aload_n 0, 1) := by decide +kernel
theorem dX10_fork_1 : decode cX10_fork 1 = .ok (.invokevirtual 420, 3) := by decide +kernel
theorem dX10_fork_4 : decode cX10_fork 4 = .ok (.ifCond .eq 69, 3) := by decide +kernel
theorem dX10_fork_7 : decode cX10_fork 7 = .ok (.iload_n 1, 1) := by decide +kernel
theorem dX10_fork_8 : decode cX10_fork 8 = .ok (.i2l, 1) := by decide +kernel
theorem dX10_fork_9 : decode cX10_fork 9 = .ok (.lconst 0, 1) := by decide +kernel
theorem dX10_fork_10 : decode cX10_fork 10 = .ok (.ldc2_w 488, 3) := by decide +kernel
theorem dX10_fork_13 : decode cX10_fork 13 = .ok (.invokestatic 144, 3) := by decide +kernel
theorem dX10_fork_16 : decode cX10_fork 16 = .ok (.ifCond .eq 57, 3) := by decide +kernel
theorem dX10_fork_19 : decode cX10_fork 19 = .ok (.iload_n 2, 1) := by decide +kernel
theorem dX10_fork_20 : decode cX10_fork 20 = .ok (.i2l, 1) := by decide +kernel
theorem dX10_fork_21 : decode cX10_fork 21 = .ok (.lconst 0, 1) := by decide +kernel
theorem dX10_fork_22 : decode cX10_fork 22 = .ok (.ldc2_w 488, 3) := by decide +kernel
theorem dX10_fork_25 : decode cX10_fork 25 = .ok (.invokestatic 144, 3) := by decide +kernel
theorem dX10_fork_28 : decode cX10_fork 28 = .ok (.ifCond .eq 45, 3) := by decide +kernel
theorem dX10_fork_31 : decode cX10_fork 31 = .ok (.iload_n 3, 1) := by decide +kernel
theorem dX10_fork_32 : decode cX10_fork 32 = .ok (.i2l, 1) := by decide +kernel
theorem dX10_fork_33 : decode cX10_fork 33 = .ok (.iload_n 1, 1) := by decide +kernel
theorem dX10_fork_34 : decode cX10_fork 34 = .ok (.i2l, 1) := by decide +kernel
theorem dX10_fork_35 : decode cX10_fork 35 = .ok (.ldc2_w 488, 3) := by decide +kernel
theorem dX10_fork_38 : decode cX10_fork 38 = .ok (.invokestatic 144, 3) := by decide +kernel
theorem dX10_fork_41 : decode cX10_fork 41 = .ok (.ifCond .eq 32, 3) := by decide +kernel
theorem dX10_fork_44 : decode cX10_fork 44 = .ok (.iload 4, 2) := by decide +kernel
theorem dX10_fork_46 : decode cX10_fork 46 = .ok (.i2l, 1) := by decide +kernel
theorem dX10_fork_47 : decode cX10_fork 47 = .ok (.iload_n 2, 1) := by decide +kernel
theorem dX10_fork_48 : decode cX10_fork 48 = .ok (.i2l, 1) := by decide +kernel
theorem dX10_fork_49 : decode cX10_fork 49 = .ok (.ldc2_w 488, 3) := by decide +kernel
theorem dX10_fork_52 : decode cX10_fork 52 = .ok (.invokestatic 144, 3) := by decide +kernel
theorem dX10_fork_55 : decode cX10_fork 55 = .ok (.ifCond .eq 18, 3) := by decide +kernel
theorem dX10_fork_58 : decode cX10_fork 58 = .ok (.iload 5, 2) := by decide +kernel
theorem dX10_fork_60 : decode cX10_fork 60 = .ok (.i2l, 1) := by decide +kernel
theorem dX10_fork_61 : decode cX10_fork 61 = .ok (.ldc2_w 451, 3) := by decide +kernel
theorem dX10_fork_64 : decode cX10_fork 64 = .ok (.ldc2_w 367, 3) := by decide +kernel
theorem dX10_fork_67 : decode cX10_fork 67 = .ok (.invokestatic 144, 3) := by decide +kernel
theorem dX10_fork_70 : decode cX10_fork 70 = .ok (.ifCond .ne 5, 3) := by decide +kernel
theorem dX10_fork_73 : decode cX10_fork 73 = .ok (.iconst (-1), 1) := by decide +kernel
theorem dX10_fork_74 : decode cX10_fork 74 = .ok (.ireturn, 1) := by decide +kernel
theorem dX10_fork_75 : decode cX10_fork 75 = .ok (.lconst 0, 1) := by decide +kernel
theorem dX10_fork_76 : decode cX10_fork 76 = .ok (.lstore 6, 2) := by decide +kernel
theorem dX10_fork_78 : decode cX10_fork 78 = .ok (.iload_n 2, 1) := by decide +kernel
theorem dX10_fork_79 : decode cX10_fork 79 = .ok (.istore 8, 2) := by decide +kernel
theorem dX10_fork_81 : decode cX10_fork 81 = .ok (.iload 8, 2) := by decide +kernel
theorem dX10_fork_83 : decode cX10_fork 83 = .ok (.iload 4, 2) := by decide +kernel
theorem dX10_fork_85 : decode cX10_fork 85 = .ok (.if_icmp .gt 76, 3) := by decide +kernel
theorem dX10_fork_88 : decode cX10_fork 88 = .ok (.iload_n 1, 1) := by decide +kernel
theorem dX10_fork_89 : decode cX10_fork 89 = .ok (.istore 9, 2) := by decide +kernel
theorem dX10_fork_91 : decode cX10_fork 91 = .ok (.iload 9, 2) := by decide +kernel
theorem dX10_fork_93 : decode cX10_fork 93 = .ok (.iload_n 3, 1) := by decide +kernel
theorem dX10_fork_94 : decode cX10_fork 94 = .ok (.if_icmp .gt 61, 3) := by decide +kernel
theorem dX10_fork_97 : decode cX10_fork 97 = .ok (.bipush 12, 2) := by decide +kernel
theorem dX10_fork_99 : decode cX10_fork 99 = .ok (.iload 8, 2) := by decide +kernel
theorem dX10_fork_101 : decode cX10_fork 101 = .ok (.imul, 1) := by decide +kernel
theorem dX10_fork_102 : decode cX10_fork 102 = .ok (.iload 9, 2) := by decide +kernel
theorem dX10_fork_104 : decode cX10_fork 104 = .ok (.iadd, 1) := by decide +kernel
theorem dX10_fork_105 : decode cX10_fork 105 = .ok (.istore 10, 2) := by decide +kernel
theorem dX10_fork_107 : decode cX10_fork 107 = .ok (.lload 6, 2) := by decide +kernel
theorem dX10_fork_109 : decode cX10_fork 109 = .ok (.iload 5, 2) := by decide +kernel
theorem dX10_fork_111 : decode cX10_fork 111 = .ok (.iconst (-1), 1) := by decide +kernel
theorem dX10_fork_112 : decode cX10_fork 112 = .ok (.if_icmp .ne 18, 3) := by decide +kernel
theorem dX10_fork_115 : decode cX10_fork 115 = .ok (.aload_n 0, 1) := by decide +kernel
theorem dX10_fork_116 : decode cX10_fork 116 = .ok (.aload_n 0, 1) := by decide +kernel
theorem dX10_fork_117 : decode cX10_fork 117 = .ok (.getfield 78, 3) := by decide +kernel
theorem dX10_fork_120 : decode cX10_fork 120 = .ok (.bipush 6, 2) := by decide +kernel
theorem dX10_fork_122 : decode cX10_fork 122 = .ok (.iload 10, 2) := by decide +kernel
theorem dX10_fork_124 : decode cX10_fork 124 = .ok (.invokevirtual 447, 3) := by decide +kernel
theorem dX10_fork_127 : decode cX10_fork 127 = .ok (.goto 19, 3) := by decide +kernel
theorem dX10_fork_130 : decode cX10_fork 130 = .ok (.aload_n 0, 1) := by decide +kernel
theorem dX10_fork_131 : decode cX10_fork 131 = .ok (.getfield 78, 3) := by decide +kernel
theorem dX10_fork_134 : decode cX10_fork 134 = .ok (.bipush 6, 2) := by decide +kernel
theorem dX10_fork_136 : decode cX10_fork 136 = .ok (.iconst 4, 1) := by decide +kernel
theorem dX10_fork_137 : decode cX10_fork 137 = .ok (.iload 10, 2) := by decide +kernel
theorem dX10_fork_139 : decode cX10_fork 139 = .ok (.imul, 1) := by decide +kernel
theorem dX10_fork_140 : decode cX10_fork 140 = .ok (.iadd, 1) := by decide +kernel
theorem dX10_fork_141 : decode cX10_fork 141 = .ok (.iload 5, 2) := by decide +kernel
theorem dX10_fork_143 : decode cX10_fork 143 = .ok (.iadd, 1) := by decide +kernel
theorem dX10_fork_144 : decode cX10_fork 144 = .ok (.iaload, 1) := by decide +kernel
theorem dX10_fork_145 : decode cX10_fork 145 = .ok (.i2l, 1) := by decide +kernel
theorem dX10_fork_146 : decode cX10_fork 146 = .ok (.ladd, 1) := by decide +kernel
theorem dX10_fork_147 : decode cX10_fork 147 = .ok (.lstore 6, 2) := by decide +kernel
theorem dX10_fork_149 : decode cX10_fork 149 = .ok (.iinc 9 1, 3) := by decide +kernel
theorem dX10_fork_152 : decode cX10_fork 152 = .ok (.goto (-61), 3) := by decide +kernel
theorem dX10_fork_155 : decode cX10_fork 155 = .ok (.iinc 8 1, 3) := by decide +kernel
theorem dX10_fork_158 : decode cX10_fork 158 = .ok (.goto (-77), 3) := by decide +kernel
theorem dX10_fork_161 : decode cX10_fork 161 = .ok (.lload 6, 2) := by decide +kernel
theorem dX10_fork_163 : decode cX10_fork 163 = .ok (.l2i, 1) := by decide +kernel
theorem dX10_fork_164 : decode cX10_fork 164 = .ok (.ireturn, 1) := by decide +kernel
theorem dX10_again_0 : decode cX10_again 0 = .ok (.aload_n 0, 1) := by decide +kernel
theorem dX10_again_1 : decode cX10_again 1 = .ok (.getfield 81, 3) := by decide +kernel
theorem dX10_again_4 : decode cX10_again 4 = .ok (.iconst 0, 1) := by decide +kernel
theorem dX10_again_5 : decode cX10_again 5 = .ok (.aload_n 0, 1) := by decide +kernel
theorem dX10_again_6 : decode cX10_again 6 = .ok (.getfield 490, 3) := by decide +kernel
theorem dX10_again_9 : decode cX10_again 9 = .ok (.aload_n 0, 1) := by decide +kernel
theorem dX10_again_10 : decode cX10_again 10 = .ok (.getfield 493, 3) := by decide +kernel
theorem dX10_again_13 : decode cX10_again 13 = .ok (.invokestatic 373, 3) := by decide +kernel
theorem dX10_again_16 : decode cX10_again 16 = .ok (.aload_n 0, 1) := by decide +kernel
theorem dX10_again_17 : decode cX10_again 17 = .ok (.iconst 0, 1) := by decide +kernel
theorem dX10_again_18 : decode cX10_again 18 = .ok (.putfield 462, 3) := by decide +kernel
theorem dX10_again_21 : decode cX10_again 21 = .ok (.iconst 0, 1) := by decide +kernel
theorem dX10_again_22 : decode cX10_again 22 = .ok (.istore_n 2, 1) := by decide +kernel
theorem dX10_again_23 : decode cX10_again 23 = .ok (.iload_n 2, 1) := by decide +kernel
theorem dX10_again_24 : decode cX10_again 24 = .ok (.aload_n 0, 1) := by decide +kernel
theorem dX10_again_25 : decode cX10_again 25 = .ok (.getfield 78, 3) := by decide +kernel
theorem dX10_again_28 : decode cX10_again 28 = .ok (.iconst 2, 1) := by decide +kernel
theorem dX10_again_29 : decode cX10_again 29 = .ok (.iaload, 1) := by decide +kernel
theorem dX10_again_30 : decode cX10_again 30 = .ok (.if_icmp .ge 171, 3) := by decide +kernel
theorem dX10_again_33 : decode cX10_again 33 = .ok (.sipush 582, 3) := by decide +kernel
theorem dX10_again_36 : decode cX10_again 36 = .ok (.iconst 4, 1) := by decide +kernel
theorem dX10_again_37 : decode cX10_again 37 = .ok (.iload_n 2, 1) := by decide +kernel
theorem dX10_again_38 : decode cX10_again 38 = .ok (.imul, 1) := by decide +kernel
theorem dX10_again_39 : decode cX10_again 39 = .ok (.iadd, 1) := by decide +kernel
theorem dX10_again_40 : decode cX10_again 40 = .ok (.istore_n 3, 1) := by decide +kernel
theorem dX10_again_41 : decode cX10_again 41 = .ok (.aload_n 0, 1) := by decide +kernel
theorem dX10_again_42 : decode cX10_again 42 = .ok (.getfield 78, 3) := by decide +kernel
theorem dX10_again_45 : decode cX10_again 45 = .ok (.iload_n 3, 1) := by decide +kernel
theorem dX10_again_46 : decode cX10_again 46 = .ok (.iaload, 1) := by decide +kernel
theorem dX10_again_47 : decode cX10_again 47 = .ok (.istore 4, 2) := by decide +kernel
theorem dX10_again_49 : decode cX10_again 49 = .ok (.iload 4, 2) := by decide +kernel
theorem dX10_again_51 : decode cX10_again 51 = .ok (.iconst 4, 1) := by decide +kernel
theorem dX10_again_52 : decode cX10_again 52 = .ok (.if_icmp .le 19, 3) := by decide +kernel
theorem dX10_again_55 : decode cX10_again 55 = .ok (.iload_n 1, 1) := by decide +kernel
theorem dX10_again_56 : decode cX10_again 56 = .ok (.iload 4, 2) := by decide +kernel
theorem dX10_again_58 : decode cX10_again 58 = .ok (.iconst 5, 1) := by decide +kernel
theorem dX10_again_59 : decode cX10_again 59 = .ok (.isub, 1) := by decide +kernel
theorem dX10_again_60 : decode cX10_again 60 = .ok (.ishr, 1) := by decide +kernel
theorem dX10_again_61 : decode cX10_again 61 = .ok (.iconst 1, 1) := by decide +kernel
theorem dX10_again_62 : decode cX10_again 62 = .ok (.iand, 1) := by decide +kernel
theorem dX10_again_63 : decode cX10_again 63 = .ok (.iconst 1, 1) := by decide +kernel
theorem dX10_again_64 : decode cX10_again 64 = .ok (.if_icmp .ne 7, 3) := by decide +kernel
theorem dX10_again_67 : decode cX10_again 67 = .ok (.iconst 1, 1) := by decide +kernel
theorem dX10_again_68 : decode cX10_again 68 = .ok (.goto 4, 3) := by decide +kernel
theorem dX10_again_71 : decode cX10_again 71 = .ok (.iconst 0, 1) := by decide +kernel
theorem dX10_again_72 : decode cX10_again 72 = .ok (.istore 5, 2) := by decide +kernel
theorem dX10_again_74 : decode cX10_again 74 = .ok (.iload 4, 2) := by decide +kernel
theorem dX10_again_76 : decode cX10_again 76 = .ok (.iconst 5, 1) := by decide +kernel
theorem dX10_again_77 : decode cX10_again 77 = .ok (.if_icmp .ge 32, 3) := by decide +kernel
theorem dX10_again_80 : decode cX10_again 80 = .ok (.aload_n 0, 1) := by decide +kernel
theorem dX10_again_81 : decode cX10_again 81 = .ok (.aload_n 0, 1) := by decide +kernel
theorem dX10_again_82 : decode cX10_again 82 = .ok (.getfield 81, 3) := by decide +kernel
theorem dX10_again_85 : decode cX10_again 85 = .ok (.iconst 0, 1) := by decide +kernel
theorem dX10_again_86 : decode cX10_again 86 = .ok (.iload 4, 2) := by decide +kernel
theorem dX10_again_88 : decode cX10_again 88 = .ok (.aload_n 0, 1) := by decide +kernel
theorem dX10_again_89 : decode cX10_again 89 = .ok (.getfield 462, 3) := by decide +kernel
theorem dX10_again_92 : decode cX10_again 92 = .ok (.invokevirtual 426, 3) := by decide +kernel
theorem dX10_again_95 : decode cX10_again 95 = .ok (.aload_n 0, 1) := by decide +kernel
theorem dX10_again_96 : decode cX10_again 96 = .ok (.aload_n 0, 1) := by decide +kernel
theorem dX10_again_97 : decode cX10_again 97 = .ok (.getfield 462, 3) := by decide +kernel
theorem dX10_again_100 : decode cX10_again 100 = .ok (.invokestatic 429, 3) := by decide +kernel
theorem dX10_again_103 : decode cX10_again 103 = .ok (.putfield 462, 3) := by decide +kernel
theorem dX10_again_106 : decode cX10_again 106 = .ok (.goto 89, 3) := by decide +kernel
theorem dX10_again_109 : decode cX10_again 109 = .ok (.iload 5, 2) := by decide +kernel
theorem dX10_again_111 : decode cX10_again 111 = .ok (.ifCond .eq 66, 3) := by decide +kernel
theorem dX10_again_114 : decode cX10_again 114 = .ok (.aload_n 0, 1) := by decide +kernel
theorem dX10_again_115 : decode cX10_again 115 = .ok (.aload_n 0, 1) := by decide +kernel
theorem dX10_again_116 : decode cX10_again 116 = .ok (.getfield 81, 3) := by decide +kernel
theorem dX10_again_119 : decode cX10_again 119 = .ok (.iconst 0, 1) := by decide +kernel
theorem dX10_again_120 : decode cX10_again 120 = .ok (.iload 4, 2) := by decide +kernel
theorem dX10_again_122 : decode cX10_again 122 = .ok (.aload_n 0, 1) := by decide +kernel
theorem dX10_again_123 : decode cX10_again 123 = .ok (.getfield 78, 3) := by decide +kernel
theorem dX10_again_126 : decode cX10_again 126 = .ok (.iload_n 3, 1) := by decide +kernel
theorem dX10_again_127 : decode cX10_again 127 = .ok (.iconst 1, 1) := by decide +kernel
theorem dX10_again_128 : decode cX10_again 128 = .ok (.iadd, 1) := by decide +kernel
theorem dX10_again_129 : decode cX10_again 129 = .ok (.iaload, 1) := by decide +kernel
theorem dX10_again_130 : decode cX10_again 130 = .ok (.aload_n 0, 1) := by decide +kernel
theorem dX10_again_131 : decode cX10_again 131 = .ok (.getfield 78, 3) := by decide +kernel
theorem dX10_again_134 : decode cX10_again 134 = .ok (.iload_n 3, 1) := by decide +kernel
theorem dX10_again_135 : decode cX10_again 135 = .ok (.iconst 2, 1) := by decide +kernel
theorem dX10_again_136 : decode cX10_again 136 = .ok (.iadd, 1) := by decide +kernel
theorem dX10_again_137 : decode cX10_again 137 = .ok (.iaload, 1) := by decide +kernel
theorem dX10_again_138 : decode cX10_again 138 = .ok (.aload_n 0, 1) := by decide +kernel
theorem dX10_again_139 : decode cX10_again 139 = .ok (.getfield 462, 3) := by decide +kernel
theorem dX10_again_142 : decode cX10_again 142 = .ok (.invokevirtual 436, 3) := by decide +kernel
theorem dX10_again_145 : decode cX10_again 145 = .ok (.istore 6, 2) := by decide +kernel
theorem dX10_again_147 : decode cX10_again 147 = .ok (.iload 4, 2) := by decide +kernel
theorem dX10_again_149 : decode cX10_again 149 = .ok (.bipush 8, 2) := by decide +kernel
theorem dX10_again_151 : decode cX10_again 151 = .ok (.if_icmp .ne 23, 3) := by decide +kernel
theorem dX10_again_154 : decode cX10_again 154 = .ok (.aload_n 0, 1) := by decide +kernel
theorem dX10_again_155 : decode cX10_again 155 = .ok (.iload 6, 2) := by decide +kernel
theorem dX10_again_157 : decode cX10_again 157 = .ok (.ifCond .eq 7, 3) := by decide +kernel
theorem dX10_again_160 : decode cX10_again 160 = .ok (.iconst 0, 1) := by decide +kernel
theorem dX10_again_161 : decode cX10_again 161 = .ok (.goto 10, 3) := by decide +kernel
theorem dX10_again_164 : decode cX10_again 164 = .ok (.aload_n 0, 1) := by decide +kernel
theorem dX10_again_165 : decode cX10_again 165 = .ok (.getfield 462, 3) := by decide +kernel
theorem dX10_again_168 : decode cX10_again 168 = .ok (.invokestatic 429, 3) := by decide +kernel
theorem dX10_again_171 : decode cX10_again 171 = .ok (.putfield 462, 3) := by decide +kernel
theorem dX10_again_174 : decode cX10_again 174 = .ok (.goto 21, 3) := by decide +kernel
theorem dX10_again_177 : decode cX10_again 177 = .ok (.iload 4, 2) := by decide +kernel
theorem dX10_again_179 : decode cX10_again 179 = .ok (.bipush 8, 2) := by decide +kernel
theorem dX10_again_181 : decode cX10_again 181 = .ok (.if_icmp .ne 14, 3) := by decide +kernel
theorem dX10_again_184 : decode cX10_again 184 = .ok (.aload_n 0, 1) := by decide +kernel
theorem dX10_again_185 : decode cX10_again 185 = .ok (.aload_n 0, 1) := by decide +kernel
theorem dX10_again_186 : decode cX10_again 186 = .ok (.getfield 462, 3) := by decide +kernel
theorem dX10_again_189 : decode cX10_again 189 = .ok (.invokestatic 429, 3) := by decide +kernel
theorem dX10_again_192 : decode cX10_again 192 = .ok (.putfield 462, 3) := by decide +kernel
theorem dX10_again_195 : decode cX10_again 195 = .ok (.iinc 2 1, 3) := by decide +kernel
theorem dX10_again_198 : decode cX10_again 198 = .ok (.goto (-175), 3) := by decide +kernel
theorem dX10_again_201 : decode cX10_again 201 = .ok (.return_, 1) := by decide +kernel
theorem dX10_bits_0 : decode cX10_bits 0 = .ok (.iconst 0, 1) := by decide +kernel
theorem dX10_bits_1 : decode cX10_bits 1 = .ok (.istore_n 1, 1) := by decide +kernel
theorem dX10_bits_2 : decode cX10_bits 2 = .ok (.iload_n 0, 1) := by decide +kernel
theorem dX10_bits_3 : decode cX10_bits 3 = .ok (.istore_n 2, 1) := by decide +kernel
theorem dX10_bits_4 : decode cX10_bits 4 = .ok (.iload_n 2, 1) := by decide +kernel
theorem dX10_bits_5 : decode cX10_bits 5 = .ok (.ifCond .eq 15, 3) := by decide +kernel
theorem dX10_bits_8 : decode cX10_bits 8 = .ok (.iinc 1 1, 3) := by decide +kernel
theorem dX10_bits_11 : decode cX10_bits 11 = .ok (.iload_n 2, 1) := by decide +kernel
theorem dX10_bits_12 : decode cX10_bits 12 = .ok (.iload_n 2, 1) := by decide +kernel
theorem dX10_bits_13 : decode cX10_bits 13 = .ok (.iconst 1, 1) := by decide +kernel
theorem dX10_bits_14 : decode cX10_bits 14 = .ok (.isub, 1) := by decide +kernel
theorem dX10_bits_15 : decode cX10_bits 15 = .ok (.iand, 1) := by decide +kernel
theorem dX10_bits_16 : decode cX10_bits 16 = .ok (.istore_n 2, 1) := by decide +kernel
theorem dX10_bits_17 : decode cX10_bits 17 = .ok (.goto (-13), 3) := by decide +kernel
theorem dX10_bits_20 : decode cX10_bits 20 = .ok (.iload_n 1, 1) := by decide +kernel
theorem dX10_bits_21 : decode cX10_bits 21 = .ok (.ireturn, 1) := by decide +kernel
theorem dX10_remember_0 : decode cX10_remember 0 = .ok (.aload_n 0, 1) := by decide +kernel
theorem dX10_remember_1 : decode cX10_remember 1 = .ok (.invokevirtual 420, 3) := by decide +kernel
theorem dX10_remember_4 : decode cX10_remember 4 = .ok (.ifCond .eq 28, 3) := by decide +kernel
theorem dX10_remember_7 : decode cX10_remember 7 = .ok (.aload_n 0, 1) := by decide +kernel
theorem dX10_remember_8 : decode cX10_remember 8 = .ok (.aload_n 0, 1) := by decide +kernel
theorem dX10_remember_9 : decode cX10_remember 9 = .ok (.invokevirtual 377, 3) := by decide +kernel
theorem dX10_remember_12 : decode cX10_remember 12 = .ok (.iload_n 1, 1) := by decide +kernel
theorem dX10_remember_13 : decode cX10_remember 13 = .ok (.iload_n 2, 1) := by decide +kernel
theorem dX10_remember_14 : decode cX10_remember 14 = .ok (.invokevirtual 323, 3) := by decide +kernel
theorem dX10_remember_17 : decode cX10_remember 17 = .ok (.ifCond .eq 15, 3) := by decide +kernel
theorem dX10_remember_20 : decode cX10_remember 20 = .ok (.iload_n 3, 1) := by decide +kernel
theorem dX10_remember_21 : decode cX10_remember 21 = .ok (.i2l, 1) := by decide +kernel
theorem dX10_remember_22 : decode cX10_remember 22 = .ok (.lconst 1, 1) := by decide +kernel
theorem dX10_remember_23 : decode cX10_remember 23 = .ok (.ldc2_w 386, 3) := by decide +kernel
theorem dX10_remember_26 : decode cX10_remember 26 = .ok (.invokestatic 144, 3) := by decide +kernel
theorem dX10_remember_29 : decode cX10_remember 29 = .ok (.ifCond .ne 5, 3) := by decide +kernel
theorem dX10_remember_32 : decode cX10_remember 32 = .ok (.iconst (-1), 1) := by decide +kernel
theorem dX10_remember_33 : decode cX10_remember 33 = .ok (.ireturn, 1) := by decide +kernel
theorem dX10_remember_34 : decode cX10_remember 34 = .ok (.aload_n 0, 1) := by decide +kernel
theorem dX10_remember_35 : decode cX10_remember 35 = .ok (.aload_n 0, 1) := by decide +kernel
theorem dX10_remember_36 : decode cX10_remember 36 = .ok (.getfield 78, 3) := by decide +kernel
theorem dX10_remember_39 : decode cX10_remember 39 = .ok (.sipush 1390, 3) := by decide +kernel
theorem dX10_remember_42 : decode cX10_remember 42 = .ok (.iaload, 1) := by decide +kernel
theorem dX10_remember_43 : decode cX10_remember 43 = .ok (.putfield 490, 3) := by decide +kernel
theorem dX10_remember_46 : decode cX10_remember 46 = .ok (.aload_n 0, 1) := by decide +kernel
theorem dX10_remember_47 : decode cX10_remember 47 = .ok (.aload_n 0, 1) := by decide +kernel
theorem dX10_remember_48 : decode cX10_remember 48 = .ok (.getfield 78, 3) := by decide +kernel
theorem dX10_remember_51 : decode cX10_remember 51 = .ok (.sipush 1391, 3) := by decide +kernel
theorem dX10_remember_54 : decode cX10_remember 54 = .ok (.iaload, 1) := by decide +kernel
theorem dX10_remember_55 : decode cX10_remember 55 = .ok (.putfield 493, 3) := by decide +kernel
theorem dX10_remember_58 : decode cX10_remember 58 = .ok (.iconst 0, 1) := by decide +kernel
theorem dX10_remember_59 : decode cX10_remember 59 = .ok (.istore 4, 2) := by decide +kernel
theorem dX10_remember_61 : decode cX10_remember 61 = .ok (.iload 4, 2) := by decide +kernel
theorem dX10_remember_63 : decode cX10_remember 63 = .ok (.iconst 5, 1) := by decide +kernel
theorem dX10_remember_64 : decode cX10_remember 64 = .ok (.if_icmp .ge 72, 3) := by decide +kernel
theorem dX10_remember_67 : decode cX10_remember 67 = .ok (.iconst 0, 1) := by decide +kernel
theorem dX10_remember_68 : decode cX10_remember 68 = .ok (.istore 5, 2) := by decide +kernel
theorem dX10_remember_70 : decode cX10_remember 70 = .ok (.iload 5, 2) := by decide +kernel
theorem dX10_remember_72 : decode cX10_remember 72 = .ok (.bipush 16, 2) := by decide +kernel
theorem dX10_remember_74 : decode cX10_remember 74 = .ok (.if_icmp .ge 56, 3) := by decide +kernel
theorem dX10_remember_77 : decode cX10_remember 77 = .ok (.iload 5, 2) := by decide +kernel
theorem dX10_remember_79 : decode cX10_remember 79 = .ok (.invokestatic 496, 3) := by decide +kernel
theorem dX10_remember_82 : decode cX10_remember 82 = .ok (.iload 4, 2) := by decide +kernel
theorem dX10_remember_84 : decode cX10_remember 84 = .ok (.if_icmp .eq 6, 3) := by decide +kernel
theorem dX10_remember_87 : decode cX10_remember 87 = .ok (.goto 37, 3) := by decide +kernel
theorem dX10_remember_90 : decode cX10_remember 90 = .ok (.aload_n 0, 1) := by decide +kernel
theorem dX10_remember_91 : decode cX10_remember 91 = .ok (.iload 5, 2) := by decide +kernel
theorem dX10_remember_93 : decode cX10_remember 93 = .ok (.invokevirtual 499, 3) := by decide +kernel
theorem dX10_remember_96 : decode cX10_remember 96 = .ok (.aload_n 0, 1) := by decide +kernel
theorem dX10_remember_97 : decode cX10_remember 97 = .ok (.aload_n 0, 1) := by decide +kernel
theorem dX10_remember_98 : decode cX10_remember 98 = .ok (.getfield 81, 3) := by decide +kernel
theorem dX10_remember_101 : decode cX10_remember 101 = .ok (.iconst 0, 1) := by decide +kernel
theorem dX10_remember_102 : decode cX10_remember 102 = .ok (.bipush 12, 2) := by decide +kernel
theorem dX10_remember_104 : decode cX10_remember 104 = .ok (.iload_n 2, 1) := by decide +kernel
theorem dX10_remember_105 : decode cX10_remember 105 = .ok (.imul, 1) := by decide +kernel
theorem dX10_remember_106 : decode cX10_remember 106 = .ok (.iload_n 1, 1) := by decide +kernel
theorem dX10_remember_107 : decode cX10_remember 107 = .ok (.iadd, 1) := by decide +kernel
theorem dX10_remember_108 : decode cX10_remember 108 = .ok (.invokevirtual 447, 3) := by decide +kernel
theorem dX10_remember_111 : decode cX10_remember 111 = .ok (.ldc2_w 418, 3) := by decide +kernel
theorem dX10_remember_114 : decode cX10_remember 114 = .ok (.ldiv, 1) := by decide +kernel
theorem dX10_remember_115 : decode cX10_remember 115 = .ok (.iload_n 3, 1) := by decide +kernel
theorem dX10_remember_116 : decode cX10_remember 116 = .ok (.i2l, 1) := by decide +kernel
theorem dX10_remember_117 : decode cX10_remember 117 = .ok (.lcmp, 1) := by decide +kernel
theorem dX10_remember_118 : decode cX10_remember 118 = .ok (.ifCond .lt 6, 3) := by decide +kernel
theorem dX10_remember_121 : decode cX10_remember 121 = .ok (.iload 5, 2) := by decide +kernel
theorem dX10_remember_123 : decode cX10_remember 123 = .ok (.ireturn, 1) := by decide +kernel
theorem dX10_remember_124 : decode cX10_remember 124 = .ok (.iinc 5 1, 3) := by decide +kernel
theorem dX10_remember_127 : decode cX10_remember 127 = .ok (.goto (-57), 3) := by decide +kernel
theorem dX10_remember_130 : decode cX10_remember 130 = .ok (.iinc 4 1, 3) := by decide +kernel
theorem dX10_remember_133 : decode cX10_remember 133 = .ok (.goto (-72), 3) := by decide +kernel
theorem dX10_remember_136 : decode cX10_remember 136 = .ok (.bipush (-2), 2) := by decide +kernel
theorem dX10_remember_138 : decode cX10_remember 138 = .ok (.ireturn, 1) := by decide +kernel
theorem dX10_tells_0 : decode cX10_tells 0 = .ok (.aload_n 0, 1) := by decide +kernel
theorem dX10_tells_1 : decode cX10_tells 1 = .ok (.invokevirtual 420, 3) := by decide +kernel
theorem dX10_tells_4 : decode cX10_tells 4 = .ok (.ifCond .ne 5, 3) := by decide +kernel
theorem dX10_tells_7 : decode cX10_tells 7 = .ok (.iconst (-1), 1) := by decide +kernel
theorem dX10_tells_8 : decode cX10_tells 8 = .ok (.ireturn, 1) := by decide +kernel
theorem dX10_tells_9 : decode cX10_tells 9 = .ok (.lconst 0, 1) := by decide +kernel
theorem dX10_tells_10 : decode cX10_tells 10 = .ok (.lstore_n 1, 1) := by decide +kernel
theorem dX10_tells_11 : decode cX10_tells 11 = .ok (.iconst 0, 1) := by decide +kernel
theorem dX10_tells_12 : decode cX10_tells 12 = .ok (.istore_n 3, 1) := by decide +kernel
theorem dX10_tells_13 : decode cX10_tells 13 = .ok (.iload_n 3, 1) := by decide +kernel
theorem dX10_tells_14 : decode cX10_tells 14 = .ok (.bipush 16, 2) := by decide +kernel
theorem dX10_tells_16 : decode cX10_tells 16 = .ok (.if_icmp .ge 103, 3) := by decide +kernel
theorem dX10_tells_19 : decode cX10_tells 19 = .ok (.lconst 0, 1) := by decide +kernel
theorem dX10_tells_20 : decode cX10_tells 20 = .ok (.lstore 4, 2) := by decide +kernel
theorem dX10_tells_22 : decode cX10_tells 22 = .ok (.iconst 0, 1) := by decide +kernel
theorem dX10_tells_23 : decode cX10_tells 23 = .ok (.istore 6, 2) := by decide +kernel
theorem dX10_tells_25 : decode cX10_tells 25 = .ok (.iload 6, 2) := by decide +kernel
theorem dX10_tells_27 : decode cX10_tells 27 = .ok (.sipush 144, 3) := by decide +kernel
theorem dX10_tells_30 : decode cX10_tells 30 = .ok (.if_icmp .ge 78, 3) := by decide +kernel
theorem dX10_tells_33 : decode cX10_tells 33 = .ok (.aload_n 0, 1) := by decide +kernel
theorem dX10_tells_34 : decode cX10_tells 34 = .ok (.aload_n 0, 1) := by decide +kernel
theorem dX10_tells_35 : decode cX10_tells 35 = .ok (.invokevirtual 377, 3) := by decide +kernel
theorem dX10_tells_38 : decode cX10_tells 38 = .ok (.iconst 2, 1) := by decide +kernel
theorem dX10_tells_39 : decode cX10_tells 39 = .ok (.iload 6, 2) := by decide +kernel
theorem dX10_tells_41 : decode cX10_tells 41 = .ok (.invokevirtual 327, 3) := by decide +kernel
theorem dX10_tells_44 : decode cX10_tells 44 = .ok (.iload_n 3, 1) := by decide +kernel
theorem dX10_tells_45 : decode cX10_tells 45 = .ok (.iconst 2, 1) := by decide +kernel
theorem dX10_tells_46 : decode cX10_tells 46 = .ok (.idiv, 1) := by decide +kernel
theorem dX10_tells_47 : decode cX10_tells 47 = .ok (.if_icmp .ne 35, 3) := by decide +kernel
theorem dX10_tells_50 : decode cX10_tells 50 = .ok (.aload_n 0, 1) := by decide +kernel
theorem dX10_tells_51 : decode cX10_tells 51 = .ok (.aload_n 0, 1) := by decide +kernel
theorem dX10_tells_52 : decode cX10_tells 52 = .ok (.invokevirtual 377, 3) := by decide +kernel
theorem dX10_tells_55 : decode cX10_tells 55 = .ok (.iconst 0, 1) := by decide +kernel
theorem dX10_tells_56 : decode cX10_tells 56 = .ok (.iload 6, 2) := by decide +kernel
theorem dX10_tells_58 : decode cX10_tells 58 = .ok (.invokevirtual 327, 3) := by decide +kernel
theorem dX10_tells_61 : decode cX10_tells 61 = .ok (.iload_n 3, 1) := by decide +kernel
theorem dX10_tells_62 : decode cX10_tells 62 = .ok (.iconst 2, 1) := by decide +kernel
theorem dX10_tells_63 : decode cX10_tells 63 = .ok (.irem, 1) := by decide +kernel
theorem dX10_tells_64 : decode cX10_tells 64 = .ok (.if_icmp .ne 18, 3) := by decide +kernel
theorem dX10_tells_67 : decode cX10_tells 67 = .ok (.aload_n 0, 1) := by decide +kernel
theorem dX10_tells_68 : decode cX10_tells 68 = .ok (.aload_n 0, 1) := by decide +kernel
theorem dX10_tells_69 : decode cX10_tells 69 = .ok (.getfield 78, 3) := by decide +kernel
theorem dX10_tells_72 : decode cX10_tells 72 = .ok (.bipush 6, 2) := by decide +kernel
theorem dX10_tells_74 : decode cX10_tells 74 = .ok (.iload 6, 2) := by decide +kernel
theorem dX10_tells_76 : decode cX10_tells 76 = .ok (.invokevirtual 447, 3) := by decide +kernel
theorem dX10_tells_79 : decode cX10_tells 79 = .ok (.goto 4, 3) := by decide +kernel
theorem dX10_tells_82 : decode cX10_tells 82 = .ok (.lconst 0, 1) := by decide +kernel
theorem dX10_tells_83 : decode cX10_tells 83 = .ok (.lstore 7, 2) := by decide +kernel
theorem dX10_tells_85 : decode cX10_tells 85 = .ok (.lload 7, 2) := by decide +kernel
theorem dX10_tells_87 : decode cX10_tells 87 = .ok (.lload 4, 2) := by decide +kernel
theorem dX10_tells_89 : decode cX10_tells 89 = .ok (.lcmp, 1) := by decide +kernel
theorem dX10_tells_90 : decode cX10_tells 90 = .ok (.ifCond .le 8, 3) := by decide +kernel
theorem dX10_tells_93 : decode cX10_tells 93 = .ok (.lload 7, 2) := by decide +kernel
theorem dX10_tells_95 : decode cX10_tells 95 = .ok (.goto 5, 3) := by decide +kernel
theorem dX10_tells_98 : decode cX10_tells 98 = .ok (.lload 4, 2) := by decide +kernel
theorem dX10_tells_100 : decode cX10_tells 100 = .ok (.lstore 4, 2) := by decide +kernel
theorem dX10_tells_102 : decode cX10_tells 102 = .ok (.iinc 6 1, 3) := by decide +kernel
theorem dX10_tells_105 : decode cX10_tells 105 = .ok (.goto (-80), 3) := by decide +kernel
theorem dX10_tells_108 : decode cX10_tells 108 = .ok (.lload_n 1, 1) := by decide +kernel
theorem dX10_tells_109 : decode cX10_tells 109 = .ok (.lload 4, 2) := by decide +kernel
theorem dX10_tells_111 : decode cX10_tells 111 = .ok (.ladd, 1) := by decide +kernel
theorem dX10_tells_112 : decode cX10_tells 112 = .ok (.lstore_n 1, 1) := by decide +kernel
theorem dX10_tells_113 : decode cX10_tells 113 = .ok (.iinc 3 1, 3) := by decide +kernel
theorem dX10_tells_116 : decode cX10_tells 116 = .ok (.goto (-103), 3) := by decide +kernel
theorem dX10_tells_119 : decode cX10_tells 119 = .ok (.lload_n 1, 1) := by decide +kernel
theorem dX10_tells_120 : decode cX10_tells 120 = .ok (.l2i, 1) := by decide +kernel
theorem dX10_tells_121 : decode cX10_tells 121 = .ok (.ireturn, 1) := by decide +kernel
theorem dX10_aim_0 : decode cX10_aim 0 = .ok (.aload_n 0, 1) := by decide +kernel
theorem dX10_aim_1 : decode cX10_aim 1 = .ok (.invokevirtual 420, 3) := by decide +kernel
theorem dX10_aim_4 : decode cX10_aim 4 = .ok (.ifCond .eq 37, 3) := by decide +kernel
theorem dX10_aim_7 : decode cX10_aim 7 = .ok (.iload_n 1, 1) := by decide +kernel
theorem dX10_aim_8 : decode cX10_aim 8 = .ok (.i2l, 1) := by decide +kernel
theorem dX10_aim_9 : decode cX10_aim 9 = .ok (.lconst 0, 1) := by decide +kernel
theorem dX10_aim_10 : decode cX10_aim 10 = .ok (.lconst 1, 1) := by decide +kernel
theorem dX10_aim_11 : decode cX10_aim 11 = .ok (.invokestatic 144, 3) := by decide +kernel
theorem dX10_aim_14 : decode cX10_aim 14 = .ok (.ifCond .eq 27, 3) := by decide +kernel
theorem dX10_aim_17 : decode cX10_aim 17 = .ok (.iload_n 2, 1) := by decide +kernel
theorem dX10_aim_18 : decode cX10_aim 18 = .ok (.i2l, 1) := by decide +kernel
theorem dX10_aim_19 : decode cX10_aim 19 = .ok (.lconst 0, 1) := by decide +kernel
theorem dX10_aim_20 : decode cX10_aim 20 = .ok (.ldc2_w 488, 3) := by decide +kernel
theorem dX10_aim_23 : decode cX10_aim 23 = .ok (.invokestatic 144, 3) := by decide +kernel
theorem dX10_aim_26 : decode cX10_aim 26 = .ok (.ifCond .eq 15, 3) := by decide +kernel
theorem dX10_aim_29 : decode cX10_aim 29 = .ok (.iload_n 3, 1) := by decide +kernel
theorem dX10_aim_30 : decode cX10_aim 30 = .ok (.i2l, 1) := by decide +kernel
theorem dX10_aim_31 : decode cX10_aim 31 = .ok (.lconst 1, 1) := by decide +kernel
theorem dX10_aim_32 : decode cX10_aim 32 = .ok (.ldc2_w 386, 3) := by decide +kernel
theorem dX10_aim_35 : decode cX10_aim 35 = .ok (.invokestatic 144, 3) := by decide +kernel
theorem dX10_aim_38 : decode cX10_aim 38 = .ok (.ifCond .ne 5, 3) := by decide +kernel
theorem dX10_aim_41 : decode cX10_aim 41 = .ok (.iconst (-1), 1) := by decide +kernel
theorem dX10_aim_42 : decode cX10_aim 42 = .ok (.ireturn, 1) := by decide +kernel
theorem dX10_aim_43 : decode cX10_aim 43 = .ok (.iconst 0, 1) := by decide +kernel
theorem dX10_aim_44 : decode cX10_aim 44 = .ok (.istore 4, 2) := by decide +kernel
theorem dX10_aim_46 : decode cX10_aim 46 = .ok (.iload 4, 2) := by decide +kernel
theorem dX10_aim_48 : decode cX10_aim 48 = .ok (.bipush 12, 2) := by decide +kernel
theorem dX10_aim_50 : decode cX10_aim 50 = .ok (.if_icmp .gt 89, 3) := by decide +kernel
theorem dX10_aim_53 : decode cX10_aim 53 = .ok (.lconst 0, 1) := by decide +kernel
theorem dX10_aim_54 : decode cX10_aim 54 = .ok (.lstore 5, 2) := by decide +kernel
theorem dX10_aim_56 : decode cX10_aim 56 = .ok (.iconst 0, 1) := by decide +kernel
theorem dX10_aim_57 : decode cX10_aim 57 = .ok (.istore 7, 2) := by decide +kernel
theorem dX10_aim_59 : decode cX10_aim 59 = .ok (.iload 7, 2) := by decide +kernel
theorem dX10_aim_61 : decode cX10_aim 61 = .ok (.sipush 144, 3) := by decide +kernel
theorem dX10_aim_64 : decode cX10_aim 64 = .ok (.if_icmp .ge 54, 3) := by decide +kernel
theorem dX10_aim_67 : decode cX10_aim 67 = .ok (.lload 5, 2) := by decide +kernel
theorem dX10_aim_69 : decode cX10_aim 69 = .ok (.iload_n 1, 1) := by decide +kernel
theorem dX10_aim_70 : decode cX10_aim 70 = .ok (.ifCond .ne 11, 3) := by decide +kernel
theorem dX10_aim_73 : decode cX10_aim 73 = .ok (.iload 7, 2) := by decide +kernel
theorem dX10_aim_75 : decode cX10_aim 75 = .ok (.bipush 12, 2) := by decide +kernel
theorem dX10_aim_77 : decode cX10_aim 77 = .ok (.irem, 1) := by decide +kernel
theorem dX10_aim_78 : decode cX10_aim 78 = .ok (.goto 8, 3) := by decide +kernel
theorem dX10_aim_81 : decode cX10_aim 81 = .ok (.iload 7, 2) := by decide +kernel
theorem dX10_aim_83 : decode cX10_aim 83 = .ok (.bipush 12, 2) := by decide +kernel
theorem dX10_aim_85 : decode cX10_aim 85 = .ok (.idiv, 1) := by decide +kernel
theorem dX10_aim_86 : decode cX10_aim 86 = .ok (.iload 4, 2) := by decide +kernel
theorem dX10_aim_88 : decode cX10_aim 88 = .ok (.iadd, 1) := by decide +kernel
theorem dX10_aim_89 : decode cX10_aim 89 = .ok (.iload_n 2, 1) := by decide +kernel
theorem dX10_aim_90 : decode cX10_aim 90 = .ok (.if_icmp .le 18, 3) := by decide +kernel
theorem dX10_aim_93 : decode cX10_aim 93 = .ok (.aload_n 0, 1) := by decide +kernel
theorem dX10_aim_94 : decode cX10_aim 94 = .ok (.aload_n 0, 1) := by decide +kernel
theorem dX10_aim_95 : decode cX10_aim 95 = .ok (.getfield 78, 3) := by decide +kernel
theorem dX10_aim_98 : decode cX10_aim 98 = .ok (.bipush 6, 2) := by decide +kernel
theorem dX10_aim_100 : decode cX10_aim 100 = .ok (.iload 7, 2) := by decide +kernel
theorem dX10_aim_102 : decode cX10_aim 102 = .ok (.invokevirtual 447, 3) := by decide +kernel
theorem dX10_aim_105 : decode cX10_aim 105 = .ok (.goto 4, 3) := by decide +kernel
theorem dX10_aim_108 : decode cX10_aim 108 = .ok (.lconst 0, 1) := by decide +kernel
theorem dX10_aim_109 : decode cX10_aim 109 = .ok (.ladd, 1) := by decide +kernel
theorem dX10_aim_110 : decode cX10_aim 110 = .ok (.lstore 5, 2) := by decide +kernel
theorem dX10_aim_112 : decode cX10_aim 112 = .ok (.iinc 7 1, 3) := by decide +kernel
theorem dX10_aim_115 : decode cX10_aim 115 = .ok (.goto (-56), 3) := by decide +kernel
theorem dX10_aim_118 : decode cX10_aim 118 = .ok (.lload 5, 2) := by decide +kernel
theorem dX10_aim_120 : decode cX10_aim 120 = .ok (.ldc2_w 418, 3) := by decide +kernel
theorem dX10_aim_123 : decode cX10_aim 123 = .ok (.ldiv, 1) := by decide +kernel
theorem dX10_aim_124 : decode cX10_aim 124 = .ok (.iload_n 3, 1) := by decide +kernel
theorem dX10_aim_125 : decode cX10_aim 125 = .ok (.i2l, 1) := by decide +kernel
theorem dX10_aim_126 : decode cX10_aim 126 = .ok (.lcmp, 1) := by decide +kernel
theorem dX10_aim_127 : decode cX10_aim 127 = .ok (.ifCond .lt 6, 3) := by decide +kernel
theorem dX10_aim_130 : decode cX10_aim 130 = .ok (.iload 4, 2) := by decide +kernel
theorem dX10_aim_132 : decode cX10_aim 132 = .ok (.ireturn, 1) := by decide +kernel
theorem dX10_aim_133 : decode cX10_aim 133 = .ok (.iinc 4 1, 3) := by decide +kernel
theorem dX10_aim_136 : decode cX10_aim 136 = .ok (.goto (-90), 3) := by decide +kernel
theorem dX10_aim_139 : decode cX10_aim 139 = .ok (.bipush (-2), 2) := by decide +kernel
theorem dX10_aim_141 : decode cX10_aim 141 = .ok (.ireturn, 1) := by decide +kernel
theorem dX10_look_0 : decode cX10_look 0 = .ok (.aload_n 0, 1) := by decide +kernel
theorem dX10_look_1 : decode cX10_look 1 = .ok (.invokevirtual 420, 3) := by decide +kernel
theorem dX10_look_4 : decode cX10_look 4 = .ok (.ifCond .eq 15, 3) := by decide +kernel
theorem dX10_look_7 : decode cX10_look 7 = .ok (.iload_n 1, 1) := by decide +kernel
theorem dX10_look_8 : decode cX10_look 8 = .ok (.i2l, 1) := by decide +kernel
theorem dX10_look_9 : decode cX10_look 9 = .ok (.lconst 0, 1) := by decide +kernel
theorem dX10_look_10 : decode cX10_look 10 = .ok (.ldc2_w 478, 3) := by decide +kernel
theorem dX10_look_13 : decode cX10_look 13 = .ok (.invokestatic 144, 3) := by decide +kernel
theorem dX10_look_16 : decode cX10_look 16 = .ok (.ifCond .ne 5, 3) := by decide +kernel
theorem dX10_look_19 : decode cX10_look 19 = .ok (.iconst (-1), 1) := by decide +kernel
theorem dX10_look_20 : decode cX10_look 20 = .ok (.ireturn, 1) := by decide +kernel
theorem dX10_look_21 : decode cX10_look 21 = .ok (.aload_n 0, 1) := by decide +kernel
theorem dX10_look_22 : decode cX10_look 22 = .ok (.getfield 90, 3) := by decide +kernel
theorem dX10_look_25 : decode cX10_look 25 = .ok (.iconst 0, 1) := by decide +kernel
theorem dX10_look_26 : decode cX10_look 26 = .ok (.aload_n 0, 1) := by decide +kernel
theorem dX10_look_27 : decode cX10_look 27 = .ok (.aload_n 0, 1) := by decide +kernel
theorem dX10_look_28 : decode cX10_look 28 = .ok (.invokevirtual 377, 3) := by decide +kernel
theorem dX10_look_31 : decode cX10_look 31 = .ok (.invokevirtual 317, 3) := by decide +kernel
theorem dX10_look_34 : decode cX10_look 34 = .ok (.iastore, 1) := by decide +kernel
theorem dX10_look_35 : decode cX10_look 35 = .ok (.aload_n 0, 1) := by decide +kernel
theorem dX10_look_36 : decode cX10_look 36 = .ok (.getfield 87, 3) := by decide +kernel
theorem dX10_look_39 : decode cX10_look 39 = .ok (.iconst 0, 1) := by decide +kernel
theorem dX10_look_40 : decode cX10_look 40 = .ok (.iconst (-1), 1) := by decide +kernel
theorem dX10_look_41 : decode cX10_look 41 = .ok (.iastore, 1) := by decide +kernel
theorem dX10_look_42 : decode cX10_look 42 = .ok (.aload_n 0, 1) := by decide +kernel
theorem dX10_look_43 : decode cX10_look 43 = .ok (.iconst 0, 1) := by decide +kernel
theorem dX10_look_44 : decode cX10_look 44 = .ok (.invokevirtual 502, 3) := by decide +kernel
theorem dX10_look_47 : decode cX10_look 47 = .ok (.lstore_n 2, 1) := by decide +kernel
theorem dX10_look_48 : decode cX10_look 48 = .ok (.iconst 0, 1) := by decide +kernel
theorem dX10_look_49 : decode cX10_look 49 = .ok (.istore 4, 2) := by decide +kernel
theorem dX10_look_51 : decode cX10_look 51 = .ok (.iload 4, 2) := by decide +kernel
theorem dX10_look_53 : decode cX10_look 53 = .ok (.ifCond .lt 114, 3) := by decide +kernel
theorem dX10_look_56 : decode cX10_look 56 = .ok (.aload_n 0, 1) := by decide +kernel
theorem dX10_look_57 : decode cX10_look 57 = .ok (.getfield 87, 3) := by decide +kernel
theorem dX10_look_60 : decode cX10_look 60 = .ok (.iload 4, 2) := by decide +kernel
theorem dX10_look_62 : decode cX10_look 62 = .ok (.dup2, 1) := by decide +kernel
theorem dX10_look_63 : decode cX10_look 63 = .ok (.iaload, 1) := by decide +kernel
theorem dX10_look_64 : decode cX10_look 64 = .ok (.iconst 1, 1) := by decide +kernel
theorem dX10_look_65 : decode cX10_look 65 = .ok (.iadd, 1) := by decide +kernel
theorem dX10_look_66 : decode cX10_look 66 = .ok (.iastore, 1) := by decide +kernel
theorem dX10_look_67 : decode cX10_look 67 = .ok (.iload 4, 2) := by decide +kernel
theorem dX10_look_69 : decode cX10_look 69 = .ok (.iload_n 1, 1) := by decide +kernel
theorem dX10_look_70 : decode cX10_look 70 = .ok (.if_icmp .eq 14, 3) := by decide +kernel
theorem dX10_look_73 : decode cX10_look 73 = .ok (.aload_n 0, 1) := by decide +kernel
theorem dX10_look_74 : decode cX10_look 74 = .ok (.getfield 87, 3) := by decide +kernel
theorem dX10_look_77 : decode cX10_look 77 = .ok (.iload 4, 2) := by decide +kernel
theorem dX10_look_79 : decode cX10_look 79 = .ok (.iaload, 1) := by decide +kernel
theorem dX10_look_80 : decode cX10_look 80 = .ok (.iconst 3, 1) := by decide +kernel
theorem dX10_look_81 : decode cX10_look 81 = .ok (.if_icmp .le 9, 3) := by decide +kernel
theorem dX10_look_84 : decode cX10_look 84 = .ok (.iinc 4 (-1), 3) := by decide +kernel
theorem dX10_look_87 : decode cX10_look 87 = .ok (.goto (-36), 3) := by decide +kernel
theorem dX10_look_90 : decode cX10_look 90 = .ok (.aload_n 0, 1) := by decide +kernel
theorem dX10_look_91 : decode cX10_look 91 = .ok (.aload_n 0, 1) := by decide +kernel
theorem dX10_look_92 : decode cX10_look 92 = .ok (.invokevirtual 377, 3) := by decide +kernel
theorem dX10_look_95 : decode cX10_look 95 = .ok (.aload_n 0, 1) := by decide +kernel
theorem dX10_look_96 : decode cX10_look 96 = .ok (.getfield 90, 3) := by decide +kernel
theorem dX10_look_99 : decode cX10_look 99 = .ok (.iload 4, 2) := by decide +kernel
theorem dX10_look_101 : decode cX10_look 101 = .ok (.iaload, 1) := by decide +kernel
theorem dX10_look_102 : decode cX10_look 102 = .ok (.aload_n 0, 1) := by decide +kernel
theorem dX10_look_103 : decode cX10_look 103 = .ok (.getfield 87, 3) := by decide +kernel
theorem dX10_look_106 : decode cX10_look 106 = .ok (.iload 4, 2) := by decide +kernel
theorem dX10_look_108 : decode cX10_look 108 = .ok (.iaload, 1) := by decide +kernel
theorem dX10_look_109 : decode cX10_look 109 = .ok (.invokevirtual 331, 3) := by decide +kernel
theorem dX10_look_112 : decode cX10_look 112 = .ok (.istore 5, 2) := by decide +kernel
theorem dX10_look_114 : decode cX10_look 114 = .ok (.iload 5, 2) := by decide +kernel
theorem dX10_look_116 : decode cX10_look 116 = .ok (.ifCond .ge 6, 3) := by decide +kernel
theorem dX10_look_119 : decode cX10_look 119 = .ok (.goto (-68), 3) := by decide +kernel
theorem dX10_look_122 : decode cX10_look 122 = .ok (.iinc 4 1, 3) := by decide +kernel
theorem dX10_look_125 : decode cX10_look 125 = .ok (.aload_n 0, 1) := by decide +kernel
theorem dX10_look_126 : decode cX10_look 126 = .ok (.getfield 90, 3) := by decide +kernel
theorem dX10_look_129 : decode cX10_look 129 = .ok (.iload 4, 2) := by decide +kernel
theorem dX10_look_131 : decode cX10_look 131 = .ok (.iload 5, 2) := by decide +kernel
theorem dX10_look_133 : decode cX10_look 133 = .ok (.iastore, 1) := by decide +kernel
theorem dX10_look_134 : decode cX10_look 134 = .ok (.aload_n 0, 1) := by decide +kernel
theorem dX10_look_135 : decode cX10_look 135 = .ok (.getfield 87, 3) := by decide +kernel
theorem dX10_look_138 : decode cX10_look 138 = .ok (.iload 4, 2) := by decide +kernel
theorem dX10_look_140 : decode cX10_look 140 = .ok (.iconst (-1), 1) := by decide +kernel
theorem dX10_look_141 : decode cX10_look 141 = .ok (.iastore, 1) := by decide +kernel
theorem dX10_look_142 : decode cX10_look 142 = .ok (.aload_n 0, 1) := by decide +kernel
theorem dX10_look_143 : decode cX10_look 143 = .ok (.iload 4, 2) := by decide +kernel
theorem dX10_look_145 : decode cX10_look 145 = .ok (.invokevirtual 502, 3) := by decide +kernel
theorem dX10_look_148 : decode cX10_look 148 = .ok (.lstore 6, 2) := by decide +kernel
theorem dX10_look_150 : decode cX10_look 150 = .ok (.lload 6, 2) := by decide +kernel
theorem dX10_look_152 : decode cX10_look 152 = .ok (.lload_n 2, 1) := by decide +kernel
theorem dX10_look_153 : decode cX10_look 153 = .ok (.lcmp, 1) := by decide +kernel
theorem dX10_look_154 : decode cX10_look 154 = .ok (.ifCond .le 8, 3) := by decide +kernel
theorem dX10_look_157 : decode cX10_look 157 = .ok (.lload 6, 2) := by decide +kernel
theorem dX10_look_159 : decode cX10_look 159 = .ok (.goto 4, 3) := by decide +kernel
theorem dX10_look_162 : decode cX10_look 162 = .ok (.lload_n 2, 1) := by decide +kernel
theorem dX10_look_163 : decode cX10_look 163 = .ok (.lstore_n 2, 1) := by decide +kernel
theorem dX10_look_164 : decode cX10_look 164 = .ok (.goto (-113), 3) := by decide +kernel
theorem dX10_look_167 : decode cX10_look 167 = .ok (.lload_n 2, 1) := by decide +kernel
theorem dX10_look_168 : decode cX10_look 168 = .ok (.l2i, 1) := by decide +kernel
theorem dX10_look_169 : decode cX10_look 169 = .ok (.ireturn, 1) := by decide +kernel
theorem dX10_gone_0 : decode cX10_gone 0 = .ok (.lconst 0, 1) := by decide +kernel
theorem dX10_gone_1 : decode cX10_gone 1 = .ok (.lstore_n 2, 1) := by decide +kernel
theorem dX10_gone_2 : decode cX10_gone 2 = .ok (.iconst 0, 1) := by decide +kernel
theorem dX10_gone_3 : decode cX10_gone 3 = .ok (.istore 4, 2) := by decide +kernel
theorem dX10_gone_5 : decode cX10_gone 5 = .ok (.iload 4, 2) := by decide +kernel
theorem dX10_gone_7 : decode cX10_gone 7 = .ok (.iload_n 1, 1) := by decide +kernel
theorem dX10_gone_8 : decode cX10_gone 8 = .ok (.if_icmp .gt 86, 3) := by decide +kernel
theorem dX10_gone_11 : decode cX10_gone 11 = .ok (.iconst 1, 1) := by decide +kernel
theorem dX10_gone_12 : decode cX10_gone 12 = .ok (.istore 5, 2) := by decide +kernel
theorem dX10_gone_14 : decode cX10_gone 14 = .ok (.iconst 0, 1) := by decide +kernel
theorem dX10_gone_15 : decode cX10_gone 15 = .ok (.istore 6, 2) := by decide +kernel
theorem dX10_gone_17 : decode cX10_gone 17 = .ok (.iload 6, 2) := by decide +kernel
theorem dX10_gone_19 : decode cX10_gone 19 = .ok (.iload 4, 2) := by decide +kernel
theorem dX10_gone_21 : decode cX10_gone 21 = .ok (.if_icmp .ge 38, 3) := by decide +kernel
theorem dX10_gone_24 : decode cX10_gone 24 = .ok (.iload 5, 2) := by decide +kernel
theorem dX10_gone_26 : decode cX10_gone 26 = .ok (.ifCond .eq 24, 3) := by decide +kernel
theorem dX10_gone_29 : decode cX10_gone 29 = .ok (.aload_n 0, 1) := by decide +kernel
theorem dX10_gone_30 : decode cX10_gone 30 = .ok (.getfield 90, 3) := by decide +kernel
theorem dX10_gone_33 : decode cX10_gone 33 = .ok (.iload 6, 2) := by decide +kernel
theorem dX10_gone_35 : decode cX10_gone 35 = .ok (.iaload, 1) := by decide +kernel
theorem dX10_gone_36 : decode cX10_gone 36 = .ok (.aload_n 0, 1) := by decide +kernel
theorem dX10_gone_37 : decode cX10_gone 37 = .ok (.getfield 90, 3) := by decide +kernel
theorem dX10_gone_40 : decode cX10_gone 40 = .ok (.iload 4, 2) := by decide +kernel
theorem dX10_gone_42 : decode cX10_gone 42 = .ok (.iaload, 1) := by decide +kernel
theorem dX10_gone_43 : decode cX10_gone 43 = .ok (.if_icmp .eq 7, 3) := by decide +kernel
theorem dX10_gone_46 : decode cX10_gone 46 = .ok (.iconst 1, 1) := by decide +kernel
theorem dX10_gone_47 : decode cX10_gone 47 = .ok (.goto 4, 3) := by decide +kernel
theorem dX10_gone_50 : decode cX10_gone 50 = .ok (.iconst 0, 1) := by decide +kernel
theorem dX10_gone_51 : decode cX10_gone 51 = .ok (.istore 5, 2) := by decide +kernel
theorem dX10_gone_53 : decode cX10_gone 53 = .ok (.iinc 6 1, 3) := by decide +kernel
theorem dX10_gone_56 : decode cX10_gone 56 = .ok (.goto (-39), 3) := by decide +kernel
theorem dX10_gone_59 : decode cX10_gone 59 = .ok (.lload_n 2, 1) := by decide +kernel
theorem dX10_gone_60 : decode cX10_gone 60 = .ok (.iload 5, 2) := by decide +kernel
theorem dX10_gone_62 : decode cX10_gone 62 = .ok (.ifCond .eq 23, 3) := by decide +kernel
theorem dX10_gone_65 : decode cX10_gone 65 = .ok (.aload_n 0, 1) := by decide +kernel
theorem dX10_gone_66 : decode cX10_gone 66 = .ok (.aload_n 0, 1) := by decide +kernel
theorem dX10_gone_67 : decode cX10_gone 67 = .ok (.getfield 78, 3) := by decide +kernel
theorem dX10_gone_70 : decode cX10_gone 70 = .ok (.bipush 6, 2) := by decide +kernel
theorem dX10_gone_72 : decode cX10_gone 72 = .ok (.aload_n 0, 1) := by decide +kernel
theorem dX10_gone_73 : decode cX10_gone 73 = .ok (.getfield 90, 3) := by decide +kernel
theorem dX10_gone_76 : decode cX10_gone 76 = .ok (.iload 4, 2) := by decide +kernel
theorem dX10_gone_78 : decode cX10_gone 78 = .ok (.iaload, 1) := by decide +kernel
theorem dX10_gone_79 : decode cX10_gone 79 = .ok (.invokevirtual 447, 3) := by decide +kernel
theorem dX10_gone_82 : decode cX10_gone 82 = .ok (.goto 4, 3) := by decide +kernel
theorem dX10_gone_85 : decode cX10_gone 85 = .ok (.lconst 0, 1) := by decide +kernel
theorem dX10_gone_86 : decode cX10_gone 86 = .ok (.ladd, 1) := by decide +kernel
theorem dX10_gone_87 : decode cX10_gone 87 = .ok (.lstore_n 2, 1) := by decide +kernel
theorem dX10_gone_88 : decode cX10_gone 88 = .ok (.iinc 4 1, 3) := by decide +kernel
theorem dX10_gone_91 : decode cX10_gone 91 = .ok (.goto (-86), 3) := by decide +kernel
theorem dX10_gone_94 : decode cX10_gone 94 = .ok (.lload_n 2, 1) := by decide +kernel
theorem dX10_gone_95 : decode cX10_gone 95 = .ok (.lreturn, 1) := by decide +kernel
theorem dX10_post_0 : decode cX10_post 0 = .ok (.iload_n 1, 1) := by decide +kernel
theorem dX10_post_1 : decode cX10_post 1 = .ok (.i2l, 1) := by decide +kernel
theorem dX10_post_2 : decode cX10_post 2 = .ok (.lconst 0, 1) := by decide +kernel
theorem dX10_post_3 : decode cX10_post 3 = .ok (.ldc2_w 440, 3) := by decide +kernel
theorem dX10_post_6 : decode cX10_post 6 = .ok (.invokestatic 144, 3) := by decide +kernel
theorem dX10_post_9 : decode cX10_post 9 = .ok (.ifCond .eq 27, 3) := by decide +kernel
theorem dX10_post_12 : decode cX10_post 12 = .ok (.iload_n 2, 1) := by decide +kernel
theorem dX10_post_13 : decode cX10_post 13 = .ok (.i2l, 1) := by decide +kernel
theorem dX10_post_14 : decode cX10_post 14 = .ok (.lconst 0, 1) := by decide +kernel
theorem dX10_post_15 : decode cX10_post 15 = .ok (.ldc2_w 488, 3) := by decide +kernel
theorem dX10_post_18 : decode cX10_post 18 = .ok (.invokestatic 144, 3) := by decide +kernel
theorem dX10_post_21 : decode cX10_post 21 = .ok (.ifCond .eq 15, 3) := by decide +kernel
theorem dX10_post_24 : decode cX10_post 24 = .ok (.iload_n 3, 1) := by decide +kernel
theorem dX10_post_25 : decode cX10_post 25 = .ok (.i2l, 1) := by decide +kernel
theorem dX10_post_26 : decode cX10_post 26 = .ok (.lconst 0, 1) := by decide +kernel
theorem dX10_post_27 : decode cX10_post 27 = .ok (.ldc2_w 488, 3) := by decide +kernel
theorem dX10_post_30 : decode cX10_post 30 = .ok (.invokestatic 144, 3) := by decide +kernel
theorem dX10_post_33 : decode cX10_post 33 = .ok (.ifCond .ne 5, 3) := by decide +kernel
theorem dX10_post_36 : decode cX10_post 36 = .ok (.iconst 0, 1) := by decide +kernel
theorem dX10_post_37 : decode cX10_post 37 = .ok (.ireturn, 1) := by decide +kernel
theorem dX10_post_38 : decode cX10_post 38 = .ok (.aload_n 0, 1) := by decide +kernel
theorem dX10_post_39 : decode cX10_post 39 = .ok (.getfield 78, 3) := by decide +kernel
theorem dX10_post_42 : decode cX10_post 42 = .ok (.sipush 1382, 3) := by decide +kernel
theorem dX10_post_45 : decode cX10_post 45 = .ok (.iload_n 1, 1) := by decide +kernel
theorem dX10_post_46 : decode cX10_post 46 = .ok (.iadd, 1) := by decide +kernel
theorem dX10_post_47 : decode cX10_post 47 = .ok (.bipush 12, 2) := by decide +kernel
theorem dX10_post_49 : decode cX10_post 49 = .ok (.iload_n 3, 1) := by decide +kernel
theorem dX10_post_50 : decode cX10_post 50 = .ok (.imul, 1) := by decide +kernel
theorem dX10_post_51 : decode cX10_post 51 = .ok (.iload_n 2, 1) := by decide +kernel
theorem dX10_post_52 : decode cX10_post 52 = .ok (.iadd, 1) := by decide +kernel
theorem dX10_post_53 : decode cX10_post 53 = .ok (.iastore, 1) := by decide +kernel
theorem dX10_post_54 : decode cX10_post 54 = .ok (.iconst 1, 1) := by decide +kernel
theorem dX10_post_55 : decode cX10_post 55 = .ok (.ireturn, 1) := by decide +kernel
theorem dX10_parish_0 : decode cX10_parish 0 = .ok (.aload_n 0, 1) := by decide +kernel
theorem dX10_parish_1 : decode cX10_parish 1 = .ok (.iconst 0, 1) := by decide +kernel
theorem dX10_parish_2 : decode cX10_parish 2 = .ok (.iload_n 1, 1) := by decide +kernel
theorem dX10_parish_3 : decode cX10_parish 3 = .ok (.invokevirtual 337, 3) := by decide +kernel
theorem dX10_parish_6 : decode cX10_parish 6 = .ok (.ifCond .eq 15, 3) := by decide +kernel
theorem dX10_parish_9 : decode cX10_parish 9 = .ok (.iload_n 2, 1) := by decide +kernel
theorem dX10_parish_10 : decode cX10_parish 10 = .ok (.i2l, 1) := by decide +kernel
theorem dX10_parish_11 : decode cX10_parish 11 = .ok (.lconst 0, 1) := by decide +kernel
theorem dX10_parish_12 : decode cX10_parish 12 = .ok (.ldc2_w 445, 3) := by decide +kernel
theorem dX10_parish_15 : decode cX10_parish 15 = .ok (.invokestatic 144, 3) := by decide +kernel
theorem dX10_parish_18 : decode cX10_parish 18 = .ok (.ifCond .ne 5, 3) := by decide +kernel
theorem dX10_parish_21 : decode cX10_parish 21 = .ok (.iconst (-1), 1) := by decide +kernel
theorem dX10_parish_22 : decode cX10_parish 22 = .ok (.ireturn, 1) := by decide +kernel
theorem dX10_parish_23 : decode cX10_parish 23 = .ok (.iconst 0, 1) := by decide +kernel
theorem dX10_parish_24 : decode cX10_parish 24 = .ok (.istore_n 3, 1) := by decide +kernel
theorem dX10_parish_25 : decode cX10_parish 25 = .ok (.iconst 0, 1) := by decide +kernel
theorem dX10_parish_26 : decode cX10_parish 26 = .ok (.istore 4, 2) := by decide +kernel
theorem dX10_parish_28 : decode cX10_parish 28 = .ok (.iload 4, 2) := by decide +kernel
theorem dX10_parish_30 : decode cX10_parish 30 = .ok (.sipush 144, 3) := by decide +kernel
theorem dX10_parish_33 : decode cX10_parish 33 = .ok (.if_icmp .ge 17, 3) := by decide +kernel
theorem dX10_parish_36 : decode cX10_parish 36 = .ok (.aload_n 0, 1) := by decide +kernel
theorem dX10_parish_37 : decode cX10_parish 37 = .ok (.getfield 93, 3) := by decide +kernel
theorem dX10_parish_40 : decode cX10_parish 40 = .ok (.iload 4, 2) := by decide +kernel
theorem dX10_parish_42 : decode cX10_parish 42 = .ok (.iconst 0, 1) := by decide +kernel
theorem dX10_parish_43 : decode cX10_parish 43 = .ok (.iastore, 1) := by decide +kernel
theorem dX10_parish_44 : decode cX10_parish 44 = .ok (.iinc 4 1, 3) := by decide +kernel
theorem dX10_parish_47 : decode cX10_parish 47 = .ok (.goto (-19), 3) := by decide +kernel
theorem dX10_parish_50 : decode cX10_parish 50 = .ok (.iconst 0, 1) := by decide +kernel
theorem dX10_parish_51 : decode cX10_parish 51 = .ok (.istore 4, 2) := by decide +kernel
theorem dX10_parish_53 : decode cX10_parish 53 = .ok (.iload 4, 2) := by decide +kernel
theorem dX10_parish_55 : decode cX10_parish 55 = .ok (.bipush 8, 2) := by decide +kernel
theorem dX10_parish_57 : decode cX10_parish 57 = .ok (.if_icmp .ge 123, 3) := by decide +kernel
theorem dX10_parish_60 : decode cX10_parish 60 = .ok (.aload_n 0, 1) := by decide +kernel
theorem dX10_parish_61 : decode cX10_parish 61 = .ok (.getfield 78, 3) := by decide +kernel
theorem dX10_parish_64 : decode cX10_parish 64 = .ok (.sipush 1382, 3) := by decide +kernel
theorem dX10_parish_67 : decode cX10_parish 67 = .ok (.iload 4, 2) := by decide +kernel
theorem dX10_parish_69 : decode cX10_parish 69 = .ok (.iadd, 1) := by decide +kernel
theorem dX10_parish_70 : decode cX10_parish 70 = .ok (.iaload, 1) := by decide +kernel
theorem dX10_parish_71 : decode cX10_parish 71 = .ok (.istore 5, 2) := by decide +kernel
theorem dX10_parish_73 : decode cX10_parish 73 = .ok (.iload 5, 2) := by decide +kernel
theorem dX10_parish_75 : decode cX10_parish 75 = .ok (.iconst (-1), 1) := by decide +kernel
theorem dX10_parish_76 : decode cX10_parish 76 = .ok (.if_icmp .ne 6, 3) := by decide +kernel
theorem dX10_parish_79 : decode cX10_parish 79 = .ok (.goto 95, 3) := by decide +kernel
theorem dX10_parish_82 : decode cX10_parish 82 = .ok (.iload_n 3, 1) := by decide +kernel
theorem dX10_parish_83 : decode cX10_parish 83 = .ok (.iconst 1, 1) := by decide +kernel
theorem dX10_parish_84 : decode cX10_parish 84 = .ok (.iload 4, 2) := by decide +kernel
theorem dX10_parish_86 : decode cX10_parish 86 = .ok (.ishl, 1) := by decide +kernel
theorem dX10_parish_87 : decode cX10_parish 87 = .ok (.ior, 1) := by decide +kernel
theorem dX10_parish_88 : decode cX10_parish 88 = .ok (.istore_n 3, 1) := by decide +kernel
theorem dX10_parish_89 : decode cX10_parish 89 = .ok (.aload_n 0, 1) := by decide +kernel
theorem dX10_parish_90 : decode cX10_parish 90 = .ok (.iload_n 1, 1) := by decide +kernel
theorem dX10_parish_91 : decode cX10_parish 91 = .ok (.iload 5, 2) := by decide +kernel
theorem dX10_parish_93 : decode cX10_parish 93 = .ok (.bipush 12, 2) := by decide +kernel
theorem dX10_parish_95 : decode cX10_parish 95 = .ok (.irem, 1) := by decide +kernel
theorem dX10_parish_96 : decode cX10_parish 96 = .ok (.iload 5, 2) := by decide +kernel
theorem dX10_parish_98 : decode cX10_parish 98 = .ok (.bipush 12, 2) := by decide +kernel
theorem dX10_parish_100 : decode cX10_parish 100 = .ok (.idiv, 1) := by decide +kernel
theorem dX10_parish_101 : decode cX10_parish 101 = .ok (.iconst 0, 1) := by decide +kernel
theorem dX10_parish_102 : decode cX10_parish 102 = .ok (.invokevirtual 369, 3) := by decide +kernel
theorem dX10_parish_105 : decode cX10_parish 105 = .ok (.ifCond .ne 6, 3) := by decide +kernel
theorem dX10_parish_108 : decode cX10_parish 108 = .ok (.goto 66, 3) := by decide +kernel
theorem dX10_parish_111 : decode cX10_parish 111 = .ok (.aload_n 0, 1) := by decide +kernel
theorem dX10_parish_112 : decode cX10_parish 112 = .ok (.iload_n 1, 1) := by decide +kernel
theorem dX10_parish_113 : decode cX10_parish 113 = .ok (.iload 5, 2) := by decide +kernel
theorem dX10_parish_115 : decode cX10_parish 115 = .ok (.invokevirtual 320, 3) := by decide +kernel
theorem dX10_parish_118 : decode cX10_parish 118 = .ok (.iconst 0, 1) := by decide +kernel
theorem dX10_parish_119 : decode cX10_parish 119 = .ok (.istore 6, 2) := by decide +kernel
theorem dX10_parish_121 : decode cX10_parish 121 = .ok (.iload 6, 2) := by decide +kernel
theorem dX10_parish_123 : decode cX10_parish 123 = .ok (.sipush 144, 3) := by decide +kernel
theorem dX10_parish_126 : decode cX10_parish 126 = .ok (.if_icmp .ge 48, 3) := by decide +kernel
theorem dX10_parish_129 : decode cX10_parish 129 = .ok (.aload_n 0, 1) := by decide +kernel
theorem dX10_parish_130 : decode cX10_parish 130 = .ok (.getfield 93, 3) := by decide +kernel
theorem dX10_parish_133 : decode cX10_parish 133 = .ok (.iload 6, 2) := by decide +kernel
theorem dX10_parish_135 : decode cX10_parish 135 = .ok (.dup2, 1) := by decide +kernel
theorem dX10_parish_136 : decode cX10_parish 136 = .ok (.iaload, 1) := by decide +kernel
theorem dX10_parish_137 : decode cX10_parish 137 = .ok (.aload_n 0, 1) := by decide +kernel
theorem dX10_parish_138 : decode cX10_parish 138 = .ok (.getfield 68, 3) := by decide +kernel
theorem dX10_parish_141 : decode cX10_parish 141 = .ok (.iload 6, 2) := by decide +kernel
theorem dX10_parish_143 : decode cX10_parish 143 = .ok (.iaload, 1) := by decide +kernel
theorem dX10_parish_144 : decode cX10_parish 144 = .ok (.ifCond .lt 21, 3) := by decide +kernel
theorem dX10_parish_147 : decode cX10_parish 147 = .ok (.aload_n 0, 1) := by decide +kernel
theorem dX10_parish_148 : decode cX10_parish 148 = .ok (.getfield 68, 3) := by decide +kernel
theorem dX10_parish_151 : decode cX10_parish 151 = .ok (.iload 6, 2) := by decide +kernel
theorem dX10_parish_153 : decode cX10_parish 153 = .ok (.iaload, 1) := by decide +kernel
theorem dX10_parish_154 : decode cX10_parish 154 = .ok (.iload_n 2, 1) := by decide +kernel
theorem dX10_parish_155 : decode cX10_parish 155 = .ok (.if_icmp .gt 10, 3) := by decide +kernel
theorem dX10_parish_158 : decode cX10_parish 158 = .ok (.iconst 1, 1) := by decide +kernel
theorem dX10_parish_159 : decode cX10_parish 159 = .ok (.iload 4, 2) := by decide +kernel
theorem dX10_parish_161 : decode cX10_parish 161 = .ok (.ishl, 1) := by decide +kernel
theorem dX10_parish_162 : decode cX10_parish 162 = .ok (.goto 4, 3) := by decide +kernel
theorem dX10_parish_165 : decode cX10_parish 165 = .ok (.iconst 0, 1) := by decide +kernel
theorem dX10_parish_166 : decode cX10_parish 166 = .ok (.ior, 1) := by decide +kernel
theorem dX10_parish_167 : decode cX10_parish 167 = .ok (.iastore, 1) := by decide +kernel
theorem dX10_parish_168 : decode cX10_parish 168 = .ok (.iinc 6 1, 3) := by decide +kernel
theorem dX10_parish_171 : decode cX10_parish 171 = .ok (.goto (-50), 3) := by decide +kernel
theorem dX10_parish_174 : decode cX10_parish 174 = .ok (.iinc 4 1, 3) := by decide +kernel
theorem dX10_parish_177 : decode cX10_parish 177 = .ok (.goto (-124), 3) := by decide +kernel
theorem dX10_parish_180 : decode cX10_parish 180 = .ok (.bipush (-2), 2) := by decide +kernel
theorem dX10_parish_182 : decode cX10_parish 182 = .ok (.istore 4, 2) := by decide +kernel
theorem dX10_parish_184 : decode cX10_parish 184 = .ok (.iconst 0, 1) := by decide +kernel
theorem dX10_parish_185 : decode cX10_parish 185 = .ok (.istore 5, 2) := by decide +kernel
theorem dX10_parish_187 : decode cX10_parish 187 = .ok (.iload 5, 2) := by decide +kernel
theorem dX10_parish_189 : decode cX10_parish 189 = .ok (.sipush 256, 3) := by decide +kernel
theorem dX10_parish_192 : decode cX10_parish 192 = .ok (.if_icmp .ge 50, 3) := by decide +kernel
theorem dX10_parish_195 : decode cX10_parish 195 = .ok (.iload 5, 2) := by decide +kernel
theorem dX10_parish_197 : decode cX10_parish 197 = .ok (.iload_n 3, 1) := by decide +kernel
theorem dX10_parish_198 : decode cX10_parish 198 = .ok (.iconst (-1), 1) := by decide +kernel
theorem dX10_parish_199 : decode cX10_parish 199 = .ok (.ixor, 1) := by decide +kernel
theorem dX10_parish_200 : decode cX10_parish 200 = .ok (.iand, 1) := by decide +kernel
theorem dX10_parish_201 : decode cX10_parish 201 = .ok (.ifCond .ne 35, 3) := by decide +kernel
theorem dX10_parish_204 : decode cX10_parish 204 = .ok (.iload 4, 2) := by decide +kernel
theorem dX10_parish_206 : decode cX10_parish 206 = .ok (.ifCond .lt 16, 3) := by decide +kernel
theorem dX10_parish_209 : decode cX10_parish 209 = .ok (.iload 5, 2) := by decide +kernel
theorem dX10_parish_211 : decode cX10_parish 211 = .ok (.invokestatic 496, 3) := by decide +kernel
theorem dX10_parish_214 : decode cX10_parish 214 = .ok (.iload 4, 2) := by decide +kernel
theorem dX10_parish_216 : decode cX10_parish 216 = .ok (.invokestatic 496, 3) := by decide +kernel
theorem dX10_parish_219 : decode cX10_parish 219 = .ok (.if_icmp .ge 17, 3) := by decide +kernel
theorem dX10_parish_222 : decode cX10_parish 222 = .ok (.aload_n 0, 1) := by decide +kernel
theorem dX10_parish_223 : decode cX10_parish 223 = .ok (.iload_n 1, 1) := by decide +kernel
theorem dX10_parish_224 : decode cX10_parish 224 = .ok (.iload 5, 2) := by decide +kernel
theorem dX10_parish_226 : decode cX10_parish 226 = .ok (.invokevirtual 506, 3) := by decide +kernel
theorem dX10_parish_229 : decode cX10_parish 229 = .ok (.ifCond .eq 7, 3) := by decide +kernel
theorem dX10_parish_232 : decode cX10_parish 232 = .ok (.iload 5, 2) := by decide +kernel
theorem dX10_parish_234 : decode cX10_parish 234 = .ok (.istore 4, 2) := by decide +kernel
theorem dX10_parish_236 : decode cX10_parish 236 = .ok (.iinc 5 1, 3) := by decide +kernel
theorem dX10_parish_239 : decode cX10_parish 239 = .ok (.goto (-52), 3) := by decide +kernel
theorem dX10_parish_242 : decode cX10_parish 242 = .ok (.iload 4, 2) := by decide +kernel
theorem dX10_parish_244 : decode cX10_parish 244 = .ok (.ireturn, 1) := by decide +kernel
theorem dX10_covers_0 : decode cX10_covers 0 = .ok (.iconst 0, 1) := by decide +kernel
theorem dX10_covers_1 : decode cX10_covers 1 = .ok (.istore_n 3, 1) := by decide +kernel
theorem dX10_covers_2 : decode cX10_covers 2 = .ok (.iload_n 3, 1) := by decide +kernel
theorem dX10_covers_3 : decode cX10_covers 3 = .ok (.sipush 144, 3) := by decide +kernel
theorem dX10_covers_6 : decode cX10_covers 6 = .ok (.if_icmp .ge 71, 3) := by decide +kernel
theorem dX10_covers_9 : decode cX10_covers 9 = .ok (.aload_n 0, 1) := by decide +kernel
theorem dX10_covers_10 : decode cX10_covers 10 = .ok (.iload_n 1, 1) := by decide +kernel
theorem dX10_covers_11 : decode cX10_covers 11 = .ok (.iload_n 3, 1) := by decide +kernel
theorem dX10_covers_12 : decode cX10_covers 12 = .ok (.bipush 12, 2) := by decide +kernel
theorem dX10_covers_14 : decode cX10_covers 14 = .ok (.irem, 1) := by decide +kernel
theorem dX10_covers_15 : decode cX10_covers 15 = .ok (.iload_n 3, 1) := by decide +kernel
theorem dX10_covers_16 : decode cX10_covers 16 = .ok (.bipush 12, 2) := by decide +kernel
theorem dX10_covers_18 : decode cX10_covers 18 = .ok (.idiv, 1) := by decide +kernel
theorem dX10_covers_19 : decode cX10_covers 19 = .ok (.invokevirtual 323, 3) := by decide +kernel
theorem dX10_covers_22 : decode cX10_covers 22 = .ok (.ifCond .eq 28, 3) := by decide +kernel
theorem dX10_covers_25 : decode cX10_covers 25 = .ok (.aload_n 0, 1) := by decide +kernel
theorem dX10_covers_26 : decode cX10_covers 26 = .ok (.iload_n 1, 1) := by decide +kernel
theorem dX10_covers_27 : decode cX10_covers 27 = .ok (.iconst 0, 1) := by decide +kernel
theorem dX10_covers_28 : decode cX10_covers 28 = .ok (.iload_n 3, 1) := by decide +kernel
theorem dX10_covers_29 : decode cX10_covers 29 = .ok (.invokevirtual 327, 3) := by decide +kernel
theorem dX10_covers_32 : decode cX10_covers 32 = .ok (.iconst 1, 1) := by decide +kernel
theorem dX10_covers_33 : decode cX10_covers 33 = .ok (.if_icmp .ne 17, 3) := by decide +kernel
theorem dX10_covers_36 : decode cX10_covers 36 = .ok (.aload_n 0, 1) := by decide +kernel
theorem dX10_covers_37 : decode cX10_covers 37 = .ok (.iload_n 1, 1) := by decide +kernel
theorem dX10_covers_38 : decode cX10_covers 38 = .ok (.iconst 1, 1) := by decide +kernel
theorem dX10_covers_39 : decode cX10_covers 39 = .ok (.iload_n 3, 1) := by decide +kernel
theorem dX10_covers_40 : decode cX10_covers 40 = .ok (.invokevirtual 327, 3) := by decide +kernel
theorem dX10_covers_43 : decode cX10_covers 43 = .ok (.ifCond .ne 7, 3) := by decide +kernel
theorem dX10_covers_46 : decode cX10_covers 46 = .ok (.iconst 1, 1) := by decide +kernel
theorem dX10_covers_47 : decode cX10_covers 47 = .ok (.goto 4, 3) := by decide +kernel
theorem dX10_covers_50 : decode cX10_covers 50 = .ok (.iconst 0, 1) := by decide +kernel
theorem dX10_covers_51 : decode cX10_covers 51 = .ok (.istore 4, 2) := by decide +kernel
theorem dX10_covers_53 : decode cX10_covers 53 = .ok (.iload 4, 2) := by decide +kernel
theorem dX10_covers_55 : decode cX10_covers 55 = .ok (.ifCond .eq 16, 3) := by decide +kernel
theorem dX10_covers_58 : decode cX10_covers 58 = .ok (.aload_n 0, 1) := by decide +kernel
theorem dX10_covers_59 : decode cX10_covers 59 = .ok (.getfield 93, 3) := by decide +kernel
theorem dX10_covers_62 : decode cX10_covers 62 = .ok (.iload_n 3, 1) := by decide +kernel
theorem dX10_covers_63 : decode cX10_covers 63 = .ok (.iaload, 1) := by decide +kernel
theorem dX10_covers_64 : decode cX10_covers 64 = .ok (.iload_n 2, 1) := by decide +kernel
theorem dX10_covers_65 : decode cX10_covers 65 = .ok (.iand, 1) := by decide +kernel
theorem dX10_covers_66 : decode cX10_covers 66 = .ok (.ifCond .ne 5, 3) := by decide +kernel
theorem dX10_covers_69 : decode cX10_covers 69 = .ok (.iconst 0, 1) := by decide +kernel
theorem dX10_covers_70 : decode cX10_covers 70 = .ok (.ireturn, 1) := by decide +kernel
theorem dX10_covers_71 : decode cX10_covers 71 = .ok (.iinc 3 1, 3) := by decide +kernel
theorem dX10_covers_74 : decode cX10_covers 74 = .ok (.goto (-72), 3) := by decide +kernel
theorem dX10_covers_77 : decode cX10_covers 77 = .ok (.iconst 1, 1) := by decide +kernel
theorem dX10_covers_78 : decode cX10_covers 78 = .ok (.ireturn, 1) := by decide +kernel
theorem dX10_draw_0 : decode cX10_draw 0 = .ok (.aload_n 0, 1) := by decide +kernel
theorem dX10_draw_1 : decode cX10_draw 1 = .ok (.aload_n 0, 1) := by decide +kernel
theorem dX10_draw_2 : decode cX10_draw 2 = .ok (.getfield 509, 3) := by decide +kernel
theorem dX10_draw_5 : decode cX10_draw 5 = .ok (.ldc2_w 512, 3) := by decide +kernel
theorem dX10_draw_8 : decode cX10_draw 8 = .ok (.lmul, 1) := by decide +kernel
theorem dX10_draw_9 : decode cX10_draw 9 = .ok (.ldc2_w 514, 3) := by decide +kernel
theorem dX10_draw_12 : decode cX10_draw 12 = .ok (.ladd, 1) := by decide +kernel
theorem dX10_draw_13 : decode cX10_draw 13 = .ok (.ldc2_w 516, 3) := by decide +kernel
theorem dX10_draw_16 : decode cX10_draw 16 = .ok (.lrem, 1) := by decide +kernel
theorem dX10_draw_17 : decode cX10_draw 17 = .ok (.putfield 509, 3) := by decide +kernel
theorem dX10_draw_20 : decode cX10_draw 20 = .ok (.aload_n 0, 1) := by decide +kernel
theorem dX10_draw_21 : decode cX10_draw 21 = .ok (.getfield 509, 3) := by decide +kernel
theorem dX10_draw_24 : decode cX10_draw 24 = .ok (.ldc2_w 518, 3) := by decide +kernel
theorem dX10_draw_27 : decode cX10_draw 27 = .ok (.ldiv, 1) := by decide +kernel
theorem dX10_draw_28 : decode cX10_draw 28 = .ok (.l2i, 1) := by decide +kernel
theorem dX10_draw_29 : decode cX10_draw 29 = .ok (.ireturn, 1) := by decide +kernel
theorem dX10_ruled_0 : decode cX10_ruled 0 = .ok (.aload_n 0, 1) := by decide +kernel
theorem dX10_ruled_1 : decode cX10_ruled 1 = .ok (.getfield 75, 3) := by decide +kernel
theorem dX10_ruled_4 : decode cX10_ruled 4 = .ok (.iconst 0, 1) := by decide +kernel
theorem dX10_ruled_5 : decode cX10_ruled 5 = .ok (.aload_n 0, 1) := by decide +kernel
theorem dX10_ruled_6 : decode cX10_ruled 6 = .ok (.aload_n 0, 1) := by decide +kernel
theorem dX10_ruled_7 : decode cX10_ruled 7 = .ok (.getfield 81, 3) := by decide +kernel
theorem dX10_ruled_10 : decode cX10_ruled 10 = .ok (.iconst 0, 1) := by decide +kernel
theorem dX10_ruled_11 : decode cX10_ruled 11 = .ok (.invokevirtual 414, 3) := by decide +kernel
theorem dX10_ruled_14 : decode cX10_ruled 14 = .ok (.ldc2_w 418, 3) := by decide +kernel
theorem dX10_ruled_17 : decode cX10_ruled 17 = .ok (.ldiv, 1) := by decide +kernel
theorem dX10_ruled_18 : decode cX10_ruled 18 = .ok (.lastore, 1) := by decide +kernel
theorem dX10_ruled_19 : decode cX10_ruled 19 = .ok (.aload_n 0, 1) := by decide +kernel
theorem dX10_ruled_20 : decode cX10_ruled 20 = .ok (.getfield 75, 3) := by decide +kernel
theorem dX10_ruled_23 : decode cX10_ruled 23 = .ok (.iconst 1, 1) := by decide +kernel
theorem dX10_ruled_24 : decode cX10_ruled 24 = .ok (.aload_n 0, 1) := by decide +kernel
theorem dX10_ruled_25 : decode cX10_ruled 25 = .ok (.aload_n 0, 1) := by decide +kernel
theorem dX10_ruled_26 : decode cX10_ruled 26 = .ok (.getfield 81, 3) := by decide +kernel
theorem dX10_ruled_29 : decode cX10_ruled 29 = .ok (.iconst 0, 1) := by decide +kernel
theorem dX10_ruled_30 : decode cX10_ruled 30 = .ok (.aload_n 0, 1) := by decide +kernel
theorem dX10_ruled_31 : decode cX10_ruled 31 = .ok (.aload_n 0, 1) := by decide +kernel
theorem dX10_ruled_32 : decode cX10_ruled 32 = .ok (.invokevirtual 377, 3) := by decide +kernel
theorem dX10_ruled_35 : decode cX10_ruled 35 = .ok (.invokevirtual 317, 3) := by decide +kernel
theorem dX10_ruled_38 : decode cX10_ruled 38 = .ok (.invokevirtual 447, 3) := by decide +kernel
theorem dX10_ruled_41 : decode cX10_ruled 41 = .ok (.ldc2_w 418, 3) := by decide +kernel
theorem dX10_ruled_44 : decode cX10_ruled 44 = .ok (.ldiv, 1) := by decide +kernel
theorem dX10_ruled_45 : decode cX10_ruled 45 = .ok (.lastore, 1) := by decide +kernel
theorem dX10_ruled_46 : decode cX10_ruled 46 = .ok (.aload_n 0, 1) := by decide +kernel
theorem dX10_ruled_47 : decode cX10_ruled 47 = .ok (.getfield 75, 3) := by decide +kernel
theorem dX10_ruled_50 : decode cX10_ruled 50 = .ok (.iconst 2, 1) := by decide +kernel
theorem dX10_ruled_51 : decode cX10_ruled 51 = .ok (.aload_n 0, 1) := by decide +kernel
theorem dX10_ruled_52 : decode cX10_ruled 52 = .ok (.aload_n 0, 1) := by decide +kernel
theorem dX10_ruled_53 : decode cX10_ruled 53 = .ok (.getfield 81, 3) := by decide +kernel
theorem dX10_ruled_56 : decode cX10_ruled 56 = .ok (.iconst 0, 1) := by decide +kernel
theorem dX10_ruled_57 : decode cX10_ruled 57 = .ok (.aload_n 0, 1) := by decide +kernel
theorem dX10_ruled_58 : decode cX10_ruled 58 = .ok (.aload_n 0, 1) := by decide +kernel
theorem dX10_ruled_59 : decode cX10_ruled 59 = .ok (.getfield 81, 3) := by decide +kernel
theorem dX10_ruled_62 : decode cX10_ruled 62 = .ok (.iconst 0, 1) := by decide +kernel
theorem dX10_ruled_63 : decode cX10_ruled 63 = .ok (.invokevirtual 455, 3) := by decide +kernel
theorem dX10_ruled_66 : decode cX10_ruled 66 = .ok (.invokevirtual 447, 3) := by decide +kernel
theorem dX10_ruled_69 : decode cX10_ruled 69 = .ok (.ldc2_w 418, 3) := by decide +kernel
theorem dX10_ruled_72 : decode cX10_ruled 72 = .ok (.ldiv, 1) := by decide +kernel
theorem dX10_ruled_73 : decode cX10_ruled 73 = .ok (.lastore, 1) := by decide +kernel
theorem dX10_ruled_74 : decode cX10_ruled 74 = .ok (.aload_n 0, 1) := by decide +kernel
theorem dX10_ruled_75 : decode cX10_ruled 75 = .ok (.getfield 75, 3) := by decide +kernel
theorem dX10_ruled_78 : decode cX10_ruled 78 = .ok (.iconst 3, 1) := by decide +kernel
theorem dX10_ruled_79 : decode cX10_ruled 79 = .ok (.aload_n 0, 1) := by decide +kernel
theorem dX10_ruled_80 : decode cX10_ruled 80 = .ok (.getfield 520, 3) := by decide +kernel
theorem dX10_ruled_83 : decode cX10_ruled 83 = .ok (.i2l, 1) := by decide +kernel
theorem dX10_ruled_84 : decode cX10_ruled 84 = .ok (.lastore, 1) := by decide +kernel
theorem dX10_ruled_85 : decode cX10_ruled 85 = .ok (.aload_n 0, 1) := by decide +kernel
theorem dX10_ruled_86 : decode cX10_ruled 86 = .ok (.getfield 75, 3) := by decide +kernel
theorem dX10_ruled_89 : decode cX10_ruled 89 = .ok (.iconst 4, 1) := by decide +kernel
theorem dX10_ruled_90 : decode cX10_ruled 90 = .ok (.aload_n 0, 1) := by decide +kernel
theorem dX10_ruled_91 : decode cX10_ruled 91 = .ok (.getfield 523, 3) := by decide +kernel
theorem dX10_ruled_94 : decode cX10_ruled 94 = .ok (.i2l, 1) := by decide +kernel
theorem dX10_ruled_95 : decode cX10_ruled 95 = .ok (.lastore, 1) := by decide +kernel
theorem dX10_ruled_96 : decode cX10_ruled 96 = .ok (.aload_n 0, 1) := by decide +kernel
theorem dX10_ruled_97 : decode cX10_ruled 97 = .ok (.getfield 75, 3) := by decide +kernel
theorem dX10_ruled_100 : decode cX10_ruled 100 = .ok (.iconst 5, 1) := by decide +kernel
theorem dX10_ruled_101 : decode cX10_ruled 101 = .ok (.aload_n 0, 1) := by decide +kernel
theorem dX10_ruled_102 : decode cX10_ruled 102 = .ok (.getfield 526, 3) := by decide +kernel
theorem dX10_ruled_105 : decode cX10_ruled 105 = .ok (.i2l, 1) := by decide +kernel
theorem dX10_ruled_106 : decode cX10_ruled 106 = .ok (.lastore, 1) := by decide +kernel
theorem dX10_ruled_107 : decode cX10_ruled 107 = .ok (.aload_n 0, 1) := by decide +kernel
theorem dX10_ruled_108 : decode cX10_ruled 108 = .ok (.getfield 75, 3) := by decide +kernel
theorem dX10_ruled_111 : decode cX10_ruled 111 = .ok (.bipush 6, 2) := by decide +kernel
theorem dX10_ruled_113 : decode cX10_ruled 113 = .ok (.aload_n 0, 1) := by decide +kernel
theorem dX10_ruled_114 : decode cX10_ruled 114 = .ok (.getfield 529, 3) := by decide +kernel
theorem dX10_ruled_117 : decode cX10_ruled 117 = .ok (.i2l, 1) := by decide +kernel
theorem dX10_ruled_118 : decode cX10_ruled 118 = .ok (.lastore, 1) := by decide +kernel
theorem dX10_ruled_119 : decode cX10_ruled 119 = .ok (.aload_n 0, 1) := by decide +kernel
theorem dX10_ruled_120 : decode cX10_ruled 120 = .ok (.getfield 75, 3) := by decide +kernel
theorem dX10_ruled_123 : decode cX10_ruled 123 = .ok (.bipush 7, 2) := by decide +kernel
theorem dX10_ruled_125 : decode cX10_ruled 125 = .ok (.aload_n 0, 1) := by decide +kernel
theorem dX10_ruled_126 : decode cX10_ruled 126 = .ok (.getfield 532, 3) := by decide +kernel
theorem dX10_ruled_129 : decode cX10_ruled 129 = .ok (.i2l, 1) := by decide +kernel
theorem dX10_ruled_130 : decode cX10_ruled 130 = .ok (.lastore, 1) := by decide +kernel
theorem dX10_ruled_131 : decode cX10_ruled 131 = .ok (.aload_n 0, 1) := by decide +kernel
theorem dX10_ruled_132 : decode cX10_ruled 132 = .ok (.getfield 75, 3) := by decide +kernel
theorem dX10_ruled_135 : decode cX10_ruled 135 = .ok (.bipush 8, 2) := by decide +kernel
theorem dX10_ruled_137 : decode cX10_ruled 137 = .ok (.aload_n 0, 1) := by decide +kernel
theorem dX10_ruled_138 : decode cX10_ruled 138 = .ok (.getfield 462, 3) := by decide +kernel
theorem dX10_ruled_141 : decode cX10_ruled 141 = .ok (.i2l, 1) := by decide +kernel
theorem dX10_ruled_142 : decode cX10_ruled 142 = .ok (.lastore, 1) := by decide +kernel
theorem dX10_ruled_143 : decode cX10_ruled 143 = .ok (.aload_n 0, 1) := by decide +kernel
theorem dX10_ruled_144 : decode cX10_ruled 144 = .ok (.getfield 75, 3) := by decide +kernel
theorem dX10_ruled_147 : decode cX10_ruled 147 = .ok (.bipush 9, 2) := by decide +kernel
theorem dX10_ruled_149 : decode cX10_ruled 149 = .ok (.aload_n 0, 1) := by decide +kernel
theorem dX10_ruled_150 : decode cX10_ruled 150 = .ok (.getfield 535, 3) := by decide +kernel
theorem dX10_ruled_153 : decode cX10_ruled 153 = .ok (.i2l, 1) := by decide +kernel
theorem dX10_ruled_154 : decode cX10_ruled 154 = .ok (.lastore, 1) := by decide +kernel
theorem dX10_ruled_155 : decode cX10_ruled 155 = .ok (.aload_n 0, 1) := by decide +kernel
theorem dX10_ruled_156 : decode cX10_ruled 156 = .ok (.iload_n 1, 1) := by decide +kernel
theorem dX10_ruled_157 : decode cX10_ruled 157 = .ok (.invokevirtual 383, 3) := by decide +kernel
theorem dX10_ruled_160 : decode cX10_ruled 160 = .ok (.istore_n 2, 1) := by decide +kernel
theorem dX10_ruled_161 : decode cX10_ruled 161 = .ok (.iload_n 2, 1) := by decide +kernel
theorem dX10_ruled_162 : decode cX10_ruled 162 = .ok (.ifCond .ge 7, 3) := by decide +kernel
theorem dX10_ruled_165 : decode cX10_ruled 165 = .ok (.iconst 4, 1) := by decide +kernel
theorem dX10_ruled_166 : decode cX10_ruled 166 = .ok (.goto 16, 3) := by decide +kernel
theorem dX10_ruled_169 : decode cX10_ruled 169 = .ok (.aload_n 0, 1) := by decide +kernel
theorem dX10_ruled_170 : decode cX10_ruled 170 = .ok (.getfield 23, 3) := by decide +kernel
theorem dX10_ruled_173 : decode cX10_ruled 173 = .ok (.bipush 60, 2) := by decide +kernel
theorem dX10_ruled_175 : decode cX10_ruled 175 = .ok (.iload_n 1, 1) := by decide +kernel
theorem dX10_ruled_176 : decode cX10_ruled 176 = .ok (.imul, 1) := by decide +kernel
theorem dX10_ruled_177 : decode cX10_ruled 177 = .ok (.iconst 5, 1) := by decide +kernel
theorem dX10_ruled_178 : decode cX10_ruled 178 = .ok (.iload_n 2, 1) := by decide +kernel
theorem dX10_ruled_179 : decode cX10_ruled 179 = .ok (.imul, 1) := by decide +kernel
theorem dX10_ruled_180 : decode cX10_ruled 180 = .ok (.iadd, 1) := by decide +kernel
theorem dX10_ruled_181 : decode cX10_ruled 181 = .ok (.iaload, 1) := by decide +kernel
theorem dX10_ruled_182 : decode cX10_ruled 182 = .ok (.ireturn, 1) := by decide +kernel
theorem dX10_goesTruly_0 : decode cX10_goesTruly 0 = .ok (.aload_n 0, 1) := by decide +kernel
theorem dX10_goesTruly_1 : decode cX10_goesTruly 1 = .ok (.aload_n 0, 1) := by decide +kernel
theorem dX10_goesTruly_2 : decode cX10_goesTruly 2 = .ok (.getfield 538, 3) := by decide +kernel
theorem dX10_goesTruly_5 : decode cX10_goesTruly 5 = .ok (.aload_n 0, 1) := by decide +kernel
theorem dX10_goesTruly_6 : decode cX10_goesTruly 6 = .ok (.getfield 462, 3) := by decide +kernel
theorem dX10_goesTruly_9 : decode cX10_goesTruly 9 = .ok (.invokevirtual 395, 3) := by decide +kernel
theorem dX10_goesTruly_12 : decode cX10_goesTruly 12 = .ok (.istore_n 1, 1) := by decide +kernel
theorem dX10_goesTruly_13 : decode cX10_goesTruly 13 = .ok (.aload_n 0, 1) := by decide +kernel
theorem dX10_goesTruly_14 : decode cX10_goesTruly 14 = .ok (.iload_n 1, 1) := by decide +kernel
theorem dX10_goesTruly_15 : decode cX10_goesTruly 15 = .ok (.invokevirtual 398, 3) := by decide +kernel
theorem dX10_goesTruly_18 : decode cX10_goesTruly 18 = .ok (.istore_n 2, 1) := by decide +kernel
theorem dX10_goesTruly_19 : decode cX10_goesTruly 19 = .ok (.aload_n 0, 1) := by decide +kernel
theorem dX10_goesTruly_20 : decode cX10_goesTruly 20 = .ok (.invokevirtual 541, 3) := by decide +kernel
theorem dX10_goesTruly_23 : decode cX10_goesTruly 23 = .ok (.sipush 1000, 3) := by decide +kernel
theorem dX10_goesTruly_26 : decode cX10_goesTruly 26 = .ok (.irem, 1) := by decide +kernel
theorem dX10_goesTruly_27 : decode cX10_goesTruly 27 = .ok (.istore_n 3, 1) := by decide +kernel
theorem dX10_goesTruly_28 : decode cX10_goesTruly 28 = .ok (.iload_n 3, 1) := by decide +kernel
theorem dX10_goesTruly_29 : decode cX10_goesTruly 29 = .ok (.iload_n 1, 1) := by decide +kernel
theorem dX10_goesTruly_30 : decode cX10_goesTruly 30 = .ok (.if_icmp .ge 10, 3) := by decide +kernel
theorem dX10_goesTruly_33 : decode cX10_goesTruly 33 = .ok (.aload_n 0, 1) := by decide +kernel
theorem dX10_goesTruly_34 : decode cX10_goesTruly 34 = .ok (.getfield 544, 3) := by decide +kernel
theorem dX10_goesTruly_37 : decode cX10_goesTruly 37 = .ok (.goto 42, 3) := by decide +kernel
theorem dX10_goesTruly_40 : decode cX10_goesTruly 40 = .ok (.iload_n 3, 1) := by decide +kernel
theorem dX10_goesTruly_41 : decode cX10_goesTruly 41 = .ok (.iload_n 1, 1) := by decide +kernel
theorem dX10_goesTruly_42 : decode cX10_goesTruly 42 = .ok (.iload_n 2, 1) := by decide +kernel
theorem dX10_goesTruly_43 : decode cX10_goesTruly 43 = .ok (.iadd, 1) := by decide +kernel
theorem dX10_goesTruly_44 : decode cX10_goesTruly 44 = .ok (.if_icmp .ge 14, 3) := by decide +kernel
theorem dX10_goesTruly_47 : decode cX10_goesTruly 47 = .ok (.aload_n 0, 1) := by decide +kernel
theorem dX10_goesTruly_48 : decode cX10_goesTruly 48 = .ok (.getfield 544, 3) := by decide +kernel
theorem dX10_goesTruly_51 : decode cX10_goesTruly 51 = .ok (.iconst 3, 1) := by decide +kernel
theorem dX10_goesTruly_52 : decode cX10_goesTruly 52 = .ok (.iadd, 1) := by decide +kernel
theorem dX10_goesTruly_53 : decode cX10_goesTruly 53 = .ok (.iconst 4, 1) := by decide +kernel
theorem dX10_goesTruly_54 : decode cX10_goesTruly 54 = .ok (.irem, 1) := by decide +kernel
theorem dX10_goesTruly_55 : decode cX10_goesTruly 55 = .ok (.goto 24, 3) := by decide +kernel
theorem dX10_goesTruly_58 : decode cX10_goesTruly 58 = .ok (.iload_n 3, 1) := by decide +kernel
theorem dX10_goesTruly_59 : decode cX10_goesTruly 59 = .ok (.iload_n 1, 1) := by decide +kernel
theorem dX10_goesTruly_60 : decode cX10_goesTruly 60 = .ok (.iconst 2, 1) := by decide +kernel
theorem dX10_goesTruly_61 : decode cX10_goesTruly 61 = .ok (.iload_n 2, 1) := by decide +kernel
theorem dX10_goesTruly_62 : decode cX10_goesTruly 62 = .ok (.imul, 1) := by decide +kernel
theorem dX10_goesTruly_63 : decode cX10_goesTruly 63 = .ok (.iadd, 1) := by decide +kernel
theorem dX10_goesTruly_64 : decode cX10_goesTruly 64 = .ok (.if_icmp .ge 14, 3) := by decide +kernel
theorem dX10_goesTruly_67 : decode cX10_goesTruly 67 = .ok (.aload_n 0, 1) := by decide +kernel
theorem dX10_goesTruly_68 : decode cX10_goesTruly 68 = .ok (.getfield 544, 3) := by decide +kernel
theorem dX10_goesTruly_71 : decode cX10_goesTruly 71 = .ok (.iconst 1, 1) := by decide +kernel
theorem dX10_goesTruly_72 : decode cX10_goesTruly 72 = .ok (.iadd, 1) := by decide +kernel
theorem dX10_goesTruly_73 : decode cX10_goesTruly 73 = .ok (.iconst 4, 1) := by decide +kernel
theorem dX10_goesTruly_74 : decode cX10_goesTruly 74 = .ok (.irem, 1) := by decide +kernel
theorem dX10_goesTruly_75 : decode cX10_goesTruly 75 = .ok (.goto 4, 3) := by decide +kernel
theorem dX10_goesTruly_78 : decode cX10_goesTruly 78 = .ok (.iconst (-1), 1) := by decide +kernel
theorem dX10_goesTruly_79 : decode cX10_goesTruly 79 = .ok (.istore 4, 2) := by decide +kernel
theorem dX10_goesTruly_81 : decode cX10_goesTruly 81 = .ok (.iload 4, 2) := by decide +kernel
theorem dX10_goesTruly_83 : decode cX10_goesTruly 83 = .ok (.iconst (-1), 1) := by decide +kernel
theorem dX10_goesTruly_84 : decode cX10_goesTruly 84 = .ok (.if_icmp .ne 7, 3) := by decide +kernel
theorem dX10_goesTruly_87 : decode cX10_goesTruly 87 = .ok (.iconst (-1), 1) := by decide +kernel
theorem dX10_goesTruly_88 : decode cX10_goesTruly 88 = .ok (.goto 17, 3) := by decide +kernel
theorem dX10_goesTruly_91 : decode cX10_goesTruly 91 = .ok (.aload_n 0, 1) := by decide +kernel
theorem dX10_goesTruly_92 : decode cX10_goesTruly 92 = .ok (.aload_n 0, 1) := by decide +kernel
theorem dX10_goesTruly_93 : decode cX10_goesTruly 93 = .ok (.invokevirtual 377, 3) := by decide +kernel
theorem dX10_goesTruly_96 : decode cX10_goesTruly 96 = .ok (.aload_n 0, 1) := by decide +kernel
theorem dX10_goesTruly_97 : decode cX10_goesTruly 97 = .ok (.getfield 538, 3) := by decide +kernel
theorem dX10_goesTruly_100 : decode cX10_goesTruly 100 = .ok (.iload 4, 2) := by decide +kernel
theorem dX10_goesTruly_102 : decode cX10_goesTruly 102 = .ok (.invokevirtual 331, 3) := by decide +kernel
theorem dX10_goesTruly_105 : decode cX10_goesTruly 105 = .ok (.istore 5, 2) := by decide +kernel
theorem dX10_goesTruly_107 : decode cX10_goesTruly 107 = .ok (.iload 5, 2) := by decide +kernel
theorem dX10_goesTruly_109 : decode cX10_goesTruly 109 = .ok (.ifCond .ge 4, 3) := by decide +kernel
theorem dX10_goesTruly_112 : decode cX10_goesTruly 112 = .ok (.return_, 1) := by decide +kernel
theorem dX10_goesTruly_113 : decode cX10_goesTruly 113 = .ok (.aload_n 0, 1) := by decide +kernel
theorem dX10_goesTruly_114 : decode cX10_goesTruly 114 = .ok (.iload 5, 2) := by decide +kernel
theorem dX10_goesTruly_116 : decode cX10_goesTruly 116 = .ok (.putfield 538, 3) := by decide +kernel
theorem dX10_goesTruly_119 : decode cX10_goesTruly 119 = .ok (.aload_n 0, 1) := by decide +kernel
theorem dX10_goesTruly_120 : decode cX10_goesTruly 120 = .ok (.iload 4, 2) := by decide +kernel
theorem dX10_goesTruly_122 : decode cX10_goesTruly 122 = .ok (.putfield 544, 3) := by decide +kernel
theorem dX10_goesTruly_125 : decode cX10_goesTruly 125 = .ok (.return_, 1) := by decide +kernel
theorem dX10_senses_0 : decode cX10_senses 0 = .ok (.aload_n 0, 1) := by decide +kernel
theorem dX10_senses_1 : decode cX10_senses 1 = .ok (.aload_n 0, 1) := by decide +kernel
theorem dX10_senses_2 : decode cX10_senses 2 = .ok (.invokevirtual 377, 3) := by decide +kernel
theorem dX10_senses_5 : decode cX10_senses 5 = .ok (.iconst 2, 1) := by decide +kernel
theorem dX10_senses_6 : decode cX10_senses 6 = .ok (.aload_n 0, 1) := by decide +kernel
theorem dX10_senses_7 : decode cX10_senses 7 = .ok (.getfield 538, 3) := by decide +kernel
theorem dX10_senses_10 : decode cX10_senses 10 = .ok (.invokevirtual 327, 3) := by decide +kernel
theorem dX10_senses_13 : decode cX10_senses 13 = .ok (.istore_n 1, 1) := by decide +kernel
theorem dX10_senses_14 : decode cX10_senses 14 = .ok (.aload_n 0, 1) := by decide +kernel
theorem dX10_senses_15 : decode cX10_senses 15 = .ok (.invokevirtual 541, 3) := by decide +kernel
theorem dX10_senses_18 : decode cX10_senses 18 = .ok (.sipush 1000, 3) := by decide +kernel
theorem dX10_senses_21 : decode cX10_senses 21 = .ok (.irem, 1) := by decide +kernel
theorem dX10_senses_22 : decode cX10_senses 22 = .ok (.aload_n 0, 1) := by decide +kernel
theorem dX10_senses_23 : decode cX10_senses 23 = .ok (.getfield 32, 3) := by decide +kernel
theorem dX10_senses_26 : decode cX10_senses 26 = .ok (.aload_n 0, 1) := by decide +kernel
theorem dX10_senses_27 : decode cX10_senses 27 = .ok (.invokevirtual 380, 3) := by decide +kernel
theorem dX10_senses_30 : decode cX10_senses 30 = .ok (.iaload, 1) := by decide +kernel
theorem dX10_senses_31 : decode cX10_senses 31 = .ok (.if_icmp .ge 7, 3) := by decide +kernel
theorem dX10_senses_34 : decode cX10_senses 34 = .ok (.iload_n 1, 1) := by decide +kernel
theorem dX10_senses_35 : decode cX10_senses 35 = .ok (.goto 17, 3) := by decide +kernel
theorem dX10_senses_38 : decode cX10_senses 38 = .ok (.iload_n 1, 1) := by decide +kernel
theorem dX10_senses_39 : decode cX10_senses 39 = .ok (.iconst 1, 1) := by decide +kernel
theorem dX10_senses_40 : decode cX10_senses 40 = .ok (.iadd, 1) := by decide +kernel
theorem dX10_senses_41 : decode cX10_senses 41 = .ok (.aload_n 0, 1) := by decide +kernel
theorem dX10_senses_42 : decode cX10_senses 42 = .ok (.invokevirtual 541, 3) := by decide +kernel
theorem dX10_senses_45 : decode cX10_senses 45 = .ok (.bipush 7, 2) := by decide +kernel
theorem dX10_senses_47 : decode cX10_senses 47 = .ok (.irem, 1) := by decide +kernel
theorem dX10_senses_48 : decode cX10_senses 48 = .ok (.iadd, 1) := by decide +kernel
theorem dX10_senses_49 : decode cX10_senses 49 = .ok (.bipush 8, 2) := by decide +kernel
theorem dX10_senses_51 : decode cX10_senses 51 = .ok (.irem, 1) := by decide +kernel
theorem dX10_senses_52 : decode cX10_senses 52 = .ok (.istore_n 2, 1) := by decide +kernel
theorem dX10_senses_53 : decode cX10_senses 53 = .ok (.aload_n 0, 1) := by decide +kernel
theorem dX10_senses_54 : decode cX10_senses 54 = .ok (.aload_n 0, 1) := by decide +kernel
theorem dX10_senses_55 : decode cX10_senses 55 = .ok (.getfield 81, 3) := by decide +kernel
theorem dX10_senses_58 : decode cX10_senses 58 = .ok (.iconst 0, 1) := by decide +kernel
theorem dX10_senses_59 : decode cX10_senses 59 = .ok (.iconst 5, 1) := by decide +kernel
theorem dX10_senses_60 : decode cX10_senses 60 = .ok (.iload_n 2, 1) := by decide +kernel
theorem dX10_senses_61 : decode cX10_senses 61 = .ok (.iconst 0, 1) := by decide +kernel
theorem dX10_senses_62 : decode cX10_senses 62 = .ok (.aload_n 0, 1) := by decide +kernel
theorem dX10_senses_63 : decode cX10_senses 63 = .ok (.getfield 462, 3) := by decide +kernel
theorem dX10_senses_66 : decode cX10_senses 66 = .ok (.invokevirtual 436, 3) := by decide +kernel
theorem dX10_senses_69 : decode cX10_senses 69 = .ok (.ifCond .eq 8, 3) := by decide +kernel
theorem dX10_senses_72 : decode cX10_senses 72 = .ok (.aload_n 0, 1) := by decide +kernel
theorem dX10_senses_73 : decode cX10_senses 73 = .ok (.iload_n 2, 1) := by decide +kernel
theorem dX10_senses_74 : decode cX10_senses 74 = .ok (.putfield 520, 3) := by decide +kernel
theorem dX10_senses_77 : decode cX10_senses 77 = .ok (.aload_n 0, 1) := by decide +kernel
theorem dX10_senses_78 : decode cX10_senses 78 = .ok (.aload_n 0, 1) := by decide +kernel
theorem dX10_senses_79 : decode cX10_senses 79 = .ok (.invokevirtual 377, 3) := by decide +kernel
theorem dX10_senses_82 : decode cX10_senses 82 = .ok (.iconst 3, 1) := by decide +kernel
theorem dX10_senses_83 : decode cX10_senses 83 = .ok (.aload_n 0, 1) := by decide +kernel
theorem dX10_senses_84 : decode cX10_senses 84 = .ok (.getfield 538, 3) := by decide +kernel
theorem dX10_senses_87 : decode cX10_senses 87 = .ok (.invokevirtual 327, 3) := by decide +kernel
theorem dX10_senses_90 : decode cX10_senses 90 = .ok (.istore_n 3, 1) := by decide +kernel
theorem dX10_senses_91 : decode cX10_senses 91 = .ok (.aload_n 0, 1) := by decide +kernel
theorem dX10_senses_92 : decode cX10_senses 92 = .ok (.invokevirtual 541, 3) := by decide +kernel
theorem dX10_senses_95 : decode cX10_senses 95 = .ok (.sipush 1000, 3) := by decide +kernel
theorem dX10_senses_98 : decode cX10_senses 98 = .ok (.irem, 1) := by decide +kernel
theorem dX10_senses_99 : decode cX10_senses 99 = .ok (.aload_n 0, 1) := by decide +kernel
theorem dX10_senses_100 : decode cX10_senses 100 = .ok (.aload_n 0, 1) := by decide +kernel
theorem dX10_senses_101 : decode cX10_senses 101 = .ok (.getfield 462, 3) := by decide +kernel
theorem dX10_senses_104 : decode cX10_senses 104 = .ok (.invokevirtual 405, 3) := by decide +kernel
theorem dX10_senses_107 : decode cX10_senses 107 = .ok (.if_icmp .ge 7, 3) := by decide +kernel
theorem dX10_senses_110 : decode cX10_senses 110 = .ok (.iload_n 3, 1) := by decide +kernel
theorem dX10_senses_111 : decode cX10_senses 111 = .ok (.goto 17, 3) := by decide +kernel
theorem dX10_senses_114 : decode cX10_senses 114 = .ok (.iload_n 3, 1) := by decide +kernel
theorem dX10_senses_115 : decode cX10_senses 115 = .ok (.iconst 1, 1) := by decide +kernel
theorem dX10_senses_116 : decode cX10_senses 116 = .ok (.iadd, 1) := by decide +kernel
theorem dX10_senses_117 : decode cX10_senses 117 = .ok (.aload_n 0, 1) := by decide +kernel
theorem dX10_senses_118 : decode cX10_senses 118 = .ok (.invokevirtual 541, 3) := by decide +kernel
theorem dX10_senses_121 : decode cX10_senses 121 = .ok (.bipush 9, 2) := by decide +kernel
theorem dX10_senses_123 : decode cX10_senses 123 = .ok (.irem, 1) := by decide +kernel
theorem dX10_senses_124 : decode cX10_senses 124 = .ok (.iadd, 1) := by decide +kernel
theorem dX10_senses_125 : decode cX10_senses 125 = .ok (.bipush 10, 2) := by decide +kernel
theorem dX10_senses_127 : decode cX10_senses 127 = .ok (.irem, 1) := by decide +kernel
theorem dX10_senses_128 : decode cX10_senses 128 = .ok (.istore_n 2, 1) := by decide +kernel
theorem dX10_senses_129 : decode cX10_senses 129 = .ok (.aload_n 0, 1) := by decide +kernel
theorem dX10_senses_130 : decode cX10_senses 130 = .ok (.aload_n 0, 1) := by decide +kernel
theorem dX10_senses_131 : decode cX10_senses 131 = .ok (.getfield 81, 3) := by decide +kernel
theorem dX10_senses_134 : decode cX10_senses 134 = .ok (.iconst 0, 1) := by decide +kernel
theorem dX10_senses_135 : decode cX10_senses 135 = .ok (.bipush 6, 2) := by decide +kernel
theorem dX10_senses_137 : decode cX10_senses 137 = .ok (.iload_n 2, 1) := by decide +kernel
theorem dX10_senses_138 : decode cX10_senses 138 = .ok (.iconst 0, 1) := by decide +kernel
theorem dX10_senses_139 : decode cX10_senses 139 = .ok (.aload_n 0, 1) := by decide +kernel
theorem dX10_senses_140 : decode cX10_senses 140 = .ok (.getfield 462, 3) := by decide +kernel
theorem dX10_senses_143 : decode cX10_senses 143 = .ok (.invokevirtual 436, 3) := by decide +kernel
theorem dX10_senses_146 : decode cX10_senses 146 = .ok (.ifCond .eq 8, 3) := by decide +kernel
theorem dX10_senses_149 : decode cX10_senses 149 = .ok (.aload_n 0, 1) := by decide +kernel
theorem dX10_senses_150 : decode cX10_senses 150 = .ok (.iload_n 2, 1) := by decide +kernel
theorem dX10_senses_151 : decode cX10_senses 151 = .ok (.putfield 523, 3) := by decide +kernel
theorem dX10_senses_154 : decode cX10_senses 154 = .ok (.aload_n 0, 1) := by decide +kernel
theorem dX10_senses_155 : decode cX10_senses 155 = .ok (.getfield 53, 3) := by decide +kernel
theorem dX10_senses_158 : decode cX10_senses 158 = .ok (.aload_n 0, 1) := by decide +kernel
theorem dX10_senses_159 : decode cX10_senses 159 = .ok (.invokevirtual 377, 3) := by decide +kernel
theorem dX10_senses_162 : decode cX10_senses 162 = .ok (.iaload, 1) := by decide +kernel
theorem dX10_senses_163 : decode cX10_senses 163 = .ok (.ifCond .ne 4, 3) := by decide +kernel
theorem dX10_senses_166 : decode cX10_senses 166 = .ok (.return_, 1) := by decide +kernel
theorem dX10_senses_167 : decode cX10_senses 167 = .ok (.aload_n 0, 1) := by decide +kernel
theorem dX10_senses_168 : decode cX10_senses 168 = .ok (.aload_n 0, 1) := by decide +kernel
theorem dX10_senses_169 : decode cX10_senses 169 = .ok (.invokevirtual 377, 3) := by decide +kernel
theorem dX10_senses_172 : decode cX10_senses 172 = .ok (.iconst 0, 1) := by decide +kernel
theorem dX10_senses_173 : decode cX10_senses 173 = .ok (.aload_n 0, 1) := by decide +kernel
theorem dX10_senses_174 : decode cX10_senses 174 = .ok (.getfield 538, 3) := by decide +kernel
theorem dX10_senses_177 : decode cX10_senses 177 = .ok (.invokevirtual 342, 3) := by decide +kernel
theorem dX10_senses_180 : decode cX10_senses 180 = .ok (.istore_n 2, 1) := by decide +kernel
theorem dX10_senses_181 : decode cX10_senses 181 = .ok (.aload_n 0, 1) := by decide +kernel
theorem dX10_senses_182 : decode cX10_senses 182 = .ok (.invokevirtual 541, 3) := by decide +kernel
theorem dX10_senses_185 : decode cX10_senses 185 = .ok (.sipush 1000, 3) := by decide +kernel
theorem dX10_senses_188 : decode cX10_senses 188 = .ok (.irem, 1) := by decide +kernel
theorem dX10_senses_189 : decode cX10_senses 189 = .ok (.aload_n 0, 1) := by decide +kernel
theorem dX10_senses_190 : decode cX10_senses 190 = .ok (.getfield 38, 3) := by decide +kernel
theorem dX10_senses_193 : decode cX10_senses 193 = .ok (.aload_n 0, 1) := by decide +kernel
theorem dX10_senses_194 : decode cX10_senses 194 = .ok (.invokevirtual 380, 3) := by decide +kernel
theorem dX10_senses_197 : decode cX10_senses 197 = .ok (.iaload, 1) := by decide +kernel
theorem dX10_senses_198 : decode cX10_senses 198 = .ok (.if_icmp .lt 38, 3) := by decide +kernel
theorem dX10_senses_201 : decode cX10_senses 201 = .ok (.iload_n 2, 1) := by decide +kernel
theorem dX10_senses_202 : decode cX10_senses 202 = .ok (.aload_n 0, 1) := by decide +kernel
theorem dX10_senses_203 : decode cX10_senses 203 = .ok (.invokevirtual 541, 3) := by decide +kernel
theorem dX10_senses_206 : decode cX10_senses 206 = .ok (.iconst 2, 1) := by decide +kernel
theorem dX10_senses_207 : decode cX10_senses 207 = .ok (.irem, 1) := by decide +kernel
theorem dX10_senses_208 : decode cX10_senses 208 = .ok (.ifCond .ne 15, 3) := by decide +kernel
theorem dX10_senses_211 : decode cX10_senses 211 = .ok (.iload_n 2, 1) := by decide +kernel
theorem dX10_senses_212 : decode cX10_senses 212 = .ok (.ifCond .le 7, 3) := by decide +kernel
theorem dX10_senses_215 : decode cX10_senses 215 = .ok (.iconst (-1), 1) := by decide +kernel
theorem dX10_senses_216 : decode cX10_senses 216 = .ok (.goto 18, 3) := by decide +kernel
theorem dX10_senses_219 : decode cX10_senses 219 = .ok (.iconst 0, 1) := by decide +kernel
theorem dX10_senses_220 : decode cX10_senses 220 = .ok (.goto 14, 3) := by decide +kernel
theorem dX10_senses_223 : decode cX10_senses 223 = .ok (.iload_n 2, 1) := by decide +kernel
theorem dX10_senses_224 : decode cX10_senses 224 = .ok (.bipush 40, 2) := by decide +kernel
theorem dX10_senses_226 : decode cX10_senses 226 = .ok (.if_icmp .ge 7, 3) := by decide +kernel
theorem dX10_senses_229 : decode cX10_senses 229 = .ok (.iconst 1, 1) := by decide +kernel
theorem dX10_senses_230 : decode cX10_senses 230 = .ok (.goto 4, 3) := by decide +kernel
theorem dX10_senses_233 : decode cX10_senses 233 = .ok (.iconst 0, 1) := by decide +kernel
theorem dX10_senses_234 : decode cX10_senses 234 = .ok (.iadd, 1) := by decide +kernel
theorem dX10_senses_235 : decode cX10_senses 235 = .ok (.istore_n 2, 1) := by decide +kernel
theorem dX10_senses_236 : decode cX10_senses 236 = .ok (.aload_n 0, 1) := by decide +kernel
theorem dX10_senses_237 : decode cX10_senses 237 = .ok (.aload_n 0, 1) := by decide +kernel
theorem dX10_senses_238 : decode cX10_senses 238 = .ok (.getfield 81, 3) := by decide +kernel
theorem dX10_senses_241 : decode cX10_senses 241 = .ok (.iconst 0, 1) := by decide +kernel
theorem dX10_senses_242 : decode cX10_senses 242 = .ok (.bipush 7, 2) := by decide +kernel
theorem dX10_senses_244 : decode cX10_senses 244 = .ok (.iconst 0, 1) := by decide +kernel
theorem dX10_senses_245 : decode cX10_senses 245 = .ok (.iload_n 2, 1) := by decide +kernel
theorem dX10_senses_246 : decode cX10_senses 246 = .ok (.aload_n 0, 1) := by decide +kernel
theorem dX10_senses_247 : decode cX10_senses 247 = .ok (.getfield 462, 3) := by decide +kernel
theorem dX10_senses_250 : decode cX10_senses 250 = .ok (.invokevirtual 436, 3) := by decide +kernel
theorem dX10_senses_253 : decode cX10_senses 253 = .ok (.ifCond .eq 8, 3) := by decide +kernel
theorem dX10_senses_256 : decode cX10_senses 256 = .ok (.aload_n 0, 1) := by decide +kernel
theorem dX10_senses_257 : decode cX10_senses 257 = .ok (.iload_n 2, 1) := by decide +kernel
theorem dX10_senses_258 : decode cX10_senses 258 = .ok (.putfield 526, 3) := by decide +kernel
theorem dX10_senses_261 : decode cX10_senses 261 = .ok (.return_, 1) := by decide +kernel
theorem dX10_strikes_0 : decode cX10_strikes 0 = .ok (.aload_n 0, 1) := by decide +kernel
theorem dX10_strikes_1 : decode cX10_strikes 1 = .ok (.getfield 532, 3) := by decide +kernel
theorem dX10_strikes_4 : decode cX10_strikes 4 = .ok (.ifCond .eq 47, 3) := by decide +kernel
theorem dX10_strikes_7 : decode cX10_strikes 7 = .ok (.aload_n 0, 1) := by decide +kernel
theorem dX10_strikes_8 : decode cX10_strikes 8 = .ok (.aload_n 0, 1) := by decide +kernel
theorem dX10_strikes_9 : decode cX10_strikes 9 = .ok (.getfield 81, 3) := by decide +kernel
theorem dX10_strikes_12 : decode cX10_strikes 12 = .ok (.iconst 0, 1) := by decide +kernel
theorem dX10_strikes_13 : decode cX10_strikes 13 = .ok (.bipush 8, 2) := by decide +kernel
theorem dX10_strikes_15 : decode cX10_strikes 15 = .ok (.aload_n 0, 1) := by decide +kernel
theorem dX10_strikes_16 : decode cX10_strikes 16 = .ok (.aload_n 0, 1) := by decide +kernel
theorem dX10_strikes_17 : decode cX10_strikes 17 = .ok (.invokevirtual 377, 3) := by decide +kernel
theorem dX10_strikes_20 : decode cX10_strikes 20 = .ok (.iconst 2, 1) := by decide +kernel
theorem dX10_strikes_21 : decode cX10_strikes 21 = .ok (.aload_n 0, 1) := by decide +kernel
theorem dX10_strikes_22 : decode cX10_strikes 22 = .ok (.getfield 538, 3) := by decide +kernel
theorem dX10_strikes_25 : decode cX10_strikes 25 = .ok (.invokevirtual 327, 3) := by decide +kernel
theorem dX10_strikes_28 : decode cX10_strikes 28 = .ok (.aload_n 0, 1) := by decide +kernel
theorem dX10_strikes_29 : decode cX10_strikes 29 = .ok (.aload_n 0, 1) := by decide +kernel
theorem dX10_strikes_30 : decode cX10_strikes 30 = .ok (.invokevirtual 377, 3) := by decide +kernel
theorem dX10_strikes_33 : decode cX10_strikes 33 = .ok (.iconst 0, 1) := by decide +kernel
theorem dX10_strikes_34 : decode cX10_strikes 34 = .ok (.aload_n 0, 1) := by decide +kernel
theorem dX10_strikes_35 : decode cX10_strikes 35 = .ok (.getfield 538, 3) := by decide +kernel
theorem dX10_strikes_38 : decode cX10_strikes 38 = .ok (.invokevirtual 327, 3) := by decide +kernel
theorem dX10_strikes_41 : decode cX10_strikes 41 = .ok (.aload_n 0, 1) := by decide +kernel
theorem dX10_strikes_42 : decode cX10_strikes 42 = .ok (.getfield 462, 3) := by decide +kernel
theorem dX10_strikes_45 : decode cX10_strikes 45 = .ok (.invokevirtual 436, 3) := by decide +kernel
theorem dX10_strikes_48 : decode cX10_strikes 48 = .ok (.ifCond .ne 5, 3) := by decide +kernel
theorem dX10_strikes_51 : decode cX10_strikes 51 = .ok (.iconst 0, 1) := by decide +kernel
theorem dX10_strikes_52 : decode cX10_strikes 52 = .ok (.ireturn, 1) := by decide +kernel
theorem dX10_strikes_53 : decode cX10_strikes 53 = .ok (.aload_n 0, 1) := by decide +kernel
theorem dX10_strikes_54 : decode cX10_strikes 54 = .ok (.dup, 1) := by decide +kernel
theorem dX10_strikes_55 : decode cX10_strikes 55 = .ok (.getfield 532, 3) := by decide +kernel
theorem dX10_strikes_58 : decode cX10_strikes 58 = .ok (.iconst 1, 1) := by decide +kernel
theorem dX10_strikes_59 : decode cX10_strikes 59 = .ok (.isub, 1) := by decide +kernel
theorem dX10_strikes_60 : decode cX10_strikes 60 = .ok (.putfield 532, 3) := by decide +kernel
theorem dX10_strikes_63 : decode cX10_strikes 63 = .ok (.aload_n 0, 1) := by decide +kernel
theorem dX10_strikes_64 : decode cX10_strikes 64 = .ok (.iconst 0, 1) := by decide +kernel
theorem dX10_strikes_65 : decode cX10_strikes 65 = .ok (.putfield 462, 3) := by decide +kernel
theorem dX10_strikes_68 : decode cX10_strikes 68 = .ok (.aload_n 0, 1) := by decide +kernel
theorem dX10_strikes_69 : decode cX10_strikes 69 = .ok (.aload_n 0, 1) := by decide +kernel
theorem dX10_strikes_70 : decode cX10_strikes 70 = .ok (.aload_n 0, 1) := by decide +kernel
theorem dX10_strikes_71 : decode cX10_strikes 71 = .ok (.invokevirtual 377, 3) := by decide +kernel
theorem dX10_strikes_74 : decode cX10_strikes 74 = .ok (.iconst 0, 1) := by decide +kernel
theorem dX10_strikes_75 : decode cX10_strikes 75 = .ok (.aload_n 0, 1) := by decide +kernel
theorem dX10_strikes_76 : decode cX10_strikes 76 = .ok (.getfield 538, 3) := by decide +kernel
theorem dX10_strikes_79 : decode cX10_strikes 79 = .ok (.invokevirtual 327, 3) := by decide +kernel
theorem dX10_strikes_82 : decode cX10_strikes 82 = .ok (.putfield 535, 3) := by decide +kernel
theorem dX10_strikes_85 : decode cX10_strikes 85 = .ok (.iconst 1, 1) := by decide +kernel
theorem dX10_strikes_86 : decode cX10_strikes 86 = .ok (.ireturn, 1) := by decide +kernel
theorem dX10_nightGoes_0 : decode cX10_nightGoes 0 = .ok (.aload_n 0, 1) := by decide +kernel
theorem dX10_nightGoes_1 : decode cX10_nightGoes 1 = .ok (.getfield 81, 3) := by decide +kernel
theorem dX10_nightGoes_4 : decode cX10_nightGoes 4 = .ok (.iconst 0, 1) := by decide +kernel
theorem dX10_nightGoes_5 : decode cX10_nightGoes 5 = .ok (.iload_n 2, 1) := by decide +kernel
theorem dX10_nightGoes_6 : decode cX10_nightGoes 6 = .ok (.iload_n 3, 1) := by decide +kernel
theorem dX10_nightGoes_7 : decode cX10_nightGoes 7 = .ok (.invokestatic 373, 3) := by decide +kernel
theorem dX10_nightGoes_10 : decode cX10_nightGoes 10 = .ok (.aload_n 0, 1) := by decide +kernel
theorem dX10_nightGoes_11 : decode cX10_nightGoes 11 = .ok (.iload_n 2, 1) := by decide +kernel
theorem dX10_nightGoes_12 : decode cX10_nightGoes 12 = .ok (.putfield 538, 3) := by decide +kernel
theorem dX10_nightGoes_15 : decode cX10_nightGoes 15 = .ok (.aload_n 0, 1) := by decide +kernel
theorem dX10_nightGoes_16 : decode cX10_nightGoes 16 = .ok (.iload_n 3, 1) := by decide +kernel
theorem dX10_nightGoes_17 : decode cX10_nightGoes 17 = .ok (.putfield 544, 3) := by decide +kernel
theorem dX10_nightGoes_20 : decode cX10_nightGoes 20 = .ok (.aload_n 0, 1) := by decide +kernel
theorem dX10_nightGoes_21 : decode cX10_nightGoes 21 = .ok (.iconst 0, 1) := by decide +kernel
theorem dX10_nightGoes_22 : decode cX10_nightGoes 22 = .ok (.putfield 529, 3) := by decide +kernel
theorem dX10_nightGoes_25 : decode cX10_nightGoes 25 = .ok (.aload_n 0, 1) := by decide +kernel
theorem dX10_nightGoes_26 : decode cX10_nightGoes 26 = .ok (.bipush 9, 2) := by decide +kernel
theorem dX10_nightGoes_28 : decode cX10_nightGoes 28 = .ok (.putfield 532, 3) := by decide +kernel
theorem dX10_nightGoes_31 : decode cX10_nightGoes 31 = .ok (.aload_n 0, 1) := by decide +kernel
theorem dX10_nightGoes_32 : decode cX10_nightGoes 32 = .ok (.iconst 0, 1) := by decide +kernel
theorem dX10_nightGoes_33 : decode cX10_nightGoes 33 = .ok (.putfield 462, 3) := by decide +kernel
theorem dX10_nightGoes_36 : decode cX10_nightGoes 36 = .ok (.aload_n 0, 1) := by decide +kernel
theorem dX10_nightGoes_37 : decode cX10_nightGoes 37 = .ok (.bipush 99, 2) := by decide +kernel
theorem dX10_nightGoes_39 : decode cX10_nightGoes 39 = .ok (.putfield 520, 3) := by decide +kernel
theorem dX10_nightGoes_42 : decode cX10_nightGoes 42 = .ok (.aload_n 0, 1) := by decide +kernel
theorem dX10_nightGoes_43 : decode cX10_nightGoes 43 = .ok (.bipush 99, 2) := by decide +kernel
theorem dX10_nightGoes_45 : decode cX10_nightGoes 45 = .ok (.putfield 523, 3) := by decide +kernel
theorem dX10_nightGoes_48 : decode cX10_nightGoes 48 = .ok (.aload_n 0, 1) := by decide +kernel
theorem dX10_nightGoes_49 : decode cX10_nightGoes 49 = .ok (.bipush 99, 2) := by decide +kernel
theorem dX10_nightGoes_51 : decode cX10_nightGoes 51 = .ok (.putfield 526, 3) := by decide +kernel
theorem dX10_nightGoes_54 : decode cX10_nightGoes 54 = .ok (.aload_n 0, 1) := by decide +kernel
theorem dX10_nightGoes_55 : decode cX10_nightGoes 55 = .ok (.bipush 99, 2) := by decide +kernel
theorem dX10_nightGoes_57 : decode cX10_nightGoes 57 = .ok (.putfield 535, 3) := by decide +kernel
theorem dX10_nightGoes_60 : decode cX10_nightGoes 60 = .ok (.aload_n 0, 1) := by decide +kernel
theorem dX10_nightGoes_61 : decode cX10_nightGoes 61 = .ok (.iconst 0, 1) := by decide +kernel
theorem dX10_nightGoes_62 : decode cX10_nightGoes 62 = .ok (.putfield 547, 3) := by decide +kernel
theorem dX10_nightGoes_65 : decode cX10_nightGoes 65 = .ok (.aload_n 0, 1) := by decide +kernel
theorem dX10_nightGoes_66 : decode cX10_nightGoes 66 = .ok (.iconst 0, 1) := by decide +kernel
theorem dX10_nightGoes_67 : decode cX10_nightGoes 67 = .ok (.putfield 550, 3) := by decide +kernel
theorem dX10_nightGoes_70 : decode cX10_nightGoes 70 = .ok (.aload_n 0, 1) := by decide +kernel
theorem dX10_nightGoes_71 : decode cX10_nightGoes 71 = .ok (.getfield 550, 3) := by decide +kernel
theorem dX10_nightGoes_74 : decode cX10_nightGoes 74 = .ok (.iload 4, 2) := by decide +kernel
theorem dX10_nightGoes_76 : decode cX10_nightGoes 76 = .ok (.if_icmp .ge 187, 3) := by decide +kernel
theorem dX10_nightGoes_79 : decode cX10_nightGoes 79 = .ok (.aload_n 0, 1) := by decide +kernel
theorem dX10_nightGoes_80 : decode cX10_nightGoes 80 = .ok (.getfield 547, 3) := by decide +kernel
theorem dX10_nightGoes_83 : decode cX10_nightGoes 83 = .ok (.ifCond .ne 180, 3) := by decide +kernel
theorem dX10_nightGoes_86 : decode cX10_nightGoes 86 = .ok (.aload_n 0, 1) := by decide +kernel
theorem dX10_nightGoes_87 : decode cX10_nightGoes 87 = .ok (.dup, 1) := by decide +kernel
theorem dX10_nightGoes_88 : decode cX10_nightGoes 88 = .ok (.getfield 550, 3) := by decide +kernel
theorem dX10_nightGoes_91 : decode cX10_nightGoes 91 = .ok (.iconst 1, 1) := by decide +kernel
theorem dX10_nightGoes_92 : decode cX10_nightGoes 92 = .ok (.iadd, 1) := by decide +kernel
theorem dX10_nightGoes_93 : decode cX10_nightGoes 93 = .ok (.putfield 550, 3) := by decide +kernel
theorem dX10_nightGoes_96 : decode cX10_nightGoes 96 = .ok (.aload_n 0, 1) := by decide +kernel
theorem dX10_nightGoes_97 : decode cX10_nightGoes 97 = .ok (.bipush 6, 2) := by decide +kernel
theorem dX10_nightGoes_99 : decode cX10_nightGoes 99 = .ok (.iload_n 1, 1) := by decide +kernel
theorem dX10_nightGoes_100 : decode cX10_nightGoes 100 = .ok (.iadd, 1) := by decide +kernel
theorem dX10_nightGoes_101 : decode cX10_nightGoes 101 = .ok (.invokevirtual 553, 3) := by decide +kernel
theorem dX10_nightGoes_104 : decode cX10_nightGoes 104 = .ok (.istore 5, 2) := by decide +kernel
theorem dX10_nightGoes_106 : decode cX10_nightGoes 106 = .ok (.aload_n 0, 1) := by decide +kernel
theorem dX10_nightGoes_107 : decode cX10_nightGoes 107 = .ok (.dup, 1) := by decide +kernel
theorem dX10_nightGoes_108 : decode cX10_nightGoes 108 = .ok (.getfield 529, 3) := by decide +kernel
theorem dX10_nightGoes_111 : decode cX10_nightGoes 111 = .ok (.iconst 1, 1) := by decide +kernel
theorem dX10_nightGoes_112 : decode cX10_nightGoes 112 = .ok (.iadd, 1) := by decide +kernel
theorem dX10_nightGoes_113 : decode cX10_nightGoes 113 = .ok (.putfield 529, 3) := by decide +kernel
theorem dX10_nightGoes_116 : decode cX10_nightGoes 116 = .ok (.iload 5, 2) := by decide +kernel
theorem dX10_nightGoes_118 : decode cX10_nightGoes 118 = .ok (.iconst 5, 1) := by decide +kernel
theorem dX10_nightGoes_119 : decode cX10_nightGoes 119 = .ok (.if_icmp .ne 10, 3) := by decide +kernel
theorem dX10_nightGoes_122 : decode cX10_nightGoes 122 = .ok (.aload_n 0, 1) := by decide +kernel
theorem dX10_nightGoes_123 : decode cX10_nightGoes 123 = .ok (.invokevirtual 556, 3) := by decide +kernel
theorem dX10_nightGoes_126 : decode cX10_nightGoes 126 = .ok (.ifCond .ne 70, 3) := by decide +kernel
theorem dX10_nightGoes_129 : decode cX10_nightGoes 129 = .ok (.aload_n 0, 1) := by decide +kernel
theorem dX10_nightGoes_130 : decode cX10_nightGoes 130 = .ok (.aload_n 0, 1) := by decide +kernel
theorem dX10_nightGoes_131 : decode cX10_nightGoes 131 = .ok (.getfield 81, 3) := by decide +kernel
theorem dX10_nightGoes_134 : decode cX10_nightGoes 134 = .ok (.iconst 0, 1) := by decide +kernel
theorem dX10_nightGoes_135 : decode cX10_nightGoes 135 = .ok (.iload 5, 2) := by decide +kernel
theorem dX10_nightGoes_137 : decode cX10_nightGoes 137 = .ok (.iconst 5, 1) := by decide +kernel
theorem dX10_nightGoes_138 : decode cX10_nightGoes 138 = .ok (.if_icmp .ne 7, 3) := by decide +kernel
theorem dX10_nightGoes_141 : decode cX10_nightGoes 141 = .ok (.iconst 4, 1) := by decide +kernel
theorem dX10_nightGoes_142 : decode cX10_nightGoes 142 = .ok (.goto 5, 3) := by decide +kernel
theorem dX10_nightGoes_145 : decode cX10_nightGoes 145 = .ok (.iload 5, 2) := by decide +kernel
theorem dX10_nightGoes_147 : decode cX10_nightGoes 147 = .ok (.aload_n 0, 1) := by decide +kernel
theorem dX10_nightGoes_148 : decode cX10_nightGoes 148 = .ok (.getfield 462, 3) := by decide +kernel
theorem dX10_nightGoes_151 : decode cX10_nightGoes 151 = .ok (.invokevirtual 426, 3) := by decide +kernel
theorem dX10_nightGoes_154 : decode cX10_nightGoes 154 = .ok (.iload 5, 2) := by decide +kernel
theorem dX10_nightGoes_156 : decode cX10_nightGoes 156 = .ok (.ifCond .ne 10, 3) := by decide +kernel
theorem dX10_nightGoes_159 : decode cX10_nightGoes 159 = .ok (.aload_n 0, 1) := by decide +kernel
theorem dX10_nightGoes_160 : decode cX10_nightGoes 160 = .ok (.invokevirtual 559, 3) := by decide +kernel
theorem dX10_nightGoes_163 : decode cX10_nightGoes 163 = .ok (.goto 22, 3) := by decide +kernel
theorem dX10_nightGoes_166 : decode cX10_nightGoes 166 = .ok (.iload 5, 2) := by decide +kernel
theorem dX10_nightGoes_168 : decode cX10_nightGoes 168 = .ok (.iconst 4, 1) := by decide +kernel
theorem dX10_nightGoes_169 : decode cX10_nightGoes 169 = .ok (.if_icmp .ge 16, 3) := by decide +kernel
theorem dX10_nightGoes_172 : decode cX10_nightGoes 172 = .ok (.aload_n 0, 1) := by decide +kernel
theorem dX10_nightGoes_173 : decode cX10_nightGoes 173 = .ok (.aload_n 0, 1) := by decide +kernel
theorem dX10_nightGoes_174 : decode cX10_nightGoes 174 = .ok (.getfield 544, 3) := by decide +kernel
theorem dX10_nightGoes_177 : decode cX10_nightGoes 177 = .ok (.iload 5, 2) := by decide +kernel
theorem dX10_nightGoes_179 : decode cX10_nightGoes 179 = .ok (.invokestatic 392, 3) := by decide +kernel
theorem dX10_nightGoes_182 : decode cX10_nightGoes 182 = .ok (.putfield 544, 3) := by decide +kernel
theorem dX10_nightGoes_185 : decode cX10_nightGoes 185 = .ok (.aload_n 0, 1) := by decide +kernel
theorem dX10_nightGoes_186 : decode cX10_nightGoes 186 = .ok (.aload_n 0, 1) := by decide +kernel
theorem dX10_nightGoes_187 : decode cX10_nightGoes 187 = .ok (.getfield 462, 3) := by decide +kernel
theorem dX10_nightGoes_190 : decode cX10_nightGoes 190 = .ok (.invokestatic 429, 3) := by decide +kernel
theorem dX10_nightGoes_193 : decode cX10_nightGoes 193 = .ok (.putfield 462, 3) := by decide +kernel
theorem dX10_nightGoes_196 : decode cX10_nightGoes 196 = .ok (.aload_n 0, 1) := by decide +kernel
theorem dX10_nightGoes_197 : decode cX10_nightGoes 197 = .ok (.getfield 538, 3) := by decide +kernel
theorem dX10_nightGoes_200 : decode cX10_nightGoes 200 = .ok (.aload_n 0, 1) := by decide +kernel
theorem dX10_nightGoes_201 : decode cX10_nightGoes 201 = .ok (.aload_n 0, 1) := by decide +kernel
theorem dX10_nightGoes_202 : decode cX10_nightGoes 202 = .ok (.invokevirtual 377, 3) := by decide +kernel
theorem dX10_nightGoes_205 : decode cX10_nightGoes 205 = .ok (.invokevirtual 317, 3) := by decide +kernel
theorem dX10_nightGoes_208 : decode cX10_nightGoes 208 = .ok (.if_icmp .ne 11, 3) := by decide +kernel
theorem dX10_nightGoes_211 : decode cX10_nightGoes 211 = .ok (.aload_n 0, 1) := by decide +kernel
theorem dX10_nightGoes_212 : decode cX10_nightGoes 212 = .ok (.iconst 1, 1) := by decide +kernel
theorem dX10_nightGoes_213 : decode cX10_nightGoes 213 = .ok (.putfield 547, 3) := by decide +kernel
theorem dX10_nightGoes_216 : decode cX10_nightGoes 216 = .ok (.goto 44, 3) := by decide +kernel
theorem dX10_nightGoes_219 : decode cX10_nightGoes 219 = .ok (.iload 5, 2) := by decide +kernel
theorem dX10_nightGoes_221 : decode cX10_nightGoes 221 = .ok (.ifCond .ne 35, 3) := by decide +kernel
theorem dX10_nightGoes_224 : decode cX10_nightGoes 224 = .ok (.aload_n 0, 1) := by decide +kernel
theorem dX10_nightGoes_225 : decode cX10_nightGoes 225 = .ok (.invokevirtual 541, 3) := by decide +kernel
theorem dX10_nightGoes_228 : decode cX10_nightGoes 228 = .ok (.sipush 1000, 3) := by decide +kernel
theorem dX10_nightGoes_231 : decode cX10_nightGoes 231 = .ok (.irem, 1) := by decide +kernel
theorem dX10_nightGoes_232 : decode cX10_nightGoes 232 = .ok (.aload_n 0, 1) := by decide +kernel
theorem dX10_nightGoes_233 : decode cX10_nightGoes 233 = .ok (.aload_n 0, 1) := by decide +kernel
theorem dX10_nightGoes_234 : decode cX10_nightGoes 234 = .ok (.invokevirtual 377, 3) := by decide +kernel
theorem dX10_nightGoes_237 : decode cX10_nightGoes 237 = .ok (.iconst 4, 1) := by decide +kernel
theorem dX10_nightGoes_238 : decode cX10_nightGoes 238 = .ok (.aload_n 0, 1) := by decide +kernel
theorem dX10_nightGoes_239 : decode cX10_nightGoes 239 = .ok (.getfield 538, 3) := by decide +kernel
theorem dX10_nightGoes_242 : decode cX10_nightGoes 242 = .ok (.invokevirtual 327, 3) := by decide +kernel
theorem dX10_nightGoes_245 : decode cX10_nightGoes 245 = .ok (.if_icmp .ge 11, 3) := by decide +kernel
theorem dX10_nightGoes_248 : decode cX10_nightGoes 248 = .ok (.aload_n 0, 1) := by decide +kernel
theorem dX10_nightGoes_249 : decode cX10_nightGoes 249 = .ok (.iconst 2, 1) := by decide +kernel
theorem dX10_nightGoes_250 : decode cX10_nightGoes 250 = .ok (.putfield 547, 3) := by decide +kernel
theorem dX10_nightGoes_253 : decode cX10_nightGoes 253 = .ok (.goto 7, 3) := by decide +kernel
theorem dX10_nightGoes_256 : decode cX10_nightGoes 256 = .ok (.aload_n 0, 1) := by decide +kernel
theorem dX10_nightGoes_257 : decode cX10_nightGoes 257 = .ok (.invokevirtual 562, 3) := by decide +kernel
theorem dX10_nightGoes_260 : decode cX10_nightGoes 260 = .ok (.goto (-190), 3) := by decide +kernel
theorem dX10_nightGoes_263 : decode cX10_nightGoes 263 = .ok (.return_, 1) := by decide +kernel
theorem dX10_isNight_0 : decode cX10_isNight 0 = .ok (.aload_n 0, 1) := by decide +kernel
theorem dX10_isNight_1 : decode cX10_isNight 1 = .ok (.invokevirtual 420, 3) := by decide +kernel
theorem dX10_isNight_4 : decode cX10_isNight 4 = .ok (.ifCond .eq 49, 3) := by decide +kernel
theorem dX10_isNight_7 : decode cX10_isNight 7 = .ok (.aload_n 0, 1) := by decide +kernel
theorem dX10_isNight_8 : decode cX10_isNight 8 = .ok (.iconst 2, 1) := by decide +kernel
theorem dX10_isNight_9 : decode cX10_isNight 9 = .ok (.iload_n 1, 1) := by decide +kernel
theorem dX10_isNight_10 : decode cX10_isNight 10 = .ok (.invokevirtual 337, 3) := by decide +kernel
theorem dX10_isNight_13 : decode cX10_isNight 13 = .ok (.ifCond .eq 40, 3) := by decide +kernel
theorem dX10_isNight_16 : decode cX10_isNight 16 = .ok (.aload_n 0, 1) := by decide +kernel
theorem dX10_isNight_17 : decode cX10_isNight 17 = .ok (.aload_n 0, 1) := by decide +kernel
theorem dX10_isNight_18 : decode cX10_isNight 18 = .ok (.invokevirtual 377, 3) := by decide +kernel
theorem dX10_isNight_21 : decode cX10_isNight 21 = .ok (.iload_n 2, 1) := by decide +kernel
theorem dX10_isNight_22 : decode cX10_isNight 22 = .ok (.iload_n 3, 1) := by decide +kernel
theorem dX10_isNight_23 : decode cX10_isNight 23 = .ok (.iload 4, 2) := by decide +kernel
theorem dX10_isNight_25 : decode cX10_isNight 25 = .ok (.invokevirtual 369, 3) := by decide +kernel
theorem dX10_isNight_28 : decode cX10_isNight 28 = .ok (.ifCond .eq 25, 3) := by decide +kernel
theorem dX10_isNight_31 : decode cX10_isNight 31 = .ok (.iload 5, 2) := by decide +kernel
theorem dX10_isNight_33 : decode cX10_isNight 33 = .ok (.ifCond .lt 20, 3) := by decide +kernel
theorem dX10_isNight_36 : decode cX10_isNight 36 = .ok (.iload 6, 2) := by decide +kernel
theorem dX10_isNight_38 : decode cX10_isNight 38 = .ok (.i2l, 1) := by decide +kernel
theorem dX10_isNight_39 : decode cX10_isNight 39 = .ok (.lconst 1, 1) := by decide +kernel
theorem dX10_isNight_40 : decode cX10_isNight 40 = .ok (.ldc2_w 565, 3) := by decide +kernel
theorem dX10_isNight_43 : decode cX10_isNight 43 = .ok (.invokestatic 144, 3) := by decide +kernel
theorem dX10_isNight_46 : decode cX10_isNight 46 = .ok (.ifCond .eq 7, 3) := by decide +kernel
theorem dX10_isNight_49 : decode cX10_isNight 49 = .ok (.iconst 1, 1) := by decide +kernel
theorem dX10_isNight_50 : decode cX10_isNight 50 = .ok (.goto 4, 3) := by decide +kernel
theorem dX10_isNight_53 : decode cX10_isNight 53 = .ok (.iconst 0, 1) := by decide +kernel
theorem dX10_isNight_54 : decode cX10_isNight 54 = .ok (.ireturn, 1) := by decide +kernel
theorem dX10_night_0 : decode cX10_night 0 = .ok (.aload_n 0, 1) := by decide +kernel
theorem dX10_night_1 : decode cX10_night 1 = .ok (.iload_n 1, 1) := by decide +kernel
theorem dX10_night_2 : decode cX10_night 2 = .ok (.iload_n 2, 1) := by decide +kernel
theorem dX10_night_3 : decode cX10_night 3 = .ok (.iload_n 3, 1) := by decide +kernel
theorem dX10_night_4 : decode cX10_night 4 = .ok (.iload 4, 2) := by decide +kernel
theorem dX10_night_6 : decode cX10_night 6 = .ok (.iload 5, 2) := by decide +kernel
theorem dX10_night_8 : decode cX10_night 8 = .ok (.iload 6, 2) := by decide +kernel
theorem dX10_night_10 : decode cX10_night 10 = .ok (.invokevirtual 567, 3) := by decide +kernel
theorem dX10_night_13 : decode cX10_night 13 = .ok (.ifCond .eq 16, 3) := by decide +kernel
theorem dX10_night_16 : decode cX10_night 16 = .ok (.iload 7, 2) := by decide +kernel
theorem dX10_night_18 : decode cX10_night 18 = .ok (.i2l, 1) := by decide +kernel
theorem dX10_night_19 : decode cX10_night 19 = .ok (.lconst 0, 1) := by decide +kernel
theorem dX10_night_20 : decode cX10_night 20 = .ok (.ldc2_w 478, 3) := by decide +kernel
theorem dX10_night_23 : decode cX10_night 23 = .ok (.invokestatic 144, 3) := by decide +kernel
theorem dX10_night_26 : decode cX10_night 26 = .ok (.ifCond .ne 5, 3) := by decide +kernel
theorem dX10_night_29 : decode cX10_night 29 = .ok (.iconst (-1), 1) := by decide +kernel
theorem dX10_night_30 : decode cX10_night 30 = .ok (.ireturn, 1) := by decide +kernel
theorem dX10_night_31 : decode cX10_night 31 = .ok (.aload_n 0, 1) := by decide +kernel
theorem dX10_night_32 : decode cX10_night 32 = .ok (.iload 5, 2) := by decide +kernel
theorem dX10_night_34 : decode cX10_night 34 = .ok (.i2l, 1) := by decide +kernel
theorem dX10_night_35 : decode cX10_night 35 = .ok (.putfield 509, 3) := by decide +kernel
theorem dX10_night_38 : decode cX10_night 38 = .ok (.aload_n 0, 1) := by decide +kernel
theorem dX10_night_39 : decode cX10_night 39 = .ok (.iload_n 1, 1) := by decide +kernel
theorem dX10_night_40 : decode cX10_night 40 = .ok (.bipush 12, 2) := by decide +kernel
theorem dX10_night_42 : decode cX10_night 42 = .ok (.iload_n 3, 1) := by decide +kernel
theorem dX10_night_43 : decode cX10_night 43 = .ok (.imul, 1) := by decide +kernel
theorem dX10_night_44 : decode cX10_night 44 = .ok (.iload_n 2, 1) := by decide +kernel
theorem dX10_night_45 : decode cX10_night 45 = .ok (.iadd, 1) := by decide +kernel
theorem dX10_night_46 : decode cX10_night 46 = .ok (.iload 4, 2) := by decide +kernel
theorem dX10_night_48 : decode cX10_night 48 = .ok (.iload 6, 2) := by decide +kernel
theorem dX10_night_50 : decode cX10_night 50 = .ok (.invokevirtual 571, 3) := by decide +kernel
theorem dX10_night_53 : decode cX10_night 53 = .ok (.iload 7, 2) := by decide +kernel
theorem dX10_night_55 : decode cX10_night 55 = .ok (.tableswitch 73 0 5 #[37, 42, 47, 55, 63, 68], 37) := by decide +kernel
theorem dX10_night_92 : decode cX10_night 92 = .ok (.aload_n 0, 1) := by decide +kernel
theorem dX10_night_93 : decode cX10_night 93 = .ok (.getfield 547, 3) := by decide +kernel
theorem dX10_night_96 : decode cX10_night 96 = .ok (.ireturn, 1) := by decide +kernel
theorem dX10_night_97 : decode cX10_night 97 = .ok (.aload_n 0, 1) := by decide +kernel
theorem dX10_night_98 : decode cX10_night 98 = .ok (.getfield 550, 3) := by decide +kernel
theorem dX10_night_101 : decode cX10_night 101 = .ok (.ireturn, 1) := by decide +kernel
theorem dX10_night_102 : decode cX10_night 102 = .ok (.aload_n 0, 1) := by decide +kernel
theorem dX10_night_103 : decode cX10_night 103 = .ok (.getfield 538, 3) := by decide +kernel
theorem dX10_night_106 : decode cX10_night 106 = .ok (.bipush 12, 2) := by decide +kernel
theorem dX10_night_108 : decode cX10_night 108 = .ok (.irem, 1) := by decide +kernel
theorem dX10_night_109 : decode cX10_night 109 = .ok (.ireturn, 1) := by decide +kernel
theorem dX10_night_110 : decode cX10_night 110 = .ok (.aload_n 0, 1) := by decide +kernel
theorem dX10_night_111 : decode cX10_night 111 = .ok (.getfield 538, 3) := by decide +kernel
theorem dX10_night_114 : decode cX10_night 114 = .ok (.bipush 12, 2) := by decide +kernel
theorem dX10_night_116 : decode cX10_night 116 = .ok (.idiv, 1) := by decide +kernel
theorem dX10_night_117 : decode cX10_night 117 = .ok (.ireturn, 1) := by decide +kernel
theorem dX10_night_118 : decode cX10_night 118 = .ok (.aload_n 0, 1) := by decide +kernel
theorem dX10_night_119 : decode cX10_night 119 = .ok (.getfield 544, 3) := by decide +kernel
theorem dX10_night_122 : decode cX10_night 122 = .ok (.ireturn, 1) := by decide +kernel
theorem dX10_night_123 : decode cX10_night 123 = .ok (.aload_n 0, 1) := by decide +kernel
theorem dX10_night_124 : decode cX10_night 124 = .ok (.getfield 532, 3) := by decide +kernel
theorem dX10_night_127 : decode cX10_night 127 = .ok (.ireturn, 1) := by decide +kernel
theorem dX10_night_128 : decode cX10_night 128 = .ok (.aload_n 0, 1) := by decide +kernel
theorem dX10_night_129 : decode cX10_night 129 = .ok (.aload_n 0, 1) := by decide +kernel
theorem dX10_night_130 : decode cX10_night 130 = .ok (.getfield 81, 3) := by decide +kernel
theorem dX10_night_133 : decode cX10_night 133 = .ok (.iconst 0, 1) := by decide +kernel
theorem dX10_night_134 : decode cX10_night 134 = .ok (.aload_n 0, 1) := by decide +kernel
theorem dX10_night_135 : decode cX10_night 135 = .ok (.aload_n 0, 1) := by decide +kernel
theorem dX10_night_136 : decode cX10_night 136 = .ok (.getfield 81, 3) := by decide +kernel
theorem dX10_night_139 : decode cX10_night 139 = .ok (.iconst 0, 1) := by decide +kernel
theorem dX10_night_140 : decode cX10_night 140 = .ok (.invokevirtual 455, 3) := by decide +kernel
theorem dX10_night_143 : decode cX10_night 143 = .ok (.invokevirtual 447, 3) := by decide +kernel
theorem dX10_night_146 : decode cX10_night 146 = .ok (.ldc2_w 418, 3) := by decide +kernel
theorem dX10_night_149 : decode cX10_night 149 = .ok (.ldiv, 1) := by decide +kernel
theorem dX10_night_150 : decode cX10_night 150 = .ok (.l2i, 1) := by decide +kernel
theorem dX10_night_151 : decode cX10_night 151 = .ok (.ireturn, 1) := by decide +kernel
theorem dX10_sums_0 : decode cX10_sums 0 = .ok (.aload_n 0, 1) := by decide +kernel
theorem dX10_sums_1 : decode cX10_sums 1 = .ok (.iload 4, 2) := by decide +kernel
theorem dX10_sums_3 : decode cX10_sums 3 = .ok (.i2l, 1) := by decide +kernel
theorem dX10_sums_4 : decode cX10_sums 4 = .ok (.putfield 509, 3) := by decide +kernel
theorem dX10_sums_7 : decode cX10_sums 7 = .ok (.aload_n 0, 1) := by decide +kernel
theorem dX10_sums_8 : decode cX10_sums 8 = .ok (.getfield 96, 3) := by decide +kernel
theorem dX10_sums_11 : decode cX10_sums 11 = .ok (.iconst 0, 1) := by decide +kernel
theorem dX10_sums_12 : decode cX10_sums 12 = .ok (.iconst 0, 1) := by decide +kernel
theorem dX10_sums_13 : decode cX10_sums 13 = .ok (.iastore, 1) := by decide +kernel
theorem dX10_sums_14 : decode cX10_sums 14 = .ok (.aload_n 0, 1) := by decide +kernel
theorem dX10_sums_15 : decode cX10_sums 15 = .ok (.getfield 96, 3) := by decide +kernel
theorem dX10_sums_18 : decode cX10_sums 18 = .ok (.iconst 1, 1) := by decide +kernel
theorem dX10_sums_19 : decode cX10_sums 19 = .ok (.iconst 0, 1) := by decide +kernel
theorem dX10_sums_20 : decode cX10_sums 20 = .ok (.iastore, 1) := by decide +kernel
theorem dX10_sums_21 : decode cX10_sums 21 = .ok (.aload_n 0, 1) := by decide +kernel
theorem dX10_sums_22 : decode cX10_sums 22 = .ok (.getfield 96, 3) := by decide +kernel
theorem dX10_sums_25 : decode cX10_sums 25 = .ok (.iconst 2, 1) := by decide +kernel
theorem dX10_sums_26 : decode cX10_sums 26 = .ok (.iconst 0, 1) := by decide +kernel
theorem dX10_sums_27 : decode cX10_sums 27 = .ok (.iastore, 1) := by decide +kernel
theorem dX10_sums_28 : decode cX10_sums 28 = .ok (.iconst 0, 1) := by decide +kernel
theorem dX10_sums_29 : decode cX10_sums 29 = .ok (.istore 7, 2) := by decide +kernel
theorem dX10_sums_31 : decode cX10_sums 31 = .ok (.iload 7, 2) := by decide +kernel
theorem dX10_sums_33 : decode cX10_sums 33 = .ok (.iload 6, 2) := by decide +kernel
theorem dX10_sums_35 : decode cX10_sums 35 = .ok (.if_icmp .ge 53, 3) := by decide +kernel
theorem dX10_sums_38 : decode cX10_sums 38 = .ok (.aload_n 0, 1) := by decide +kernel
theorem dX10_sums_39 : decode cX10_sums 39 = .ok (.iload_n 1, 1) := by decide +kernel
theorem dX10_sums_40 : decode cX10_sums 40 = .ok (.iload_n 2, 1) := by decide +kernel
theorem dX10_sums_41 : decode cX10_sums 41 = .ok (.iload_n 3, 1) := by decide +kernel
theorem dX10_sums_42 : decode cX10_sums 42 = .ok (.iload 5, 2) := by decide +kernel
theorem dX10_sums_44 : decode cX10_sums 44 = .ok (.invokevirtual 571, 3) := by decide +kernel
theorem dX10_sums_47 : decode cX10_sums 47 = .ok (.aload_n 0, 1) := by decide +kernel
theorem dX10_sums_48 : decode cX10_sums 48 = .ok (.getfield 547, 3) := by decide +kernel
theorem dX10_sums_51 : decode cX10_sums 51 = .ok (.ifCond .le 18, 3) := by decide +kernel
theorem dX10_sums_54 : decode cX10_sums 54 = .ok (.aload_n 0, 1) := by decide +kernel
theorem dX10_sums_55 : decode cX10_sums 55 = .ok (.getfield 96, 3) := by decide +kernel
theorem dX10_sums_58 : decode cX10_sums 58 = .ok (.aload_n 0, 1) := by decide +kernel
theorem dX10_sums_59 : decode cX10_sums 59 = .ok (.getfield 547, 3) := by decide +kernel
theorem dX10_sums_62 : decode cX10_sums 62 = .ok (.iconst 1, 1) := by decide +kernel
theorem dX10_sums_63 : decode cX10_sums 63 = .ok (.isub, 1) := by decide +kernel
theorem dX10_sums_64 : decode cX10_sums 64 = .ok (.dup2, 1) := by decide +kernel
theorem dX10_sums_65 : decode cX10_sums 65 = .ok (.iaload, 1) := by decide +kernel
theorem dX10_sums_66 : decode cX10_sums 66 = .ok (.iconst 1, 1) := by decide +kernel
theorem dX10_sums_67 : decode cX10_sums 67 = .ok (.iadd, 1) := by decide +kernel
theorem dX10_sums_68 : decode cX10_sums 68 = .ok (.iastore, 1) := by decide +kernel
theorem dX10_sums_69 : decode cX10_sums 69 = .ok (.aload_n 0, 1) := by decide +kernel
theorem dX10_sums_70 : decode cX10_sums 70 = .ok (.getfield 96, 3) := by decide +kernel
theorem dX10_sums_73 : decode cX10_sums 73 = .ok (.iconst 2, 1) := by decide +kernel
theorem dX10_sums_74 : decode cX10_sums 74 = .ok (.dup2, 1) := by decide +kernel
theorem dX10_sums_75 : decode cX10_sums 75 = .ok (.iaload, 1) := by decide +kernel
theorem dX10_sums_76 : decode cX10_sums 76 = .ok (.aload_n 0, 1) := by decide +kernel
theorem dX10_sums_77 : decode cX10_sums 77 = .ok (.getfield 550, 3) := by decide +kernel
theorem dX10_sums_80 : decode cX10_sums 80 = .ok (.iadd, 1) := by decide +kernel
theorem dX10_sums_81 : decode cX10_sums 81 = .ok (.iastore, 1) := by decide +kernel
theorem dX10_sums_82 : decode cX10_sums 82 = .ok (.iinc 7 1, 3) := by decide +kernel
theorem dX10_sums_85 : decode cX10_sums 85 = .ok (.goto (-54), 3) := by decide +kernel
theorem dX10_sums_88 : decode cX10_sums 88 = .ok (.return_, 1) := by decide +kernel
theorem dX10_nights_0 : decode cX10_nights 0 = .ok (.aload_n 0, 1) := by decide +kernel
theorem dX10_nights_1 : decode cX10_nights 1 = .ok (.iload_n 1, 1) := by decide +kernel
theorem dX10_nights_2 : decode cX10_nights 2 = .ok (.iload_n 2, 1) := by decide +kernel
theorem dX10_nights_3 : decode cX10_nights 3 = .ok (.iload_n 3, 1) := by decide +kernel
theorem dX10_nights_4 : decode cX10_nights 4 = .ok (.iload 4, 2) := by decide +kernel
theorem dX10_nights_6 : decode cX10_nights 6 = .ok (.iload 5, 2) := by decide +kernel
theorem dX10_nights_8 : decode cX10_nights 8 = .ok (.iload 6, 2) := by decide +kernel
theorem dX10_nights_10 : decode cX10_nights 10 = .ok (.invokevirtual 567, 3) := by decide +kernel
theorem dX10_nights_13 : decode cX10_nights 13 = .ok (.ifCond .eq 29, 3) := by decide +kernel
theorem dX10_nights_16 : decode cX10_nights 16 = .ok (.iload 7, 2) := by decide +kernel
theorem dX10_nights_18 : decode cX10_nights 18 = .ok (.i2l, 1) := by decide +kernel
theorem dX10_nights_19 : decode cX10_nights 19 = .ok (.lconst 1, 1) := by decide +kernel
theorem dX10_nights_20 : decode cX10_nights 20 = .ok (.ldc2_w 340, 3) := by decide +kernel
theorem dX10_nights_23 : decode cX10_nights 23 = .ok (.invokestatic 144, 3) := by decide +kernel
theorem dX10_nights_26 : decode cX10_nights 26 = .ok (.ifCond .eq 16, 3) := by decide +kernel
theorem dX10_nights_29 : decode cX10_nights 29 = .ok (.iload 8, 2) := by decide +kernel
theorem dX10_nights_31 : decode cX10_nights 31 = .ok (.i2l, 1) := by decide +kernel
theorem dX10_nights_32 : decode cX10_nights 32 = .ok (.lconst 0, 1) := by decide +kernel
theorem dX10_nights_33 : decode cX10_nights 33 = .ok (.ldc2_w 306, 3) := by decide +kernel
theorem dX10_nights_36 : decode cX10_nights 36 = .ok (.invokestatic 144, 3) := by decide +kernel
theorem dX10_nights_39 : decode cX10_nights 39 = .ok (.ifCond .ne 5, 3) := by decide +kernel
theorem dX10_nights_42 : decode cX10_nights 42 = .ok (.iconst (-1), 1) := by decide +kernel
theorem dX10_nights_43 : decode cX10_nights 43 = .ok (.ireturn, 1) := by decide +kernel
theorem dX10_nights_44 : decode cX10_nights 44 = .ok (.aload_n 0, 1) := by decide +kernel
theorem dX10_nights_45 : decode cX10_nights 45 = .ok (.iload_n 1, 1) := by decide +kernel
theorem dX10_nights_46 : decode cX10_nights 46 = .ok (.bipush 12, 2) := by decide +kernel
theorem dX10_nights_48 : decode cX10_nights 48 = .ok (.iload_n 3, 1) := by decide +kernel
theorem dX10_nights_49 : decode cX10_nights 49 = .ok (.imul, 1) := by decide +kernel
theorem dX10_nights_50 : decode cX10_nights 50 = .ok (.iload_n 2, 1) := by decide +kernel
theorem dX10_nights_51 : decode cX10_nights 51 = .ok (.iadd, 1) := by decide +kernel
theorem dX10_nights_52 : decode cX10_nights 52 = .ok (.iload 4, 2) := by decide +kernel
theorem dX10_nights_54 : decode cX10_nights 54 = .ok (.iload 5, 2) := by decide +kernel
theorem dX10_nights_56 : decode cX10_nights 56 = .ok (.iload 6, 2) := by decide +kernel
theorem dX10_nights_58 : decode cX10_nights 58 = .ok (.iload 7, 2) := by decide +kernel
theorem dX10_nights_60 : decode cX10_nights 60 = .ok (.invokevirtual 574, 3) := by decide +kernel
theorem dX10_nights_63 : decode cX10_nights 63 = .ok (.aload_n 0, 1) := by decide +kernel
theorem dX10_nights_64 : decode cX10_nights 64 = .ok (.getfield 96, 3) := by decide +kernel
theorem dX10_nights_67 : decode cX10_nights 67 = .ok (.iload 8, 2) := by decide +kernel
theorem dX10_nights_69 : decode cX10_nights 69 = .ok (.iaload, 1) := by decide +kernel
theorem dX10_nights_70 : decode cX10_nights 70 = .ok (.ireturn, 1) := by decide +kernel
theorem dX10_finest_0 : decode cX10_finest 0 = .ok (.aload_n 0, 1) := by decide +kernel
theorem dX10_finest_1 : decode cX10_finest 1 = .ok (.invokevirtual 420, 3) := by decide +kernel
theorem dX10_finest_4 : decode cX10_finest 4 = .ok (.ifCond .eq 48, 3) := by decide +kernel
theorem dX10_finest_7 : decode cX10_finest 7 = .ok (.aload_n 0, 1) := by decide +kernel
theorem dX10_finest_8 : decode cX10_finest 8 = .ok (.aload_n 0, 1) := by decide +kernel
theorem dX10_finest_9 : decode cX10_finest 9 = .ok (.invokevirtual 377, 3) := by decide +kernel
theorem dX10_finest_12 : decode cX10_finest 12 = .ok (.iload_n 1, 1) := by decide +kernel
theorem dX10_finest_13 : decode cX10_finest 13 = .ok (.iload_n 2, 1) := by decide +kernel
theorem dX10_finest_14 : decode cX10_finest 14 = .ok (.iload_n 3, 1) := by decide +kernel
theorem dX10_finest_15 : decode cX10_finest 15 = .ok (.invokevirtual 369, 3) := by decide +kernel
theorem dX10_finest_18 : decode cX10_finest 18 = .ok (.ifCond .eq 34, 3) := by decide +kernel
theorem dX10_finest_21 : decode cX10_finest 21 = .ok (.iload 4, 2) := by decide +kernel
theorem dX10_finest_23 : decode cX10_finest 23 = .ok (.ifCond .lt 29, 3) := by decide +kernel
theorem dX10_finest_26 : decode cX10_finest 26 = .ok (.iload 5, 2) := by decide +kernel
theorem dX10_finest_28 : decode cX10_finest 28 = .ok (.i2l, 1) := by decide +kernel
theorem dX10_finest_29 : decode cX10_finest 29 = .ok (.lconst 1, 1) := by decide +kernel
theorem dX10_finest_30 : decode cX10_finest 30 = .ok (.ldc2_w 565, 3) := by decide +kernel
theorem dX10_finest_33 : decode cX10_finest 33 = .ok (.invokestatic 144, 3) := by decide +kernel
theorem dX10_finest_36 : decode cX10_finest 36 = .ok (.ifCond .eq 16, 3) := by decide +kernel
theorem dX10_finest_39 : decode cX10_finest 39 = .ok (.iload 6, 2) := by decide +kernel
theorem dX10_finest_41 : decode cX10_finest 41 = .ok (.i2l, 1) := by decide +kernel
theorem dX10_finest_42 : decode cX10_finest 42 = .ok (.lconst 1, 1) := by decide +kernel
theorem dX10_finest_43 : decode cX10_finest 43 = .ok (.ldc2_w 340, 3) := by decide +kernel
theorem dX10_finest_46 : decode cX10_finest 46 = .ok (.invokestatic 144, 3) := by decide +kernel
theorem dX10_finest_49 : decode cX10_finest 49 = .ok (.ifCond .ne 5, 3) := by decide +kernel
theorem dX10_finest_52 : decode cX10_finest 52 = .ok (.iconst (-1), 1) := by decide +kernel
theorem dX10_finest_53 : decode cX10_finest 53 = .ok (.ireturn, 1) := by decide +kernel
theorem dX10_finest_54 : decode cX10_finest 54 = .ok (.bipush (-2), 2) := by decide +kernel
theorem dX10_finest_56 : decode cX10_finest 56 = .ok (.istore 7, 2) := by decide +kernel
theorem dX10_finest_58 : decode cX10_finest 58 = .ok (.iconst 0, 1) := by decide +kernel
theorem dX10_finest_59 : decode cX10_finest 59 = .ok (.istore 8, 2) := by decide +kernel
theorem dX10_finest_61 : decode cX10_finest 61 = .ok (.iconst 0, 1) := by decide +kernel
theorem dX10_finest_62 : decode cX10_finest 62 = .ok (.istore 9, 2) := by decide +kernel
theorem dX10_finest_64 : decode cX10_finest 64 = .ok (.iconst 0, 1) := by decide +kernel
theorem dX10_finest_65 : decode cX10_finest 65 = .ok (.istore 10, 2) := by decide +kernel
theorem dX10_finest_67 : decode cX10_finest 67 = .ok (.iload 10, 2) := by decide +kernel
theorem dX10_finest_69 : decode cX10_finest 69 = .ok (.aload_n 0, 1) := by decide +kernel
theorem dX10_finest_70 : decode cX10_finest 70 = .ok (.getfield 13, 3) := by decide +kernel
theorem dX10_finest_73 : decode cX10_finest 73 = .ok (.iconst 2, 1) := by decide +kernel
theorem dX10_finest_74 : decode cX10_finest 74 = .ok (.iaload, 1) := by decide +kernel
theorem dX10_finest_75 : decode cX10_finest 75 = .ok (.if_icmp .ge 89, 3) := by decide +kernel
theorem dX10_finest_78 : decode cX10_finest 78 = .ok (.aload_n 0, 1) := by decide +kernel
theorem dX10_finest_79 : decode cX10_finest 79 = .ok (.iload 10, 2) := by decide +kernel
theorem dX10_finest_81 : decode cX10_finest 81 = .ok (.bipush 12, 2) := by decide +kernel
theorem dX10_finest_83 : decode cX10_finest 83 = .ok (.iload_n 2, 1) := by decide +kernel
theorem dX10_finest_84 : decode cX10_finest 84 = .ok (.imul, 1) := by decide +kernel
theorem dX10_finest_85 : decode cX10_finest 85 = .ok (.iload_n 1, 1) := by decide +kernel
theorem dX10_finest_86 : decode cX10_finest 86 = .ok (.iadd, 1) := by decide +kernel
theorem dX10_finest_87 : decode cX10_finest 87 = .ok (.iload_n 3, 1) := by decide +kernel
theorem dX10_finest_88 : decode cX10_finest 88 = .ok (.iload 4, 2) := by decide +kernel
theorem dX10_finest_90 : decode cX10_finest 90 = .ok (.iload 5, 2) := by decide +kernel
theorem dX10_finest_92 : decode cX10_finest 92 = .ok (.iload 6, 2) := by decide +kernel
theorem dX10_finest_94 : decode cX10_finest 94 = .ok (.invokevirtual 574, 3) := by decide +kernel
theorem dX10_finest_97 : decode cX10_finest 97 = .ok (.iload 7, 2) := by decide +kernel
theorem dX10_finest_99 : decode cX10_finest 99 = .ok (.ifCond .lt 39, 3) := by decide +kernel
theorem dX10_finest_102 : decode cX10_finest 102 = .ok (.aload_n 0, 1) := by decide +kernel
theorem dX10_finest_103 : decode cX10_finest 103 = .ok (.getfield 96, 3) := by decide +kernel
theorem dX10_finest_106 : decode cX10_finest 106 = .ok (.iconst 0, 1) := by decide +kernel
theorem dX10_finest_107 : decode cX10_finest 107 = .ok (.iaload, 1) := by decide +kernel
theorem dX10_finest_108 : decode cX10_finest 108 = .ok (.iload 8, 2) := by decide +kernel
theorem dX10_finest_110 : decode cX10_finest 110 = .ok (.if_icmp .lt 48, 3) := by decide +kernel
theorem dX10_finest_113 : decode cX10_finest 113 = .ok (.aload_n 0, 1) := by decide +kernel
theorem dX10_finest_114 : decode cX10_finest 114 = .ok (.getfield 96, 3) := by decide +kernel
theorem dX10_finest_117 : decode cX10_finest 117 = .ok (.iconst 0, 1) := by decide +kernel
theorem dX10_finest_118 : decode cX10_finest 118 = .ok (.iaload, 1) := by decide +kernel
theorem dX10_finest_119 : decode cX10_finest 119 = .ok (.iload 8, 2) := by decide +kernel
theorem dX10_finest_121 : decode cX10_finest 121 = .ok (.if_icmp .ne 17, 3) := by decide +kernel
theorem dX10_finest_124 : decode cX10_finest 124 = .ok (.aload_n 0, 1) := by decide +kernel
theorem dX10_finest_125 : decode cX10_finest 125 = .ok (.getfield 96, 3) := by decide +kernel
theorem dX10_finest_128 : decode cX10_finest 128 = .ok (.iconst 1, 1) := by decide +kernel
theorem dX10_finest_129 : decode cX10_finest 129 = .ok (.iaload, 1) := by decide +kernel
theorem dX10_finest_130 : decode cX10_finest 130 = .ok (.iload 9, 2) := by decide +kernel
theorem dX10_finest_132 : decode cX10_finest 132 = .ok (.if_icmp .lt 6, 3) := by decide +kernel
theorem dX10_finest_135 : decode cX10_finest 135 = .ok (.goto 23, 3) := by decide +kernel
theorem dX10_finest_138 : decode cX10_finest 138 = .ok (.iload 10, 2) := by decide +kernel
theorem dX10_finest_140 : decode cX10_finest 140 = .ok (.istore 7, 2) := by decide +kernel
theorem dX10_finest_142 : decode cX10_finest 142 = .ok (.aload_n 0, 1) := by decide +kernel
theorem dX10_finest_143 : decode cX10_finest 143 = .ok (.getfield 96, 3) := by decide +kernel
theorem dX10_finest_146 : decode cX10_finest 146 = .ok (.iconst 0, 1) := by decide +kernel
theorem dX10_finest_147 : decode cX10_finest 147 = .ok (.iaload, 1) := by decide +kernel
theorem dX10_finest_148 : decode cX10_finest 148 = .ok (.istore 8, 2) := by decide +kernel
theorem dX10_finest_150 : decode cX10_finest 150 = .ok (.aload_n 0, 1) := by decide +kernel
theorem dX10_finest_151 : decode cX10_finest 151 = .ok (.getfield 96, 3) := by decide +kernel
theorem dX10_finest_154 : decode cX10_finest 154 = .ok (.iconst 1, 1) := by decide +kernel
theorem dX10_finest_155 : decode cX10_finest 155 = .ok (.iaload, 1) := by decide +kernel
theorem dX10_finest_156 : decode cX10_finest 156 = .ok (.istore 9, 2) := by decide +kernel
theorem dX10_finest_158 : decode cX10_finest 158 = .ok (.iinc 10 1, 3) := by decide +kernel
theorem dX10_finest_161 : decode cX10_finest 161 = .ok (.goto (-94), 3) := by decide +kernel
theorem dX10_finest_164 : decode cX10_finest 164 = .ok (.iload 7, 2) := by decide +kernel
theorem dX10_finest_166 : decode cX10_finest 166 = .ok (.ireturn, 1) := by decide +kernel
theorem dX10_count_0 : decode cX10_count 0 = .ok (.iload_n 1, 1) := by decide +kernel
theorem dX10_count_1 : decode cX10_count 1 = .ok (.iconst 2, 1) := by decide +kernel
theorem dX10_count_2 : decode cX10_count 2 = .ok (.if_icmp .le 29, 3) := by decide +kernel
theorem dX10_count_5 : decode cX10_count 5 = .ok (.iload_n 1, 1) := by decide +kernel
theorem dX10_count_6 : decode cX10_count 6 = .ok (.bipush 7, 2) := by decide +kernel
theorem dX10_count_8 : decode cX10_count 8 = .ok (.if_icmp .ge 23, 3) := by decide +kernel
theorem dX10_count_11 : decode cX10_count 11 = .ok (.aload_n 0, 1) := by decide +kernel
theorem dX10_count_12 : decode cX10_count 12 = .ok (.invokevirtual 420, 3) := by decide +kernel
theorem dX10_count_15 : decode cX10_count 15 = .ok (.ifCond .eq 14, 3) := by decide +kernel
theorem dX10_count_18 : decode cX10_count 18 = .ok (.aload_n 0, 1) := by decide +kernel
theorem dX10_count_19 : decode cX10_count 19 = .ok (.getfield 78, 3) := by decide +kernel
theorem dX10_count_22 : decode cX10_count 22 = .ok (.iload_n 1, 1) := by decide +kernel
theorem dX10_count_23 : decode cX10_count 23 = .ok (.iconst 1, 1) := by decide +kernel
theorem dX10_count_24 : decode cX10_count 24 = .ok (.isub, 1) := by decide +kernel
theorem dX10_count_25 : decode cX10_count 25 = .ok (.iaload, 1) := by decide +kernel
theorem dX10_count_26 : decode cX10_count 26 = .ok (.goto 4, 3) := by decide +kernel
theorem dX10_count_29 : decode cX10_count 29 = .ok (.iconst (-1), 1) := by decide +kernel
theorem dX10_count_30 : decode cX10_count 30 = .ok (.ireturn, 1) := by decide +kernel
theorem dX10_count_31 : decode cX10_count 31 = .ok (.iload_n 1, 1) := by decide +kernel
theorem dX10_count_32 : decode cX10_count 32 = .ok (.bipush 7, 2) := by decide +kernel
theorem dX10_count_34 : decode cX10_count 34 = .ok (.if_icmp .ne 10, 3) := by decide +kernel
theorem dX10_count_37 : decode cX10_count 37 = .ok (.aload_n 0, 1) := by decide +kernel
theorem dX10_count_38 : decode cX10_count 38 = .ok (.getfield 106, 3) := by decide +kernel
theorem dX10_count_41 : decode cX10_count 41 = .ok (.goto 25, 3) := by decide +kernel
theorem dX10_count_44 : decode cX10_count 44 = .ok (.iload_n 1, 1) := by decide +kernel
theorem dX10_count_45 : decode cX10_count 45 = .ok (.i2l, 1) := by decide +kernel
theorem dX10_count_46 : decode cX10_count 46 = .ok (.lconst 0, 1) := by decide +kernel
theorem dX10_count_47 : decode cX10_count 47 = .ok (.ldc2_w 306, 3) := by decide +kernel
theorem dX10_count_50 : decode cX10_count 50 = .ok (.invokestatic 144, 3) := by decide +kernel
theorem dX10_count_53 : decode cX10_count 53 = .ok (.ifCond .eq 12, 3) := by decide +kernel
theorem dX10_count_56 : decode cX10_count 56 = .ok (.aload_n 0, 1) := by decide +kernel
theorem dX10_count_57 : decode cX10_count 57 = .ok (.getfield 13, 3) := by decide +kernel
theorem dX10_count_60 : decode cX10_count 60 = .ok (.iload_n 1, 1) := by decide +kernel
theorem dX10_count_61 : decode cX10_count 61 = .ok (.iaload, 1) := by decide +kernel
theorem dX10_count_62 : decode cX10_count 62 = .ok (.goto 4, 3) := by decide +kernel
theorem dX10_count_65 : decode cX10_count 65 = .ok (.iconst (-1), 1) := by decide +kernel
theorem dX10_count_66 : decode cX10_count 66 = .ok (.ireturn, 1) := by decide +kernel
theorem dX10_image_0 : decode cX10_image 0 = .ok (.iload_n 1, 1) := by decide +kernel
theorem dX10_image_1 : decode cX10_image 1 = .ok (.i2l, 1) := by decide +kernel
theorem dX10_image_2 : decode cX10_image 2 = .ok (.lconst 0, 1) := by decide +kernel
theorem dX10_image_3 : decode cX10_image 3 = .ok (.ldc2_w 367, 3) := by decide +kernel
theorem dX10_image_6 : decode cX10_image 6 = .ok (.invokestatic 144, 3) := by decide +kernel
theorem dX10_image_9 : decode cX10_image 9 = .ok (.ifCond .ne 5, 3) := by decide +kernel
theorem dX10_image_12 : decode cX10_image 12 = .ok (.iconst (-1), 1) := by decide +kernel
theorem dX10_image_13 : decode cX10_image 13 = .ok (.ireturn, 1) := by decide +kernel
theorem dX10_image_14 : decode cX10_image 14 = .ok (.aload_n 0, 1) := by decide +kernel
theorem dX10_image_15 : decode cX10_image 15 = .ok (.getfield 102, 3) := by decide +kernel
theorem dX10_image_18 : decode cX10_image 18 = .ok (.iload_n 1, 1) := by decide +kernel
theorem dX10_image_19 : decode cX10_image 19 = .ok (.iconst 1, 1) := by decide +kernel
theorem dX10_image_20 : decode cX10_image 20 = .ok (.bastore, 1) := by decide +kernel
theorem dX10_image_21 : decode cX10_image 21 = .ok (.iconst 0, 1) := by decide +kernel
theorem dX10_image_22 : decode cX10_image 22 = .ok (.istore_n 2, 1) := by decide +kernel
theorem dX10_image_23 : decode cX10_image 23 = .ok (.iload_n 2, 1) := by decide +kernel
theorem dX10_image_24 : decode cX10_image 24 = .ok (.sipush 1392, 3) := by decide +kernel
theorem dX10_image_27 : decode cX10_image 27 = .ok (.if_icmp .ge 27, 3) := by decide +kernel
theorem dX10_image_30 : decode cX10_image 30 = .ok (.aload_n 0, 1) := by decide +kernel
theorem dX10_image_31 : decode cX10_image 31 = .ok (.getfield 99, 3) := by decide +kernel
theorem dX10_image_34 : decode cX10_image 34 = .ok (.sipush 1392, 3) := by decide +kernel
theorem dX10_image_37 : decode cX10_image 37 = .ok (.iload_n 1, 1) := by decide +kernel
theorem dX10_image_38 : decode cX10_image 38 = .ok (.imul, 1) := by decide +kernel
theorem dX10_image_39 : decode cX10_image 39 = .ok (.iload_n 2, 1) := by decide +kernel
theorem dX10_image_40 : decode cX10_image 40 = .ok (.iadd, 1) := by decide +kernel
theorem dX10_image_41 : decode cX10_image 41 = .ok (.aload_n 0, 1) := by decide +kernel
theorem dX10_image_42 : decode cX10_image 42 = .ok (.getfield 78, 3) := by decide +kernel
theorem dX10_image_45 : decode cX10_image 45 = .ok (.iload_n 2, 1) := by decide +kernel
theorem dX10_image_46 : decode cX10_image 46 = .ok (.iaload, 1) := by decide +kernel
theorem dX10_image_47 : decode cX10_image 47 = .ok (.iastore, 1) := by decide +kernel
theorem dX10_image_48 : decode cX10_image 48 = .ok (.iinc 2 1, 3) := by decide +kernel
theorem dX10_image_51 : decode cX10_image 51 = .ok (.goto (-28), 3) := by decide +kernel
theorem dX10_image_54 : decode cX10_image 54 = .ok (.aload_n 0, 1) := by decide +kernel
theorem dX10_image_55 : decode cX10_image 55 = .ok (.invokevirtual 420, 3) := by decide +kernel
theorem dX10_image_58 : decode cX10_image 58 = .ok (.ifCond .eq 12, 3) := by decide +kernel
theorem dX10_image_61 : decode cX10_image 61 = .ok (.aload_n 0, 1) := by decide +kernel
theorem dX10_image_62 : decode cX10_image 62 = .ok (.getfield 78, 3) := by decide +kernel
theorem dX10_image_65 : decode cX10_image 65 = .ok (.iconst 2, 1) := by decide +kernel
theorem dX10_image_66 : decode cX10_image 66 = .ok (.iaload, 1) := by decide +kernel
theorem dX10_image_67 : decode cX10_image 67 = .ok (.goto 4, 3) := by decide +kernel
theorem dX10_image_70 : decode cX10_image 70 = .ok (.iconst 0, 1) := by decide +kernel
theorem dX10_image_71 : decode cX10_image 71 = .ok (.ireturn, 1) := by decide +kernel
theorem dX10_back_0 : decode cX10_back 0 = .ok (.iload_n 1, 1) := by decide +kernel
theorem dX10_back_1 : decode cX10_back 1 = .ok (.i2l, 1) := by decide +kernel
theorem dX10_back_2 : decode cX10_back 2 = .ok (.lconst 0, 1) := by decide +kernel
theorem dX10_back_3 : decode cX10_back 3 = .ok (.ldc2_w 367, 3) := by decide +kernel
theorem dX10_back_6 : decode cX10_back 6 = .ok (.invokestatic 144, 3) := by decide +kernel
theorem dX10_back_9 : decode cX10_back 9 = .ok (.ifCond .eq 12, 3) := by decide +kernel
theorem dX10_back_12 : decode cX10_back 12 = .ok (.aload_n 0, 1) := by decide +kernel
theorem dX10_back_13 : decode cX10_back 13 = .ok (.getfield 102, 3) := by decide +kernel
theorem dX10_back_16 : decode cX10_back 16 = .ok (.iload_n 1, 1) := by decide +kernel
theorem dX10_back_17 : decode cX10_back 17 = .ok (.baload, 1) := by decide +kernel
theorem dX10_back_18 : decode cX10_back 18 = .ok (.ifCond .ne 5, 3) := by decide +kernel
theorem dX10_back_21 : decode cX10_back 21 = .ok (.iconst (-1), 1) := by decide +kernel
theorem dX10_back_22 : decode cX10_back 22 = .ok (.ireturn, 1) := by decide +kernel
theorem dX10_back_23 : decode cX10_back 23 = .ok (.iconst 0, 1) := by decide +kernel
theorem dX10_back_24 : decode cX10_back 24 = .ok (.istore_n 2, 1) := by decide +kernel
theorem dX10_back_25 : decode cX10_back 25 = .ok (.iload_n 2, 1) := by decide +kernel
theorem dX10_back_26 : decode cX10_back 26 = .ok (.sipush 1392, 3) := by decide +kernel
theorem dX10_back_29 : decode cX10_back 29 = .ok (.if_icmp .ge 27, 3) := by decide +kernel
theorem dX10_back_32 : decode cX10_back 32 = .ok (.aload_n 0, 1) := by decide +kernel
theorem dX10_back_33 : decode cX10_back 33 = .ok (.getfield 78, 3) := by decide +kernel
theorem dX10_back_36 : decode cX10_back 36 = .ok (.iload_n 2, 1) := by decide +kernel
theorem dX10_back_37 : decode cX10_back 37 = .ok (.aload_n 0, 1) := by decide +kernel
theorem dX10_back_38 : decode cX10_back 38 = .ok (.getfield 99, 3) := by decide +kernel
theorem dX10_back_41 : decode cX10_back 41 = .ok (.sipush 1392, 3) := by decide +kernel
theorem dX10_back_44 : decode cX10_back 44 = .ok (.iload_n 1, 1) := by decide +kernel
theorem dX10_back_45 : decode cX10_back 45 = .ok (.imul, 1) := by decide +kernel
theorem dX10_back_46 : decode cX10_back 46 = .ok (.iload_n 2, 1) := by decide +kernel
theorem dX10_back_47 : decode cX10_back 47 = .ok (.iadd, 1) := by decide +kernel
theorem dX10_back_48 : decode cX10_back 48 = .ok (.iaload, 1) := by decide +kernel
theorem dX10_back_49 : decode cX10_back 49 = .ok (.iastore, 1) := by decide +kernel
theorem dX10_back_50 : decode cX10_back 50 = .ok (.iinc 2 1, 3) := by decide +kernel
theorem dX10_back_53 : decode cX10_back 53 = .ok (.goto (-28), 3) := by decide +kernel
theorem dX10_back_56 : decode cX10_back 56 = .ok (.aload_n 0, 1) := by decide +kernel
theorem dX10_back_57 : decode cX10_back 57 = .ok (.invokevirtual 420, 3) := by decide +kernel
theorem dX10_back_60 : decode cX10_back 60 = .ok (.ifCond .eq 12, 3) := by decide +kernel
theorem dX10_back_63 : decode cX10_back 63 = .ok (.aload_n 0, 1) := by decide +kernel
theorem dX10_back_64 : decode cX10_back 64 = .ok (.getfield 78, 3) := by decide +kernel
theorem dX10_back_67 : decode cX10_back 67 = .ok (.iconst 2, 1) := by decide +kernel
theorem dX10_back_68 : decode cX10_back 68 = .ok (.iaload, 1) := by decide +kernel
theorem dX10_back_69 : decode cX10_back 69 = .ok (.goto 4, 3) := by decide +kernel
theorem dX10_back_72 : decode cX10_back 72 = .ok (.iconst 0, 1) := by decide +kernel
theorem dX10_back_73 : decode cX10_back 73 = .ok (.ireturn, 1) := by decide +kernel
theorem dJ6_bitCount_0f7a4_0 : decode cJ6_bitCount_0f7a4 0 = .ok (.iload_n 0, 1) := by decide +kernel
theorem dJ6_bitCount_0f7a4_1 : decode cJ6_bitCount_0f7a4 1 = .ok (.iload_n 0, 1) := by decide +kernel
theorem dJ6_bitCount_0f7a4_2 : decode cJ6_bitCount_0f7a4 2 = .ok (.iconst 1, 1) := by decide +kernel
theorem dJ6_bitCount_0f7a4_3 : decode cJ6_bitCount_0f7a4 3 = .ok (.iushr, 1) := by decide +kernel
theorem dJ6_bitCount_0f7a4_4 : decode cJ6_bitCount_0f7a4 4 = .ok (.ldc_w 265, 3) := by decide +kernel
theorem dJ6_bitCount_0f7a4_7 : decode cJ6_bitCount_0f7a4 7 = .ok (.iand, 1) := by decide +kernel
theorem dJ6_bitCount_0f7a4_8 : decode cJ6_bitCount_0f7a4 8 = .ok (.isub, 1) := by decide +kernel
theorem dJ6_bitCount_0f7a4_9 : decode cJ6_bitCount_0f7a4 9 = .ok (.istore_n 0, 1) := by decide +kernel
theorem dJ6_bitCount_0f7a4_10 : decode cJ6_bitCount_0f7a4 10 = .ok (.iload_n 0, 1) := by decide +kernel
theorem dJ6_bitCount_0f7a4_11 : decode cJ6_bitCount_0f7a4 11 = .ok (.ldc_w 266, 3) := by decide +kernel
theorem dJ6_bitCount_0f7a4_14 : decode cJ6_bitCount_0f7a4 14 = .ok (.iand, 1) := by decide +kernel
theorem dJ6_bitCount_0f7a4_15 : decode cJ6_bitCount_0f7a4 15 = .ok (.iload_n 0, 1) := by decide +kernel
theorem dJ6_bitCount_0f7a4_16 : decode cJ6_bitCount_0f7a4 16 = .ok (.iconst 2, 1) := by decide +kernel
theorem dJ6_bitCount_0f7a4_17 : decode cJ6_bitCount_0f7a4 17 = .ok (.iushr, 1) := by decide +kernel
theorem dJ6_bitCount_0f7a4_18 : decode cJ6_bitCount_0f7a4 18 = .ok (.ldc_w 266, 3) := by decide +kernel
theorem dJ6_bitCount_0f7a4_21 : decode cJ6_bitCount_0f7a4 21 = .ok (.iand, 1) := by decide +kernel
theorem dJ6_bitCount_0f7a4_22 : decode cJ6_bitCount_0f7a4 22 = .ok (.iadd, 1) := by decide +kernel
theorem dJ6_bitCount_0f7a4_23 : decode cJ6_bitCount_0f7a4 23 = .ok (.istore_n 0, 1) := by decide +kernel
theorem dJ6_bitCount_0f7a4_24 : decode cJ6_bitCount_0f7a4 24 = .ok (.iload_n 0, 1) := by decide +kernel
theorem dJ6_bitCount_0f7a4_25 : decode cJ6_bitCount_0f7a4 25 = .ok (.iload_n 0, 1) := by decide +kernel
theorem dJ6_bitCount_0f7a4_26 : decode cJ6_bitCount_0f7a4 26 = .ok (.iconst 4, 1) := by decide +kernel
theorem dJ6_bitCount_0f7a4_27 : decode cJ6_bitCount_0f7a4 27 = .ok (.iushr, 1) := by decide +kernel
theorem dJ6_bitCount_0f7a4_28 : decode cJ6_bitCount_0f7a4 28 = .ok (.iadd, 1) := by decide +kernel
theorem dJ6_bitCount_0f7a4_29 : decode cJ6_bitCount_0f7a4 29 = .ok (.ldc_w 267, 3) := by decide +kernel
theorem dJ6_bitCount_0f7a4_32 : decode cJ6_bitCount_0f7a4 32 = .ok (.iand, 1) := by decide +kernel
theorem dJ6_bitCount_0f7a4_33 : decode cJ6_bitCount_0f7a4 33 = .ok (.istore_n 0, 1) := by decide +kernel
theorem dJ6_bitCount_0f7a4_34 : decode cJ6_bitCount_0f7a4 34 = .ok (.iload_n 0, 1) := by decide +kernel
theorem dJ6_bitCount_0f7a4_35 : decode cJ6_bitCount_0f7a4 35 = .ok (.iload_n 0, 1) := by decide +kernel
theorem dJ6_bitCount_0f7a4_36 : decode cJ6_bitCount_0f7a4 36 = .ok (.bipush 8, 2) := by decide +kernel
theorem dJ6_bitCount_0f7a4_38 : decode cJ6_bitCount_0f7a4 38 = .ok (.iushr, 1) := by decide +kernel
theorem dJ6_bitCount_0f7a4_39 : decode cJ6_bitCount_0f7a4 39 = .ok (.iadd, 1) := by decide +kernel
theorem dJ6_bitCount_0f7a4_40 : decode cJ6_bitCount_0f7a4 40 = .ok (.istore_n 0, 1) := by decide +kernel
theorem dJ6_bitCount_0f7a4_41 : decode cJ6_bitCount_0f7a4 41 = .ok (.iload_n 0, 1) := by decide +kernel
theorem dJ6_bitCount_0f7a4_42 : decode cJ6_bitCount_0f7a4 42 = .ok (.iload_n 0, 1) := by decide +kernel
theorem dJ6_bitCount_0f7a4_43 : decode cJ6_bitCount_0f7a4 43 = .ok (.bipush 16, 2) := by decide +kernel
theorem dJ6_bitCount_0f7a4_45 : decode cJ6_bitCount_0f7a4 45 = .ok (.iushr, 1) := by decide +kernel
theorem dJ6_bitCount_0f7a4_46 : decode cJ6_bitCount_0f7a4 46 = .ok (.iadd, 1) := by decide +kernel
theorem dJ6_bitCount_0f7a4_47 : decode cJ6_bitCount_0f7a4 47 = .ok (.istore_n 0, 1) := by decide +kernel
theorem dJ6_bitCount_0f7a4_48 : decode cJ6_bitCount_0f7a4 48 = .ok (.iload_n 0, 1) := by decide +kernel
theorem dJ6_bitCount_0f7a4_49 : decode cJ6_bitCount_0f7a4 49 = .ok (.bipush 63, 2) := by decide +kernel
theorem dJ6_bitCount_0f7a4_51 : decode cJ6_bitCount_0f7a4 51 = .ok (.iand, 1) := by decide +kernel
theorem dJ6_bitCount_0f7a4_52 : decode cJ6_bitCount_0f7a4 52 = .ok (.ireturn, 1) := by decide +kernel
theorem dJ9_abs_0f7a4_0 : decode cJ9_abs_0f7a4 0 = .ok (.iload_n 0, 1) := by decide +kernel
theorem dJ9_abs_0f7a4_1 : decode cJ9_abs_0f7a4 1 = .ok (.ifCond .ge 8, 3) := by decide +kernel
theorem dJ9_abs_0f7a4_4 : decode cJ9_abs_0f7a4 4 = .ok (.iload_n 0, 1) := by decide +kernel
theorem dJ9_abs_0f7a4_5 : decode cJ9_abs_0f7a4 5 = .ok (.ineg, 1) := by decide +kernel
theorem dJ9_abs_0f7a4_6 : decode cJ9_abs_0f7a4 6 = .ok (.goto 4, 3) := by decide +kernel
theorem dJ9_abs_0f7a4_9 : decode cJ9_abs_0f7a4 9 = .ok (.iload_n 0, 1) := by decide +kernel
theorem dJ9_abs_0f7a4_10 : decode cJ9_abs_0f7a4 10 = .ok (.ireturn, 1) := by decide +kernel
theorem dJ9_max_7cf53_0 : decode cJ9_max_7cf53 0 = .ok (.iload_n 0, 1) := by decide +kernel
theorem dJ9_max_7cf53_1 : decode cJ9_max_7cf53 1 = .ok (.iload_n 1, 1) := by decide +kernel
theorem dJ9_max_7cf53_2 : decode cJ9_max_7cf53 2 = .ok (.if_icmp .lt 7, 3) := by decide +kernel
theorem dJ9_max_7cf53_5 : decode cJ9_max_7cf53 5 = .ok (.iload_n 0, 1) := by decide +kernel
theorem dJ9_max_7cf53_6 : decode cJ9_max_7cf53 6 = .ok (.goto 4, 3) := by decide +kernel
theorem dJ9_max_7cf53_9 : decode cJ9_max_7cf53 9 = .ok (.iload_n 1, 1) := by decide +kernel
theorem dJ9_max_7cf53_10 : decode cJ9_max_7cf53 10 = .ok (.ireturn, 1) := by decide +kernel
theorem dJ9_max_f86c9_0 : decode cJ9_max_f86c9 0 = .ok (.lload_n 0, 1) := by decide +kernel
theorem dJ9_max_f86c9_1 : decode cJ9_max_f86c9 1 = .ok (.lload_n 2, 1) := by decide +kernel
theorem dJ9_max_f86c9_2 : decode cJ9_max_f86c9 2 = .ok (.lcmp, 1) := by decide +kernel
theorem dJ9_max_f86c9_3 : decode cJ9_max_f86c9 3 = .ok (.ifCond .lt 7, 3) := by decide +kernel
theorem dJ9_max_f86c9_6 : decode cJ9_max_f86c9 6 = .ok (.lload_n 0, 1) := by decide +kernel
theorem dJ9_max_f86c9_7 : decode cJ9_max_f86c9 7 = .ok (.goto 4, 3) := by decide +kernel
theorem dJ9_max_f86c9_10 : decode cJ9_max_f86c9 10 = .ok (.lload_n 2, 1) := by decide +kernel
theorem dJ9_max_f86c9_11 : decode cJ9_max_f86c9 11 = .ok (.lreturn, 1) := by decide +kernel
theorem dJ9_min_7cf53_0 : decode cJ9_min_7cf53 0 = .ok (.iload_n 0, 1) := by decide +kernel
theorem dJ9_min_7cf53_1 : decode cJ9_min_7cf53 1 = .ok (.iload_n 1, 1) := by decide +kernel
theorem dJ9_min_7cf53_2 : decode cJ9_min_7cf53 2 = .ok (.if_icmp .gt 7, 3) := by decide +kernel
theorem dJ9_min_7cf53_5 : decode cJ9_min_7cf53 5 = .ok (.iload_n 0, 1) := by decide +kernel
theorem dJ9_min_7cf53_6 : decode cJ9_min_7cf53 6 = .ok (.goto 4, 3) := by decide +kernel
theorem dJ9_min_7cf53_9 : decode cJ9_min_7cf53 9 = .ok (.iload_n 1, 1) := by decide +kernel
theorem dJ9_min_7cf53_10 : decode cJ9_min_7cf53 10 = .ok (.ireturn, 1) := by decide +kernel
theorem dJ9_min_f86c9_0 : decode cJ9_min_f86c9 0 = .ok (.lload_n 0, 1) := by decide +kernel
theorem dJ9_min_f86c9_1 : decode cJ9_min_f86c9 1 = .ok (.lload_n 2, 1) := by decide +kernel
theorem dJ9_min_f86c9_2 : decode cJ9_min_f86c9 2 = .ok (.lcmp, 1) := by decide +kernel
theorem dJ9_min_f86c9_3 : decode cJ9_min_f86c9 3 = .ok (.ifCond .gt 7, 3) := by decide +kernel
theorem dJ9_min_f86c9_6 : decode cJ9_min_f86c9 6 = .ok (.lload_n 0, 1) := by decide +kernel
theorem dJ9_min_f86c9_7 : decode cJ9_min_f86c9 7 = .ok (.goto 4, 3) := by decide +kernel
theorem dJ9_min_f86c9_10 : decode cJ9_min_f86c9 10 = .ok (.lload_n 2, 1) := by decide +kernel
theorem dJ9_min_f86c9_11 : decode cJ9_min_f86c9 11 = .ok (.lreturn, 1) := by decide +kernel
theorem dJ0_length_8abf5_0 : decode cJ0_length_8abf5 0 = .ok (.aload_n 0, 1) := by decide +kernel
theorem dJ0_length_8abf5_1 : decode cJ0_length_8abf5 1 = .ok (.getfield 9, 3) := by decide +kernel
theorem dJ0_length_8abf5_4 : decode cJ0_length_8abf5 4 = .ok (.arraylength, 1) := by decide +kernel
theorem dJ0_length_8abf5_5 : decode cJ0_length_8abf5 5 = .ok (.aload_n 0, 1) := by decide +kernel
theorem dJ0_length_8abf5_6 : decode cJ0_length_8abf5 6 = .ok (.invokevirtual 335, 3) := by decide +kernel
theorem dJ0_length_8abf5_9 : decode cJ0_length_8abf5 9 = .ok (.ishr, 1) := by decide +kernel
theorem dJ0_length_8abf5_10 : decode cJ0_length_8abf5 10 = .ok (.ireturn, 1) := by decide +kernel
theorem dJ0_charAt_5068e_0 : decode cJ0_charAt_5068e 0 = .ok (.aload_n 0, 1) := by decide +kernel
theorem dJ0_charAt_5068e_1 : decode cJ0_charAt_5068e 1 = .ok (.invokevirtual 492, 3) := by decide +kernel
theorem dJ0_charAt_5068e_4 : decode cJ0_charAt_5068e 4 = .ok (.ifCond .eq 12, 3) := by decide +kernel
theorem dJ0_charAt_5068e_7 : decode cJ0_charAt_5068e 7 = .ok (.aload_n 0, 1) := by decide +kernel
theorem dJ0_charAt_5068e_8 : decode cJ0_charAt_5068e 8 = .ok (.getfield 9, 3) := by decide +kernel
theorem dJ0_charAt_5068e_11 : decode cJ0_charAt_5068e 11 = .ok (.iload_n 1, 1) := by decide +kernel
theorem dJ0_charAt_5068e_12 : decode cJ0_charAt_5068e 12 = .ok (.invokestatic 495, 3) := by decide +kernel
theorem dJ0_charAt_5068e_15 : decode cJ0_charAt_5068e 15 = .ok (.ireturn, 1) := by decide +kernel
theorem dJ0_charAt_5068e_16 : decode cJ0_charAt_5068e 16 = .ok (.aload_n 0, 1) := by decide +kernel
theorem dJ0_charAt_5068e_17 : decode cJ0_charAt_5068e 17 = .ok (.getfield 9, 3) := by decide +kernel
theorem dJ0_charAt_5068e_20 : decode cJ0_charAt_5068e 20 = .ok (.iload_n 1, 1) := by decide +kernel
theorem dJ0_charAt_5068e_21 : decode cJ0_charAt_5068e 21 = .ok (.invokestatic 498, 3) := by decide +kernel
theorem dJ0_charAt_5068e_24 : decode cJ0_charAt_5068e 24 = .ok (.ireturn, 1) := by decide +kernel
theorem dJ0_coder_7d493_0 : decode cJ0_coder_7d493 0 = .ok (.getstatic 38, 3) := by decide +kernel
theorem dJ0_coder_7d493_3 : decode cJ0_coder_7d493 3 = .ok (.ifCond .eq 10, 3) := by decide +kernel
theorem dJ0_coder_7d493_6 : decode cJ0_coder_7d493 6 = .ok (.aload_n 0, 1) := by decide +kernel
theorem dJ0_coder_7d493_7 : decode cJ0_coder_7d493 7 = .ok (.getfield 15, 3) := by decide +kernel
theorem dJ0_coder_7d493_10 : decode cJ0_coder_7d493 10 = .ok (.goto 4, 3) := by decide +kernel
theorem dJ0_coder_7d493_13 : decode cJ0_coder_7d493 13 = .ok (.iconst 1, 1) := by decide +kernel
theorem dJ0_coder_7d493_14 : decode cJ0_coder_7d493 14 = .ok (.ireturn, 1) := by decide +kernel
theorem dJ0_isLatin1_aae02_0 : decode cJ0_isLatin1_aae02 0 = .ok (.getstatic 38, 3) := by decide +kernel
theorem dJ0_isLatin1_aae02_3 : decode cJ0_isLatin1_aae02 3 = .ok (.ifCond .eq 14, 3) := by decide +kernel
theorem dJ0_isLatin1_aae02_6 : decode cJ0_isLatin1_aae02 6 = .ok (.aload_n 0, 1) := by decide +kernel
theorem dJ0_isLatin1_aae02_7 : decode cJ0_isLatin1_aae02 7 = .ok (.getfield 15, 3) := by decide +kernel
theorem dJ0_isLatin1_aae02_10 : decode cJ0_isLatin1_aae02 10 = .ok (.ifCond .ne 7, 3) := by decide +kernel
theorem dJ0_isLatin1_aae02_13 : decode cJ0_isLatin1_aae02 13 = .ok (.iconst 1, 1) := by decide +kernel
theorem dJ0_isLatin1_aae02_14 : decode cJ0_isLatin1_aae02 14 = .ok (.goto 4, 3) := by decide +kernel
theorem dJ0_isLatin1_aae02_17 : decode cJ0_isLatin1_aae02 17 = .ok (.iconst 0, 1) := by decide +kernel
theorem dJ0_isLatin1_aae02_18 : decode cJ0_isLatin1_aae02 18 = .ok (.ireturn, 1) := by decide +kernel
theorem dJ0_checkIndex_df160_0 : decode cJ0_checkIndex_df160 0 = .ok (.iload_n 0, 1) := by decide +kernel
theorem dJ0_checkIndex_df160_1 : decode cJ0_checkIndex_df160 1 = .ok (.iload_n 1, 1) := by decide +kernel
theorem dJ0_checkIndex_df160_2 : decode cJ0_checkIndex_df160 2 = .ok (.getstatic 1053, 3) := by decide +kernel
theorem dJ0_checkIndex_df160_5 : decode cJ0_checkIndex_df160 5 = .ok (.invokestatic 1059, 3) := by decide +kernel
theorem dJ0_checkIndex_df160_8 : decode cJ0_checkIndex_df160 8 = .ok (.pop, 1) := by decide +kernel
theorem dJ0_checkIndex_df160_9 : decode cJ0_checkIndex_df160 9 = .ok (.return_, 1) := by decide +kernel
theorem dJ1_charAt_3b067_0 : decode cJ1_charAt_3b067 0 = .ok (.iload_n 1, 1) := by decide +kernel
theorem dJ1_charAt_3b067_1 : decode cJ1_charAt_3b067 1 = .ok (.aload_n 0, 1) := by decide +kernel
theorem dJ1_charAt_3b067_2 : decode cJ1_charAt_3b067 2 = .ok (.arraylength, 1) := by decide +kernel
theorem dJ1_charAt_3b067_3 : decode cJ1_charAt_3b067 3 = .ok (.invokestatic 9, 3) := by decide +kernel
theorem dJ1_charAt_3b067_6 : decode cJ1_charAt_3b067 6 = .ok (.aload_n 0, 1) := by decide +kernel
theorem dJ1_charAt_3b067_7 : decode cJ1_charAt_3b067 7 = .ok (.iload_n 1, 1) := by decide +kernel
theorem dJ1_charAt_3b067_8 : decode cJ1_charAt_3b067 8 = .ok (.baload, 1) := by decide +kernel
theorem dJ1_charAt_3b067_9 : decode cJ1_charAt_3b067 9 = .ok (.sipush 255, 3) := by decide +kernel
theorem dJ1_charAt_3b067_12 : decode cJ1_charAt_3b067 12 = .ok (.iand, 1) := by decide +kernel
theorem dJ1_charAt_3b067_13 : decode cJ1_charAt_3b067 13 = .ok (.i2c, 1) := by decide +kernel
theorem dJ1_charAt_3b067_14 : decode cJ1_charAt_3b067 14 = .ok (.ireturn, 1) := by decide +kernel
theorem dJ2_getChar_3b067_0 : decode cJ2_getChar_3b067 0 = .ok (.getstatic 44, 3) := by decide +kernel
theorem dJ2_getChar_3b067_3 : decode cJ2_getChar_3b067 3 = .ok (.ifCond .ne 25, 3) := by decide +kernel
theorem dJ2_getChar_3b067_6 : decode cJ2_getChar_3b067 6 = .ok (.iload_n 1, 1) := by decide +kernel
theorem dJ2_getChar_3b067_7 : decode cJ2_getChar_3b067 7 = .ok (.ifCond .lt 11, 3) := by decide +kernel
theorem dJ2_getChar_3b067_10 : decode cJ2_getChar_3b067 10 = .ok (.iload_n 1, 1) := by decide +kernel
theorem dJ2_getChar_3b067_11 : decode cJ2_getChar_3b067 11 = .ok (.aload_n 0, 1) := by decide +kernel
theorem dJ2_getChar_3b067_12 : decode cJ2_getChar_3b067 12 = .ok (.invokestatic 48, 3) := by decide +kernel
theorem dJ2_getChar_3b067_15 : decode cJ2_getChar_3b067 15 = .ok (.if_icmp .lt 13, 3) := by decide +kernel
theorem dJ2_getChar_3b067_18 : decode cJ2_getChar_3b067 18 = .ok (.new 52, 3) := by decide +kernel
theorem dJ2_getChar_3b067_21 : decode cJ2_getChar_3b067 21 = .ok (.dup, 1) := by decide +kernel
theorem dJ2_getChar_3b067_22 : decode cJ2_getChar_3b067 22 = .ok (.ldc 54, 2) := by decide +kernel
theorem dJ2_getChar_3b067_24 : decode cJ2_getChar_3b067 24 = .ok (.invokespecial 56, 3) := by decide +kernel
theorem dJ2_getChar_3b067_27 : decode cJ2_getChar_3b067 27 = .ok (.athrow, 1) := by decide +kernel
theorem dJ2_getChar_3b067_28 : decode cJ2_getChar_3b067 28 = .ok (.iload_n 1, 1) := by decide +kernel
theorem dJ2_getChar_3b067_29 : decode cJ2_getChar_3b067 29 = .ok (.iconst 1, 1) := by decide +kernel
theorem dJ2_getChar_3b067_30 : decode cJ2_getChar_3b067 30 = .ok (.ishl, 1) := by decide +kernel
theorem dJ2_getChar_3b067_31 : decode cJ2_getChar_3b067 31 = .ok (.istore_n 1, 1) := by decide +kernel
theorem dJ2_getChar_3b067_32 : decode cJ2_getChar_3b067 32 = .ok (.aload_n 0, 1) := by decide +kernel
theorem dJ2_getChar_3b067_33 : decode cJ2_getChar_3b067 33 = .ok (.iload_n 1, 1) := by decide +kernel
theorem dJ2_getChar_3b067_34 : decode cJ2_getChar_3b067 34 = .ok (.iinc 1 1, 3) := by decide +kernel
theorem dJ2_getChar_3b067_37 : decode cJ2_getChar_3b067 37 = .ok (.baload, 1) := by decide +kernel
theorem dJ2_getChar_3b067_38 : decode cJ2_getChar_3b067 38 = .ok (.sipush 255, 3) := by decide +kernel
theorem dJ2_getChar_3b067_41 : decode cJ2_getChar_3b067 41 = .ok (.iand, 1) := by decide +kernel
theorem dJ2_getChar_3b067_42 : decode cJ2_getChar_3b067 42 = .ok (.getstatic 59, 3) := by decide +kernel
theorem dJ2_getChar_3b067_45 : decode cJ2_getChar_3b067 45 = .ok (.ishl, 1) := by decide +kernel
theorem dJ2_getChar_3b067_46 : decode cJ2_getChar_3b067 46 = .ok (.aload_n 0, 1) := by decide +kernel
theorem dJ2_getChar_3b067_47 : decode cJ2_getChar_3b067 47 = .ok (.iload_n 1, 1) := by decide +kernel
theorem dJ2_getChar_3b067_48 : decode cJ2_getChar_3b067 48 = .ok (.baload, 1) := by decide +kernel
theorem dJ2_getChar_3b067_49 : decode cJ2_getChar_3b067 49 = .ok (.sipush 255, 3) := by decide +kernel
theorem dJ2_getChar_3b067_52 : decode cJ2_getChar_3b067 52 = .ok (.iand, 1) := by decide +kernel
theorem dJ2_getChar_3b067_53 : decode cJ2_getChar_3b067 53 = .ok (.getstatic 63, 3) := by decide +kernel
theorem dJ2_getChar_3b067_56 : decode cJ2_getChar_3b067 56 = .ok (.ishl, 1) := by decide +kernel
theorem dJ2_getChar_3b067_57 : decode cJ2_getChar_3b067 57 = .ok (.ior, 1) := by decide +kernel
theorem dJ2_getChar_3b067_58 : decode cJ2_getChar_3b067 58 = .ok (.i2c, 1) := by decide +kernel
theorem dJ2_getChar_3b067_59 : decode cJ2_getChar_3b067 59 = .ok (.ireturn, 1) := by decide +kernel
theorem dJ2_length_9d52b_0 : decode cJ2_length_9d52b 0 = .ok (.aload_n 0, 1) := by decide +kernel
theorem dJ2_length_9d52b_1 : decode cJ2_length_9d52b 1 = .ok (.arraylength, 1) := by decide +kernel
theorem dJ2_length_9d52b_2 : decode cJ2_length_9d52b 2 = .ok (.iconst 1, 1) := by decide +kernel
theorem dJ2_length_9d52b_3 : decode cJ2_length_9d52b 3 = .ok (.ishr, 1) := by decide +kernel
theorem dJ2_length_9d52b_4 : decode cJ2_length_9d52b 4 = .ok (.ireturn, 1) := by decide +kernel
theorem dJ2_charAt_3b067_0 : decode cJ2_charAt_3b067 0 = .ok (.iload_n 1, 1) := by decide +kernel
theorem dJ2_charAt_3b067_1 : decode cJ2_charAt_3b067 1 = .ok (.aload_n 0, 1) := by decide +kernel
theorem dJ2_charAt_3b067_2 : decode cJ2_charAt_3b067 2 = .ok (.invokestatic 67, 3) := by decide +kernel
theorem dJ2_charAt_3b067_5 : decode cJ2_charAt_3b067 5 = .ok (.aload_n 0, 1) := by decide +kernel
theorem dJ2_charAt_3b067_6 : decode cJ2_charAt_3b067 6 = .ok (.iload_n 1, 1) := by decide +kernel
theorem dJ2_charAt_3b067_7 : decode cJ2_charAt_3b067 7 = .ok (.invokestatic 71, 3) := by decide +kernel
theorem dJ2_charAt_3b067_10 : decode cJ2_charAt_3b067 10 = .ok (.ireturn, 1) := by decide +kernel
theorem dJ2_checkIndex_2214a_0 : decode cJ2_checkIndex_2214a 0 = .ok (.iload_n 0, 1) := by decide +kernel
theorem dJ2_checkIndex_2214a_1 : decode cJ2_checkIndex_2214a 1 = .ok (.aload_n 1, 1) := by decide +kernel
theorem dJ2_checkIndex_2214a_2 : decode cJ2_checkIndex_2214a 2 = .ok (.invokestatic 48, 3) := by decide +kernel
theorem dJ2_checkIndex_2214a_5 : decode cJ2_checkIndex_2214a 5 = .ok (.invokestatic 414, 3) := by decide +kernel
theorem dJ2_checkIndex_2214a_8 : decode cJ2_checkIndex_2214a 8 = .ok (.return_, 1) := by decide +kernel
theorem dJ7_rangeCheck_23922_0 : decode cJ7_rangeCheck_23922 0 = .ok (.iload_n 1, 1) := by decide +kernel
theorem dJ7_rangeCheck_23922_1 : decode cJ7_rangeCheck_23922 1 = .ok (.iload_n 2, 1) := by decide +kernel
theorem dJ7_rangeCheck_23922_2 : decode cJ7_rangeCheck_23922 2 = .ok (.if_icmp .le 44, 3) := by decide +kernel
theorem dJ7_rangeCheck_23922_5 : decode cJ7_rangeCheck_23922 5 = .ok (.new 43, 3) := by decide +kernel
theorem dJ7_rangeCheck_23922_8 : decode cJ7_rangeCheck_23922 8 = .ok (.dup, 1) := by decide +kernel
theorem dJ7_rangeCheck_23922_9 : decode cJ7_rangeCheck_23922 9 = .ok (.new 45, 3) := by decide +kernel
theorem dJ7_rangeCheck_23922_12 : decode cJ7_rangeCheck_23922 12 = .ok (.dup, 1) := by decide +kernel
theorem dJ7_rangeCheck_23922_13 : decode cJ7_rangeCheck_23922 13 = .ok (.invokespecial 47, 3) := by decide +kernel
theorem dJ7_rangeCheck_23922_16 : decode cJ7_rangeCheck_23922 16 = .ok (.ldc 48, 2) := by decide +kernel
theorem dJ7_rangeCheck_23922_18 : decode cJ7_rangeCheck_23922 18 = .ok (.invokevirtual 50, 3) := by decide +kernel
theorem dJ7_rangeCheck_23922_21 : decode cJ7_rangeCheck_23922 21 = .ok (.iload_n 1, 1) := by decide +kernel
theorem dJ7_rangeCheck_23922_22 : decode cJ7_rangeCheck_23922 22 = .ok (.invokevirtual 54, 3) := by decide +kernel
theorem dJ7_rangeCheck_23922_25 : decode cJ7_rangeCheck_23922 25 = .ok (.ldc 57, 2) := by decide +kernel
theorem dJ7_rangeCheck_23922_27 : decode cJ7_rangeCheck_23922 27 = .ok (.invokevirtual 50, 3) := by decide +kernel
theorem dJ7_rangeCheck_23922_30 : decode cJ7_rangeCheck_23922 30 = .ok (.iload_n 2, 1) := by decide +kernel
theorem dJ7_rangeCheck_23922_31 : decode cJ7_rangeCheck_23922 31 = .ok (.invokevirtual 54, 3) := by decide +kernel
theorem dJ7_rangeCheck_23922_34 : decode cJ7_rangeCheck_23922 34 = .ok (.ldc 59, 2) := by decide +kernel
theorem dJ7_rangeCheck_23922_36 : decode cJ7_rangeCheck_23922 36 = .ok (.invokevirtual 50, 3) := by decide +kernel
theorem dJ7_rangeCheck_23922_39 : decode cJ7_rangeCheck_23922 39 = .ok (.invokevirtual 61, 3) := by decide +kernel
theorem dJ7_rangeCheck_23922_42 : decode cJ7_rangeCheck_23922 42 = .ok (.invokespecial 65, 3) := by decide +kernel
theorem dJ7_rangeCheck_23922_45 : decode cJ7_rangeCheck_23922 45 = .ok (.athrow, 1) := by decide +kernel
theorem dJ7_rangeCheck_23922_46 : decode cJ7_rangeCheck_23922 46 = .ok (.iload_n 1, 1) := by decide +kernel
theorem dJ7_rangeCheck_23922_47 : decode cJ7_rangeCheck_23922 47 = .ok (.ifCond .ge 12, 3) := by decide +kernel
theorem dJ7_rangeCheck_23922_50 : decode cJ7_rangeCheck_23922 50 = .ok (.new 68, 3) := by decide +kernel
theorem dJ7_rangeCheck_23922_53 : decode cJ7_rangeCheck_23922 53 = .ok (.dup, 1) := by decide +kernel
theorem dJ7_rangeCheck_23922_54 : decode cJ7_rangeCheck_23922 54 = .ok (.iload_n 1, 1) := by decide +kernel
theorem dJ7_rangeCheck_23922_55 : decode cJ7_rangeCheck_23922 55 = .ok (.invokespecial 70, 3) := by decide +kernel
theorem dJ7_rangeCheck_23922_58 : decode cJ7_rangeCheck_23922 58 = .ok (.athrow, 1) := by decide +kernel
theorem dJ7_rangeCheck_23922_59 : decode cJ7_rangeCheck_23922 59 = .ok (.iload_n 2, 1) := by decide +kernel
theorem dJ7_rangeCheck_23922_60 : decode cJ7_rangeCheck_23922 60 = .ok (.iload_n 0, 1) := by decide +kernel
theorem dJ7_rangeCheck_23922_61 : decode cJ7_rangeCheck_23922 61 = .ok (.if_icmp .le 12, 3) := by decide +kernel
theorem dJ7_rangeCheck_23922_64 : decode cJ7_rangeCheck_23922 64 = .ok (.new 68, 3) := by decide +kernel
theorem dJ7_rangeCheck_23922_67 : decode cJ7_rangeCheck_23922 67 = .ok (.dup, 1) := by decide +kernel
theorem dJ7_rangeCheck_23922_68 : decode cJ7_rangeCheck_23922 68 = .ok (.iload_n 2, 1) := by decide +kernel
theorem dJ7_rangeCheck_23922_69 : decode cJ7_rangeCheck_23922 69 = .ok (.invokespecial 70, 3) := by decide +kernel
theorem dJ7_rangeCheck_23922_72 : decode cJ7_rangeCheck_23922 72 = .ok (.athrow, 1) := by decide +kernel
theorem dJ7_rangeCheck_23922_73 : decode cJ7_rangeCheck_23922 73 = .ok (.return_, 1) := by decide +kernel
theorem dJ7_fill_d0a16_0 : decode cJ7_fill_d0a16 0 = .ok (.iconst 0, 1) := by decide +kernel
theorem dJ7_fill_d0a16_1 : decode cJ7_fill_d0a16 1 = .ok (.istore_n 3, 1) := by decide +kernel
theorem dJ7_fill_d0a16_2 : decode cJ7_fill_d0a16 2 = .ok (.aload_n 0, 1) := by decide +kernel
theorem dJ7_fill_d0a16_3 : decode cJ7_fill_d0a16 3 = .ok (.arraylength, 1) := by decide +kernel
theorem dJ7_fill_d0a16_4 : decode cJ7_fill_d0a16 4 = .ok (.istore 4, 2) := by decide +kernel
theorem dJ7_fill_d0a16_6 : decode cJ7_fill_d0a16 6 = .ok (.iload_n 3, 1) := by decide +kernel
theorem dJ7_fill_d0a16_7 : decode cJ7_fill_d0a16 7 = .ok (.iload 4, 2) := by decide +kernel
theorem dJ7_fill_d0a16_9 : decode cJ7_fill_d0a16 9 = .ok (.if_icmp .ge 13, 3) := by decide +kernel
theorem dJ7_fill_d0a16_12 : decode cJ7_fill_d0a16 12 = .ok (.aload_n 0, 1) := by decide +kernel
theorem dJ7_fill_d0a16_13 : decode cJ7_fill_d0a16 13 = .ok (.iload_n 3, 1) := by decide +kernel
theorem dJ7_fill_d0a16_14 : decode cJ7_fill_d0a16 14 = .ok (.lload_n 1, 1) := by decide +kernel
theorem dJ7_fill_d0a16_15 : decode cJ7_fill_d0a16 15 = .ok (.lastore, 1) := by decide +kernel
theorem dJ7_fill_d0a16_16 : decode cJ7_fill_d0a16 16 = .ok (.iinc 3 1, 3) := by decide +kernel
theorem dJ7_fill_d0a16_19 : decode cJ7_fill_d0a16 19 = .ok (.goto (-13), 3) := by decide +kernel
theorem dJ7_fill_d0a16_22 : decode cJ7_fill_d0a16 22 = .ok (.return_, 1) := by decide +kernel
theorem dJ7_fill_bad5a_0 : decode cJ7_fill_bad5a 0 = .ok (.aload_n 0, 1) := by decide +kernel
theorem dJ7_fill_bad5a_1 : decode cJ7_fill_bad5a 1 = .ok (.arraylength, 1) := by decide +kernel
theorem dJ7_fill_bad5a_2 : decode cJ7_fill_bad5a 2 = .ok (.iload_n 1, 1) := by decide +kernel
theorem dJ7_fill_bad5a_3 : decode cJ7_fill_bad5a 3 = .ok (.iload_n 2, 1) := by decide +kernel
theorem dJ7_fill_bad5a_4 : decode cJ7_fill_bad5a 4 = .ok (.invokestatic 13, 3) := by decide +kernel
theorem dJ7_fill_bad5a_7 : decode cJ7_fill_bad5a 7 = .ok (.iload_n 1, 1) := by decide +kernel
theorem dJ7_fill_bad5a_8 : decode cJ7_fill_bad5a 8 = .ok (.istore 5, 2) := by decide +kernel
theorem dJ7_fill_bad5a_10 : decode cJ7_fill_bad5a 10 = .ok (.iload 5, 2) := by decide +kernel
theorem dJ7_fill_bad5a_12 : decode cJ7_fill_bad5a 12 = .ok (.iload_n 2, 1) := by decide +kernel
theorem dJ7_fill_bad5a_13 : decode cJ7_fill_bad5a 13 = .ok (.if_icmp .ge 14, 3) := by decide +kernel
theorem dJ7_fill_bad5a_16 : decode cJ7_fill_bad5a 16 = .ok (.aload_n 0, 1) := by decide +kernel
theorem dJ7_fill_bad5a_17 : decode cJ7_fill_bad5a 17 = .ok (.iload 5, 2) := by decide +kernel
theorem dJ7_fill_bad5a_19 : decode cJ7_fill_bad5a 19 = .ok (.lload_n 3, 1) := by decide +kernel
theorem dJ7_fill_bad5a_20 : decode cJ7_fill_bad5a 20 = .ok (.lastore, 1) := by decide +kernel
theorem dJ7_fill_bad5a_21 : decode cJ7_fill_bad5a 21 = .ok (.iinc 5 1, 3) := by decide +kernel
theorem dJ7_fill_bad5a_24 : decode cJ7_fill_bad5a 24 = .ok (.goto (-14), 3) := by decide +kernel
theorem dJ7_fill_bad5a_27 : decode cJ7_fill_bad5a 27 = .ok (.return_, 1) := by decide +kernel
theorem dJ7_fill_53178_0 : decode cJ7_fill_53178 0 = .ok (.iconst 0, 1) := by decide +kernel
theorem dJ7_fill_53178_1 : decode cJ7_fill_53178 1 = .ok (.istore_n 2, 1) := by decide +kernel
theorem dJ7_fill_53178_2 : decode cJ7_fill_53178 2 = .ok (.aload_n 0, 1) := by decide +kernel
theorem dJ7_fill_53178_3 : decode cJ7_fill_53178 3 = .ok (.arraylength, 1) := by decide +kernel
theorem dJ7_fill_53178_4 : decode cJ7_fill_53178 4 = .ok (.istore_n 3, 1) := by decide +kernel
theorem dJ7_fill_53178_5 : decode cJ7_fill_53178 5 = .ok (.iload_n 2, 1) := by decide +kernel
theorem dJ7_fill_53178_6 : decode cJ7_fill_53178 6 = .ok (.iload_n 3, 1) := by decide +kernel
theorem dJ7_fill_53178_7 : decode cJ7_fill_53178 7 = .ok (.if_icmp .ge 13, 3) := by decide +kernel
theorem dJ7_fill_53178_10 : decode cJ7_fill_53178 10 = .ok (.aload_n 0, 1) := by decide +kernel
theorem dJ7_fill_53178_11 : decode cJ7_fill_53178 11 = .ok (.iload_n 2, 1) := by decide +kernel
theorem dJ7_fill_53178_12 : decode cJ7_fill_53178 12 = .ok (.iload_n 1, 1) := by decide +kernel
theorem dJ7_fill_53178_13 : decode cJ7_fill_53178 13 = .ok (.iastore, 1) := by decide +kernel
theorem dJ7_fill_53178_14 : decode cJ7_fill_53178 14 = .ok (.iinc 2 1, 3) := by decide +kernel
theorem dJ7_fill_53178_17 : decode cJ7_fill_53178 17 = .ok (.goto (-12), 3) := by decide +kernel
theorem dJ7_fill_53178_20 : decode cJ7_fill_53178 20 = .ok (.return_, 1) := by decide +kernel
theorem dJ7_fill_fda19_0 : decode cJ7_fill_fda19 0 = .ok (.aload_n 0, 1) := by decide +kernel
theorem dJ7_fill_fda19_1 : decode cJ7_fill_fda19 1 = .ok (.arraylength, 1) := by decide +kernel
theorem dJ7_fill_fda19_2 : decode cJ7_fill_fda19 2 = .ok (.iload_n 1, 1) := by decide +kernel
theorem dJ7_fill_fda19_3 : decode cJ7_fill_fda19 3 = .ok (.iload_n 2, 1) := by decide +kernel
theorem dJ7_fill_fda19_4 : decode cJ7_fill_fda19 4 = .ok (.invokestatic 13, 3) := by decide +kernel
theorem dJ7_fill_fda19_7 : decode cJ7_fill_fda19 7 = .ok (.iload_n 1, 1) := by decide +kernel
theorem dJ7_fill_fda19_8 : decode cJ7_fill_fda19 8 = .ok (.istore 4, 2) := by decide +kernel
theorem dJ7_fill_fda19_10 : decode cJ7_fill_fda19 10 = .ok (.iload 4, 2) := by decide +kernel
theorem dJ7_fill_fda19_12 : decode cJ7_fill_fda19 12 = .ok (.iload_n 2, 1) := by decide +kernel
theorem dJ7_fill_fda19_13 : decode cJ7_fill_fda19 13 = .ok (.if_icmp .ge 14, 3) := by decide +kernel
theorem dJ7_fill_fda19_16 : decode cJ7_fill_fda19 16 = .ok (.aload_n 0, 1) := by decide +kernel
theorem dJ7_fill_fda19_17 : decode cJ7_fill_fda19 17 = .ok (.iload 4, 2) := by decide +kernel
theorem dJ7_fill_fda19_19 : decode cJ7_fill_fda19 19 = .ok (.iload_n 3, 1) := by decide +kernel
theorem dJ7_fill_fda19_20 : decode cJ7_fill_fda19 20 = .ok (.iastore, 1) := by decide +kernel
theorem dJ7_fill_fda19_21 : decode cJ7_fill_fda19 21 = .ok (.iinc 4 1, 3) := by decide +kernel
theorem dJ7_fill_fda19_24 : decode cJ7_fill_fda19 24 = .ok (.goto (-14), 3) := by decide +kernel
theorem dJ7_fill_fda19_27 : decode cJ7_fill_fda19 27 = .ok (.return_, 1) := by decide +kernel
theorem dJ3_checkIndex_8e157_0 : decode cJ3_checkIndex_8e157 0 = .ok (.iload_n 0, 1) := by decide +kernel
theorem dJ3_checkIndex_8e157_1 : decode cJ3_checkIndex_8e157 1 = .ok (.ifCond .lt 8, 3) := by decide +kernel
theorem dJ3_checkIndex_8e157_4 : decode cJ3_checkIndex_8e157 4 = .ok (.iload_n 0, 1) := by decide +kernel
theorem dJ3_checkIndex_8e157_5 : decode cJ3_checkIndex_8e157 5 = .ok (.iload_n 1, 1) := by decide +kernel
theorem dJ3_checkIndex_8e157_6 : decode cJ3_checkIndex_8e157 6 = .ok (.if_icmp .lt 10, 3) := by decide +kernel
theorem dJ3_checkIndex_8e157_9 : decode cJ3_checkIndex_8e157 9 = .ok (.aload_n 2, 1) := by decide +kernel
theorem dJ3_checkIndex_8e157_10 : decode cJ3_checkIndex_8e157 10 = .ok (.iload_n 0, 1) := by decide +kernel
theorem dJ3_checkIndex_8e157_11 : decode cJ3_checkIndex_8e157 11 = .ok (.iload_n 1, 1) := by decide +kernel
theorem dJ3_checkIndex_8e157_12 : decode cJ3_checkIndex_8e157 12 = .ok (.invokestatic 95, 3) := by decide +kernel
theorem dJ3_checkIndex_8e157_15 : decode cJ3_checkIndex_8e157 15 = .ok (.athrow, 1) := by decide +kernel
theorem dJ3_checkIndex_8e157_16 : decode cJ3_checkIndex_8e157 16 = .ok (.iload_n 0, 1) := by decide +kernel
theorem dJ3_checkIndex_8e157_17 : decode cJ3_checkIndex_8e157 17 = .ok (.ireturn, 1) := by decide +kernel
theorem dL_law_0 : decode cL_law 0 = .ok (.new 7, 3) := by decide +kernel
theorem dL_law_3 : decode cL_law 3 = .ok (.dup, 1) := by decide +kernel
theorem dL_law_4 : decode cL_law 4 = .ok (.invokespecial 9, 3) := by decide +kernel
theorem dL_law_7 : decode cL_law 7 = .ok (.astore_n 1, 1) := by decide +kernel
theorem dL_law_8 : decode cL_law 8 = .ok (.new 10, 3) := by decide +kernel
theorem dL_law_11 : decode cL_law 11 = .ok (.dup, 1) := by decide +kernel
theorem dL_law_12 : decode cL_law 12 = .ok (.invokespecial 12, 3) := by decide +kernel
theorem dL_law_15 : decode cL_law 15 = .ok (.astore_n 2, 1) := by decide +kernel
theorem dL_law_16 : decode cL_law 16 = .ok (.iconst 0, 1) := by decide +kernel
theorem dL_law_17 : decode cL_law 17 = .ok (.istore_n 3, 1) := by decide +kernel
theorem dL_law_18 : decode cL_law 18 = .ok (.iload_n 3, 1) := by decide +kernel
theorem dL_law_19 : decode cL_law 19 = .ok (.aload_n 0, 1) := by decide +kernel
theorem dL_law_20 : decode cL_law 20 = .ok (.arraylength, 1) := by decide +kernel
theorem dL_law_21 : decode cL_law 21 = .ok (.bipush 9, 2) := by decide +kernel
theorem dL_law_23 : decode cL_law 23 = .ok (.isub, 1) := by decide +kernel
theorem dL_law_24 : decode cL_law 24 = .ok (.if_icmp .gt 1302, 3) := by decide +kernel
theorem dL_law_27 : decode cL_law 27 = .ok (.aload_n 0, 1) := by decide +kernel
theorem dL_law_28 : decode cL_law 28 = .ok (.iload_n 3, 1) := by decide +kernel
theorem dL_law_29 : decode cL_law 29 = .ok (.iaload, 1) := by decide +kernel
theorem dL_law_30 : decode cL_law 30 = .ok (.bipush 31, 2) := by decide +kernel
theorem dL_law_32 : decode cL_law 32 = .ok (.iand, 1) := by decide +kernel
theorem dL_law_33 : decode cL_law 33 = .ok (.tableswitch 1287 0 28 #[131, 194, 217, 240, 293, 326, 389, 412, 435, 458, 491, 540, 583, 606, 650, 673, 696, 759, 802, 815, 858, 881, 924, 957, 1044, 1143, 1218, 1241, 1264], 131) := by decide +kernel
theorem dL_law_164 : decode cL_law 164 = .ok (.aload_n 1, 1) := by decide +kernel
theorem dL_law_165 : decode cL_law 165 = .ok (.aload_n 0, 1) := by decide +kernel
theorem dL_law_166 : decode cL_law 166 = .ok (.iload_n 3, 1) := by decide +kernel
theorem dL_law_167 : decode cL_law 167 = .ok (.iconst 1, 1) := by decide +kernel
theorem dL_law_168 : decode cL_law 168 = .ok (.iadd, 1) := by decide +kernel
theorem dL_law_169 : decode cL_law 169 = .ok (.iaload, 1) := by decide +kernel
theorem dL_law_170 : decode cL_law 170 = .ok (.aload_n 0, 1) := by decide +kernel
theorem dL_law_171 : decode cL_law 171 = .ok (.iload_n 3, 1) := by decide +kernel
theorem dL_law_172 : decode cL_law 172 = .ok (.iconst 2, 1) := by decide +kernel
theorem dL_law_173 : decode cL_law 173 = .ok (.iadd, 1) := by decide +kernel
theorem dL_law_174 : decode cL_law 174 = .ok (.iaload, 1) := by decide +kernel
theorem dL_law_175 : decode cL_law 175 = .ok (.aload_n 0, 1) := by decide +kernel
theorem dL_law_176 : decode cL_law 176 = .ok (.iload_n 3, 1) := by decide +kernel
theorem dL_law_177 : decode cL_law 177 = .ok (.iconst 3, 1) := by decide +kernel
theorem dL_law_178 : decode cL_law 178 = .ok (.iadd, 1) := by decide +kernel
theorem dL_law_179 : decode cL_law 179 = .ok (.iaload, 1) := by decide +kernel
theorem dL_law_180 : decode cL_law 180 = .ok (.aload_n 0, 1) := by decide +kernel
theorem dL_law_181 : decode cL_law 181 = .ok (.iload_n 3, 1) := by decide +kernel
theorem dL_law_182 : decode cL_law 182 = .ok (.iconst 4, 1) := by decide +kernel
theorem dL_law_183 : decode cL_law 183 = .ok (.iadd, 1) := by decide +kernel
theorem dL_law_184 : decode cL_law 184 = .ok (.iaload, 1) := by decide +kernel
theorem dL_law_185 : decode cL_law 185 = .ok (.aload_n 0, 1) := by decide +kernel
theorem dL_law_186 : decode cL_law 186 = .ok (.iload_n 3, 1) := by decide +kernel
theorem dL_law_187 : decode cL_law 187 = .ok (.iconst 5, 1) := by decide +kernel
theorem dL_law_188 : decode cL_law 188 = .ok (.iadd, 1) := by decide +kernel
theorem dL_law_189 : decode cL_law 189 = .ok (.iaload, 1) := by decide +kernel
theorem dL_law_190 : decode cL_law 190 = .ok (.invokevirtual 13, 3) := by decide +kernel
theorem dL_law_193 : decode cL_law 193 = .ok (.aload_n 2, 1) := by decide +kernel
theorem dL_law_194 : decode cL_law 194 = .ok (.aload_n 0, 1) := by decide +kernel
theorem dL_law_195 : decode cL_law 195 = .ok (.iload_n 3, 1) := by decide +kernel
theorem dL_law_196 : decode cL_law 196 = .ok (.iconst 1, 1) := by decide +kernel
theorem dL_law_197 : decode cL_law 197 = .ok (.iadd, 1) := by decide +kernel
theorem dL_law_198 : decode cL_law 198 = .ok (.iaload, 1) := by decide +kernel
theorem dL_law_199 : decode cL_law 199 = .ok (.aload_n 0, 1) := by decide +kernel
theorem dL_law_200 : decode cL_law 200 = .ok (.iload_n 3, 1) := by decide +kernel
theorem dL_law_201 : decode cL_law 201 = .ok (.iconst 2, 1) := by decide +kernel
theorem dL_law_202 : decode cL_law 202 = .ok (.iadd, 1) := by decide +kernel
theorem dL_law_203 : decode cL_law 203 = .ok (.iaload, 1) := by decide +kernel
theorem dL_law_204 : decode cL_law 204 = .ok (.aload_n 0, 1) := by decide +kernel
theorem dL_law_205 : decode cL_law 205 = .ok (.iload_n 3, 1) := by decide +kernel
theorem dL_law_206 : decode cL_law 206 = .ok (.iconst 3, 1) := by decide +kernel
theorem dL_law_207 : decode cL_law 207 = .ok (.iadd, 1) := by decide +kernel
theorem dL_law_208 : decode cL_law 208 = .ok (.iaload, 1) := by decide +kernel
theorem dL_law_209 : decode cL_law 209 = .ok (.aload_n 0, 1) := by decide +kernel
theorem dL_law_210 : decode cL_law 210 = .ok (.iload_n 3, 1) := by decide +kernel
theorem dL_law_211 : decode cL_law 211 = .ok (.iconst 4, 1) := by decide +kernel
theorem dL_law_212 : decode cL_law 212 = .ok (.iadd, 1) := by decide +kernel
theorem dL_law_213 : decode cL_law 213 = .ok (.iaload, 1) := by decide +kernel
theorem dL_law_214 : decode cL_law 214 = .ok (.aload_n 0, 1) := by decide +kernel
theorem dL_law_215 : decode cL_law 215 = .ok (.iload_n 3, 1) := by decide +kernel
theorem dL_law_216 : decode cL_law 216 = .ok (.iconst 5, 1) := by decide +kernel
theorem dL_law_217 : decode cL_law 217 = .ok (.iadd, 1) := by decide +kernel
theorem dL_law_218 : decode cL_law 218 = .ok (.iaload, 1) := by decide +kernel
theorem dL_law_219 : decode cL_law 219 = .ok (.invokevirtual 17, 3) := by decide +kernel
theorem dL_law_222 : decode cL_law 222 = .ok (.if_icmp .eq 1098, 3) := by decide +kernel
theorem dL_law_225 : decode cL_law 225 = .ok (.iconst 0, 1) := by decide +kernel
theorem dL_law_226 : decode cL_law 226 = .ok (.ireturn, 1) := by decide +kernel
theorem dL_law_227 : decode cL_law 227 = .ok (.aload_n 1, 1) := by decide +kernel
theorem dL_law_228 : decode cL_law 228 = .ok (.aload_n 0, 1) := by decide +kernel
theorem dL_law_229 : decode cL_law 229 = .ok (.iload_n 3, 1) := by decide +kernel
theorem dL_law_230 : decode cL_law 230 = .ok (.iconst 1, 1) := by decide +kernel
theorem dL_law_231 : decode cL_law 231 = .ok (.iadd, 1) := by decide +kernel
theorem dL_law_232 : decode cL_law 232 = .ok (.iaload, 1) := by decide +kernel
theorem dL_law_233 : decode cL_law 233 = .ok (.invokevirtual 18, 3) := by decide +kernel
theorem dL_law_236 : decode cL_law 236 = .ok (.aload_n 2, 1) := by decide +kernel
theorem dL_law_237 : decode cL_law 237 = .ok (.aload_n 0, 1) := by decide +kernel
theorem dL_law_238 : decode cL_law 238 = .ok (.iload_n 3, 1) := by decide +kernel
theorem dL_law_239 : decode cL_law 239 = .ok (.iconst 1, 1) := by decide +kernel
theorem dL_law_240 : decode cL_law 240 = .ok (.iadd, 1) := by decide +kernel
theorem dL_law_241 : decode cL_law 241 = .ok (.iaload, 1) := by decide +kernel
theorem dL_law_242 : decode cL_law 242 = .ok (.invokevirtual 22, 3) := by decide +kernel
theorem dL_law_245 : decode cL_law 245 = .ok (.if_icmp .eq 1075, 3) := by decide +kernel
theorem dL_law_248 : decode cL_law 248 = .ok (.iconst 0, 1) := by decide +kernel
theorem dL_law_249 : decode cL_law 249 = .ok (.ireturn, 1) := by decide +kernel
theorem dL_law_250 : decode cL_law 250 = .ok (.aload_n 1, 1) := by decide +kernel
theorem dL_law_251 : decode cL_law 251 = .ok (.aload_n 0, 1) := by decide +kernel
theorem dL_law_252 : decode cL_law 252 = .ok (.iload_n 3, 1) := by decide +kernel
theorem dL_law_253 : decode cL_law 253 = .ok (.iconst 1, 1) := by decide +kernel
theorem dL_law_254 : decode cL_law 254 = .ok (.iadd, 1) := by decide +kernel
theorem dL_law_255 : decode cL_law 255 = .ok (.iaload, 1) := by decide +kernel
theorem dL_law_256 : decode cL_law 256 = .ok (.invokevirtual 23, 3) := by decide +kernel
theorem dL_law_259 : decode cL_law 259 = .ok (.aload_n 2, 1) := by decide +kernel
theorem dL_law_260 : decode cL_law 260 = .ok (.aload_n 0, 1) := by decide +kernel
theorem dL_law_261 : decode cL_law 261 = .ok (.iload_n 3, 1) := by decide +kernel
theorem dL_law_262 : decode cL_law 262 = .ok (.iconst 1, 1) := by decide +kernel
theorem dL_law_263 : decode cL_law 263 = .ok (.iadd, 1) := by decide +kernel
theorem dL_law_264 : decode cL_law 264 = .ok (.iaload, 1) := by decide +kernel
theorem dL_law_265 : decode cL_law 265 = .ok (.invokevirtual 26, 3) := by decide +kernel
theorem dL_law_268 : decode cL_law 268 = .ok (.if_icmp .eq 1052, 3) := by decide +kernel
theorem dL_law_271 : decode cL_law 271 = .ok (.iconst 0, 1) := by decide +kernel
theorem dL_law_272 : decode cL_law 272 = .ok (.ireturn, 1) := by decide +kernel
theorem dL_law_273 : decode cL_law 273 = .ok (.aload_n 1, 1) := by decide +kernel
theorem dL_law_274 : decode cL_law 274 = .ok (.aload_n 0, 1) := by decide +kernel
theorem dL_law_275 : decode cL_law 275 = .ok (.iload_n 3, 1) := by decide +kernel
theorem dL_law_276 : decode cL_law 276 = .ok (.iconst 1, 1) := by decide +kernel
theorem dL_law_277 : decode cL_law 277 = .ok (.iadd, 1) := by decide +kernel
theorem dL_law_278 : decode cL_law 278 = .ok (.iaload, 1) := by decide +kernel
theorem dL_law_279 : decode cL_law 279 = .ok (.aload_n 0, 1) := by decide +kernel
theorem dL_law_280 : decode cL_law 280 = .ok (.iload_n 3, 1) := by decide +kernel
theorem dL_law_281 : decode cL_law 281 = .ok (.iconst 2, 1) := by decide +kernel
theorem dL_law_282 : decode cL_law 282 = .ok (.iadd, 1) := by decide +kernel
theorem dL_law_283 : decode cL_law 283 = .ok (.iaload, 1) := by decide +kernel
theorem dL_law_284 : decode cL_law 284 = .ok (.aload_n 0, 1) := by decide +kernel
theorem dL_law_285 : decode cL_law 285 = .ok (.iload_n 3, 1) := by decide +kernel
theorem dL_law_286 : decode cL_law 286 = .ok (.iconst 3, 1) := by decide +kernel
theorem dL_law_287 : decode cL_law 287 = .ok (.iadd, 1) := by decide +kernel
theorem dL_law_288 : decode cL_law 288 = .ok (.iaload, 1) := by decide +kernel
theorem dL_law_289 : decode cL_law 289 = .ok (.aload_n 0, 1) := by decide +kernel
theorem dL_law_290 : decode cL_law 290 = .ok (.iload_n 3, 1) := by decide +kernel
theorem dL_law_291 : decode cL_law 291 = .ok (.iconst 4, 1) := by decide +kernel
theorem dL_law_292 : decode cL_law 292 = .ok (.iadd, 1) := by decide +kernel
theorem dL_law_293 : decode cL_law 293 = .ok (.iaload, 1) := by decide +kernel
theorem dL_law_294 : decode cL_law 294 = .ok (.invokevirtual 27, 3) := by decide +kernel
theorem dL_law_297 : decode cL_law 297 = .ok (.aload_n 2, 1) := by decide +kernel
theorem dL_law_298 : decode cL_law 298 = .ok (.aload_n 0, 1) := by decide +kernel
theorem dL_law_299 : decode cL_law 299 = .ok (.iload_n 3, 1) := by decide +kernel
theorem dL_law_300 : decode cL_law 300 = .ok (.iconst 1, 1) := by decide +kernel
theorem dL_law_301 : decode cL_law 301 = .ok (.iadd, 1) := by decide +kernel
theorem dL_law_302 : decode cL_law 302 = .ok (.iaload, 1) := by decide +kernel
theorem dL_law_303 : decode cL_law 303 = .ok (.aload_n 0, 1) := by decide +kernel
theorem dL_law_304 : decode cL_law 304 = .ok (.iload_n 3, 1) := by decide +kernel
theorem dL_law_305 : decode cL_law 305 = .ok (.iconst 2, 1) := by decide +kernel
theorem dL_law_306 : decode cL_law 306 = .ok (.iadd, 1) := by decide +kernel
theorem dL_law_307 : decode cL_law 307 = .ok (.iaload, 1) := by decide +kernel
theorem dL_law_308 : decode cL_law 308 = .ok (.aload_n 0, 1) := by decide +kernel
theorem dL_law_309 : decode cL_law 309 = .ok (.iload_n 3, 1) := by decide +kernel
theorem dL_law_310 : decode cL_law 310 = .ok (.iconst 3, 1) := by decide +kernel
theorem dL_law_311 : decode cL_law 311 = .ok (.iadd, 1) := by decide +kernel
theorem dL_law_312 : decode cL_law 312 = .ok (.iaload, 1) := by decide +kernel
theorem dL_law_313 : decode cL_law 313 = .ok (.aload_n 0, 1) := by decide +kernel
theorem dL_law_314 : decode cL_law 314 = .ok (.iload_n 3, 1) := by decide +kernel
theorem dL_law_315 : decode cL_law 315 = .ok (.iconst 4, 1) := by decide +kernel
theorem dL_law_316 : decode cL_law 316 = .ok (.iadd, 1) := by decide +kernel
theorem dL_law_317 : decode cL_law 317 = .ok (.iaload, 1) := by decide +kernel
theorem dL_law_318 : decode cL_law 318 = .ok (.invokevirtual 31, 3) := by decide +kernel
theorem dL_law_321 : decode cL_law 321 = .ok (.if_icmp .eq 999, 3) := by decide +kernel
theorem dL_law_324 : decode cL_law 324 = .ok (.iconst 0, 1) := by decide +kernel
theorem dL_law_325 : decode cL_law 325 = .ok (.ireturn, 1) := by decide +kernel
theorem dL_law_326 : decode cL_law 326 = .ok (.aload_n 1, 1) := by decide +kernel
theorem dL_law_327 : decode cL_law 327 = .ok (.aload_n 0, 1) := by decide +kernel
theorem dL_law_328 : decode cL_law 328 = .ok (.iload_n 3, 1) := by decide +kernel
theorem dL_law_329 : decode cL_law 329 = .ok (.iconst 1, 1) := by decide +kernel
theorem dL_law_330 : decode cL_law 330 = .ok (.iadd, 1) := by decide +kernel
theorem dL_law_331 : decode cL_law 331 = .ok (.iaload, 1) := by decide +kernel
theorem dL_law_332 : decode cL_law 332 = .ok (.aload_n 0, 1) := by decide +kernel
theorem dL_law_333 : decode cL_law 333 = .ok (.iload_n 3, 1) := by decide +kernel
theorem dL_law_334 : decode cL_law 334 = .ok (.iconst 2, 1) := by decide +kernel
theorem dL_law_335 : decode cL_law 335 = .ok (.iadd, 1) := by decide +kernel
theorem dL_law_336 : decode cL_law 336 = .ok (.iaload, 1) := by decide +kernel
theorem dL_law_337 : decode cL_law 337 = .ok (.invokevirtual 32, 3) := by decide +kernel
theorem dL_law_340 : decode cL_law 340 = .ok (.aload_n 2, 1) := by decide +kernel
theorem dL_law_341 : decode cL_law 341 = .ok (.aload_n 0, 1) := by decide +kernel
theorem dL_law_342 : decode cL_law 342 = .ok (.iload_n 3, 1) := by decide +kernel
theorem dL_law_343 : decode cL_law 343 = .ok (.iconst 1, 1) := by decide +kernel
theorem dL_law_344 : decode cL_law 344 = .ok (.iadd, 1) := by decide +kernel
theorem dL_law_345 : decode cL_law 345 = .ok (.iaload, 1) := by decide +kernel
theorem dL_law_346 : decode cL_law 346 = .ok (.aload_n 0, 1) := by decide +kernel
theorem dL_law_347 : decode cL_law 347 = .ok (.iload_n 3, 1) := by decide +kernel
theorem dL_law_348 : decode cL_law 348 = .ok (.iconst 2, 1) := by decide +kernel
theorem dL_law_349 : decode cL_law 349 = .ok (.iadd, 1) := by decide +kernel
theorem dL_law_350 : decode cL_law 350 = .ok (.iaload, 1) := by decide +kernel
theorem dL_law_351 : decode cL_law 351 = .ok (.invokevirtual 36, 3) := by decide +kernel
theorem dL_law_354 : decode cL_law 354 = .ok (.if_icmp .eq 966, 3) := by decide +kernel
theorem dL_law_357 : decode cL_law 357 = .ok (.iconst 0, 1) := by decide +kernel
theorem dL_law_358 : decode cL_law 358 = .ok (.ireturn, 1) := by decide +kernel
theorem dL_law_359 : decode cL_law 359 = .ok (.aload_n 1, 1) := by decide +kernel
theorem dL_law_360 : decode cL_law 360 = .ok (.aload_n 0, 1) := by decide +kernel
theorem dL_law_361 : decode cL_law 361 = .ok (.iload_n 3, 1) := by decide +kernel
theorem dL_law_362 : decode cL_law 362 = .ok (.iconst 1, 1) := by decide +kernel
theorem dL_law_363 : decode cL_law 363 = .ok (.iadd, 1) := by decide +kernel
theorem dL_law_364 : decode cL_law 364 = .ok (.iaload, 1) := by decide +kernel
theorem dL_law_365 : decode cL_law 365 = .ok (.aload_n 0, 1) := by decide +kernel
theorem dL_law_366 : decode cL_law 366 = .ok (.iload_n 3, 1) := by decide +kernel
theorem dL_law_367 : decode cL_law 367 = .ok (.iconst 2, 1) := by decide +kernel
theorem dL_law_368 : decode cL_law 368 = .ok (.iadd, 1) := by decide +kernel
theorem dL_law_369 : decode cL_law 369 = .ok (.iaload, 1) := by decide +kernel
theorem dL_law_370 : decode cL_law 370 = .ok (.aload_n 0, 1) := by decide +kernel
theorem dL_law_371 : decode cL_law 371 = .ok (.iload_n 3, 1) := by decide +kernel
theorem dL_law_372 : decode cL_law 372 = .ok (.iconst 3, 1) := by decide +kernel
theorem dL_law_373 : decode cL_law 373 = .ok (.iadd, 1) := by decide +kernel
theorem dL_law_374 : decode cL_law 374 = .ok (.iaload, 1) := by decide +kernel
theorem dL_law_375 : decode cL_law 375 = .ok (.aload_n 0, 1) := by decide +kernel
theorem dL_law_376 : decode cL_law 376 = .ok (.iload_n 3, 1) := by decide +kernel
theorem dL_law_377 : decode cL_law 377 = .ok (.iconst 4, 1) := by decide +kernel
theorem dL_law_378 : decode cL_law 378 = .ok (.iadd, 1) := by decide +kernel
theorem dL_law_379 : decode cL_law 379 = .ok (.iaload, 1) := by decide +kernel
theorem dL_law_380 : decode cL_law 380 = .ok (.aload_n 0, 1) := by decide +kernel
theorem dL_law_381 : decode cL_law 381 = .ok (.iload_n 3, 1) := by decide +kernel
theorem dL_law_382 : decode cL_law 382 = .ok (.iconst 5, 1) := by decide +kernel
theorem dL_law_383 : decode cL_law 383 = .ok (.iadd, 1) := by decide +kernel
theorem dL_law_384 : decode cL_law 384 = .ok (.iaload, 1) := by decide +kernel
theorem dL_law_385 : decode cL_law 385 = .ok (.invokevirtual 37, 3) := by decide +kernel
theorem dL_law_388 : decode cL_law 388 = .ok (.aload_n 2, 1) := by decide +kernel
theorem dL_law_389 : decode cL_law 389 = .ok (.aload_n 0, 1) := by decide +kernel
theorem dL_law_390 : decode cL_law 390 = .ok (.iload_n 3, 1) := by decide +kernel
theorem dL_law_391 : decode cL_law 391 = .ok (.iconst 1, 1) := by decide +kernel
theorem dL_law_392 : decode cL_law 392 = .ok (.iadd, 1) := by decide +kernel
theorem dL_law_393 : decode cL_law 393 = .ok (.iaload, 1) := by decide +kernel
theorem dL_law_394 : decode cL_law 394 = .ok (.aload_n 0, 1) := by decide +kernel
theorem dL_law_395 : decode cL_law 395 = .ok (.iload_n 3, 1) := by decide +kernel
theorem dL_law_396 : decode cL_law 396 = .ok (.iconst 2, 1) := by decide +kernel
theorem dL_law_397 : decode cL_law 397 = .ok (.iadd, 1) := by decide +kernel
theorem dL_law_398 : decode cL_law 398 = .ok (.iaload, 1) := by decide +kernel
theorem dL_law_399 : decode cL_law 399 = .ok (.aload_n 0, 1) := by decide +kernel
theorem dL_law_400 : decode cL_law 400 = .ok (.iload_n 3, 1) := by decide +kernel
theorem dL_law_401 : decode cL_law 401 = .ok (.iconst 3, 1) := by decide +kernel
theorem dL_law_402 : decode cL_law 402 = .ok (.iadd, 1) := by decide +kernel
theorem dL_law_403 : decode cL_law 403 = .ok (.iaload, 1) := by decide +kernel
theorem dL_law_404 : decode cL_law 404 = .ok (.aload_n 0, 1) := by decide +kernel
theorem dL_law_405 : decode cL_law 405 = .ok (.iload_n 3, 1) := by decide +kernel
theorem dL_law_406 : decode cL_law 406 = .ok (.iconst 4, 1) := by decide +kernel
theorem dL_law_407 : decode cL_law 407 = .ok (.iadd, 1) := by decide +kernel
theorem dL_law_408 : decode cL_law 408 = .ok (.iaload, 1) := by decide +kernel
theorem dL_law_409 : decode cL_law 409 = .ok (.aload_n 0, 1) := by decide +kernel
theorem dL_law_410 : decode cL_law 410 = .ok (.iload_n 3, 1) := by decide +kernel
theorem dL_law_411 : decode cL_law 411 = .ok (.iconst 5, 1) := by decide +kernel
theorem dL_law_412 : decode cL_law 412 = .ok (.iadd, 1) := by decide +kernel
theorem dL_law_413 : decode cL_law 413 = .ok (.iaload, 1) := by decide +kernel
theorem dL_law_414 : decode cL_law 414 = .ok (.invokevirtual 41, 3) := by decide +kernel
theorem dL_law_417 : decode cL_law 417 = .ok (.if_icmp .eq 903, 3) := by decide +kernel
theorem dL_law_420 : decode cL_law 420 = .ok (.iconst 0, 1) := by decide +kernel
theorem dL_law_421 : decode cL_law 421 = .ok (.ireturn, 1) := by decide +kernel
theorem dL_law_422 : decode cL_law 422 = .ok (.aload_n 1, 1) := by decide +kernel
theorem dL_law_423 : decode cL_law 423 = .ok (.aload_n 0, 1) := by decide +kernel
theorem dL_law_424 : decode cL_law 424 = .ok (.iload_n 3, 1) := by decide +kernel
theorem dL_law_425 : decode cL_law 425 = .ok (.iconst 1, 1) := by decide +kernel
theorem dL_law_426 : decode cL_law 426 = .ok (.iadd, 1) := by decide +kernel
theorem dL_law_427 : decode cL_law 427 = .ok (.iaload, 1) := by decide +kernel
theorem dL_law_428 : decode cL_law 428 = .ok (.invokevirtual 42, 3) := by decide +kernel
theorem dL_law_431 : decode cL_law 431 = .ok (.aload_n 2, 1) := by decide +kernel
theorem dL_law_432 : decode cL_law 432 = .ok (.aload_n 0, 1) := by decide +kernel
theorem dL_law_433 : decode cL_law 433 = .ok (.iload_n 3, 1) := by decide +kernel
theorem dL_law_434 : decode cL_law 434 = .ok (.iconst 1, 1) := by decide +kernel
theorem dL_law_435 : decode cL_law 435 = .ok (.iadd, 1) := by decide +kernel
theorem dL_law_436 : decode cL_law 436 = .ok (.iaload, 1) := by decide +kernel
theorem dL_law_437 : decode cL_law 437 = .ok (.invokevirtual 45, 3) := by decide +kernel
theorem dL_law_440 : decode cL_law 440 = .ok (.if_icmp .eq 880, 3) := by decide +kernel
theorem dL_law_443 : decode cL_law 443 = .ok (.iconst 0, 1) := by decide +kernel
theorem dL_law_444 : decode cL_law 444 = .ok (.ireturn, 1) := by decide +kernel
theorem dL_law_445 : decode cL_law 445 = .ok (.aload_n 1, 1) := by decide +kernel
theorem dL_law_446 : decode cL_law 446 = .ok (.aload_n 0, 1) := by decide +kernel
theorem dL_law_447 : decode cL_law 447 = .ok (.iload_n 3, 1) := by decide +kernel
theorem dL_law_448 : decode cL_law 448 = .ok (.iconst 1, 1) := by decide +kernel
theorem dL_law_449 : decode cL_law 449 = .ok (.iadd, 1) := by decide +kernel
theorem dL_law_450 : decode cL_law 450 = .ok (.iaload, 1) := by decide +kernel
theorem dL_law_451 : decode cL_law 451 = .ok (.invokevirtual 46, 3) := by decide +kernel
theorem dL_law_454 : decode cL_law 454 = .ok (.aload_n 2, 1) := by decide +kernel
theorem dL_law_455 : decode cL_law 455 = .ok (.aload_n 0, 1) := by decide +kernel
theorem dL_law_456 : decode cL_law 456 = .ok (.iload_n 3, 1) := by decide +kernel
theorem dL_law_457 : decode cL_law 457 = .ok (.iconst 1, 1) := by decide +kernel
theorem dL_law_458 : decode cL_law 458 = .ok (.iadd, 1) := by decide +kernel
theorem dL_law_459 : decode cL_law 459 = .ok (.iaload, 1) := by decide +kernel
theorem dL_law_460 : decode cL_law 460 = .ok (.invokevirtual 49, 3) := by decide +kernel
theorem dL_law_463 : decode cL_law 463 = .ok (.if_icmp .eq 857, 3) := by decide +kernel
theorem dL_law_466 : decode cL_law 466 = .ok (.iconst 0, 1) := by decide +kernel
theorem dL_law_467 : decode cL_law 467 = .ok (.ireturn, 1) := by decide +kernel
theorem dL_law_468 : decode cL_law 468 = .ok (.aload_n 1, 1) := by decide +kernel
theorem dL_law_469 : decode cL_law 469 = .ok (.aload_n 0, 1) := by decide +kernel
theorem dL_law_470 : decode cL_law 470 = .ok (.iload_n 3, 1) := by decide +kernel
theorem dL_law_471 : decode cL_law 471 = .ok (.iconst 1, 1) := by decide +kernel
theorem dL_law_472 : decode cL_law 472 = .ok (.iadd, 1) := by decide +kernel
theorem dL_law_473 : decode cL_law 473 = .ok (.iaload, 1) := by decide +kernel
theorem dL_law_474 : decode cL_law 474 = .ok (.invokevirtual 50, 3) := by decide +kernel
theorem dL_law_477 : decode cL_law 477 = .ok (.aload_n 2, 1) := by decide +kernel
theorem dL_law_478 : decode cL_law 478 = .ok (.aload_n 0, 1) := by decide +kernel
theorem dL_law_479 : decode cL_law 479 = .ok (.iload_n 3, 1) := by decide +kernel
theorem dL_law_480 : decode cL_law 480 = .ok (.iconst 1, 1) := by decide +kernel
theorem dL_law_481 : decode cL_law 481 = .ok (.iadd, 1) := by decide +kernel
theorem dL_law_482 : decode cL_law 482 = .ok (.iaload, 1) := by decide +kernel
theorem dL_law_483 : decode cL_law 483 = .ok (.invokevirtual 53, 3) := by decide +kernel
theorem dL_law_486 : decode cL_law 486 = .ok (.if_icmp .eq 834, 3) := by decide +kernel
theorem dL_law_489 : decode cL_law 489 = .ok (.iconst 0, 1) := by decide +kernel
theorem dL_law_490 : decode cL_law 490 = .ok (.ireturn, 1) := by decide +kernel
theorem dL_law_491 : decode cL_law 491 = .ok (.aload_n 1, 1) := by decide +kernel
theorem dL_law_492 : decode cL_law 492 = .ok (.aload_n 0, 1) := by decide +kernel
theorem dL_law_493 : decode cL_law 493 = .ok (.iload_n 3, 1) := by decide +kernel
theorem dL_law_494 : decode cL_law 494 = .ok (.iconst 1, 1) := by decide +kernel
theorem dL_law_495 : decode cL_law 495 = .ok (.iadd, 1) := by decide +kernel
theorem dL_law_496 : decode cL_law 496 = .ok (.iaload, 1) := by decide +kernel
theorem dL_law_497 : decode cL_law 497 = .ok (.aload_n 0, 1) := by decide +kernel
theorem dL_law_498 : decode cL_law 498 = .ok (.iload_n 3, 1) := by decide +kernel
theorem dL_law_499 : decode cL_law 499 = .ok (.iconst 2, 1) := by decide +kernel
theorem dL_law_500 : decode cL_law 500 = .ok (.iadd, 1) := by decide +kernel
theorem dL_law_501 : decode cL_law 501 = .ok (.iaload, 1) := by decide +kernel
theorem dL_law_502 : decode cL_law 502 = .ok (.invokevirtual 54, 3) := by decide +kernel
theorem dL_law_505 : decode cL_law 505 = .ok (.aload_n 2, 1) := by decide +kernel
theorem dL_law_506 : decode cL_law 506 = .ok (.aload_n 0, 1) := by decide +kernel
theorem dL_law_507 : decode cL_law 507 = .ok (.iload_n 3, 1) := by decide +kernel
theorem dL_law_508 : decode cL_law 508 = .ok (.iconst 1, 1) := by decide +kernel
theorem dL_law_509 : decode cL_law 509 = .ok (.iadd, 1) := by decide +kernel
theorem dL_law_510 : decode cL_law 510 = .ok (.iaload, 1) := by decide +kernel
theorem dL_law_511 : decode cL_law 511 = .ok (.aload_n 0, 1) := by decide +kernel
theorem dL_law_512 : decode cL_law 512 = .ok (.iload_n 3, 1) := by decide +kernel
theorem dL_law_513 : decode cL_law 513 = .ok (.iconst 2, 1) := by decide +kernel
theorem dL_law_514 : decode cL_law 514 = .ok (.iadd, 1) := by decide +kernel
theorem dL_law_515 : decode cL_law 515 = .ok (.iaload, 1) := by decide +kernel
theorem dL_law_516 : decode cL_law 516 = .ok (.invokevirtual 57, 3) := by decide +kernel
theorem dL_law_519 : decode cL_law 519 = .ok (.if_icmp .eq 801, 3) := by decide +kernel
theorem dL_law_522 : decode cL_law 522 = .ok (.iconst 0, 1) := by decide +kernel
theorem dL_law_523 : decode cL_law 523 = .ok (.ireturn, 1) := by decide +kernel
theorem dL_law_524 : decode cL_law 524 = .ok (.aload_n 1, 1) := by decide +kernel
theorem dL_law_525 : decode cL_law 525 = .ok (.aload_n 0, 1) := by decide +kernel
theorem dL_law_526 : decode cL_law 526 = .ok (.iload_n 3, 1) := by decide +kernel
theorem dL_law_527 : decode cL_law 527 = .ok (.iconst 1, 1) := by decide +kernel
theorem dL_law_528 : decode cL_law 528 = .ok (.iadd, 1) := by decide +kernel
theorem dL_law_529 : decode cL_law 529 = .ok (.iaload, 1) := by decide +kernel
theorem dL_law_530 : decode cL_law 530 = .ok (.aload_n 0, 1) := by decide +kernel
theorem dL_law_531 : decode cL_law 531 = .ok (.iload_n 3, 1) := by decide +kernel
theorem dL_law_532 : decode cL_law 532 = .ok (.iconst 2, 1) := by decide +kernel
theorem dL_law_533 : decode cL_law 533 = .ok (.iadd, 1) := by decide +kernel
theorem dL_law_534 : decode cL_law 534 = .ok (.iaload, 1) := by decide +kernel
theorem dL_law_535 : decode cL_law 535 = .ok (.ifCond .eq 7, 3) := by decide +kernel
theorem dL_law_538 : decode cL_law 538 = .ok (.iconst 1, 1) := by decide +kernel
theorem dL_law_539 : decode cL_law 539 = .ok (.goto 4, 3) := by decide +kernel
theorem dL_law_542 : decode cL_law 542 = .ok (.iconst 0, 1) := by decide +kernel
theorem dL_law_543 : decode cL_law 543 = .ok (.invokevirtual 58, 3) := by decide +kernel
theorem dL_law_546 : decode cL_law 546 = .ok (.aload_n 2, 1) := by decide +kernel
theorem dL_law_547 : decode cL_law 547 = .ok (.aload_n 0, 1) := by decide +kernel
theorem dL_law_548 : decode cL_law 548 = .ok (.iload_n 3, 1) := by decide +kernel
theorem dL_law_549 : decode cL_law 549 = .ok (.iconst 1, 1) := by decide +kernel
theorem dL_law_550 : decode cL_law 550 = .ok (.iadd, 1) := by decide +kernel
theorem dL_law_551 : decode cL_law 551 = .ok (.iaload, 1) := by decide +kernel
theorem dL_law_552 : decode cL_law 552 = .ok (.aload_n 0, 1) := by decide +kernel
theorem dL_law_553 : decode cL_law 553 = .ok (.iload_n 3, 1) := by decide +kernel
theorem dL_law_554 : decode cL_law 554 = .ok (.iconst 2, 1) := by decide +kernel
theorem dL_law_555 : decode cL_law 555 = .ok (.iadd, 1) := by decide +kernel
theorem dL_law_556 : decode cL_law 556 = .ok (.iaload, 1) := by decide +kernel
theorem dL_law_557 : decode cL_law 557 = .ok (.ifCond .eq 7, 3) := by decide +kernel
theorem dL_law_560 : decode cL_law 560 = .ok (.iconst 1, 1) := by decide +kernel
theorem dL_law_561 : decode cL_law 561 = .ok (.goto 4, 3) := by decide +kernel
theorem dL_law_564 : decode cL_law 564 = .ok (.iconst 0, 1) := by decide +kernel
theorem dL_law_565 : decode cL_law 565 = .ok (.invokevirtual 62, 3) := by decide +kernel
theorem dL_law_568 : decode cL_law 568 = .ok (.if_icmp .eq 752, 3) := by decide +kernel
theorem dL_law_571 : decode cL_law 571 = .ok (.iconst 0, 1) := by decide +kernel
theorem dL_law_572 : decode cL_law 572 = .ok (.ireturn, 1) := by decide +kernel
theorem dL_law_573 : decode cL_law 573 = .ok (.aload_n 1, 1) := by decide +kernel
theorem dL_law_574 : decode cL_law 574 = .ok (.aload_n 0, 1) := by decide +kernel
theorem dL_law_575 : decode cL_law 575 = .ok (.iload_n 3, 1) := by decide +kernel
theorem dL_law_576 : decode cL_law 576 = .ok (.iconst 1, 1) := by decide +kernel
theorem dL_law_577 : decode cL_law 577 = .ok (.iadd, 1) := by decide +kernel
theorem dL_law_578 : decode cL_law 578 = .ok (.iaload, 1) := by decide +kernel
theorem dL_law_579 : decode cL_law 579 = .ok (.aload_n 0, 1) := by decide +kernel
theorem dL_law_580 : decode cL_law 580 = .ok (.iload_n 3, 1) := by decide +kernel
theorem dL_law_581 : decode cL_law 581 = .ok (.iconst 2, 1) := by decide +kernel
theorem dL_law_582 : decode cL_law 582 = .ok (.iadd, 1) := by decide +kernel
theorem dL_law_583 : decode cL_law 583 = .ok (.iaload, 1) := by decide +kernel
theorem dL_law_584 : decode cL_law 584 = .ok (.aload_n 0, 1) := by decide +kernel
theorem dL_law_585 : decode cL_law 585 = .ok (.iload_n 3, 1) := by decide +kernel
theorem dL_law_586 : decode cL_law 586 = .ok (.iconst 3, 1) := by decide +kernel
theorem dL_law_587 : decode cL_law 587 = .ok (.iadd, 1) := by decide +kernel
theorem dL_law_588 : decode cL_law 588 = .ok (.iaload, 1) := by decide +kernel
theorem dL_law_589 : decode cL_law 589 = .ok (.invokevirtual 63, 3) := by decide +kernel
theorem dL_law_592 : decode cL_law 592 = .ok (.aload_n 2, 1) := by decide +kernel
theorem dL_law_593 : decode cL_law 593 = .ok (.aload_n 0, 1) := by decide +kernel
theorem dL_law_594 : decode cL_law 594 = .ok (.iload_n 3, 1) := by decide +kernel
theorem dL_law_595 : decode cL_law 595 = .ok (.iconst 1, 1) := by decide +kernel
theorem dL_law_596 : decode cL_law 596 = .ok (.iadd, 1) := by decide +kernel
theorem dL_law_597 : decode cL_law 597 = .ok (.iaload, 1) := by decide +kernel
theorem dL_law_598 : decode cL_law 598 = .ok (.aload_n 0, 1) := by decide +kernel
theorem dL_law_599 : decode cL_law 599 = .ok (.iload_n 3, 1) := by decide +kernel
theorem dL_law_600 : decode cL_law 600 = .ok (.iconst 2, 1) := by decide +kernel
theorem dL_law_601 : decode cL_law 601 = .ok (.iadd, 1) := by decide +kernel
theorem dL_law_602 : decode cL_law 602 = .ok (.iaload, 1) := by decide +kernel
theorem dL_law_603 : decode cL_law 603 = .ok (.aload_n 0, 1) := by decide +kernel
theorem dL_law_604 : decode cL_law 604 = .ok (.iload_n 3, 1) := by decide +kernel
theorem dL_law_605 : decode cL_law 605 = .ok (.iconst 3, 1) := by decide +kernel
theorem dL_law_606 : decode cL_law 606 = .ok (.iadd, 1) := by decide +kernel
theorem dL_law_607 : decode cL_law 607 = .ok (.iaload, 1) := by decide +kernel
theorem dL_law_608 : decode cL_law 608 = .ok (.invokevirtual 67, 3) := by decide +kernel
theorem dL_law_611 : decode cL_law 611 = .ok (.if_icmp .eq 709, 3) := by decide +kernel
theorem dL_law_614 : decode cL_law 614 = .ok (.iconst 0, 1) := by decide +kernel
theorem dL_law_615 : decode cL_law 615 = .ok (.ireturn, 1) := by decide +kernel
theorem dL_law_616 : decode cL_law 616 = .ok (.aload_n 1, 1) := by decide +kernel
theorem dL_law_617 : decode cL_law 617 = .ok (.aload_n 0, 1) := by decide +kernel
theorem dL_law_618 : decode cL_law 618 = .ok (.iload_n 3, 1) := by decide +kernel
theorem dL_law_619 : decode cL_law 619 = .ok (.iconst 1, 1) := by decide +kernel
theorem dL_law_620 : decode cL_law 620 = .ok (.iadd, 1) := by decide +kernel
theorem dL_law_621 : decode cL_law 621 = .ok (.iaload, 1) := by decide +kernel
theorem dL_law_622 : decode cL_law 622 = .ok (.invokevirtual 68, 3) := by decide +kernel
theorem dL_law_625 : decode cL_law 625 = .ok (.aload_n 2, 1) := by decide +kernel
theorem dL_law_626 : decode cL_law 626 = .ok (.aload_n 0, 1) := by decide +kernel
theorem dL_law_627 : decode cL_law 627 = .ok (.iload_n 3, 1) := by decide +kernel
theorem dL_law_628 : decode cL_law 628 = .ok (.iconst 1, 1) := by decide +kernel
theorem dL_law_629 : decode cL_law 629 = .ok (.iadd, 1) := by decide +kernel
theorem dL_law_630 : decode cL_law 630 = .ok (.iaload, 1) := by decide +kernel
theorem dL_law_631 : decode cL_law 631 = .ok (.invokevirtual 71, 3) := by decide +kernel
theorem dL_law_634 : decode cL_law 634 = .ok (.if_icmp .eq 686, 3) := by decide +kernel
theorem dL_law_637 : decode cL_law 637 = .ok (.iconst 0, 1) := by decide +kernel
theorem dL_law_638 : decode cL_law 638 = .ok (.ireturn, 1) := by decide +kernel
theorem dL_law_639 : decode cL_law 639 = .ok (.aload_n 1, 1) := by decide +kernel
theorem dL_law_640 : decode cL_law 640 = .ok (.aload_n 0, 1) := by decide +kernel
theorem dL_law_641 : decode cL_law 641 = .ok (.iload_n 3, 1) := by decide +kernel
theorem dL_law_642 : decode cL_law 642 = .ok (.iconst 1, 1) := by decide +kernel
theorem dL_law_643 : decode cL_law 643 = .ok (.iadd, 1) := by decide +kernel
theorem dL_law_644 : decode cL_law 644 = .ok (.iaload, 1) := by decide +kernel
theorem dL_law_645 : decode cL_law 645 = .ok (.aload_n 0, 1) := by decide +kernel
theorem dL_law_646 : decode cL_law 646 = .ok (.iload_n 3, 1) := by decide +kernel
theorem dL_law_647 : decode cL_law 647 = .ok (.iconst 2, 1) := by decide +kernel
theorem dL_law_648 : decode cL_law 648 = .ok (.iadd, 1) := by decide +kernel
theorem dL_law_649 : decode cL_law 649 = .ok (.iaload, 1) := by decide +kernel
theorem dL_law_650 : decode cL_law 650 = .ok (.aload_n 0, 1) := by decide +kernel
theorem dL_law_651 : decode cL_law 651 = .ok (.iload_n 3, 1) := by decide +kernel
theorem dL_law_652 : decode cL_law 652 = .ok (.iconst 3, 1) := by decide +kernel
theorem dL_law_653 : decode cL_law 653 = .ok (.iadd, 1) := by decide +kernel
theorem dL_law_654 : decode cL_law 654 = .ok (.iaload, 1) := by decide +kernel
theorem dL_law_655 : decode cL_law 655 = .ok (.invokevirtual 72, 3) := by decide +kernel
theorem dL_law_658 : decode cL_law 658 = .ok (.aload_n 2, 1) := by decide +kernel
theorem dL_law_659 : decode cL_law 659 = .ok (.aload_n 0, 1) := by decide +kernel
theorem dL_law_660 : decode cL_law 660 = .ok (.iload_n 3, 1) := by decide +kernel
theorem dL_law_661 : decode cL_law 661 = .ok (.iconst 1, 1) := by decide +kernel
theorem dL_law_662 : decode cL_law 662 = .ok (.iadd, 1) := by decide +kernel
theorem dL_law_663 : decode cL_law 663 = .ok (.iaload, 1) := by decide +kernel
theorem dL_law_664 : decode cL_law 664 = .ok (.aload_n 0, 1) := by decide +kernel
theorem dL_law_665 : decode cL_law 665 = .ok (.iload_n 3, 1) := by decide +kernel
theorem dL_law_666 : decode cL_law 666 = .ok (.iconst 2, 1) := by decide +kernel
theorem dL_law_667 : decode cL_law 667 = .ok (.iadd, 1) := by decide +kernel
theorem dL_law_668 : decode cL_law 668 = .ok (.iaload, 1) := by decide +kernel
theorem dL_law_669 : decode cL_law 669 = .ok (.aload_n 0, 1) := by decide +kernel
theorem dL_law_670 : decode cL_law 670 = .ok (.iload_n 3, 1) := by decide +kernel
theorem dL_law_671 : decode cL_law 671 = .ok (.iconst 3, 1) := by decide +kernel
theorem dL_law_672 : decode cL_law 672 = .ok (.iadd, 1) := by decide +kernel
theorem dL_law_673 : decode cL_law 673 = .ok (.iaload, 1) := by decide +kernel
theorem dL_law_674 : decode cL_law 674 = .ok (.invokevirtual 76, 3) := by decide +kernel
theorem dL_law_677 : decode cL_law 677 = .ok (.lcmp, 1) := by decide +kernel
theorem dL_law_678 : decode cL_law 678 = .ok (.ifCond .eq 642, 3) := by decide +kernel
theorem dL_law_681 : decode cL_law 681 = .ok (.iconst 0, 1) := by decide +kernel
theorem dL_law_682 : decode cL_law 682 = .ok (.ireturn, 1) := by decide +kernel
theorem dL_law_683 : decode cL_law 683 = .ok (.aload_n 1, 1) := by decide +kernel
theorem dL_law_684 : decode cL_law 684 = .ok (.aload_n 0, 1) := by decide +kernel
theorem dL_law_685 : decode cL_law 685 = .ok (.iload_n 3, 1) := by decide +kernel
theorem dL_law_686 : decode cL_law 686 = .ok (.iconst 1, 1) := by decide +kernel
theorem dL_law_687 : decode cL_law 687 = .ok (.iadd, 1) := by decide +kernel
theorem dL_law_688 : decode cL_law 688 = .ok (.iaload, 1) := by decide +kernel
theorem dL_law_689 : decode cL_law 689 = .ok (.invokevirtual 77, 3) := by decide +kernel
theorem dL_law_692 : decode cL_law 692 = .ok (.aload_n 2, 1) := by decide +kernel
theorem dL_law_693 : decode cL_law 693 = .ok (.aload_n 0, 1) := by decide +kernel
theorem dL_law_694 : decode cL_law 694 = .ok (.iload_n 3, 1) := by decide +kernel
theorem dL_law_695 : decode cL_law 695 = .ok (.iconst 1, 1) := by decide +kernel
theorem dL_law_696 : decode cL_law 696 = .ok (.iadd, 1) := by decide +kernel
theorem dL_law_697 : decode cL_law 697 = .ok (.iaload, 1) := by decide +kernel
theorem dL_law_698 : decode cL_law 698 = .ok (.invokevirtual 80, 3) := by decide +kernel
theorem dL_law_701 : decode cL_law 701 = .ok (.if_icmp .eq 619, 3) := by decide +kernel
theorem dL_law_704 : decode cL_law 704 = .ok (.iconst 0, 1) := by decide +kernel
theorem dL_law_705 : decode cL_law 705 = .ok (.ireturn, 1) := by decide +kernel
theorem dL_law_706 : decode cL_law 706 = .ok (.aload_n 1, 1) := by decide +kernel
theorem dL_law_707 : decode cL_law 707 = .ok (.aload_n 0, 1) := by decide +kernel
theorem dL_law_708 : decode cL_law 708 = .ok (.iload_n 3, 1) := by decide +kernel
theorem dL_law_709 : decode cL_law 709 = .ok (.iconst 1, 1) := by decide +kernel
theorem dL_law_710 : decode cL_law 710 = .ok (.iadd, 1) := by decide +kernel
theorem dL_law_711 : decode cL_law 711 = .ok (.iaload, 1) := by decide +kernel
theorem dL_law_712 : decode cL_law 712 = .ok (.invokevirtual 81, 3) := by decide +kernel
theorem dL_law_715 : decode cL_law 715 = .ok (.aload_n 2, 1) := by decide +kernel
theorem dL_law_716 : decode cL_law 716 = .ok (.aload_n 0, 1) := by decide +kernel
theorem dL_law_717 : decode cL_law 717 = .ok (.iload_n 3, 1) := by decide +kernel
theorem dL_law_718 : decode cL_law 718 = .ok (.iconst 1, 1) := by decide +kernel
theorem dL_law_719 : decode cL_law 719 = .ok (.iadd, 1) := by decide +kernel
theorem dL_law_720 : decode cL_law 720 = .ok (.iaload, 1) := by decide +kernel
theorem dL_law_721 : decode cL_law 721 = .ok (.invokevirtual 84, 3) := by decide +kernel
theorem dL_law_724 : decode cL_law 724 = .ok (.if_icmp .eq 596, 3) := by decide +kernel
theorem dL_law_727 : decode cL_law 727 = .ok (.iconst 0, 1) := by decide +kernel
theorem dL_law_728 : decode cL_law 728 = .ok (.ireturn, 1) := by decide +kernel
theorem dL_law_729 : decode cL_law 729 = .ok (.aload_n 1, 1) := by decide +kernel
theorem dL_law_730 : decode cL_law 730 = .ok (.aload_n 0, 1) := by decide +kernel
theorem dL_law_731 : decode cL_law 731 = .ok (.iload_n 3, 1) := by decide +kernel
theorem dL_law_732 : decode cL_law 732 = .ok (.iconst 1, 1) := by decide +kernel
theorem dL_law_733 : decode cL_law 733 = .ok (.iadd, 1) := by decide +kernel
theorem dL_law_734 : decode cL_law 734 = .ok (.iaload, 1) := by decide +kernel
theorem dL_law_735 : decode cL_law 735 = .ok (.aload_n 0, 1) := by decide +kernel
theorem dL_law_736 : decode cL_law 736 = .ok (.iload_n 3, 1) := by decide +kernel
theorem dL_law_737 : decode cL_law 737 = .ok (.iconst 2, 1) := by decide +kernel
theorem dL_law_738 : decode cL_law 738 = .ok (.iadd, 1) := by decide +kernel
theorem dL_law_739 : decode cL_law 739 = .ok (.iaload, 1) := by decide +kernel
theorem dL_law_740 : decode cL_law 740 = .ok (.aload_n 0, 1) := by decide +kernel
theorem dL_law_741 : decode cL_law 741 = .ok (.iload_n 3, 1) := by decide +kernel
theorem dL_law_742 : decode cL_law 742 = .ok (.iconst 3, 1) := by decide +kernel
theorem dL_law_743 : decode cL_law 743 = .ok (.iadd, 1) := by decide +kernel
theorem dL_law_744 : decode cL_law 744 = .ok (.iaload, 1) := by decide +kernel
theorem dL_law_745 : decode cL_law 745 = .ok (.aload_n 0, 1) := by decide +kernel
theorem dL_law_746 : decode cL_law 746 = .ok (.iload_n 3, 1) := by decide +kernel
theorem dL_law_747 : decode cL_law 747 = .ok (.iconst 4, 1) := by decide +kernel
theorem dL_law_748 : decode cL_law 748 = .ok (.iadd, 1) := by decide +kernel
theorem dL_law_749 : decode cL_law 749 = .ok (.iaload, 1) := by decide +kernel
theorem dL_law_750 : decode cL_law 750 = .ok (.aload_n 0, 1) := by decide +kernel
theorem dL_law_751 : decode cL_law 751 = .ok (.iload_n 3, 1) := by decide +kernel
theorem dL_law_752 : decode cL_law 752 = .ok (.iconst 5, 1) := by decide +kernel
theorem dL_law_753 : decode cL_law 753 = .ok (.iadd, 1) := by decide +kernel
theorem dL_law_754 : decode cL_law 754 = .ok (.iaload, 1) := by decide +kernel
theorem dL_law_755 : decode cL_law 755 = .ok (.invokevirtual 85, 3) := by decide +kernel
theorem dL_law_758 : decode cL_law 758 = .ok (.aload_n 2, 1) := by decide +kernel
theorem dL_law_759 : decode cL_law 759 = .ok (.aload_n 0, 1) := by decide +kernel
theorem dL_law_760 : decode cL_law 760 = .ok (.iload_n 3, 1) := by decide +kernel
theorem dL_law_761 : decode cL_law 761 = .ok (.iconst 1, 1) := by decide +kernel
theorem dL_law_762 : decode cL_law 762 = .ok (.iadd, 1) := by decide +kernel
theorem dL_law_763 : decode cL_law 763 = .ok (.iaload, 1) := by decide +kernel
theorem dL_law_764 : decode cL_law 764 = .ok (.aload_n 0, 1) := by decide +kernel
theorem dL_law_765 : decode cL_law 765 = .ok (.iload_n 3, 1) := by decide +kernel
theorem dL_law_766 : decode cL_law 766 = .ok (.iconst 2, 1) := by decide +kernel
theorem dL_law_767 : decode cL_law 767 = .ok (.iadd, 1) := by decide +kernel
theorem dL_law_768 : decode cL_law 768 = .ok (.iaload, 1) := by decide +kernel
theorem dL_law_769 : decode cL_law 769 = .ok (.aload_n 0, 1) := by decide +kernel
theorem dL_law_770 : decode cL_law 770 = .ok (.iload_n 3, 1) := by decide +kernel
theorem dL_law_771 : decode cL_law 771 = .ok (.iconst 3, 1) := by decide +kernel
theorem dL_law_772 : decode cL_law 772 = .ok (.iadd, 1) := by decide +kernel
theorem dL_law_773 : decode cL_law 773 = .ok (.iaload, 1) := by decide +kernel
theorem dL_law_774 : decode cL_law 774 = .ok (.aload_n 0, 1) := by decide +kernel
theorem dL_law_775 : decode cL_law 775 = .ok (.iload_n 3, 1) := by decide +kernel
theorem dL_law_776 : decode cL_law 776 = .ok (.iconst 4, 1) := by decide +kernel
theorem dL_law_777 : decode cL_law 777 = .ok (.iadd, 1) := by decide +kernel
theorem dL_law_778 : decode cL_law 778 = .ok (.iaload, 1) := by decide +kernel
theorem dL_law_779 : decode cL_law 779 = .ok (.aload_n 0, 1) := by decide +kernel
theorem dL_law_780 : decode cL_law 780 = .ok (.iload_n 3, 1) := by decide +kernel
theorem dL_law_781 : decode cL_law 781 = .ok (.iconst 5, 1) := by decide +kernel
theorem dL_law_782 : decode cL_law 782 = .ok (.iadd, 1) := by decide +kernel
theorem dL_law_783 : decode cL_law 783 = .ok (.iaload, 1) := by decide +kernel
theorem dL_law_784 : decode cL_law 784 = .ok (.invokevirtual 88, 3) := by decide +kernel
theorem dL_law_787 : decode cL_law 787 = .ok (.if_icmp .eq 533, 3) := by decide +kernel
theorem dL_law_790 : decode cL_law 790 = .ok (.iconst 0, 1) := by decide +kernel
theorem dL_law_791 : decode cL_law 791 = .ok (.ireturn, 1) := by decide +kernel
theorem dL_law_792 : decode cL_law 792 = .ok (.aload_n 1, 1) := by decide +kernel
theorem dL_law_793 : decode cL_law 793 = .ok (.aload_n 0, 1) := by decide +kernel
theorem dL_law_794 : decode cL_law 794 = .ok (.iload_n 3, 1) := by decide +kernel
theorem dL_law_795 : decode cL_law 795 = .ok (.iconst 1, 1) := by decide +kernel
theorem dL_law_796 : decode cL_law 796 = .ok (.iadd, 1) := by decide +kernel
theorem dL_law_797 : decode cL_law 797 = .ok (.iaload, 1) := by decide +kernel
theorem dL_law_798 : decode cL_law 798 = .ok (.aload_n 0, 1) := by decide +kernel
theorem dL_law_799 : decode cL_law 799 = .ok (.iload_n 3, 1) := by decide +kernel
theorem dL_law_800 : decode cL_law 800 = .ok (.iconst 2, 1) := by decide +kernel
theorem dL_law_801 : decode cL_law 801 = .ok (.iadd, 1) := by decide +kernel
theorem dL_law_802 : decode cL_law 802 = .ok (.iaload, 1) := by decide +kernel
theorem dL_law_803 : decode cL_law 803 = .ok (.aload_n 0, 1) := by decide +kernel
theorem dL_law_804 : decode cL_law 804 = .ok (.iload_n 3, 1) := by decide +kernel
theorem dL_law_805 : decode cL_law 805 = .ok (.iconst 3, 1) := by decide +kernel
theorem dL_law_806 : decode cL_law 806 = .ok (.iadd, 1) := by decide +kernel
theorem dL_law_807 : decode cL_law 807 = .ok (.iaload, 1) := by decide +kernel
theorem dL_law_808 : decode cL_law 808 = .ok (.invokevirtual 89, 3) := by decide +kernel
theorem dL_law_811 : decode cL_law 811 = .ok (.aload_n 2, 1) := by decide +kernel
theorem dL_law_812 : decode cL_law 812 = .ok (.aload_n 0, 1) := by decide +kernel
theorem dL_law_813 : decode cL_law 813 = .ok (.iload_n 3, 1) := by decide +kernel
theorem dL_law_814 : decode cL_law 814 = .ok (.iconst 1, 1) := by decide +kernel
theorem dL_law_815 : decode cL_law 815 = .ok (.iadd, 1) := by decide +kernel
theorem dL_law_816 : decode cL_law 816 = .ok (.iaload, 1) := by decide +kernel
theorem dL_law_817 : decode cL_law 817 = .ok (.aload_n 0, 1) := by decide +kernel
theorem dL_law_818 : decode cL_law 818 = .ok (.iload_n 3, 1) := by decide +kernel
theorem dL_law_819 : decode cL_law 819 = .ok (.iconst 2, 1) := by decide +kernel
theorem dL_law_820 : decode cL_law 820 = .ok (.iadd, 1) := by decide +kernel
theorem dL_law_821 : decode cL_law 821 = .ok (.iaload, 1) := by decide +kernel
theorem dL_law_822 : decode cL_law 822 = .ok (.aload_n 0, 1) := by decide +kernel
theorem dL_law_823 : decode cL_law 823 = .ok (.iload_n 3, 1) := by decide +kernel
theorem dL_law_824 : decode cL_law 824 = .ok (.iconst 3, 1) := by decide +kernel
theorem dL_law_825 : decode cL_law 825 = .ok (.iadd, 1) := by decide +kernel
theorem dL_law_826 : decode cL_law 826 = .ok (.iaload, 1) := by decide +kernel
theorem dL_law_827 : decode cL_law 827 = .ok (.invokevirtual 92, 3) := by decide +kernel
theorem dL_law_830 : decode cL_law 830 = .ok (.if_icmp .eq 490, 3) := by decide +kernel
theorem dL_law_833 : decode cL_law 833 = .ok (.iconst 0, 1) := by decide +kernel
theorem dL_law_834 : decode cL_law 834 = .ok (.ireturn, 1) := by decide +kernel
theorem dL_law_835 : decode cL_law 835 = .ok (.aload_n 1, 1) := by decide +kernel
theorem dL_law_836 : decode cL_law 836 = .ok (.invokevirtual 93, 3) := by decide +kernel
theorem dL_law_839 : decode cL_law 839 = .ok (.aload_n 2, 1) := by decide +kernel
theorem dL_law_840 : decode cL_law 840 = .ok (.invokevirtual 97, 3) := by decide +kernel
theorem dL_law_843 : decode cL_law 843 = .ok (.if_icmp .eq 477, 3) := by decide +kernel
theorem dL_law_846 : decode cL_law 846 = .ok (.iconst 0, 1) := by decide +kernel
theorem dL_law_847 : decode cL_law 847 = .ok (.ireturn, 1) := by decide +kernel
theorem dL_law_848 : decode cL_law 848 = .ok (.aload_n 1, 1) := by decide +kernel
theorem dL_law_849 : decode cL_law 849 = .ok (.aload_n 0, 1) := by decide +kernel
theorem dL_law_850 : decode cL_law 850 = .ok (.iload_n 3, 1) := by decide +kernel
theorem dL_law_851 : decode cL_law 851 = .ok (.iconst 1, 1) := by decide +kernel
theorem dL_law_852 : decode cL_law 852 = .ok (.iadd, 1) := by decide +kernel
theorem dL_law_853 : decode cL_law 853 = .ok (.iaload, 1) := by decide +kernel
theorem dL_law_854 : decode cL_law 854 = .ok (.aload_n 0, 1) := by decide +kernel
theorem dL_law_855 : decode cL_law 855 = .ok (.iload_n 3, 1) := by decide +kernel
theorem dL_law_856 : decode cL_law 856 = .ok (.iconst 2, 1) := by decide +kernel
theorem dL_law_857 : decode cL_law 857 = .ok (.iadd, 1) := by decide +kernel
theorem dL_law_858 : decode cL_law 858 = .ok (.iaload, 1) := by decide +kernel
theorem dL_law_859 : decode cL_law 859 = .ok (.aload_n 0, 1) := by decide +kernel
theorem dL_law_860 : decode cL_law 860 = .ok (.iload_n 3, 1) := by decide +kernel
theorem dL_law_861 : decode cL_law 861 = .ok (.iconst 3, 1) := by decide +kernel
theorem dL_law_862 : decode cL_law 862 = .ok (.iadd, 1) := by decide +kernel
theorem dL_law_863 : decode cL_law 863 = .ok (.iaload, 1) := by decide +kernel
theorem dL_law_864 : decode cL_law 864 = .ok (.invokevirtual 98, 3) := by decide +kernel
theorem dL_law_867 : decode cL_law 867 = .ok (.aload_n 2, 1) := by decide +kernel
theorem dL_law_868 : decode cL_law 868 = .ok (.aload_n 0, 1) := by decide +kernel
theorem dL_law_869 : decode cL_law 869 = .ok (.iload_n 3, 1) := by decide +kernel
theorem dL_law_870 : decode cL_law 870 = .ok (.iconst 1, 1) := by decide +kernel
theorem dL_law_871 : decode cL_law 871 = .ok (.iadd, 1) := by decide +kernel
theorem dL_law_872 : decode cL_law 872 = .ok (.iaload, 1) := by decide +kernel
theorem dL_law_873 : decode cL_law 873 = .ok (.aload_n 0, 1) := by decide +kernel
theorem dL_law_874 : decode cL_law 874 = .ok (.iload_n 3, 1) := by decide +kernel
theorem dL_law_875 : decode cL_law 875 = .ok (.iconst 2, 1) := by decide +kernel
theorem dL_law_876 : decode cL_law 876 = .ok (.iadd, 1) := by decide +kernel
theorem dL_law_877 : decode cL_law 877 = .ok (.iaload, 1) := by decide +kernel
theorem dL_law_878 : decode cL_law 878 = .ok (.aload_n 0, 1) := by decide +kernel
theorem dL_law_879 : decode cL_law 879 = .ok (.iload_n 3, 1) := by decide +kernel
theorem dL_law_880 : decode cL_law 880 = .ok (.iconst 3, 1) := by decide +kernel
theorem dL_law_881 : decode cL_law 881 = .ok (.iadd, 1) := by decide +kernel
theorem dL_law_882 : decode cL_law 882 = .ok (.iaload, 1) := by decide +kernel
theorem dL_law_883 : decode cL_law 883 = .ok (.invokevirtual 101, 3) := by decide +kernel
theorem dL_law_886 : decode cL_law 886 = .ok (.if_icmp .eq 434, 3) := by decide +kernel
theorem dL_law_889 : decode cL_law 889 = .ok (.iconst 0, 1) := by decide +kernel
theorem dL_law_890 : decode cL_law 890 = .ok (.ireturn, 1) := by decide +kernel
theorem dL_law_891 : decode cL_law 891 = .ok (.aload_n 1, 1) := by decide +kernel
theorem dL_law_892 : decode cL_law 892 = .ok (.aload_n 0, 1) := by decide +kernel
theorem dL_law_893 : decode cL_law 893 = .ok (.iload_n 3, 1) := by decide +kernel
theorem dL_law_894 : decode cL_law 894 = .ok (.iconst 1, 1) := by decide +kernel
theorem dL_law_895 : decode cL_law 895 = .ok (.iadd, 1) := by decide +kernel
theorem dL_law_896 : decode cL_law 896 = .ok (.iaload, 1) := by decide +kernel
theorem dL_law_897 : decode cL_law 897 = .ok (.invokevirtual 102, 3) := by decide +kernel
theorem dL_law_900 : decode cL_law 900 = .ok (.aload_n 2, 1) := by decide +kernel
theorem dL_law_901 : decode cL_law 901 = .ok (.aload_n 0, 1) := by decide +kernel
theorem dL_law_902 : decode cL_law 902 = .ok (.iload_n 3, 1) := by decide +kernel
theorem dL_law_903 : decode cL_law 903 = .ok (.iconst 1, 1) := by decide +kernel
theorem dL_law_904 : decode cL_law 904 = .ok (.iadd, 1) := by decide +kernel
theorem dL_law_905 : decode cL_law 905 = .ok (.iaload, 1) := by decide +kernel
theorem dL_law_906 : decode cL_law 906 = .ok (.invokevirtual 105, 3) := by decide +kernel
theorem dL_law_909 : decode cL_law 909 = .ok (.if_icmp .eq 411, 3) := by decide +kernel
theorem dL_law_912 : decode cL_law 912 = .ok (.iconst 0, 1) := by decide +kernel
theorem dL_law_913 : decode cL_law 913 = .ok (.ireturn, 1) := by decide +kernel
theorem dL_law_914 : decode cL_law 914 = .ok (.aload_n 1, 1) := by decide +kernel
theorem dL_law_915 : decode cL_law 915 = .ok (.aload_n 0, 1) := by decide +kernel
theorem dL_law_916 : decode cL_law 916 = .ok (.iload_n 3, 1) := by decide +kernel
theorem dL_law_917 : decode cL_law 917 = .ok (.iconst 1, 1) := by decide +kernel
theorem dL_law_918 : decode cL_law 918 = .ok (.iadd, 1) := by decide +kernel
theorem dL_law_919 : decode cL_law 919 = .ok (.iaload, 1) := by decide +kernel
theorem dL_law_920 : decode cL_law 920 = .ok (.aload_n 0, 1) := by decide +kernel
theorem dL_law_921 : decode cL_law 921 = .ok (.iload_n 3, 1) := by decide +kernel
theorem dL_law_922 : decode cL_law 922 = .ok (.iconst 2, 1) := by decide +kernel
theorem dL_law_923 : decode cL_law 923 = .ok (.iadd, 1) := by decide +kernel
theorem dL_law_924 : decode cL_law 924 = .ok (.iaload, 1) := by decide +kernel
theorem dL_law_925 : decode cL_law 925 = .ok (.aload_n 0, 1) := by decide +kernel
theorem dL_law_926 : decode cL_law 926 = .ok (.iload_n 3, 1) := by decide +kernel
theorem dL_law_927 : decode cL_law 927 = .ok (.iconst 3, 1) := by decide +kernel
theorem dL_law_928 : decode cL_law 928 = .ok (.iadd, 1) := by decide +kernel
theorem dL_law_929 : decode cL_law 929 = .ok (.iaload, 1) := by decide +kernel
theorem dL_law_930 : decode cL_law 930 = .ok (.invokevirtual 106, 3) := by decide +kernel
theorem dL_law_933 : decode cL_law 933 = .ok (.aload_n 2, 1) := by decide +kernel
theorem dL_law_934 : decode cL_law 934 = .ok (.aload_n 0, 1) := by decide +kernel
theorem dL_law_935 : decode cL_law 935 = .ok (.iload_n 3, 1) := by decide +kernel
theorem dL_law_936 : decode cL_law 936 = .ok (.iconst 1, 1) := by decide +kernel
theorem dL_law_937 : decode cL_law 937 = .ok (.iadd, 1) := by decide +kernel
theorem dL_law_938 : decode cL_law 938 = .ok (.iaload, 1) := by decide +kernel
theorem dL_law_939 : decode cL_law 939 = .ok (.aload_n 0, 1) := by decide +kernel
theorem dL_law_940 : decode cL_law 940 = .ok (.iload_n 3, 1) := by decide +kernel
theorem dL_law_941 : decode cL_law 941 = .ok (.iconst 2, 1) := by decide +kernel
theorem dL_law_942 : decode cL_law 942 = .ok (.iadd, 1) := by decide +kernel
theorem dL_law_943 : decode cL_law 943 = .ok (.iaload, 1) := by decide +kernel
theorem dL_law_944 : decode cL_law 944 = .ok (.aload_n 0, 1) := by decide +kernel
theorem dL_law_945 : decode cL_law 945 = .ok (.iload_n 3, 1) := by decide +kernel
theorem dL_law_946 : decode cL_law 946 = .ok (.iconst 3, 1) := by decide +kernel
theorem dL_law_947 : decode cL_law 947 = .ok (.iadd, 1) := by decide +kernel
theorem dL_law_948 : decode cL_law 948 = .ok (.iaload, 1) := by decide +kernel
theorem dL_law_949 : decode cL_law 949 = .ok (.invokevirtual 110, 3) := by decide +kernel
theorem dL_law_952 : decode cL_law 952 = .ok (.if_icmp .eq 368, 3) := by decide +kernel
theorem dL_law_955 : decode cL_law 955 = .ok (.iconst 0, 1) := by decide +kernel
theorem dL_law_956 : decode cL_law 956 = .ok (.ireturn, 1) := by decide +kernel
theorem dL_law_957 : decode cL_law 957 = .ok (.aload_n 1, 1) := by decide +kernel
theorem dL_law_958 : decode cL_law 958 = .ok (.aload_n 0, 1) := by decide +kernel
theorem dL_law_959 : decode cL_law 959 = .ok (.iload_n 3, 1) := by decide +kernel
theorem dL_law_960 : decode cL_law 960 = .ok (.iconst 1, 1) := by decide +kernel
theorem dL_law_961 : decode cL_law 961 = .ok (.iadd, 1) := by decide +kernel
theorem dL_law_962 : decode cL_law 962 = .ok (.iaload, 1) := by decide +kernel
theorem dL_law_963 : decode cL_law 963 = .ok (.aload_n 0, 1) := by decide +kernel
theorem dL_law_964 : decode cL_law 964 = .ok (.iload_n 3, 1) := by decide +kernel
theorem dL_law_965 : decode cL_law 965 = .ok (.iconst 2, 1) := by decide +kernel
theorem dL_law_966 : decode cL_law 966 = .ok (.iadd, 1) := by decide +kernel
theorem dL_law_967 : decode cL_law 967 = .ok (.iaload, 1) := by decide +kernel
theorem dL_law_968 : decode cL_law 968 = .ok (.invokevirtual 111, 3) := by decide +kernel
theorem dL_law_971 : decode cL_law 971 = .ok (.aload_n 2, 1) := by decide +kernel
theorem dL_law_972 : decode cL_law 972 = .ok (.aload_n 0, 1) := by decide +kernel
theorem dL_law_973 : decode cL_law 973 = .ok (.iload_n 3, 1) := by decide +kernel
theorem dL_law_974 : decode cL_law 974 = .ok (.iconst 1, 1) := by decide +kernel
theorem dL_law_975 : decode cL_law 975 = .ok (.iadd, 1) := by decide +kernel
theorem dL_law_976 : decode cL_law 976 = .ok (.iaload, 1) := by decide +kernel
theorem dL_law_977 : decode cL_law 977 = .ok (.aload_n 0, 1) := by decide +kernel
theorem dL_law_978 : decode cL_law 978 = .ok (.iload_n 3, 1) := by decide +kernel
theorem dL_law_979 : decode cL_law 979 = .ok (.iconst 2, 1) := by decide +kernel
theorem dL_law_980 : decode cL_law 980 = .ok (.iadd, 1) := by decide +kernel
theorem dL_law_981 : decode cL_law 981 = .ok (.iaload, 1) := by decide +kernel
theorem dL_law_982 : decode cL_law 982 = .ok (.invokevirtual 114, 3) := by decide +kernel
theorem dL_law_985 : decode cL_law 985 = .ok (.if_icmp .eq 335, 3) := by decide +kernel
theorem dL_law_988 : decode cL_law 988 = .ok (.iconst 0, 1) := by decide +kernel
theorem dL_law_989 : decode cL_law 989 = .ok (.ireturn, 1) := by decide +kernel
theorem dL_law_990 : decode cL_law 990 = .ok (.aload_n 1, 1) := by decide +kernel
theorem dL_law_991 : decode cL_law 991 = .ok (.aload_n 0, 1) := by decide +kernel
theorem dL_law_992 : decode cL_law 992 = .ok (.iload_n 3, 1) := by decide +kernel
theorem dL_law_993 : decode cL_law 993 = .ok (.iconst 1, 1) := by decide +kernel
theorem dL_law_994 : decode cL_law 994 = .ok (.iadd, 1) := by decide +kernel
theorem dL_law_995 : decode cL_law 995 = .ok (.iaload, 1) := by decide +kernel
theorem dL_law_996 : decode cL_law 996 = .ok (.aload_n 0, 1) := by decide +kernel
theorem dL_law_997 : decode cL_law 997 = .ok (.iload_n 3, 1) := by decide +kernel
theorem dL_law_998 : decode cL_law 998 = .ok (.iconst 2, 1) := by decide +kernel
theorem dL_law_999 : decode cL_law 999 = .ok (.iadd, 1) := by decide +kernel
theorem dL_law_1000 : decode cL_law 1000 = .ok (.iaload, 1) := by decide +kernel
theorem dL_law_1001 : decode cL_law 1001 = .ok (.aload_n 0, 1) := by decide +kernel
theorem dL_law_1002 : decode cL_law 1002 = .ok (.iload_n 3, 1) := by decide +kernel
theorem dL_law_1003 : decode cL_law 1003 = .ok (.iconst 3, 1) := by decide +kernel
theorem dL_law_1004 : decode cL_law 1004 = .ok (.iadd, 1) := by decide +kernel
theorem dL_law_1005 : decode cL_law 1005 = .ok (.iaload, 1) := by decide +kernel
theorem dL_law_1006 : decode cL_law 1006 = .ok (.aload_n 0, 1) := by decide +kernel
theorem dL_law_1007 : decode cL_law 1007 = .ok (.iload_n 3, 1) := by decide +kernel
theorem dL_law_1008 : decode cL_law 1008 = .ok (.iconst 4, 1) := by decide +kernel
theorem dL_law_1009 : decode cL_law 1009 = .ok (.iadd, 1) := by decide +kernel
theorem dL_law_1010 : decode cL_law 1010 = .ok (.iaload, 1) := by decide +kernel
theorem dL_law_1011 : decode cL_law 1011 = .ok (.aload_n 0, 1) := by decide +kernel
theorem dL_law_1012 : decode cL_law 1012 = .ok (.iload_n 3, 1) := by decide +kernel
theorem dL_law_1013 : decode cL_law 1013 = .ok (.iconst 5, 1) := by decide +kernel
theorem dL_law_1014 : decode cL_law 1014 = .ok (.iadd, 1) := by decide +kernel
theorem dL_law_1015 : decode cL_law 1015 = .ok (.iaload, 1) := by decide +kernel
theorem dL_law_1016 : decode cL_law 1016 = .ok (.aload_n 0, 1) := by decide +kernel
theorem dL_law_1017 : decode cL_law 1017 = .ok (.iload_n 3, 1) := by decide +kernel
theorem dL_law_1018 : decode cL_law 1018 = .ok (.bipush 6, 2) := by decide +kernel
theorem dL_law_1020 : decode cL_law 1020 = .ok (.iadd, 1) := by decide +kernel
theorem dL_law_1021 : decode cL_law 1021 = .ok (.iaload, 1) := by decide +kernel
theorem dL_law_1022 : decode cL_law 1022 = .ok (.aload_n 0, 1) := by decide +kernel
theorem dL_law_1023 : decode cL_law 1023 = .ok (.iload_n 3, 1) := by decide +kernel
theorem dL_law_1024 : decode cL_law 1024 = .ok (.bipush 7, 2) := by decide +kernel
theorem dL_law_1026 : decode cL_law 1026 = .ok (.iadd, 1) := by decide +kernel
theorem dL_law_1027 : decode cL_law 1027 = .ok (.iaload, 1) := by decide +kernel
theorem dL_law_1028 : decode cL_law 1028 = .ok (.invokevirtual 115, 3) := by decide +kernel
theorem dL_law_1031 : decode cL_law 1031 = .ok (.aload_n 2, 1) := by decide +kernel
theorem dL_law_1032 : decode cL_law 1032 = .ok (.aload_n 0, 1) := by decide +kernel
theorem dL_law_1033 : decode cL_law 1033 = .ok (.iload_n 3, 1) := by decide +kernel
theorem dL_law_1034 : decode cL_law 1034 = .ok (.iconst 1, 1) := by decide +kernel
theorem dL_law_1035 : decode cL_law 1035 = .ok (.iadd, 1) := by decide +kernel
theorem dL_law_1036 : decode cL_law 1036 = .ok (.iaload, 1) := by decide +kernel
theorem dL_law_1037 : decode cL_law 1037 = .ok (.aload_n 0, 1) := by decide +kernel
theorem dL_law_1038 : decode cL_law 1038 = .ok (.iload_n 3, 1) := by decide +kernel
theorem dL_law_1039 : decode cL_law 1039 = .ok (.iconst 2, 1) := by decide +kernel
theorem dL_law_1040 : decode cL_law 1040 = .ok (.iadd, 1) := by decide +kernel
theorem dL_law_1041 : decode cL_law 1041 = .ok (.iaload, 1) := by decide +kernel
theorem dL_law_1042 : decode cL_law 1042 = .ok (.aload_n 0, 1) := by decide +kernel
theorem dL_law_1043 : decode cL_law 1043 = .ok (.iload_n 3, 1) := by decide +kernel
theorem dL_law_1044 : decode cL_law 1044 = .ok (.iconst 3, 1) := by decide +kernel
theorem dL_law_1045 : decode cL_law 1045 = .ok (.iadd, 1) := by decide +kernel
theorem dL_law_1046 : decode cL_law 1046 = .ok (.iaload, 1) := by decide +kernel
theorem dL_law_1047 : decode cL_law 1047 = .ok (.aload_n 0, 1) := by decide +kernel
theorem dL_law_1048 : decode cL_law 1048 = .ok (.iload_n 3, 1) := by decide +kernel
theorem dL_law_1049 : decode cL_law 1049 = .ok (.iconst 4, 1) := by decide +kernel
theorem dL_law_1050 : decode cL_law 1050 = .ok (.iadd, 1) := by decide +kernel
theorem dL_law_1051 : decode cL_law 1051 = .ok (.iaload, 1) := by decide +kernel
theorem dL_law_1052 : decode cL_law 1052 = .ok (.aload_n 0, 1) := by decide +kernel
theorem dL_law_1053 : decode cL_law 1053 = .ok (.iload_n 3, 1) := by decide +kernel
theorem dL_law_1054 : decode cL_law 1054 = .ok (.iconst 5, 1) := by decide +kernel
theorem dL_law_1055 : decode cL_law 1055 = .ok (.iadd, 1) := by decide +kernel
theorem dL_law_1056 : decode cL_law 1056 = .ok (.iaload, 1) := by decide +kernel
theorem dL_law_1057 : decode cL_law 1057 = .ok (.aload_n 0, 1) := by decide +kernel
theorem dL_law_1058 : decode cL_law 1058 = .ok (.iload_n 3, 1) := by decide +kernel
theorem dL_law_1059 : decode cL_law 1059 = .ok (.bipush 6, 2) := by decide +kernel
theorem dL_law_1061 : decode cL_law 1061 = .ok (.iadd, 1) := by decide +kernel
theorem dL_law_1062 : decode cL_law 1062 = .ok (.iaload, 1) := by decide +kernel
theorem dL_law_1063 : decode cL_law 1063 = .ok (.aload_n 0, 1) := by decide +kernel
theorem dL_law_1064 : decode cL_law 1064 = .ok (.iload_n 3, 1) := by decide +kernel
theorem dL_law_1065 : decode cL_law 1065 = .ok (.bipush 7, 2) := by decide +kernel
theorem dL_law_1067 : decode cL_law 1067 = .ok (.iadd, 1) := by decide +kernel
theorem dL_law_1068 : decode cL_law 1068 = .ok (.iaload, 1) := by decide +kernel
theorem dL_law_1069 : decode cL_law 1069 = .ok (.invokevirtual 119, 3) := by decide +kernel
theorem dL_law_1072 : decode cL_law 1072 = .ok (.if_icmp .eq 248, 3) := by decide +kernel
theorem dL_law_1075 : decode cL_law 1075 = .ok (.iconst 0, 1) := by decide +kernel
theorem dL_law_1076 : decode cL_law 1076 = .ok (.ireturn, 1) := by decide +kernel
theorem dL_law_1077 : decode cL_law 1077 = .ok (.aload_n 1, 1) := by decide +kernel
theorem dL_law_1078 : decode cL_law 1078 = .ok (.aload_n 0, 1) := by decide +kernel
theorem dL_law_1079 : decode cL_law 1079 = .ok (.iload_n 3, 1) := by decide +kernel
theorem dL_law_1080 : decode cL_law 1080 = .ok (.iconst 1, 1) := by decide +kernel
theorem dL_law_1081 : decode cL_law 1081 = .ok (.iadd, 1) := by decide +kernel
theorem dL_law_1082 : decode cL_law 1082 = .ok (.iaload, 1) := by decide +kernel
theorem dL_law_1083 : decode cL_law 1083 = .ok (.aload_n 0, 1) := by decide +kernel
theorem dL_law_1084 : decode cL_law 1084 = .ok (.iload_n 3, 1) := by decide +kernel
theorem dL_law_1085 : decode cL_law 1085 = .ok (.iconst 2, 1) := by decide +kernel
theorem dL_law_1086 : decode cL_law 1086 = .ok (.iadd, 1) := by decide +kernel
theorem dL_law_1087 : decode cL_law 1087 = .ok (.iaload, 1) := by decide +kernel
theorem dL_law_1088 : decode cL_law 1088 = .ok (.aload_n 0, 1) := by decide +kernel
theorem dL_law_1089 : decode cL_law 1089 = .ok (.iload_n 3, 1) := by decide +kernel
theorem dL_law_1090 : decode cL_law 1090 = .ok (.iconst 3, 1) := by decide +kernel
theorem dL_law_1091 : decode cL_law 1091 = .ok (.iadd, 1) := by decide +kernel
theorem dL_law_1092 : decode cL_law 1092 = .ok (.iaload, 1) := by decide +kernel
theorem dL_law_1093 : decode cL_law 1093 = .ok (.aload_n 0, 1) := by decide +kernel
theorem dL_law_1094 : decode cL_law 1094 = .ok (.iload_n 3, 1) := by decide +kernel
theorem dL_law_1095 : decode cL_law 1095 = .ok (.iconst 4, 1) := by decide +kernel
theorem dL_law_1096 : decode cL_law 1096 = .ok (.iadd, 1) := by decide +kernel
theorem dL_law_1097 : decode cL_law 1097 = .ok (.iaload, 1) := by decide +kernel
theorem dL_law_1098 : decode cL_law 1098 = .ok (.aload_n 0, 1) := by decide +kernel
theorem dL_law_1099 : decode cL_law 1099 = .ok (.iload_n 3, 1) := by decide +kernel
theorem dL_law_1100 : decode cL_law 1100 = .ok (.iconst 5, 1) := by decide +kernel
theorem dL_law_1101 : decode cL_law 1101 = .ok (.iadd, 1) := by decide +kernel
theorem dL_law_1102 : decode cL_law 1102 = .ok (.iaload, 1) := by decide +kernel
theorem dL_law_1103 : decode cL_law 1103 = .ok (.aload_n 0, 1) := by decide +kernel
theorem dL_law_1104 : decode cL_law 1104 = .ok (.iload_n 3, 1) := by decide +kernel
theorem dL_law_1105 : decode cL_law 1105 = .ok (.bipush 6, 2) := by decide +kernel
theorem dL_law_1107 : decode cL_law 1107 = .ok (.iadd, 1) := by decide +kernel
theorem dL_law_1108 : decode cL_law 1108 = .ok (.iaload, 1) := by decide +kernel
theorem dL_law_1109 : decode cL_law 1109 = .ok (.aload_n 0, 1) := by decide +kernel
theorem dL_law_1110 : decode cL_law 1110 = .ok (.iload_n 3, 1) := by decide +kernel
theorem dL_law_1111 : decode cL_law 1111 = .ok (.bipush 7, 2) := by decide +kernel
theorem dL_law_1113 : decode cL_law 1113 = .ok (.iadd, 1) := by decide +kernel
theorem dL_law_1114 : decode cL_law 1114 = .ok (.iaload, 1) := by decide +kernel
theorem dL_law_1115 : decode cL_law 1115 = .ok (.aload_n 0, 1) := by decide +kernel
theorem dL_law_1116 : decode cL_law 1116 = .ok (.iload_n 3, 1) := by decide +kernel
theorem dL_law_1117 : decode cL_law 1117 = .ok (.bipush 8, 2) := by decide +kernel
theorem dL_law_1119 : decode cL_law 1119 = .ok (.iadd, 1) := by decide +kernel
theorem dL_law_1120 : decode cL_law 1120 = .ok (.iaload, 1) := by decide +kernel
theorem dL_law_1121 : decode cL_law 1121 = .ok (.invokevirtual 120, 3) := by decide +kernel
theorem dL_law_1124 : decode cL_law 1124 = .ok (.aload_n 2, 1) := by decide +kernel
theorem dL_law_1125 : decode cL_law 1125 = .ok (.aload_n 0, 1) := by decide +kernel
theorem dL_law_1126 : decode cL_law 1126 = .ok (.iload_n 3, 1) := by decide +kernel
theorem dL_law_1127 : decode cL_law 1127 = .ok (.iconst 1, 1) := by decide +kernel
theorem dL_law_1128 : decode cL_law 1128 = .ok (.iadd, 1) := by decide +kernel
theorem dL_law_1129 : decode cL_law 1129 = .ok (.iaload, 1) := by decide +kernel
theorem dL_law_1130 : decode cL_law 1130 = .ok (.aload_n 0, 1) := by decide +kernel
theorem dL_law_1131 : decode cL_law 1131 = .ok (.iload_n 3, 1) := by decide +kernel
theorem dL_law_1132 : decode cL_law 1132 = .ok (.iconst 2, 1) := by decide +kernel
theorem dL_law_1133 : decode cL_law 1133 = .ok (.iadd, 1) := by decide +kernel
theorem dL_law_1134 : decode cL_law 1134 = .ok (.iaload, 1) := by decide +kernel
theorem dL_law_1135 : decode cL_law 1135 = .ok (.aload_n 0, 1) := by decide +kernel
theorem dL_law_1136 : decode cL_law 1136 = .ok (.iload_n 3, 1) := by decide +kernel
theorem dL_law_1137 : decode cL_law 1137 = .ok (.iconst 3, 1) := by decide +kernel
theorem dL_law_1138 : decode cL_law 1138 = .ok (.iadd, 1) := by decide +kernel
theorem dL_law_1139 : decode cL_law 1139 = .ok (.iaload, 1) := by decide +kernel
theorem dL_law_1140 : decode cL_law 1140 = .ok (.aload_n 0, 1) := by decide +kernel
theorem dL_law_1141 : decode cL_law 1141 = .ok (.iload_n 3, 1) := by decide +kernel
theorem dL_law_1142 : decode cL_law 1142 = .ok (.iconst 4, 1) := by decide +kernel
theorem dL_law_1143 : decode cL_law 1143 = .ok (.iadd, 1) := by decide +kernel
theorem dL_law_1144 : decode cL_law 1144 = .ok (.iaload, 1) := by decide +kernel
theorem dL_law_1145 : decode cL_law 1145 = .ok (.aload_n 0, 1) := by decide +kernel
theorem dL_law_1146 : decode cL_law 1146 = .ok (.iload_n 3, 1) := by decide +kernel
theorem dL_law_1147 : decode cL_law 1147 = .ok (.iconst 5, 1) := by decide +kernel
theorem dL_law_1148 : decode cL_law 1148 = .ok (.iadd, 1) := by decide +kernel
theorem dL_law_1149 : decode cL_law 1149 = .ok (.iaload, 1) := by decide +kernel
theorem dL_law_1150 : decode cL_law 1150 = .ok (.aload_n 0, 1) := by decide +kernel
theorem dL_law_1151 : decode cL_law 1151 = .ok (.iload_n 3, 1) := by decide +kernel
theorem dL_law_1152 : decode cL_law 1152 = .ok (.bipush 6, 2) := by decide +kernel
theorem dL_law_1154 : decode cL_law 1154 = .ok (.iadd, 1) := by decide +kernel
theorem dL_law_1155 : decode cL_law 1155 = .ok (.iaload, 1) := by decide +kernel
theorem dL_law_1156 : decode cL_law 1156 = .ok (.aload_n 0, 1) := by decide +kernel
theorem dL_law_1157 : decode cL_law 1157 = .ok (.iload_n 3, 1) := by decide +kernel
theorem dL_law_1158 : decode cL_law 1158 = .ok (.bipush 7, 2) := by decide +kernel
theorem dL_law_1160 : decode cL_law 1160 = .ok (.iadd, 1) := by decide +kernel
theorem dL_law_1161 : decode cL_law 1161 = .ok (.iaload, 1) := by decide +kernel
theorem dL_law_1162 : decode cL_law 1162 = .ok (.aload_n 0, 1) := by decide +kernel
theorem dL_law_1163 : decode cL_law 1163 = .ok (.iload_n 3, 1) := by decide +kernel
theorem dL_law_1164 : decode cL_law 1164 = .ok (.bipush 8, 2) := by decide +kernel
theorem dL_law_1166 : decode cL_law 1166 = .ok (.iadd, 1) := by decide +kernel
theorem dL_law_1167 : decode cL_law 1167 = .ok (.iaload, 1) := by decide +kernel
theorem dL_law_1168 : decode cL_law 1168 = .ok (.invokevirtual 124, 3) := by decide +kernel
theorem dL_law_1171 : decode cL_law 1171 = .ok (.if_icmp .eq 149, 3) := by decide +kernel
theorem dL_law_1174 : decode cL_law 1174 = .ok (.iconst 0, 1) := by decide +kernel
theorem dL_law_1175 : decode cL_law 1175 = .ok (.ireturn, 1) := by decide +kernel
theorem dL_law_1176 : decode cL_law 1176 = .ok (.aload_n 1, 1) := by decide +kernel
theorem dL_law_1177 : decode cL_law 1177 = .ok (.aload_n 0, 1) := by decide +kernel
theorem dL_law_1178 : decode cL_law 1178 = .ok (.iload_n 3, 1) := by decide +kernel
theorem dL_law_1179 : decode cL_law 1179 = .ok (.iconst 1, 1) := by decide +kernel
theorem dL_law_1180 : decode cL_law 1180 = .ok (.iadd, 1) := by decide +kernel
theorem dL_law_1181 : decode cL_law 1181 = .ok (.iaload, 1) := by decide +kernel
theorem dL_law_1182 : decode cL_law 1182 = .ok (.aload_n 0, 1) := by decide +kernel
theorem dL_law_1183 : decode cL_law 1183 = .ok (.iload_n 3, 1) := by decide +kernel
theorem dL_law_1184 : decode cL_law 1184 = .ok (.iconst 2, 1) := by decide +kernel
theorem dL_law_1185 : decode cL_law 1185 = .ok (.iadd, 1) := by decide +kernel
theorem dL_law_1186 : decode cL_law 1186 = .ok (.iaload, 1) := by decide +kernel
theorem dL_law_1187 : decode cL_law 1187 = .ok (.aload_n 0, 1) := by decide +kernel
theorem dL_law_1188 : decode cL_law 1188 = .ok (.iload_n 3, 1) := by decide +kernel
theorem dL_law_1189 : decode cL_law 1189 = .ok (.iconst 3, 1) := by decide +kernel
theorem dL_law_1190 : decode cL_law 1190 = .ok (.iadd, 1) := by decide +kernel
theorem dL_law_1191 : decode cL_law 1191 = .ok (.iaload, 1) := by decide +kernel
theorem dL_law_1192 : decode cL_law 1192 = .ok (.aload_n 0, 1) := by decide +kernel
theorem dL_law_1193 : decode cL_law 1193 = .ok (.iload_n 3, 1) := by decide +kernel
theorem dL_law_1194 : decode cL_law 1194 = .ok (.iconst 4, 1) := by decide +kernel
theorem dL_law_1195 : decode cL_law 1195 = .ok (.iadd, 1) := by decide +kernel
theorem dL_law_1196 : decode cL_law 1196 = .ok (.iaload, 1) := by decide +kernel
theorem dL_law_1197 : decode cL_law 1197 = .ok (.aload_n 0, 1) := by decide +kernel
theorem dL_law_1198 : decode cL_law 1198 = .ok (.iload_n 3, 1) := by decide +kernel
theorem dL_law_1199 : decode cL_law 1199 = .ok (.iconst 5, 1) := by decide +kernel
theorem dL_law_1200 : decode cL_law 1200 = .ok (.iadd, 1) := by decide +kernel
theorem dL_law_1201 : decode cL_law 1201 = .ok (.iaload, 1) := by decide +kernel
theorem dL_law_1202 : decode cL_law 1202 = .ok (.aload_n 0, 1) := by decide +kernel
theorem dL_law_1203 : decode cL_law 1203 = .ok (.iload_n 3, 1) := by decide +kernel
theorem dL_law_1204 : decode cL_law 1204 = .ok (.bipush 6, 2) := by decide +kernel
theorem dL_law_1206 : decode cL_law 1206 = .ok (.iadd, 1) := by decide +kernel
theorem dL_law_1207 : decode cL_law 1207 = .ok (.iaload, 1) := by decide +kernel
theorem dL_law_1208 : decode cL_law 1208 = .ok (.invokevirtual 125, 3) := by decide +kernel
theorem dL_law_1211 : decode cL_law 1211 = .ok (.aload_n 2, 1) := by decide +kernel
theorem dL_law_1212 : decode cL_law 1212 = .ok (.aload_n 0, 1) := by decide +kernel
theorem dL_law_1213 : decode cL_law 1213 = .ok (.iload_n 3, 1) := by decide +kernel
theorem dL_law_1214 : decode cL_law 1214 = .ok (.iconst 1, 1) := by decide +kernel
theorem dL_law_1215 : decode cL_law 1215 = .ok (.iadd, 1) := by decide +kernel
theorem dL_law_1216 : decode cL_law 1216 = .ok (.iaload, 1) := by decide +kernel
theorem dL_law_1217 : decode cL_law 1217 = .ok (.aload_n 0, 1) := by decide +kernel
theorem dL_law_1218 : decode cL_law 1218 = .ok (.iload_n 3, 1) := by decide +kernel
theorem dL_law_1219 : decode cL_law 1219 = .ok (.iconst 2, 1) := by decide +kernel
theorem dL_law_1220 : decode cL_law 1220 = .ok (.iadd, 1) := by decide +kernel
theorem dL_law_1221 : decode cL_law 1221 = .ok (.iaload, 1) := by decide +kernel
theorem dL_law_1222 : decode cL_law 1222 = .ok (.aload_n 0, 1) := by decide +kernel
theorem dL_law_1223 : decode cL_law 1223 = .ok (.iload_n 3, 1) := by decide +kernel
theorem dL_law_1224 : decode cL_law 1224 = .ok (.iconst 3, 1) := by decide +kernel
theorem dL_law_1225 : decode cL_law 1225 = .ok (.iadd, 1) := by decide +kernel
theorem dL_law_1226 : decode cL_law 1226 = .ok (.iaload, 1) := by decide +kernel
theorem dL_law_1227 : decode cL_law 1227 = .ok (.aload_n 0, 1) := by decide +kernel
theorem dL_law_1228 : decode cL_law 1228 = .ok (.iload_n 3, 1) := by decide +kernel
theorem dL_law_1229 : decode cL_law 1229 = .ok (.iconst 4, 1) := by decide +kernel
theorem dL_law_1230 : decode cL_law 1230 = .ok (.iadd, 1) := by decide +kernel
theorem dL_law_1231 : decode cL_law 1231 = .ok (.iaload, 1) := by decide +kernel
theorem dL_law_1232 : decode cL_law 1232 = .ok (.aload_n 0, 1) := by decide +kernel
theorem dL_law_1233 : decode cL_law 1233 = .ok (.iload_n 3, 1) := by decide +kernel
theorem dL_law_1234 : decode cL_law 1234 = .ok (.iconst 5, 1) := by decide +kernel
theorem dL_law_1235 : decode cL_law 1235 = .ok (.iadd, 1) := by decide +kernel
theorem dL_law_1236 : decode cL_law 1236 = .ok (.iaload, 1) := by decide +kernel
theorem dL_law_1237 : decode cL_law 1237 = .ok (.aload_n 0, 1) := by decide +kernel
theorem dL_law_1238 : decode cL_law 1238 = .ok (.iload_n 3, 1) := by decide +kernel
theorem dL_law_1239 : decode cL_law 1239 = .ok (.bipush 6, 2) := by decide +kernel
theorem dL_law_1241 : decode cL_law 1241 = .ok (.iadd, 1) := by decide +kernel
theorem dL_law_1242 : decode cL_law 1242 = .ok (.iaload, 1) := by decide +kernel
theorem dL_law_1243 : decode cL_law 1243 = .ok (.invokevirtual 129, 3) := by decide +kernel
theorem dL_law_1246 : decode cL_law 1246 = .ok (.if_icmp .eq 74, 3) := by decide +kernel
theorem dL_law_1249 : decode cL_law 1249 = .ok (.iconst 0, 1) := by decide +kernel
theorem dL_law_1250 : decode cL_law 1250 = .ok (.ireturn, 1) := by decide +kernel
theorem dL_law_1251 : decode cL_law 1251 = .ok (.aload_n 1, 1) := by decide +kernel
theorem dL_law_1252 : decode cL_law 1252 = .ok (.aload_n 0, 1) := by decide +kernel
theorem dL_law_1253 : decode cL_law 1253 = .ok (.iload_n 3, 1) := by decide +kernel
theorem dL_law_1254 : decode cL_law 1254 = .ok (.iconst 1, 1) := by decide +kernel
theorem dL_law_1255 : decode cL_law 1255 = .ok (.iadd, 1) := by decide +kernel
theorem dL_law_1256 : decode cL_law 1256 = .ok (.iaload, 1) := by decide +kernel
theorem dL_law_1257 : decode cL_law 1257 = .ok (.invokevirtual 130, 3) := by decide +kernel
theorem dL_law_1260 : decode cL_law 1260 = .ok (.aload_n 2, 1) := by decide +kernel
theorem dL_law_1261 : decode cL_law 1261 = .ok (.aload_n 0, 1) := by decide +kernel
theorem dL_law_1262 : decode cL_law 1262 = .ok (.iload_n 3, 1) := by decide +kernel
theorem dL_law_1263 : decode cL_law 1263 = .ok (.iconst 1, 1) := by decide +kernel
theorem dL_law_1264 : decode cL_law 1264 = .ok (.iadd, 1) := by decide +kernel
theorem dL_law_1265 : decode cL_law 1265 = .ok (.iaload, 1) := by decide +kernel
theorem dL_law_1266 : decode cL_law 1266 = .ok (.invokevirtual 133, 3) := by decide +kernel
theorem dL_law_1269 : decode cL_law 1269 = .ok (.if_icmp .eq 51, 3) := by decide +kernel
theorem dL_law_1272 : decode cL_law 1272 = .ok (.iconst 0, 1) := by decide +kernel
theorem dL_law_1273 : decode cL_law 1273 = .ok (.ireturn, 1) := by decide +kernel
theorem dL_law_1274 : decode cL_law 1274 = .ok (.aload_n 1, 1) := by decide +kernel
theorem dL_law_1275 : decode cL_law 1275 = .ok (.aload_n 0, 1) := by decide +kernel
theorem dL_law_1276 : decode cL_law 1276 = .ok (.iload_n 3, 1) := by decide +kernel
theorem dL_law_1277 : decode cL_law 1277 = .ok (.iconst 1, 1) := by decide +kernel
theorem dL_law_1278 : decode cL_law 1278 = .ok (.iadd, 1) := by decide +kernel
theorem dL_law_1279 : decode cL_law 1279 = .ok (.iaload, 1) := by decide +kernel
theorem dL_law_1280 : decode cL_law 1280 = .ok (.invokevirtual 134, 3) := by decide +kernel
theorem dL_law_1283 : decode cL_law 1283 = .ok (.aload_n 2, 1) := by decide +kernel
theorem dL_law_1284 : decode cL_law 1284 = .ok (.aload_n 0, 1) := by decide +kernel
theorem dL_law_1285 : decode cL_law 1285 = .ok (.iload_n 3, 1) := by decide +kernel
theorem dL_law_1286 : decode cL_law 1286 = .ok (.iconst 1, 1) := by decide +kernel
theorem dL_law_1287 : decode cL_law 1287 = .ok (.iadd, 1) := by decide +kernel
theorem dL_law_1288 : decode cL_law 1288 = .ok (.iaload, 1) := by decide +kernel
theorem dL_law_1289 : decode cL_law 1289 = .ok (.invokevirtual 137, 3) := by decide +kernel
theorem dL_law_1292 : decode cL_law 1292 = .ok (.if_icmp .eq 28, 3) := by decide +kernel
theorem dL_law_1295 : decode cL_law 1295 = .ok (.iconst 0, 1) := by decide +kernel
theorem dL_law_1296 : decode cL_law 1296 = .ok (.ireturn, 1) := by decide +kernel
theorem dL_law_1297 : decode cL_law 1297 = .ok (.aload_n 1, 1) := by decide +kernel
theorem dL_law_1298 : decode cL_law 1298 = .ok (.aload_n 0, 1) := by decide +kernel
theorem dL_law_1299 : decode cL_law 1299 = .ok (.iload_n 3, 1) := by decide +kernel
theorem dL_law_1300 : decode cL_law 1300 = .ok (.iconst 1, 1) := by decide +kernel
theorem dL_law_1301 : decode cL_law 1301 = .ok (.iadd, 1) := by decide +kernel
theorem dL_law_1302 : decode cL_law 1302 = .ok (.iaload, 1) := by decide +kernel
theorem dL_law_1303 : decode cL_law 1303 = .ok (.invokevirtual 138, 3) := by decide +kernel
theorem dL_law_1306 : decode cL_law 1306 = .ok (.aload_n 2, 1) := by decide +kernel
theorem dL_law_1307 : decode cL_law 1307 = .ok (.aload_n 0, 1) := by decide +kernel
theorem dL_law_1308 : decode cL_law 1308 = .ok (.iload_n 3, 1) := by decide +kernel
theorem dL_law_1309 : decode cL_law 1309 = .ok (.iconst 1, 1) := by decide +kernel
theorem dL_law_1310 : decode cL_law 1310 = .ok (.iadd, 1) := by decide +kernel
theorem dL_law_1311 : decode cL_law 1311 = .ok (.iaload, 1) := by decide +kernel
theorem dL_law_1312 : decode cL_law 1312 = .ok (.invokevirtual 141, 3) := by decide +kernel
theorem dL_law_1315 : decode cL_law 1315 = .ok (.if_icmp .eq 5, 3) := by decide +kernel
theorem dL_law_1318 : decode cL_law 1318 = .ok (.iconst 0, 1) := by decide +kernel
theorem dL_law_1319 : decode cL_law 1319 = .ok (.ireturn, 1) := by decide +kernel
theorem dL_law_1320 : decode cL_law 1320 = .ok (.iinc 3 9, 3) := by decide +kernel
theorem dL_law_1323 : decode cL_law 1323 = .ok (.goto (-1305), 3) := by decide +kernel
theorem dL_law_1326 : decode cL_law 1326 = .ok (.iconst 1, 1) := by decide +kernel
theorem dL_law_1327 : decode cL_law 1327 = .ok (.ireturn, 1) := by decide +kernel
