theorem dX0_init_0 : decode cX0_init 0 = .ok (.aload_n 0, 1) := by decide +kernel
theorem dX0_init_1 : decode cX0_init 1 = .ok (.invokespecial 3, 3) := by decide +kernel
theorem dX0_init_4 : decode cX0_init 4 = .ok (.aload_n 0, 1) := by decide +kernel
theorem dX0_init_5 : decode cX0_init 5 = .ok (.sipush 400, 3) := by decide +kernel
theorem dX0_init_8 : decode cX0_init 8 = .ok (.newarray .int, 2) := by decide +kernel
theorem dX0_init_10 : decode cX0_init 10 = .ok (.putfield 9, 3) := by decide +kernel
theorem dX0_init_13 : decode cX0_init 13 = .ok (.aload_n 0, 1) := by decide +kernel
theorem dX0_init_14 : decode cX0_init 14 = .ok (.bipush 12, 2) := by decide +kernel
theorem dX0_init_16 : decode cX0_init 16 = .ok (.newarray .int, 2) := by decide +kernel
theorem dX0_init_18 : decode cX0_init 18 = .ok (.putfield 15, 3) := by decide +kernel
theorem dX0_init_21 : decode cX0_init 21 = .ok (.aload_n 0, 1) := by decide +kernel
theorem dX0_init_22 : decode cX0_init 22 = .ok (.bipush 12, 2) := by decide +kernel
theorem dX0_init_24 : decode cX0_init 24 = .ok (.newarray .int, 2) := by decide +kernel
theorem dX0_init_26 : decode cX0_init 26 = .ok (.putfield 18, 3) := by decide +kernel
theorem dX0_init_29 : decode cX0_init 29 = .ok (.aload_n 0, 1) := by decide +kernel
theorem dX0_init_30 : decode cX0_init 30 = .ok (.bipush 12, 2) := by decide +kernel
theorem dX0_init_32 : decode cX0_init 32 = .ok (.newarray .int, 2) := by decide +kernel
theorem dX0_init_34 : decode cX0_init 34 = .ok (.putfield 21, 3) := by decide +kernel
theorem dX0_init_37 : decode cX0_init 37 = .ok (.aload_n 0, 1) := by decide +kernel
theorem dX0_init_38 : decode cX0_init 38 = .ok (.bipush 64, 2) := by decide +kernel
theorem dX0_init_40 : decode cX0_init 40 = .ok (.newarray .long, 2) := by decide +kernel
theorem dX0_init_42 : decode cX0_init 42 = .ok (.putfield 24, 3) := by decide +kernel
theorem dX0_init_45 : decode cX0_init 45 = .ok (.return_, 1) := by decide +kernel
theorem dX0_clear_0 : decode cX0_clear 0 = .ok (.aload_n 0, 1) := by decide +kernel
theorem dX0_clear_1 : decode cX0_clear 1 = .ok (.iconst 0, 1) := by decide +kernel
theorem dX0_clear_2 : decode cX0_clear 2 = .ok (.putfield 28, 3) := by decide +kernel
theorem dX0_clear_5 : decode cX0_clear 5 = .ok (.aload_n 0, 1) := by decide +kernel
theorem dX0_clear_6 : decode cX0_clear 6 = .ok (.iconst 0, 1) := by decide +kernel
theorem dX0_clear_7 : decode cX0_clear 7 = .ok (.putfield 32, 3) := by decide +kernel
theorem dX0_clear_10 : decode cX0_clear 10 = .ok (.return_, 1) := by decide +kernel
theorem dX0_add_0 : decode cX0_add 0 = .ok (.aload_n 0, 1) := by decide +kernel
theorem dX0_add_1 : decode cX0_add 1 = .ok (.getfield 28, 3) := by decide +kernel
theorem dX0_add_4 : decode cX0_add 4 = .ok (.sipush 400, 3) := by decide +kernel
theorem dX0_add_7 : decode cX0_add 7 = .ok (.if_icmp .ge 28, 3) := by decide +kernel
theorem dX0_add_10 : decode cX0_add 10 = .ok (.aload_n 0, 1) := by decide +kernel
theorem dX0_add_11 : decode cX0_add 11 = .ok (.getfield 9, 3) := by decide +kernel
theorem dX0_add_14 : decode cX0_add 14 = .ok (.aload_n 0, 1) := by decide +kernel
theorem dX0_add_15 : decode cX0_add 15 = .ok (.getfield 28, 3) := by decide +kernel
theorem dX0_add_18 : decode cX0_add 18 = .ok (.iload_n 1, 1) := by decide +kernel
theorem dX0_add_19 : decode cX0_add 19 = .ok (.iload_n 2, 1) := by decide +kernel
theorem dX0_add_20 : decode cX0_add 20 = .ok (.bipush 8, 2) := by decide +kernel
theorem dX0_add_22 : decode cX0_add 22 = .ok (.ishl, 1) := by decide +kernel
theorem dX0_add_23 : decode cX0_add 23 = .ok (.ior, 1) := by decide +kernel
theorem dX0_add_24 : decode cX0_add 24 = .ok (.iastore, 1) := by decide +kernel
theorem dX0_add_25 : decode cX0_add 25 = .ok (.aload_n 0, 1) := by decide +kernel
theorem dX0_add_26 : decode cX0_add 26 = .ok (.dup, 1) := by decide +kernel
theorem dX0_add_27 : decode cX0_add 27 = .ok (.getfield 28, 3) := by decide +kernel
theorem dX0_add_30 : decode cX0_add 30 = .ok (.iconst 1, 1) := by decide +kernel
theorem dX0_add_31 : decode cX0_add 31 = .ok (.iadd, 1) := by decide +kernel
theorem dX0_add_32 : decode cX0_add 32 = .ok (.putfield 28, 3) := by decide +kernel
theorem dX0_add_35 : decode cX0_add 35 = .ok (.return_, 1) := by decide +kernel
theorem dX0_openOne_0 : decode cX0_openOne 0 = .ok (.aload_n 0, 1) := by decide +kernel
theorem dX0_openOne_1 : decode cX0_openOne 1 = .ok (.getfield 32, 3) := by decide +kernel
theorem dX0_openOne_4 : decode cX0_openOne 4 = .ok (.bipush 12, 2) := by decide +kernel
theorem dX0_openOne_6 : decode cX0_openOne 6 = .ok (.if_icmp .ge 16, 3) := by decide +kernel
theorem dX0_openOne_9 : decode cX0_openOne 9 = .ok (.aload_n 0, 1) := by decide +kernel
theorem dX0_openOne_10 : decode cX0_openOne 10 = .ok (.getfield 15, 3) := by decide +kernel
theorem dX0_openOne_13 : decode cX0_openOne 13 = .ok (.aload_n 0, 1) := by decide +kernel
theorem dX0_openOne_14 : decode cX0_openOne 14 = .ok (.getfield 32, 3) := by decide +kernel
theorem dX0_openOne_17 : decode cX0_openOne 17 = .ok (.aload_n 0, 1) := by decide +kernel
theorem dX0_openOne_18 : decode cX0_openOne 18 = .ok (.getfield 28, 3) := by decide +kernel
theorem dX0_openOne_21 : decode cX0_openOne 21 = .ok (.iastore, 1) := by decide +kernel
theorem dX0_openOne_22 : decode cX0_openOne 22 = .ok (.return_, 1) := by decide +kernel
theorem dX0_openTest_0 : decode cX0_openTest 0 = .ok (.aload_n 0, 1) := by decide +kernel
theorem dX0_openTest_1 : decode cX0_openTest 1 = .ok (.getfield 32, 3) := by decide +kernel
theorem dX0_openTest_4 : decode cX0_openTest 4 = .ok (.bipush 12, 2) := by decide +kernel
theorem dX0_openTest_6 : decode cX0_openTest 6 = .ok (.if_icmp .ge 16, 3) := by decide +kernel
theorem dX0_openTest_9 : decode cX0_openTest 9 = .ok (.aload_n 0, 1) := by decide +kernel
theorem dX0_openTest_10 : decode cX0_openTest 10 = .ok (.getfield 18, 3) := by decide +kernel
theorem dX0_openTest_13 : decode cX0_openTest 13 = .ok (.aload_n 0, 1) := by decide +kernel
theorem dX0_openTest_14 : decode cX0_openTest 14 = .ok (.getfield 32, 3) := by decide +kernel
theorem dX0_openTest_17 : decode cX0_openTest 17 = .ok (.aload_n 0, 1) := by decide +kernel
theorem dX0_openTest_18 : decode cX0_openTest 18 = .ok (.getfield 28, 3) := by decide +kernel
theorem dX0_openTest_21 : decode cX0_openTest 21 = .ok (.iastore, 1) := by decide +kernel
theorem dX0_openTest_22 : decode cX0_openTest 22 = .ok (.return_, 1) := by decide +kernel
theorem dX0_closeOne_0 : decode cX0_closeOne 0 = .ok (.aload_n 0, 1) := by decide +kernel
theorem dX0_closeOne_1 : decode cX0_closeOne 1 = .ok (.getfield 32, 3) := by decide +kernel
theorem dX0_closeOne_4 : decode cX0_closeOne 4 = .ok (.bipush 12, 2) := by decide +kernel
theorem dX0_closeOne_6 : decode cX0_closeOne 6 = .ok (.if_icmp .ge 26, 3) := by decide +kernel
theorem dX0_closeOne_9 : decode cX0_closeOne 9 = .ok (.aload_n 0, 1) := by decide +kernel
theorem dX0_closeOne_10 : decode cX0_closeOne 10 = .ok (.getfield 21, 3) := by decide +kernel
theorem dX0_closeOne_13 : decode cX0_closeOne 13 = .ok (.aload_n 0, 1) := by decide +kernel
theorem dX0_closeOne_14 : decode cX0_closeOne 14 = .ok (.getfield 32, 3) := by decide +kernel
theorem dX0_closeOne_17 : decode cX0_closeOne 17 = .ok (.aload_n 0, 1) := by decide +kernel
theorem dX0_closeOne_18 : decode cX0_closeOne 18 = .ok (.getfield 28, 3) := by decide +kernel
theorem dX0_closeOne_21 : decode cX0_closeOne 21 = .ok (.iastore, 1) := by decide +kernel
theorem dX0_closeOne_22 : decode cX0_closeOne 22 = .ok (.aload_n 0, 1) := by decide +kernel
theorem dX0_closeOne_23 : decode cX0_closeOne 23 = .ok (.dup, 1) := by decide +kernel
theorem dX0_closeOne_24 : decode cX0_closeOne 24 = .ok (.getfield 32, 3) := by decide +kernel
theorem dX0_closeOne_27 : decode cX0_closeOne 27 = .ok (.iconst 1, 1) := by decide +kernel
theorem dX0_closeOne_28 : decode cX0_closeOne 28 = .ok (.iadd, 1) := by decide +kernel
theorem dX0_closeOne_29 : decode cX0_closeOne 29 = .ok (.putfield 32, 3) := by decide +kernel
theorem dX0_closeOne_32 : decode cX0_closeOne 32 = .ok (.return_, 1) := by decide +kernel
theorem dX0_first_0 : decode cX0_first 0 = .ok (.iconst 0, 1) := by decide +kernel
theorem dX0_first_1 : decode cX0_first 1 = .ok (.istore 4, 2) := by decide +kernel
theorem dX0_first_3 : decode cX0_first 3 = .ok (.iload 4, 2) := by decide +kernel
theorem dX0_first_5 : decode cX0_first 5 = .ok (.aload_n 0, 1) := by decide +kernel
theorem dX0_first_6 : decode cX0_first 6 = .ok (.getfield 32, 3) := by decide +kernel
theorem dX0_first_9 : decode cX0_first 9 = .ok (.if_icmp .ge 70, 3) := by decide +kernel
theorem dX0_first_12 : decode cX0_first 12 = .ok (.aload_n 0, 1) := by decide +kernel
theorem dX0_first_13 : decode cX0_first 13 = .ok (.getfield 18, 3) := by decide +kernel
theorem dX0_first_16 : decode cX0_first 16 = .ok (.iload 4, 2) := by decide +kernel
theorem dX0_first_18 : decode cX0_first 18 = .ok (.iaload, 1) := by decide +kernel
theorem dX0_first_19 : decode cX0_first 19 = .ok (.aload_n 0, 1) := by decide +kernel
theorem dX0_first_20 : decode cX0_first 20 = .ok (.getfield 21, 3) := by decide +kernel
theorem dX0_first_23 : decode cX0_first 23 = .ok (.iload 4, 2) := by decide +kernel
theorem dX0_first_25 : decode cX0_first 25 = .ok (.iaload, 1) := by decide +kernel
theorem dX0_first_26 : decode cX0_first 26 = .ok (.if_icmp .eq 27, 3) := by decide +kernel
theorem dX0_first_29 : decode cX0_first 29 = .ok (.aload_n 0, 1) := by decide +kernel
theorem dX0_first_30 : decode cX0_first 30 = .ok (.aload_n 0, 1) := by decide +kernel
theorem dX0_first_31 : decode cX0_first 31 = .ok (.getfield 18, 3) := by decide +kernel
theorem dX0_first_34 : decode cX0_first 34 = .ok (.iload 4, 2) := by decide +kernel
theorem dX0_first_36 : decode cX0_first 36 = .ok (.iaload, 1) := by decide +kernel
theorem dX0_first_37 : decode cX0_first 37 = .ok (.aload_n 0, 1) := by decide +kernel
theorem dX0_first_38 : decode cX0_first 38 = .ok (.getfield 21, 3) := by decide +kernel
theorem dX0_first_41 : decode cX0_first 41 = .ok (.iload 4, 2) := by decide +kernel
theorem dX0_first_43 : decode cX0_first 43 = .ok (.iaload, 1) := by decide +kernel
theorem dX0_first_44 : decode cX0_first 44 = .ok (.aload_n 1, 1) := by decide +kernel
theorem dX0_first_45 : decode cX0_first 45 = .ok (.invokevirtual 35, 3) := by decide +kernel
theorem dX0_first_48 : decode cX0_first 48 = .ok (.lconst 0, 1) := by decide +kernel
theorem dX0_first_49 : decode cX0_first 49 = .ok (.lcmp, 1) := by decide +kernel
theorem dX0_first_50 : decode cX0_first 50 = .ok (.ifCond .eq 23, 3) := by decide +kernel
theorem dX0_first_53 : decode cX0_first 53 = .ok (.aload_n 0, 1) := by decide +kernel
theorem dX0_first_54 : decode cX0_first 54 = .ok (.aload_n 0, 1) := by decide +kernel
theorem dX0_first_55 : decode cX0_first 55 = .ok (.getfield 15, 3) := by decide +kernel
theorem dX0_first_58 : decode cX0_first 58 = .ok (.iload 4, 2) := by decide +kernel
theorem dX0_first_60 : decode cX0_first 60 = .ok (.iaload, 1) := by decide +kernel
theorem dX0_first_61 : decode cX0_first 61 = .ok (.aload_n 0, 1) := by decide +kernel
theorem dX0_first_62 : decode cX0_first 62 = .ok (.getfield 18, 3) := by decide +kernel
theorem dX0_first_65 : decode cX0_first 65 = .ok (.iload 4, 2) := by decide +kernel
theorem dX0_first_67 : decode cX0_first 67 = .ok (.iaload, 1) := by decide +kernel
theorem dX0_first_68 : decode cX0_first 68 = .ok (.aload_n 1, 1) := by decide +kernel
theorem dX0_first_69 : decode cX0_first 69 = .ok (.invokevirtual 35, 3) := by decide +kernel
theorem dX0_first_72 : decode cX0_first 72 = .ok (.lreturn, 1) := by decide +kernel
theorem dX0_first_73 : decode cX0_first 73 = .ok (.iinc 4 1, 3) := by decide +kernel
theorem dX0_first_76 : decode cX0_first 76 = .ok (.goto (-73), 3) := by decide +kernel
theorem dX0_first_79 : decode cX0_first 79 = .ok (.lload_n 2, 1) := by decide +kernel
theorem dX0_first_80 : decode cX0_first 80 = .ok (.lreturn, 1) := by decide +kernel
theorem dX0_worth_0 : decode cX0_worth 0 = .ok (.iconst 0, 1) := by decide +kernel
theorem dX0_worth_1 : decode cX0_worth 1 = .ok (.istore 4, 2) := by decide +kernel
theorem dX0_worth_3 : decode cX0_worth 3 = .ok (.iload_n 1, 1) := by decide +kernel
theorem dX0_worth_4 : decode cX0_worth 4 = .ok (.istore 5, 2) := by decide +kernel
theorem dX0_worth_6 : decode cX0_worth 6 = .ok (.iload 5, 2) := by decide +kernel
theorem dX0_worth_8 : decode cX0_worth 8 = .ok (.iload_n 2, 1) := by decide +kernel
theorem dX0_worth_9 : decode cX0_worth 9 = .ok (.if_icmp .ge 386, 3) := by decide +kernel
theorem dX0_worth_12 : decode cX0_worth 12 = .ok (.iload 5, 2) := by decide +kernel
theorem dX0_worth_14 : decode cX0_worth 14 = .ok (.sipush 400, 3) := by decide +kernel
theorem dX0_worth_17 : decode cX0_worth 17 = .ok (.if_icmp .ge 378, 3) := by decide +kernel
theorem dX0_worth_20 : decode cX0_worth 20 = .ok (.aload_n 0, 1) := by decide +kernel
theorem dX0_worth_21 : decode cX0_worth 21 = .ok (.getfield 9, 3) := by decide +kernel
theorem dX0_worth_24 : decode cX0_worth 24 = .ok (.iload 5, 2) := by decide +kernel
theorem dX0_worth_26 : decode cX0_worth 26 = .ok (.iaload, 1) := by decide +kernel
theorem dX0_worth_27 : decode cX0_worth 27 = .ok (.sipush 255, 3) := by decide +kernel
theorem dX0_worth_30 : decode cX0_worth 30 = .ok (.iand, 1) := by decide +kernel
theorem dX0_worth_31 : decode cX0_worth 31 = .ok (.istore 6, 2) := by decide +kernel
theorem dX0_worth_33 : decode cX0_worth 33 = .ok (.aload_n 0, 1) := by decide +kernel
theorem dX0_worth_34 : decode cX0_worth 34 = .ok (.getfield 9, 3) := by decide +kernel
theorem dX0_worth_37 : decode cX0_worth 37 = .ok (.iload 5, 2) := by decide +kernel
theorem dX0_worth_39 : decode cX0_worth 39 = .ok (.iaload, 1) := by decide +kernel
theorem dX0_worth_40 : decode cX0_worth 40 = .ok (.bipush 8, 2) := by decide +kernel
theorem dX0_worth_42 : decode cX0_worth 42 = .ok (.ishr, 1) := by decide +kernel
theorem dX0_worth_43 : decode cX0_worth 43 = .ok (.istore 7, 2) := by decide +kernel
theorem dX0_worth_45 : decode cX0_worth 45 = .ok (.iload 6, 2) := by decide +kernel
theorem dX0_worth_47 : decode cX0_worth 47 = .ok (.bipush 48, 2) := by decide +kernel
theorem dX0_worth_49 : decode cX0_worth 49 = .ok (.if_icmp .eq 17, 3) := by decide +kernel
theorem dX0_worth_52 : decode cX0_worth 52 = .ok (.iload 6, 2) := by decide +kernel
theorem dX0_worth_54 : decode cX0_worth 54 = .ok (.bipush 97, 2) := by decide +kernel
theorem dX0_worth_56 : decode cX0_worth 56 = .ok (.if_icmp .ne 14, 3) := by decide +kernel
theorem dX0_worth_59 : decode cX0_worth 59 = .ok (.iload 7, 2) := by decide +kernel
theorem dX0_worth_61 : decode cX0_worth 61 = .ok (.aload_n 3, 1) := by decide +kernel
theorem dX0_worth_62 : decode cX0_worth 62 = .ok (.arraylength, 1) := by decide +kernel
theorem dX0_worth_63 : decode cX0_worth 63 = .ok (.if_icmp .ge 7, 3) := by decide +kernel
theorem dX0_worth_66 : decode cX0_worth 66 = .ok (.iconst 1, 1) := by decide +kernel
theorem dX0_worth_67 : decode cX0_worth 67 = .ok (.goto 4, 3) := by decide +kernel
theorem dX0_worth_70 : decode cX0_worth 70 = .ok (.iconst 0, 1) := by decide +kernel
theorem dX0_worth_71 : decode cX0_worth 71 = .ok (.istore 8, 2) := by decide +kernel
theorem dX0_worth_73 : decode cX0_worth 73 = .ok (.iload 8, 2) := by decide +kernel
theorem dX0_worth_75 : decode cX0_worth 75 = .ok (.ifCond .eq 40, 3) := by decide +kernel
theorem dX0_worth_78 : decode cX0_worth 78 = .ok (.iload 4, 2) := by decide +kernel
theorem dX0_worth_80 : decode cX0_worth 80 = .ok (.bipush 64, 2) := by decide +kernel
theorem dX0_worth_82 : decode cX0_worth 82 = .ok (.if_icmp .ge 33, 3) := by decide +kernel
theorem dX0_worth_85 : decode cX0_worth 85 = .ok (.aload_n 0, 1) := by decide +kernel
theorem dX0_worth_86 : decode cX0_worth 86 = .ok (.getfield 24, 3) := by decide +kernel
theorem dX0_worth_89 : decode cX0_worth 89 = .ok (.iload 4, 2) := by decide +kernel
theorem dX0_worth_91 : decode cX0_worth 91 = .ok (.iload 6, 2) := by decide +kernel
theorem dX0_worth_93 : decode cX0_worth 93 = .ok (.bipush 48, 2) := by decide +kernel
theorem dX0_worth_95 : decode cX0_worth 95 = .ok (.if_icmp .ne 9, 3) := by decide +kernel
theorem dX0_worth_98 : decode cX0_worth 98 = .ok (.iload 7, 2) := by decide +kernel
theorem dX0_worth_100 : decode cX0_worth 100 = .ok (.i2l, 1) := by decide +kernel
theorem dX0_worth_101 : decode cX0_worth 101 = .ok (.goto 7, 3) := by decide +kernel
theorem dX0_worth_104 : decode cX0_worth 104 = .ok (.aload_n 3, 1) := by decide +kernel
theorem dX0_worth_105 : decode cX0_worth 105 = .ok (.iload 7, 2) := by decide +kernel
theorem dX0_worth_107 : decode cX0_worth 107 = .ok (.laload, 1) := by decide +kernel
theorem dX0_worth_108 : decode cX0_worth 108 = .ok (.lastore, 1) := by decide +kernel
theorem dX0_worth_109 : decode cX0_worth 109 = .ok (.iinc 4 1, 3) := by decide +kernel
theorem dX0_worth_112 : decode cX0_worth 112 = .ok (.goto 277, 3) := by decide +kernel
theorem dX0_worth_115 : decode cX0_worth 115 = .ok (.iload 6, 2) := by decide +kernel
theorem dX0_worth_117 : decode cX0_worth 117 = .ok (.bipush 33, 2) := by decide +kernel
theorem dX0_worth_119 : decode cX0_worth 119 = .ok (.if_icmp .ne 31, 3) := by decide +kernel
theorem dX0_worth_122 : decode cX0_worth 122 = .ok (.iload 4, 2) := by decide +kernel
theorem dX0_worth_124 : decode cX0_worth 124 = .ok (.ifCond .le 26, 3) := by decide +kernel
theorem dX0_worth_127 : decode cX0_worth 127 = .ok (.aload_n 0, 1) := by decide +kernel
theorem dX0_worth_128 : decode cX0_worth 128 = .ok (.getfield 24, 3) := by decide +kernel
theorem dX0_worth_131 : decode cX0_worth 131 = .ok (.iload 4, 2) := by decide +kernel
theorem dX0_worth_133 : decode cX0_worth 133 = .ok (.iconst 1, 1) := by decide +kernel
theorem dX0_worth_134 : decode cX0_worth 134 = .ok (.isub, 1) := by decide +kernel
theorem dX0_worth_135 : decode cX0_worth 135 = .ok (.lconst 1, 1) := by decide +kernel
theorem dX0_worth_136 : decode cX0_worth 136 = .ok (.aload_n 0, 1) := by decide +kernel
theorem dX0_worth_137 : decode cX0_worth 137 = .ok (.getfield 24, 3) := by decide +kernel
theorem dX0_worth_140 : decode cX0_worth 140 = .ok (.iload 4, 2) := by decide +kernel
theorem dX0_worth_142 : decode cX0_worth 142 = .ok (.iconst 1, 1) := by decide +kernel
theorem dX0_worth_143 : decode cX0_worth 143 = .ok (.isub, 1) := by decide +kernel
theorem dX0_worth_144 : decode cX0_worth 144 = .ok (.laload, 1) := by decide +kernel
theorem dX0_worth_145 : decode cX0_worth 145 = .ok (.lsub, 1) := by decide +kernel
theorem dX0_worth_146 : decode cX0_worth 146 = .ok (.lastore, 1) := by decide +kernel
theorem dX0_worth_147 : decode cX0_worth 147 = .ok (.goto 242, 3) := by decide +kernel
theorem dX0_worth_150 : decode cX0_worth 150 = .ok (.iload 4, 2) := by decide +kernel
theorem dX0_worth_152 : decode cX0_worth 152 = .ok (.iconst 1, 1) := by decide +kernel
theorem dX0_worth_153 : decode cX0_worth 153 = .ok (.if_icmp .le 236, 3) := by decide +kernel
theorem dX0_worth_156 : decode cX0_worth 156 = .ok (.iinc 4 (-1), 3) := by decide +kernel
theorem dX0_worth_159 : decode cX0_worth 159 = .ok (.aload_n 0, 1) := by decide +kernel
theorem dX0_worth_160 : decode cX0_worth 160 = .ok (.getfield 24, 3) := by decide +kernel
theorem dX0_worth_163 : decode cX0_worth 163 = .ok (.iload 4, 2) := by decide +kernel
theorem dX0_worth_165 : decode cX0_worth 165 = .ok (.laload, 1) := by decide +kernel
theorem dX0_worth_166 : decode cX0_worth 166 = .ok (.lstore 9, 2) := by decide +kernel
theorem dX0_worth_168 : decode cX0_worth 168 = .ok (.aload_n 0, 1) := by decide +kernel
theorem dX0_worth_169 : decode cX0_worth 169 = .ok (.getfield 24, 3) := by decide +kernel
theorem dX0_worth_172 : decode cX0_worth 172 = .ok (.iload 4, 2) := by decide +kernel
theorem dX0_worth_174 : decode cX0_worth 174 = .ok (.iconst 1, 1) := by decide +kernel
theorem dX0_worth_175 : decode cX0_worth 175 = .ok (.isub, 1) := by decide +kernel
theorem dX0_worth_176 : decode cX0_worth 176 = .ok (.laload, 1) := by decide +kernel
theorem dX0_worth_177 : decode cX0_worth 177 = .ok (.lstore 11, 2) := by decide +kernel
theorem dX0_worth_179 : decode cX0_worth 179 = .ok (.iload 6, 2) := by decide +kernel
theorem dX0_worth_181 : decode cX0_worth 181 = .ok (.lookupswitch 182 #[(38, 126), (42, 95), (43, 75), (45, 85), (47, 105), (60, 146), (62, 164), (124, 136)], 75) := by decide +kernel
theorem dX0_worth_256 : decode cX0_worth 256 = .ok (.lload 11, 2) := by decide +kernel
theorem dX0_worth_258 : decode cX0_worth 258 = .ok (.lload 9, 2) := by decide +kernel
theorem dX0_worth_260 : decode cX0_worth 260 = .ok (.ladd, 1) := by decide +kernel
theorem dX0_worth_261 : decode cX0_worth 261 = .ok (.lstore 11, 2) := by decide +kernel
theorem dX0_worth_263 : decode cX0_worth 263 = .ok (.goto 115, 3) := by decide +kernel
theorem dX0_worth_266 : decode cX0_worth 266 = .ok (.lload 11, 2) := by decide +kernel
theorem dX0_worth_268 : decode cX0_worth 268 = .ok (.lload 9, 2) := by decide +kernel
theorem dX0_worth_270 : decode cX0_worth 270 = .ok (.lsub, 1) := by decide +kernel
theorem dX0_worth_271 : decode cX0_worth 271 = .ok (.lstore 11, 2) := by decide +kernel
theorem dX0_worth_273 : decode cX0_worth 273 = .ok (.goto 105, 3) := by decide +kernel
theorem dX0_worth_276 : decode cX0_worth 276 = .ok (.lload 11, 2) := by decide +kernel
theorem dX0_worth_278 : decode cX0_worth 278 = .ok (.lload 9, 2) := by decide +kernel
theorem dX0_worth_280 : decode cX0_worth 280 = .ok (.lmul, 1) := by decide +kernel
theorem dX0_worth_281 : decode cX0_worth 281 = .ok (.lstore 11, 2) := by decide +kernel
theorem dX0_worth_283 : decode cX0_worth 283 = .ok (.goto 95, 3) := by decide +kernel
theorem dX0_worth_286 : decode cX0_worth 286 = .ok (.lload 9, 2) := by decide +kernel
theorem dX0_worth_288 : decode cX0_worth 288 = .ok (.lconst 0, 1) := by decide +kernel
theorem dX0_worth_289 : decode cX0_worth 289 = .ok (.lcmp, 1) := by decide +kernel
theorem dX0_worth_290 : decode cX0_worth 290 = .ok (.ifCond .ne 7, 3) := by decide +kernel
theorem dX0_worth_293 : decode cX0_worth 293 = .ok (.lconst 0, 1) := by decide +kernel
theorem dX0_worth_294 : decode cX0_worth 294 = .ok (.goto 8, 3) := by decide +kernel
theorem dX0_worth_297 : decode cX0_worth 297 = .ok (.lload 11, 2) := by decide +kernel
theorem dX0_worth_299 : decode cX0_worth 299 = .ok (.lload 9, 2) := by decide +kernel
theorem dX0_worth_301 : decode cX0_worth 301 = .ok (.ldiv, 1) := by decide +kernel
theorem dX0_worth_302 : decode cX0_worth 302 = .ok (.lstore 11, 2) := by decide +kernel
theorem dX0_worth_304 : decode cX0_worth 304 = .ok (.goto 74, 3) := by decide +kernel
theorem dX0_worth_307 : decode cX0_worth 307 = .ok (.lload 11, 2) := by decide +kernel
theorem dX0_worth_309 : decode cX0_worth 309 = .ok (.lload 9, 2) := by decide +kernel
theorem dX0_worth_311 : decode cX0_worth 311 = .ok (.land, 1) := by decide +kernel
theorem dX0_worth_312 : decode cX0_worth 312 = .ok (.lstore 11, 2) := by decide +kernel
theorem dX0_worth_314 : decode cX0_worth 314 = .ok (.goto 64, 3) := by decide +kernel
theorem dX0_worth_317 : decode cX0_worth 317 = .ok (.lload 11, 2) := by decide +kernel
theorem dX0_worth_319 : decode cX0_worth 319 = .ok (.lload 9, 2) := by decide +kernel
theorem dX0_worth_321 : decode cX0_worth 321 = .ok (.lor, 1) := by decide +kernel
theorem dX0_worth_322 : decode cX0_worth 322 = .ok (.lstore 11, 2) := by decide +kernel
theorem dX0_worth_324 : decode cX0_worth 324 = .ok (.goto 54, 3) := by decide +kernel
theorem dX0_worth_327 : decode cX0_worth 327 = .ok (.lload 11, 2) := by decide +kernel
theorem dX0_worth_329 : decode cX0_worth 329 = .ok (.lload 9, 2) := by decide +kernel
theorem dX0_worth_331 : decode cX0_worth 331 = .ok (.lcmp, 1) := by decide +kernel
theorem dX0_worth_332 : decode cX0_worth 332 = .ok (.ifCond .ge 7, 3) := by decide +kernel
theorem dX0_worth_335 : decode cX0_worth 335 = .ok (.lconst 1, 1) := by decide +kernel
theorem dX0_worth_336 : decode cX0_worth 336 = .ok (.goto 4, 3) := by decide +kernel
theorem dX0_worth_339 : decode cX0_worth 339 = .ok (.lconst 0, 1) := by decide +kernel
theorem dX0_worth_340 : decode cX0_worth 340 = .ok (.lstore 11, 2) := by decide +kernel
theorem dX0_worth_342 : decode cX0_worth 342 = .ok (.goto 36, 3) := by decide +kernel
theorem dX0_worth_345 : decode cX0_worth 345 = .ok (.lload 11, 2) := by decide +kernel
theorem dX0_worth_347 : decode cX0_worth 347 = .ok (.lload 9, 2) := by decide +kernel
theorem dX0_worth_349 : decode cX0_worth 349 = .ok (.lcmp, 1) := by decide +kernel
theorem dX0_worth_350 : decode cX0_worth 350 = .ok (.ifCond .le 7, 3) := by decide +kernel
theorem dX0_worth_353 : decode cX0_worth 353 = .ok (.lconst 1, 1) := by decide +kernel
theorem dX0_worth_354 : decode cX0_worth 354 = .ok (.goto 4, 3) := by decide +kernel
theorem dX0_worth_357 : decode cX0_worth 357 = .ok (.lconst 0, 1) := by decide +kernel
theorem dX0_worth_358 : decode cX0_worth 358 = .ok (.lstore 11, 2) := by decide +kernel
theorem dX0_worth_360 : decode cX0_worth 360 = .ok (.goto 18, 3) := by decide +kernel
theorem dX0_worth_363 : decode cX0_worth 363 = .ok (.lload 11, 2) := by decide +kernel
theorem dX0_worth_365 : decode cX0_worth 365 = .ok (.lload 9, 2) := by decide +kernel
theorem dX0_worth_367 : decode cX0_worth 367 = .ok (.lcmp, 1) := by decide +kernel
theorem dX0_worth_368 : decode cX0_worth 368 = .ok (.ifCond .ne 7, 3) := by decide +kernel
theorem dX0_worth_371 : decode cX0_worth 371 = .ok (.lconst 1, 1) := by decide +kernel
theorem dX0_worth_372 : decode cX0_worth 372 = .ok (.goto 4, 3) := by decide +kernel
theorem dX0_worth_375 : decode cX0_worth 375 = .ok (.lconst 0, 1) := by decide +kernel
theorem dX0_worth_376 : decode cX0_worth 376 = .ok (.lstore 11, 2) := by decide +kernel
theorem dX0_worth_378 : decode cX0_worth 378 = .ok (.aload_n 0, 1) := by decide +kernel
theorem dX0_worth_379 : decode cX0_worth 379 = .ok (.getfield 24, 3) := by decide +kernel
theorem dX0_worth_382 : decode cX0_worth 382 = .ok (.iload 4, 2) := by decide +kernel
theorem dX0_worth_384 : decode cX0_worth 384 = .ok (.iconst 1, 1) := by decide +kernel
theorem dX0_worth_385 : decode cX0_worth 385 = .ok (.isub, 1) := by decide +kernel
theorem dX0_worth_386 : decode cX0_worth 386 = .ok (.lload 11, 2) := by decide +kernel
theorem dX0_worth_388 : decode cX0_worth 388 = .ok (.lastore, 1) := by decide +kernel
theorem dX0_worth_389 : decode cX0_worth 389 = .ok (.iinc 5 1, 3) := by decide +kernel
theorem dX0_worth_392 : decode cX0_worth 392 = .ok (.goto (-386), 3) := by decide +kernel
theorem dX0_worth_395 : decode cX0_worth 395 = .ok (.iload 4, 2) := by decide +kernel
theorem dX0_worth_397 : decode cX0_worth 397 = .ok (.ifCond .le 12, 3) := by decide +kernel
theorem dX0_worth_400 : decode cX0_worth 400 = .ok (.aload_n 0, 1) := by decide +kernel
theorem dX0_worth_401 : decode cX0_worth 401 = .ok (.getfield 24, 3) := by decide +kernel
theorem dX0_worth_404 : decode cX0_worth 404 = .ok (.iconst 0, 1) := by decide +kernel
theorem dX0_worth_405 : decode cX0_worth 405 = .ok (.laload, 1) := by decide +kernel
theorem dX0_worth_406 : decode cX0_worth 406 = .ok (.goto 4, 3) := by decide +kernel
theorem dX0_worth_409 : decode cX0_worth 409 = .ok (.lconst 0, 1) := by decide +kernel
theorem dX0_worth_410 : decode cX0_worth 410 = .ok (.lreturn, 1) := by decide +kernel
theorem dX1_init_0 : decode cX1_init 0 = .ok (.aload_n 0, 1) := by decide +kernel
theorem dX1_init_1 : decode cX1_init 1 = .ok (.invokespecial 3, 3) := by decide +kernel
theorem dX1_init_4 : decode cX1_init 4 = .ok (.aload_n 0, 1) := by decide +kernel
theorem dX1_init_5 : decode cX1_init 5 = .ok (.new 9, 3) := by decide +kernel
theorem dX1_init_8 : decode cX1_init 8 = .ok (.dup, 1) := by decide +kernel
theorem dX1_init_9 : decode cX1_init 9 = .ok (.invokespecial 11, 3) := by decide +kernel
theorem dX1_init_12 : decode cX1_init 12 = .ok (.putfield 12, 3) := by decide +kernel
theorem dX1_init_15 : decode cX1_init 15 = .ok (.return_, 1) := by decide +kernel
theorem dX1_clear_0 : decode cX1_clear 0 = .ok (.aload_n 0, 1) := by decide +kernel
theorem dX1_clear_1 : decode cX1_clear 1 = .ok (.getfield 12, 3) := by decide +kernel
theorem dX1_clear_4 : decode cX1_clear 4 = .ok (.invokevirtual 18, 3) := by decide +kernel
theorem dX1_clear_7 : decode cX1_clear 7 = .ok (.aload_n 0, 1) := by decide +kernel
theorem dX1_clear_8 : decode cX1_clear 8 = .ok (.bipush 20, 2) := by decide +kernel
theorem dX1_clear_10 : decode cX1_clear 10 = .ok (.putfield 21, 3) := by decide +kernel
theorem dX1_clear_13 : decode cX1_clear 13 = .ok (.aload_n 0, 1) := by decide +kernel
theorem dX1_clear_14 : decode cX1_clear 14 = .ok (.sipush 800, 3) := by decide +kernel
theorem dX1_clear_17 : decode cX1_clear 17 = .ok (.putfield 25, 3) := by decide +kernel
theorem dX1_clear_20 : decode cX1_clear 20 = .ok (.aload_n 0, 1) := by decide +kernel
theorem dX1_clear_21 : decode cX1_clear 21 = .ok (.sipush 800, 3) := by decide +kernel
theorem dX1_clear_24 : decode cX1_clear 24 = .ok (.putfield 28, 3) := by decide +kernel
theorem dX1_clear_27 : decode cX1_clear 27 = .ok (.aload_n 0, 1) := by decide +kernel
theorem dX1_clear_28 : decode cX1_clear 28 = .ok (.sipush 800, 3) := by decide +kernel
theorem dX1_clear_31 : decode cX1_clear 31 = .ok (.putfield 31, 3) := by decide +kernel
theorem dX1_clear_34 : decode cX1_clear 34 = .ok (.return_, 1) := by decide +kernel
theorem dX1_seeing_0 : decode cX1_seeing 0 = .ok (.bipush 100, 2) := by decide +kernel
theorem dX1_seeing_2 : decode cX1_seeing 2 = .ok (.aload_n 0, 1) := by decide +kernel
theorem dX1_seeing_3 : decode cX1_seeing 3 = .ok (.getfield 28, 3) := by decide +kernel
theorem dX1_seeing_6 : decode cX1_seeing 6 = .ok (.iload_n 1, 1) := by decide +kernel
theorem dX1_seeing_7 : decode cX1_seeing 7 = .ok (.imul, 1) := by decide +kernel
theorem dX1_seeing_8 : decode cX1_seeing 8 = .ok (.bipush 30, 2) := by decide +kernel
theorem dX1_seeing_10 : decode cX1_seeing 10 = .ok (.idiv, 1) := by decide +kernel
theorem dX1_seeing_11 : decode cX1_seeing 11 = .ok (.invokestatic 34, 3) := by decide +kernel
theorem dX1_seeing_14 : decode cX1_seeing 14 = .ok (.ireturn, 1) := by decide +kernel
theorem dX2_init_0 : decode cX2_init 0 = .ok (.aload_n 0, 1) := by decide +kernel
theorem dX2_init_1 : decode cX2_init 1 = .ok (.invokespecial 3, 3) := by decide +kernel
theorem dX2_init_4 : decode cX2_init 4 = .ok (.aload_n 0, 1) := by decide +kernel
theorem dX2_init_5 : decode cX2_init 5 = .ok (.new 9, 3) := by decide +kernel
theorem dX2_init_8 : decode cX2_init 8 = .ok (.dup, 1) := by decide +kernel
theorem dX2_init_9 : decode cX2_init 9 = .ok (.invokespecial 11, 3) := by decide +kernel
theorem dX2_init_12 : decode cX2_init 12 = .ok (.putfield 12, 3) := by decide +kernel
theorem dX2_init_15 : decode cX2_init 15 = .ok (.aload_n 0, 1) := by decide +kernel
theorem dX2_init_16 : decode cX2_init 16 = .ok (.bipush 10, 2) := by decide +kernel
theorem dX2_init_18 : decode cX2_init 18 = .ok (.newarray .long, 2) := by decide +kernel
theorem dX2_init_20 : decode cX2_init 20 = .ok (.putfield 18, 3) := by decide +kernel
theorem dX2_init_23 : decode cX2_init 23 = .ok (.return_, 1) := by decide +kernel
theorem dX2_play_0 : decode cX2_play 0 = .ok (.aload_n 0, 1) := by decide +kernel
theorem dX2_play_1 : decode cX2_play 1 = .ok (.iload 4, 2) := by decide +kernel
theorem dX2_play_3 : decode cX2_play 3 = .ok (.i2l, 1) := by decide +kernel
theorem dX2_play_4 : decode cX2_play 4 = .ok (.putfield 22, 3) := by decide +kernel
theorem dX2_play_7 : decode cX2_play 7 = .ok (.aload_n 0, 1) := by decide +kernel
theorem dX2_play_8 : decode cX2_play 8 = .ok (.iconst 0, 1) := by decide +kernel
theorem dX2_play_9 : decode cX2_play 9 = .ok (.putfield 26, 3) := by decide +kernel
theorem dX2_play_12 : decode cX2_play 12 = .ok (.aload_n 0, 1) := by decide +kernel
theorem dX2_play_13 : decode cX2_play 13 = .ok (.iconst 0, 1) := by decide +kernel
theorem dX2_play_14 : decode cX2_play 14 = .ok (.putfield 30, 3) := by decide +kernel
theorem dX2_play_17 : decode cX2_play 17 = .ok (.aload_n 0, 1) := by decide +kernel
theorem dX2_play_18 : decode cX2_play 18 = .ok (.iconst 0, 1) := by decide +kernel
theorem dX2_play_19 : decode cX2_play 19 = .ok (.putfield 33, 3) := by decide +kernel
theorem dX2_play_22 : decode cX2_play 22 = .ok (.iconst 0, 1) := by decide +kernel
theorem dX2_play_23 : decode cX2_play 23 = .ok (.istore 7, 2) := by decide +kernel
theorem dX2_play_25 : decode cX2_play 25 = .ok (.iload 7, 2) := by decide +kernel
theorem dX2_play_27 : decode cX2_play 27 = .ok (.iload 6, 2) := by decide +kernel
theorem dX2_play_29 : decode cX2_play 29 = .ok (.if_icmp .ge 104, 3) := by decide +kernel
theorem dX2_play_32 : decode cX2_play 32 = .ok (.aload_n 0, 1) := by decide +kernel
theorem dX2_play_33 : decode cX2_play 33 = .ok (.iload_n 3, 1) := by decide +kernel
theorem dX2_play_34 : decode cX2_play 34 = .ok (.iconst 4, 1) := by decide +kernel
theorem dX2_play_35 : decode cX2_play 35 = .ok (.idiv, 1) := by decide +kernel
theorem dX2_play_36 : decode cX2_play 36 = .ok (.iload_n 3, 1) := by decide +kernel
theorem dX2_play_37 : decode cX2_play 37 = .ok (.iconst 4, 1) := by decide +kernel
theorem dX2_play_38 : decode cX2_play 38 = .ok (.irem, 1) := by decide +kernel
theorem dX2_play_39 : decode cX2_play 39 = .ok (.invokevirtual 36, 3) := by decide +kernel
theorem dX2_play_42 : decode cX2_play 42 = .ok (.iload 5, 2) := by decide +kernel
theorem dX2_play_44 : decode cX2_play 44 = .ok (.istore 8, 2) := by decide +kernel
theorem dX2_play_46 : decode cX2_play 46 = .ok (.iload 8, 2) := by decide +kernel
theorem dX2_play_48 : decode cX2_play 48 = .ok (.ifCond .le 22, 3) := by decide +kernel
theorem dX2_play_51 : decode cX2_play 51 = .ok (.aload_n 0, 1) := by decide +kernel
theorem dX2_play_52 : decode cX2_play 52 = .ok (.getfield 40, 3) := by decide +kernel
theorem dX2_play_55 : decode cX2_play 55 = .ok (.ifCond .ne 15, 3) := by decide +kernel
theorem dX2_play_58 : decode cX2_play 58 = .ok (.aload_n 0, 1) := by decide +kernel
theorem dX2_play_59 : decode cX2_play 59 = .ok (.aload_n 1, 1) := by decide +kernel
theorem dX2_play_60 : decode cX2_play 60 = .ok (.aload_n 2, 1) := by decide +kernel
theorem dX2_play_61 : decode cX2_play 61 = .ok (.invokevirtual 43, 3) := by decide +kernel
theorem dX2_play_64 : decode cX2_play 64 = .ok (.iinc 8 (-1), 3) := by decide +kernel
theorem dX2_play_67 : decode cX2_play 67 = .ok (.goto (-21), 3) := by decide +kernel
theorem dX2_play_70 : decode cX2_play 70 = .ok (.aload_n 0, 1) := by decide +kernel
theorem dX2_play_71 : decode cX2_play 71 = .ok (.dup, 1) := by decide +kernel
theorem dX2_play_72 : decode cX2_play 72 = .ok (.getfield 26, 3) := by decide +kernel
theorem dX2_play_75 : decode cX2_play 75 = .ok (.aload_n 0, 1) := by decide +kernel
theorem dX2_play_76 : decode cX2_play 76 = .ok (.getfield 40, 3) := by decide +kernel
theorem dX2_play_79 : decode cX2_play 79 = .ok (.iconst 1, 1) := by decide +kernel
theorem dX2_play_80 : decode cX2_play 80 = .ok (.if_icmp .ne 7, 3) := by decide +kernel
theorem dX2_play_83 : decode cX2_play 83 = .ok (.iconst 1, 1) := by decide +kernel
theorem dX2_play_84 : decode cX2_play 84 = .ok (.goto 4, 3) := by decide +kernel
theorem dX2_play_87 : decode cX2_play 87 = .ok (.iconst 0, 1) := by decide +kernel
theorem dX2_play_88 : decode cX2_play 88 = .ok (.iadd, 1) := by decide +kernel
theorem dX2_play_89 : decode cX2_play 89 = .ok (.putfield 26, 3) := by decide +kernel
theorem dX2_play_92 : decode cX2_play 92 = .ok (.aload_n 0, 1) := by decide +kernel
theorem dX2_play_93 : decode cX2_play 93 = .ok (.dup, 1) := by decide +kernel
theorem dX2_play_94 : decode cX2_play 94 = .ok (.getfield 30, 3) := by decide +kernel
theorem dX2_play_97 : decode cX2_play 97 = .ok (.aload_n 0, 1) := by decide +kernel
theorem dX2_play_98 : decode cX2_play 98 = .ok (.getfield 40, 3) := by decide +kernel
theorem dX2_play_101 : decode cX2_play 101 = .ok (.iconst 2, 1) := by decide +kernel
theorem dX2_play_102 : decode cX2_play 102 = .ok (.if_icmp .ne 7, 3) := by decide +kernel
theorem dX2_play_105 : decode cX2_play 105 = .ok (.iconst 1, 1) := by decide +kernel
theorem dX2_play_106 : decode cX2_play 106 = .ok (.goto 4, 3) := by decide +kernel
theorem dX2_play_109 : decode cX2_play 109 = .ok (.iconst 0, 1) := by decide +kernel
theorem dX2_play_110 : decode cX2_play 110 = .ok (.iadd, 1) := by decide +kernel
theorem dX2_play_111 : decode cX2_play 111 = .ok (.putfield 30, 3) := by decide +kernel
theorem dX2_play_114 : decode cX2_play 114 = .ok (.aload_n 0, 1) := by decide +kernel
theorem dX2_play_115 : decode cX2_play 115 = .ok (.dup, 1) := by decide +kernel
theorem dX2_play_116 : decode cX2_play 116 = .ok (.getfield 33, 3) := by decide +kernel
theorem dX2_play_119 : decode cX2_play 119 = .ok (.aload_n 0, 1) := by decide +kernel
theorem dX2_play_120 : decode cX2_play 120 = .ok (.getfield 47, 3) := by decide +kernel
theorem dX2_play_123 : decode cX2_play 123 = .ok (.iadd, 1) := by decide +kernel
theorem dX2_play_124 : decode cX2_play 124 = .ok (.putfield 33, 3) := by decide +kernel
theorem dX2_play_127 : decode cX2_play 127 = .ok (.iinc 7 1, 3) := by decide +kernel
theorem dX2_play_130 : decode cX2_play 130 = .ok (.goto (-105), 3) := by decide +kernel
theorem dX2_play_133 : decode cX2_play 133 = .ok (.return_, 1) := by decide +kernel
theorem dX2_begin_0 : decode cX2_begin 0 = .ok (.aload_n 0, 1) := by decide +kernel
theorem dX2_begin_1 : decode cX2_begin 1 = .ok (.getfield 12, 3) := by decide +kernel
theorem dX2_begin_4 : decode cX2_begin 4 = .ok (.iload_n 1, 1) := by decide +kernel
theorem dX2_begin_5 : decode cX2_begin 5 = .ok (.iload_n 2, 1) := by decide +kernel
theorem dX2_begin_6 : decode cX2_begin 6 = .ok (.invokevirtual 50, 3) := by decide +kernel
theorem dX2_begin_9 : decode cX2_begin 9 = .ok (.aload_n 0, 1) := by decide +kernel
theorem dX2_begin_10 : decode cX2_begin 10 = .ok (.iload_n 1, 1) := by decide +kernel
theorem dX2_begin_11 : decode cX2_begin 11 = .ok (.putfield 51, 3) := by decide +kernel
theorem dX2_begin_14 : decode cX2_begin 14 = .ok (.aload_n 0, 1) := by decide +kernel
theorem dX2_begin_15 : decode cX2_begin 15 = .ok (.iload_n 2, 1) := by decide +kernel
theorem dX2_begin_16 : decode cX2_begin 16 = .ok (.putfield 54, 3) := by decide +kernel
theorem dX2_begin_19 : decode cX2_begin 19 = .ok (.aload_n 0, 1) := by decide +kernel
theorem dX2_begin_20 : decode cX2_begin 20 = .ok (.iconst 0, 1) := by decide +kernel
theorem dX2_begin_21 : decode cX2_begin 21 = .ok (.putfield 47, 3) := by decide +kernel
theorem dX2_begin_24 : decode cX2_begin 24 = .ok (.aload_n 0, 1) := by decide +kernel
theorem dX2_begin_25 : decode cX2_begin 25 = .ok (.iconst 0, 1) := by decide +kernel
theorem dX2_begin_26 : decode cX2_begin 26 = .ok (.putfield 40, 3) := by decide +kernel
theorem dX2_begin_29 : decode cX2_begin 29 = .ok (.aload_n 0, 1) := by decide +kernel
theorem dX2_begin_30 : decode cX2_begin 30 = .ok (.getfield 18, 3) := by decide +kernel
theorem dX2_begin_33 : decode cX2_begin 33 = .ok (.ldc2_w 57, 3) := by decide +kernel
theorem dX2_begin_36 : decode cX2_begin 36 = .ok (.invokestatic 59, 3) := by decide +kernel
theorem dX2_begin_39 : decode cX2_begin 39 = .ok (.return_, 1) := by decide +kernel
theorem dX2_draw_0 : decode cX2_draw 0 = .ok (.aload_n 0, 1) := by decide +kernel
theorem dX2_draw_1 : decode cX2_draw 1 = .ok (.aload_n 0, 1) := by decide +kernel
theorem dX2_draw_2 : decode cX2_draw 2 = .ok (.getfield 22, 3) := by decide +kernel
theorem dX2_draw_5 : decode cX2_draw 5 = .ok (.ldc2_w 65, 3) := by decide +kernel
theorem dX2_draw_8 : decode cX2_draw 8 = .ok (.lmul, 1) := by decide +kernel
theorem dX2_draw_9 : decode cX2_draw 9 = .ok (.ldc2_w 67, 3) := by decide +kernel
theorem dX2_draw_12 : decode cX2_draw 12 = .ok (.ladd, 1) := by decide +kernel
theorem dX2_draw_13 : decode cX2_draw 13 = .ok (.ldc2_w 69, 3) := by decide +kernel
theorem dX2_draw_16 : decode cX2_draw 16 = .ok (.lrem, 1) := by decide +kernel
theorem dX2_draw_17 : decode cX2_draw 17 = .ok (.putfield 22, 3) := by decide +kernel
theorem dX2_draw_20 : decode cX2_draw 20 = .ok (.aload_n 0, 1) := by decide +kernel
theorem dX2_draw_21 : decode cX2_draw 21 = .ok (.getfield 22, 3) := by decide +kernel
theorem dX2_draw_24 : decode cX2_draw 24 = .ok (.ldc2_w 71, 3) := by decide +kernel
theorem dX2_draw_27 : decode cX2_draw 27 = .ok (.ldiv, 1) := by decide +kernel
theorem dX2_draw_28 : decode cX2_draw 28 = .ok (.l2i, 1) := by decide +kernel
theorem dX2_draw_29 : decode cX2_draw 29 = .ok (.ireturn, 1) := by decide +kernel
theorem dX2_round_0 : decode cX2_round 0 = .ok (.aload_n 0, 1) := by decide +kernel
theorem dX2_round_1 : decode cX2_round 1 = .ok (.dup, 1) := by decide +kernel
theorem dX2_round_2 : decode cX2_round 2 = .ok (.getfield 47, 3) := by decide +kernel
theorem dX2_round_5 : decode cX2_round 5 = .ok (.iconst 1, 1) := by decide +kernel
theorem dX2_round_6 : decode cX2_round 6 = .ok (.iadd, 1) := by decide +kernel
theorem dX2_round_7 : decode cX2_round 7 = .ok (.putfield 47, 3) := by decide +kernel
theorem dX2_round_10 : decode cX2_round 10 = .ok (.aload_n 0, 1) := by decide +kernel
theorem dX2_round_11 : decode cX2_round 11 = .ok (.aload_n 1, 1) := by decide +kernel
theorem dX2_round_12 : decode cX2_round 12 = .ok (.getfield 73, 3) := by decide +kernel
theorem dX2_round_15 : decode cX2_round 15 = .ok (.invokevirtual 79, 3) := by decide +kernel
theorem dX2_round_18 : decode cX2_round 18 = .ok (.aload_n 2, 1) := by decide +kernel
theorem dX2_round_19 : decode cX2_round 19 = .ok (.aload_n 0, 1) := by decide +kernel
theorem dX2_round_20 : decode cX2_round 20 = .ok (.getfield 18, 3) := by decide +kernel
theorem dX2_round_23 : decode cX2_round 23 = .ok (.ldc2_w 83, 3) := by decide +kernel
theorem dX2_round_26 : decode cX2_round 26 = .ok (.invokevirtual 85, 3) := by decide +kernel
theorem dX2_round_29 : decode cX2_round 29 = .ok (.l2i, 1) := by decide +kernel
theorem dX2_round_30 : decode cX2_round 30 = .ok (.istore_n 3, 1) := by decide +kernel
theorem dX2_round_31 : decode cX2_round 31 = .ok (.iload_n 3, 1) := by decide +kernel
theorem dX2_round_32 : decode cX2_round 32 = .ok (.iconst 5, 1) := by decide +kernel
theorem dX2_round_33 : decode cX2_round 33 = .ok (.if_icmp .ne 11, 3) := by decide +kernel
theorem dX2_round_36 : decode cX2_round 36 = .ok (.aload_n 0, 1) := by decide +kernel
theorem dX2_round_37 : decode cX2_round 37 = .ok (.aload_n 1, 1) := by decide +kernel
theorem dX2_round_38 : decode cX2_round 38 = .ok (.invokevirtual 91, 3) := by decide +kernel
theorem dX2_round_41 : decode cX2_round 41 = .ok (.goto 44, 3) := by decide +kernel
theorem dX2_round_44 : decode cX2_round 44 = .ok (.iload_n 3, 1) := by decide +kernel
theorem dX2_round_45 : decode cX2_round 45 = .ok (.ifCond .ne 11, 3) := by decide +kernel
theorem dX2_round_48 : decode cX2_round 48 = .ok (.aload_n 0, 1) := by decide +kernel
theorem dX2_round_49 : decode cX2_round 49 = .ok (.aload_n 1, 1) := by decide +kernel
theorem dX2_round_50 : decode cX2_round 50 = .ok (.invokevirtual 95, 3) := by decide +kernel
theorem dX2_round_53 : decode cX2_round 53 = .ok (.goto 20, 3) := by decide +kernel
theorem dX2_round_56 : decode cX2_round 56 = .ok (.iload_n 3, 1) := by decide +kernel
theorem dX2_round_57 : decode cX2_round 57 = .ok (.iconst 4, 1) := by decide +kernel
theorem dX2_round_58 : decode cX2_round 58 = .ok (.if_icmp .eq 15, 3) := by decide +kernel
theorem dX2_round_61 : decode cX2_round 61 = .ok (.aload_n 0, 1) := by decide +kernel
theorem dX2_round_62 : decode cX2_round 62 = .ok (.aload_n 0, 1) := by decide +kernel
theorem dX2_round_63 : decode cX2_round 63 = .ok (.getfield 54, 3) := by decide +kernel
theorem dX2_round_66 : decode cX2_round 66 = .ok (.iload_n 3, 1) := by decide +kernel
theorem dX2_round_67 : decode cX2_round 67 = .ok (.invokestatic 98, 3) := by decide +kernel
theorem dX2_round_70 : decode cX2_round 70 = .ok (.putfield 54, 3) := by decide +kernel
theorem dX2_round_73 : decode cX2_round 73 = .ok (.aload_n 0, 1) := by decide +kernel
theorem dX2_round_74 : decode cX2_round 74 = .ok (.getfield 12, 3) := by decide +kernel
theorem dX2_round_77 : decode cX2_round 77 = .ok (.iload_n 3, 1) := by decide +kernel
theorem dX2_round_78 : decode cX2_round 78 = .ok (.iconst 0, 1) := by decide +kernel
theorem dX2_round_79 : decode cX2_round 79 = .ok (.iconst 0, 1) := by decide +kernel
theorem dX2_round_80 : decode cX2_round 80 = .ok (.aload_n 1, 1) := by decide +kernel
theorem dX2_round_81 : decode cX2_round 81 = .ok (.invokevirtual 102, 3) := by decide +kernel
theorem dX2_round_84 : decode cX2_round 84 = .ok (.pop, 1) := by decide +kernel
theorem dX2_round_85 : decode cX2_round 85 = .ok (.aload_n 0, 1) := by decide +kernel
theorem dX2_round_86 : decode cX2_round 86 = .ok (.getfield 51, 3) := by decide +kernel
theorem dX2_round_89 : decode cX2_round 89 = .ok (.aload_n 1, 1) := by decide +kernel
theorem dX2_round_90 : decode cX2_round 90 = .ok (.getfield 73, 3) := by decide +kernel
theorem dX2_round_93 : decode cX2_round 93 = .ok (.getfield 106, 3) := by decide +kernel
theorem dX2_round_96 : decode cX2_round 96 = .ok (.if_icmp .ne 11, 3) := by decide +kernel
theorem dX2_round_99 : decode cX2_round 99 = .ok (.aload_n 0, 1) := by decide +kernel
theorem dX2_round_100 : decode cX2_round 100 = .ok (.iconst 1, 1) := by decide +kernel
theorem dX2_round_101 : decode cX2_round 101 = .ok (.putfield 40, 3) := by decide +kernel
theorem dX2_round_104 : decode cX2_round 104 = .ok (.goto 43, 3) := by decide +kernel
theorem dX2_round_107 : decode cX2_round 107 = .ok (.iload_n 3, 1) := by decide +kernel
theorem dX2_round_108 : decode cX2_round 108 = .ok (.ifCond .ne 34, 3) := by decide +kernel
theorem dX2_round_111 : decode cX2_round 111 = .ok (.aload_n 0, 1) := by decide +kernel
theorem dX2_round_112 : decode cX2_round 112 = .ok (.invokevirtual 111, 3) := by decide +kernel
theorem dX2_round_115 : decode cX2_round 115 = .ok (.sipush 1000, 3) := by decide +kernel
theorem dX2_round_118 : decode cX2_round 118 = .ok (.irem, 1) := by decide +kernel
theorem dX2_round_119 : decode cX2_round 119 = .ok (.aload_n 1, 1) := by decide +kernel
theorem dX2_round_120 : decode cX2_round 120 = .ok (.getfield 73, 3) := by decide +kernel
theorem dX2_round_123 : decode cX2_round 123 = .ok (.getfield 115, 3) := by decide +kernel
theorem dX2_round_126 : decode cX2_round 126 = .ok (.aload_n 0, 1) := by decide +kernel
theorem dX2_round_127 : decode cX2_round 127 = .ok (.getfield 51, 3) := by decide +kernel
theorem dX2_round_130 : decode cX2_round 130 = .ok (.iaload, 1) := by decide +kernel
theorem dX2_round_131 : decode cX2_round 131 = .ok (.if_icmp .ge 11, 3) := by decide +kernel
theorem dX2_round_134 : decode cX2_round 134 = .ok (.aload_n 0, 1) := by decide +kernel
theorem dX2_round_135 : decode cX2_round 135 = .ok (.iconst 2, 1) := by decide +kernel
theorem dX2_round_136 : decode cX2_round 136 = .ok (.putfield 40, 3) := by decide +kernel
theorem dX2_round_139 : decode cX2_round 139 = .ok (.goto 8, 3) := by decide +kernel
theorem dX2_round_142 : decode cX2_round 142 = .ok (.aload_n 0, 1) := by decide +kernel
theorem dX2_round_143 : decode cX2_round 143 = .ok (.aload_n 1, 1) := by decide +kernel
theorem dX2_round_144 : decode cX2_round 144 = .ok (.invokevirtual 119, 3) := by decide +kernel
theorem dX2_round_147 : decode cX2_round 147 = .ok (.return_, 1) := by decide +kernel
theorem dX2_takeStock_0 : decode cX2_takeStock 0 = .ok (.aload_n 0, 1) := by decide +kernel
theorem dX2_takeStock_1 : decode cX2_takeStock 1 = .ok (.getfield 18, 3) := by decide +kernel
theorem dX2_takeStock_4 : decode cX2_takeStock 4 = .ok (.iconst 0, 1) := by decide +kernel
theorem dX2_takeStock_5 : decode cX2_takeStock 5 = .ok (.aload_n 0, 1) := by decide +kernel
theorem dX2_takeStock_6 : decode cX2_takeStock 6 = .ok (.getfield 12, 3) := by decide +kernel
theorem dX2_takeStock_9 : decode cX2_takeStock 9 = .ok (.aload_n 1, 1) := by decide +kernel
theorem dX2_takeStock_10 : decode cX2_takeStock 10 = .ok (.invokevirtual 122, 3) := by decide +kernel
theorem dX2_takeStock_13 : decode cX2_takeStock 13 = .ok (.ldc2_w 126, 3) := by decide +kernel
theorem dX2_takeStock_16 : decode cX2_takeStock 16 = .ok (.ldiv, 1) := by decide +kernel
theorem dX2_takeStock_17 : decode cX2_takeStock 17 = .ok (.lastore, 1) := by decide +kernel
theorem dX2_takeStock_18 : decode cX2_takeStock 18 = .ok (.aload_n 0, 1) := by decide +kernel
theorem dX2_takeStock_19 : decode cX2_takeStock 19 = .ok (.getfield 18, 3) := by decide +kernel
theorem dX2_takeStock_22 : decode cX2_takeStock 22 = .ok (.iconst 1, 1) := by decide +kernel
theorem dX2_takeStock_23 : decode cX2_takeStock 23 = .ok (.aload_n 0, 1) := by decide +kernel
theorem dX2_takeStock_24 : decode cX2_takeStock 24 = .ok (.getfield 12, 3) := by decide +kernel
theorem dX2_takeStock_27 : decode cX2_takeStock 27 = .ok (.aload_n 1, 1) := by decide +kernel
theorem dX2_takeStock_28 : decode cX2_takeStock 28 = .ok (.getfield 106, 3) := by decide +kernel
theorem dX2_takeStock_31 : decode cX2_takeStock 31 = .ok (.iconst (-1), 1) := by decide +kernel
theorem dX2_takeStock_32 : decode cX2_takeStock 32 = .ok (.invokevirtual 128, 3) := by decide +kernel
theorem dX2_takeStock_35 : decode cX2_takeStock 35 = .ok (.ldc2_w 126, 3) := by decide +kernel
theorem dX2_takeStock_38 : decode cX2_takeStock 38 = .ok (.ldiv, 1) := by decide +kernel
theorem dX2_takeStock_39 : decode cX2_takeStock 39 = .ok (.lastore, 1) := by decide +kernel
theorem dX2_takeStock_40 : decode cX2_takeStock 40 = .ok (.aload_n 0, 1) := by decide +kernel
theorem dX2_takeStock_41 : decode cX2_takeStock 41 = .ok (.getfield 18, 3) := by decide +kernel
theorem dX2_takeStock_44 : decode cX2_takeStock 44 = .ok (.iconst 2, 1) := by decide +kernel
theorem dX2_takeStock_45 : decode cX2_takeStock 45 = .ok (.aload_n 0, 1) := by decide +kernel
theorem dX2_takeStock_46 : decode cX2_takeStock 46 = .ok (.getfield 12, 3) := by decide +kernel
theorem dX2_takeStock_49 : decode cX2_takeStock 49 = .ok (.aload_n 1, 1) := by decide +kernel
theorem dX2_takeStock_50 : decode cX2_takeStock 50 = .ok (.invokevirtual 132, 3) := by decide +kernel
theorem dX2_takeStock_53 : decode cX2_takeStock 53 = .ok (.i2l, 1) := by decide +kernel
theorem dX2_takeStock_54 : decode cX2_takeStock 54 = .ok (.lastore, 1) := by decide +kernel
theorem dX2_takeStock_55 : decode cX2_takeStock 55 = .ok (.aload_n 0, 1) := by decide +kernel
theorem dX2_takeStock_56 : decode cX2_takeStock 56 = .ok (.getfield 18, 3) := by decide +kernel
theorem dX2_takeStock_59 : decode cX2_takeStock 59 = .ok (.bipush 6, 2) := by decide +kernel
theorem dX2_takeStock_61 : decode cX2_takeStock 61 = .ok (.aload_n 0, 1) := by decide +kernel
theorem dX2_takeStock_62 : decode cX2_takeStock 62 = .ok (.getfield 12, 3) := by decide +kernel
theorem dX2_takeStock_65 : decode cX2_takeStock 65 = .ok (.getfield 136, 3) := by decide +kernel
theorem dX2_takeStock_68 : decode cX2_takeStock 68 = .ok (.i2l, 1) := by decide +kernel
theorem dX2_takeStock_69 : decode cX2_takeStock 69 = .ok (.lastore, 1) := by decide +kernel
theorem dX2_takeStock_70 : decode cX2_takeStock 70 = .ok (.aload_n 0, 1) := by decide +kernel
theorem dX2_takeStock_71 : decode cX2_takeStock 71 = .ok (.getfield 18, 3) := by decide +kernel
theorem dX2_takeStock_74 : decode cX2_takeStock 74 = .ok (.bipush 7, 2) := by decide +kernel
theorem dX2_takeStock_76 : decode cX2_takeStock 76 = .ok (.aload_n 0, 1) := by decide +kernel
theorem dX2_takeStock_77 : decode cX2_takeStock 77 = .ok (.getfield 12, 3) := by decide +kernel
theorem dX2_takeStock_80 : decode cX2_takeStock 80 = .ok (.getfield 139, 3) := by decide +kernel
theorem dX2_takeStock_83 : decode cX2_takeStock 83 = .ok (.i2l, 1) := by decide +kernel
theorem dX2_takeStock_84 : decode cX2_takeStock 84 = .ok (.lastore, 1) := by decide +kernel
theorem dX2_takeStock_85 : decode cX2_takeStock 85 = .ok (.aload_n 0, 1) := by decide +kernel
theorem dX2_takeStock_86 : decode cX2_takeStock 86 = .ok (.getfield 18, 3) := by decide +kernel
theorem dX2_takeStock_89 : decode cX2_takeStock 89 = .ok (.bipush 8, 2) := by decide +kernel
theorem dX2_takeStock_91 : decode cX2_takeStock 91 = .ok (.aload_n 0, 1) := by decide +kernel
theorem dX2_takeStock_92 : decode cX2_takeStock 92 = .ok (.getfield 12, 3) := by decide +kernel
theorem dX2_takeStock_95 : decode cX2_takeStock 95 = .ok (.getfield 142, 3) := by decide +kernel
theorem dX2_takeStock_98 : decode cX2_takeStock 98 = .ok (.i2l, 1) := by decide +kernel
theorem dX2_takeStock_99 : decode cX2_takeStock 99 = .ok (.lastore, 1) := by decide +kernel
theorem dX2_takeStock_100 : decode cX2_takeStock 100 = .ok (.return_, 1) := by decide +kernel
theorem dX2_strikeOne_0 : decode cX2_strikeOne 0 = .ok (.aload_n 1, 1) := by decide +kernel
theorem dX2_strikeOne_1 : decode cX2_strikeOne 1 = .ok (.getfield 73, 3) := by decide +kernel
theorem dX2_strikeOne_4 : decode cX2_strikeOne 4 = .ok (.getfield 145, 3) := by decide +kernel
theorem dX2_strikeOne_7 : decode cX2_strikeOne 7 = .ok (.aload_n 0, 1) := by decide +kernel
theorem dX2_strikeOne_8 : decode cX2_strikeOne 8 = .ok (.getfield 51, 3) := by decide +kernel
theorem dX2_strikeOne_11 : decode cX2_strikeOne 11 = .ok (.iaload, 1) := by decide +kernel
theorem dX2_strikeOne_12 : decode cX2_strikeOne 12 = .ok (.istore_n 2, 1) := by decide +kernel
theorem dX2_strikeOne_13 : decode cX2_strikeOne 13 = .ok (.aload_n 1, 1) := by decide +kernel
theorem dX2_strikeOne_14 : decode cX2_strikeOne 14 = .ok (.getfield 73, 3) := by decide +kernel
theorem dX2_strikeOne_17 : decode cX2_strikeOne 17 = .ok (.getfield 148, 3) := by decide +kernel
theorem dX2_strikeOne_20 : decode cX2_strikeOne 20 = .ok (.aload_n 0, 1) := by decide +kernel
theorem dX2_strikeOne_21 : decode cX2_strikeOne 21 = .ok (.getfield 51, 3) := by decide +kernel
theorem dX2_strikeOne_24 : decode cX2_strikeOne 24 = .ok (.iaload, 1) := by decide +kernel
theorem dX2_strikeOne_25 : decode cX2_strikeOne 25 = .ok (.istore_n 3, 1) := by decide +kernel
theorem dX2_strikeOne_26 : decode cX2_strikeOne 26 = .ok (.aload_n 0, 1) := by decide +kernel
theorem dX2_strikeOne_27 : decode cX2_strikeOne 27 = .ok (.getfield 12, 3) := by decide +kernel
theorem dX2_strikeOne_30 : decode cX2_strikeOne 30 = .ok (.getfield 139, 3) := by decide +kernel
theorem dX2_strikeOne_33 : decode cX2_strikeOne 33 = .ok (.ifCond .le 29, 3) := by decide +kernel
theorem dX2_strikeOne_36 : decode cX2_strikeOne 36 = .ok (.aload_n 0, 1) := by decide +kernel
theorem dX2_strikeOne_37 : decode cX2_strikeOne 37 = .ok (.getfield 12, 3) := by decide +kernel
theorem dX2_strikeOne_40 : decode cX2_strikeOne 40 = .ok (.iconst 5, 1) := by decide +kernel
theorem dX2_strikeOne_41 : decode cX2_strikeOne 41 = .ok (.iload_n 2, 1) := by decide +kernel
theorem dX2_strikeOne_42 : decode cX2_strikeOne 42 = .ok (.iload_n 3, 1) := by decide +kernel
theorem dX2_strikeOne_43 : decode cX2_strikeOne 43 = .ok (.aload_n 1, 1) := by decide +kernel
theorem dX2_strikeOne_44 : decode cX2_strikeOne 44 = .ok (.invokevirtual 102, 3) := by decide +kernel
theorem dX2_strikeOne_47 : decode cX2_strikeOne 47 = .ok (.ifCond .eq 15, 3) := by decide +kernel
theorem dX2_strikeOne_50 : decode cX2_strikeOne 50 = .ok (.aload_n 0, 1) := by decide +kernel
theorem dX2_strikeOne_51 : decode cX2_strikeOne 51 = .ok (.getfield 18, 3) := by decide +kernel
theorem dX2_strikeOne_54 : decode cX2_strikeOne 54 = .ok (.bipush 9, 2) := by decide +kernel
theorem dX2_strikeOne_56 : decode cX2_strikeOne 56 = .ok (.iload_n 3, 1) := by decide +kernel
theorem dX2_strikeOne_57 : decode cX2_strikeOne 57 = .ok (.i2l, 1) := by decide +kernel
theorem dX2_strikeOne_58 : decode cX2_strikeOne 58 = .ok (.lastore, 1) := by decide +kernel
theorem dX2_strikeOne_59 : decode cX2_strikeOne 59 = .ok (.goto 15, 3) := by decide +kernel
theorem dX2_strikeOne_62 : decode cX2_strikeOne 62 = .ok (.aload_n 0, 1) := by decide +kernel
theorem dX2_strikeOne_63 : decode cX2_strikeOne 63 = .ok (.getfield 12, 3) := by decide +kernel
theorem dX2_strikeOne_66 : decode cX2_strikeOne 66 = .ok (.iconst 4, 1) := by decide +kernel
theorem dX2_strikeOne_67 : decode cX2_strikeOne 67 = .ok (.iconst 0, 1) := by decide +kernel
theorem dX2_strikeOne_68 : decode cX2_strikeOne 68 = .ok (.iconst 0, 1) := by decide +kernel
theorem dX2_strikeOne_69 : decode cX2_strikeOne 69 = .ok (.aload_n 1, 1) := by decide +kernel
theorem dX2_strikeOne_70 : decode cX2_strikeOne 70 = .ok (.invokevirtual 102, 3) := by decide +kernel
theorem dX2_strikeOne_73 : decode cX2_strikeOne 73 = .ok (.pop, 1) := by decide +kernel
theorem dX2_strikeOne_74 : decode cX2_strikeOne 74 = .ok (.return_, 1) := by decide +kernel
theorem dX2_goTruly_0 : decode cX2_goTruly 0 = .ok (.aload_n 1, 1) := by decide +kernel
theorem dX2_goTruly_1 : decode cX2_goTruly 1 = .ok (.aload_n 0, 1) := by decide +kernel
theorem dX2_goTruly_2 : decode cX2_goTruly 2 = .ok (.getfield 12, 3) := by decide +kernel
theorem dX2_goTruly_5 : decode cX2_goTruly 5 = .ok (.getfield 142, 3) := by decide +kernel
theorem dX2_goTruly_8 : decode cX2_goTruly 8 = .ok (.invokevirtual 151, 3) := by decide +kernel
theorem dX2_goTruly_11 : decode cX2_goTruly 11 = .ok (.aload_n 1, 1) := by decide +kernel
theorem dX2_goTruly_12 : decode cX2_goTruly 12 = .ok (.aload_n 0, 1) := by decide +kernel
theorem dX2_goTruly_13 : decode cX2_goTruly 13 = .ok (.getfield 51, 3) := by decide +kernel
theorem dX2_goTruly_16 : decode cX2_goTruly 16 = .ok (.aload_n 0, 1) := by decide +kernel
theorem dX2_goTruly_17 : decode cX2_goTruly 17 = .ok (.getfield 12, 3) := by decide +kernel
theorem dX2_goTruly_20 : decode cX2_goTruly 20 = .ok (.getfield 142, 3) := by decide +kernel
theorem dX2_goTruly_23 : decode cX2_goTruly 23 = .ok (.invokevirtual 155, 3) := by decide +kernel
theorem dX2_goTruly_26 : decode cX2_goTruly 26 = .ok (.istore_n 2, 1) := by decide +kernel
theorem dX2_goTruly_27 : decode cX2_goTruly 27 = .ok (.aload_n 1, 1) := by decide +kernel
theorem dX2_goTruly_28 : decode cX2_goTruly 28 = .ok (.iload_n 2, 1) := by decide +kernel
theorem dX2_goTruly_29 : decode cX2_goTruly 29 = .ok (.invokevirtual 158, 3) := by decide +kernel
theorem dX2_goTruly_32 : decode cX2_goTruly 32 = .ok (.istore_n 3, 1) := by decide +kernel
theorem dX2_goTruly_33 : decode cX2_goTruly 33 = .ok (.aload_n 0, 1) := by decide +kernel
theorem dX2_goTruly_34 : decode cX2_goTruly 34 = .ok (.invokevirtual 111, 3) := by decide +kernel
theorem dX2_goTruly_37 : decode cX2_goTruly 37 = .ok (.sipush 1000, 3) := by decide +kernel
theorem dX2_goTruly_40 : decode cX2_goTruly 40 = .ok (.irem, 1) := by decide +kernel
theorem dX2_goTruly_41 : decode cX2_goTruly 41 = .ok (.istore 4, 2) := by decide +kernel
theorem dX2_goTruly_43 : decode cX2_goTruly 43 = .ok (.aload_n 0, 1) := by decide +kernel
theorem dX2_goTruly_44 : decode cX2_goTruly 44 = .ok (.getfield 54, 3) := by decide +kernel
theorem dX2_goTruly_47 : decode cX2_goTruly 47 = .ok (.istore 5, 2) := by decide +kernel
theorem dX2_goTruly_49 : decode cX2_goTruly 49 = .ok (.iload 4, 2) := by decide +kernel
theorem dX2_goTruly_51 : decode cX2_goTruly 51 = .ok (.iload_n 2, 1) := by decide +kernel
theorem dX2_goTruly_52 : decode cX2_goTruly 52 = .ok (.iconst 2, 1) := by decide +kernel
theorem dX2_goTruly_53 : decode cX2_goTruly 53 = .ok (.iload_n 3, 1) := by decide +kernel
theorem dX2_goTruly_54 : decode cX2_goTruly 54 = .ok (.imul, 1) := by decide +kernel
theorem dX2_goTruly_55 : decode cX2_goTruly 55 = .ok (.iadd, 1) := by decide +kernel
theorem dX2_goTruly_56 : decode cX2_goTruly 56 = .ok (.if_icmp .lt 4, 3) := by decide +kernel
theorem dX2_goTruly_59 : decode cX2_goTruly 59 = .ok (.return_, 1) := by decide +kernel
theorem dX2_goTruly_60 : decode cX2_goTruly 60 = .ok (.iload 4, 2) := by decide +kernel
theorem dX2_goTruly_62 : decode cX2_goTruly 62 = .ok (.iload_n 2, 1) := by decide +kernel
theorem dX2_goTruly_63 : decode cX2_goTruly 63 = .ok (.if_icmp .lt 25, 3) := by decide +kernel
theorem dX2_goTruly_66 : decode cX2_goTruly 66 = .ok (.aload_n 0, 1) := by decide +kernel
theorem dX2_goTruly_67 : decode cX2_goTruly 67 = .ok (.getfield 54, 3) := by decide +kernel
theorem dX2_goTruly_70 : decode cX2_goTruly 70 = .ok (.iload 4, 2) := by decide +kernel
theorem dX2_goTruly_72 : decode cX2_goTruly 72 = .ok (.iload_n 2, 1) := by decide +kernel
theorem dX2_goTruly_73 : decode cX2_goTruly 73 = .ok (.iload_n 3, 1) := by decide +kernel
theorem dX2_goTruly_74 : decode cX2_goTruly 74 = .ok (.iadd, 1) := by decide +kernel
theorem dX2_goTruly_75 : decode cX2_goTruly 75 = .ok (.if_icmp .ge 7, 3) := by decide +kernel
theorem dX2_goTruly_78 : decode cX2_goTruly 78 = .ok (.iconst 3, 1) := by decide +kernel
theorem dX2_goTruly_79 : decode cX2_goTruly 79 = .ok (.goto 4, 3) := by decide +kernel
theorem dX2_goTruly_82 : decode cX2_goTruly 82 = .ok (.iconst 1, 1) := by decide +kernel
theorem dX2_goTruly_83 : decode cX2_goTruly 83 = .ok (.iadd, 1) := by decide +kernel
theorem dX2_goTruly_84 : decode cX2_goTruly 84 = .ok (.iconst 4, 1) := by decide +kernel
theorem dX2_goTruly_85 : decode cX2_goTruly 85 = .ok (.irem, 1) := by decide +kernel
theorem dX2_goTruly_86 : decode cX2_goTruly 86 = .ok (.istore 5, 2) := by decide +kernel
theorem dX2_goTruly_88 : decode cX2_goTruly 88 = .ok (.aload_n 1, 1) := by decide +kernel
theorem dX2_goTruly_89 : decode cX2_goTruly 89 = .ok (.getfield 73, 3) := by decide +kernel
theorem dX2_goTruly_92 : decode cX2_goTruly 92 = .ok (.getfield 162, 3) := by decide +kernel
theorem dX2_goTruly_95 : decode cX2_goTruly 95 = .ok (.aload_n 0, 1) := by decide +kernel
theorem dX2_goTruly_96 : decode cX2_goTruly 96 = .ok (.getfield 51, 3) := by decide +kernel
theorem dX2_goTruly_99 : decode cX2_goTruly 99 = .ok (.iconst 4, 1) := by decide +kernel
theorem dX2_goTruly_100 : decode cX2_goTruly 100 = .ok (.imul, 1) := by decide +kernel
theorem dX2_goTruly_101 : decode cX2_goTruly 101 = .ok (.iload 5, 2) := by decide +kernel
theorem dX2_goTruly_103 : decode cX2_goTruly 103 = .ok (.iadd, 1) := by decide +kernel
theorem dX2_goTruly_104 : decode cX2_goTruly 104 = .ok (.iaload, 1) := by decide +kernel
theorem dX2_goTruly_105 : decode cX2_goTruly 105 = .ok (.istore 6, 2) := by decide +kernel
theorem dX2_goTruly_107 : decode cX2_goTruly 107 = .ok (.iload 6, 2) := by decide +kernel
theorem dX2_goTruly_109 : decode cX2_goTruly 109 = .ok (.iconst (-1), 1) := by decide +kernel
theorem dX2_goTruly_110 : decode cX2_goTruly 110 = .ok (.if_icmp .eq 15, 3) := by decide +kernel
theorem dX2_goTruly_113 : decode cX2_goTruly 113 = .ok (.aload_n 0, 1) := by decide +kernel
theorem dX2_goTruly_114 : decode cX2_goTruly 114 = .ok (.iload 6, 2) := by decide +kernel
theorem dX2_goTruly_116 : decode cX2_goTruly 116 = .ok (.putfield 51, 3) := by decide +kernel
theorem dX2_goTruly_119 : decode cX2_goTruly 119 = .ok (.aload_n 0, 1) := by decide +kernel
theorem dX2_goTruly_120 : decode cX2_goTruly 120 = .ok (.iload 5, 2) := by decide +kernel
theorem dX2_goTruly_122 : decode cX2_goTruly 122 = .ok (.putfield 54, 3) := by decide +kernel
theorem dX2_goTruly_125 : decode cX2_goTruly 125 = .ok (.return_, 1) := by decide +kernel
theorem dX2_perceive_0 : decode cX2_perceive 0 = .ok (.aload_n 1, 1) := by decide +kernel
theorem dX2_perceive_1 : decode cX2_perceive 1 = .ok (.getfield 73, 3) := by decide +kernel
theorem dX2_perceive_4 : decode cX2_perceive 4 = .ok (.astore_n 2, 1) := by decide +kernel
theorem dX2_perceive_5 : decode cX2_perceive 5 = .ok (.aload_n 1, 1) := by decide +kernel
theorem dX2_perceive_6 : decode cX2_perceive 6 = .ok (.getfield 165, 3) := by decide +kernel
theorem dX2_perceive_9 : decode cX2_perceive 9 = .ok (.astore_n 3, 1) := by decide +kernel
theorem dX2_perceive_10 : decode cX2_perceive 10 = .ok (.aload_n 2, 1) := by decide +kernel
theorem dX2_perceive_11 : decode cX2_perceive 11 = .ok (.getfield 145, 3) := by decide +kernel
theorem dX2_perceive_14 : decode cX2_perceive 14 = .ok (.aload_n 0, 1) := by decide +kernel
theorem dX2_perceive_15 : decode cX2_perceive 15 = .ok (.getfield 51, 3) := by decide +kernel
theorem dX2_perceive_18 : decode cX2_perceive 18 = .ok (.iaload, 1) := by decide +kernel
theorem dX2_perceive_19 : decode cX2_perceive 19 = .ok (.istore 4, 2) := by decide +kernel
theorem dX2_perceive_21 : decode cX2_perceive 21 = .ok (.aload_n 0, 1) := by decide +kernel
theorem dX2_perceive_22 : decode cX2_perceive 22 = .ok (.invokevirtual 111, 3) := by decide +kernel
theorem dX2_perceive_25 : decode cX2_perceive 25 = .ok (.sipush 1000, 3) := by decide +kernel
theorem dX2_perceive_28 : decode cX2_perceive 28 = .ok (.irem, 1) := by decide +kernel
theorem dX2_perceive_29 : decode cX2_perceive 29 = .ok (.aload_n 3, 1) := by decide +kernel
theorem dX2_perceive_30 : decode cX2_perceive 30 = .ok (.getfield 169, 3) := by decide +kernel
theorem dX2_perceive_33 : decode cX2_perceive 33 = .ok (.if_icmp .lt 20, 3) := by decide +kernel
theorem dX2_perceive_36 : decode cX2_perceive 36 = .ok (.iload 4, 2) := by decide +kernel
theorem dX2_perceive_38 : decode cX2_perceive 38 = .ok (.iconst 1, 1) := by decide +kernel
theorem dX2_perceive_39 : decode cX2_perceive 39 = .ok (.iadd, 1) := by decide +kernel
theorem dX2_perceive_40 : decode cX2_perceive 40 = .ok (.aload_n 0, 1) := by decide +kernel
theorem dX2_perceive_41 : decode cX2_perceive 41 = .ok (.invokevirtual 111, 3) := by decide +kernel
theorem dX2_perceive_44 : decode cX2_perceive 44 = .ok (.bipush 7, 2) := by decide +kernel
theorem dX2_perceive_46 : decode cX2_perceive 46 = .ok (.irem, 1) := by decide +kernel
theorem dX2_perceive_47 : decode cX2_perceive 47 = .ok (.iadd, 1) := by decide +kernel
theorem dX2_perceive_48 : decode cX2_perceive 48 = .ok (.bipush 8, 2) := by decide +kernel
theorem dX2_perceive_50 : decode cX2_perceive 50 = .ok (.irem, 1) := by decide +kernel
theorem dX2_perceive_51 : decode cX2_perceive 51 = .ok (.istore 4, 2) := by decide +kernel
theorem dX2_perceive_53 : decode cX2_perceive 53 = .ok (.aload_n 0, 1) := by decide +kernel
theorem dX2_perceive_54 : decode cX2_perceive 54 = .ok (.getfield 12, 3) := by decide +kernel
theorem dX2_perceive_57 : decode cX2_perceive 57 = .ok (.bipush 6, 2) := by decide +kernel
theorem dX2_perceive_59 : decode cX2_perceive 59 = .ok (.iload 4, 2) := by decide +kernel
theorem dX2_perceive_61 : decode cX2_perceive 61 = .ok (.iconst 0, 1) := by decide +kernel
theorem dX2_perceive_62 : decode cX2_perceive 62 = .ok (.aload_n 1, 1) := by decide +kernel
theorem dX2_perceive_63 : decode cX2_perceive 63 = .ok (.invokevirtual 102, 3) := by decide +kernel
theorem dX2_perceive_66 : decode cX2_perceive 66 = .ok (.ifCond .eq 12, 3) := by decide +kernel
theorem dX2_perceive_69 : decode cX2_perceive 69 = .ok (.aload_n 0, 1) := by decide +kernel
theorem dX2_perceive_70 : decode cX2_perceive 70 = .ok (.getfield 18, 3) := by decide +kernel
theorem dX2_perceive_73 : decode cX2_perceive 73 = .ok (.iconst 3, 1) := by decide +kernel
theorem dX2_perceive_74 : decode cX2_perceive 74 = .ok (.iload 4, 2) := by decide +kernel
theorem dX2_perceive_76 : decode cX2_perceive 76 = .ok (.i2l, 1) := by decide +kernel
theorem dX2_perceive_77 : decode cX2_perceive 77 = .ok (.lastore, 1) := by decide +kernel
theorem dX2_perceive_78 : decode cX2_perceive 78 = .ok (.aload_n 2, 1) := by decide +kernel
theorem dX2_perceive_79 : decode cX2_perceive 79 = .ok (.getfield 174, 3) := by decide +kernel
theorem dX2_perceive_82 : decode cX2_perceive 82 = .ok (.aload_n 0, 1) := by decide +kernel
theorem dX2_perceive_83 : decode cX2_perceive 83 = .ok (.getfield 51, 3) := by decide +kernel
theorem dX2_perceive_86 : decode cX2_perceive 86 = .ok (.iaload, 1) := by decide +kernel
theorem dX2_perceive_87 : decode cX2_perceive 87 = .ok (.istore 5, 2) := by decide +kernel
theorem dX2_perceive_89 : decode cX2_perceive 89 = .ok (.aload_n 0, 1) := by decide +kernel
theorem dX2_perceive_90 : decode cX2_perceive 90 = .ok (.invokevirtual 111, 3) := by decide +kernel
theorem dX2_perceive_93 : decode cX2_perceive 93 = .ok (.sipush 1000, 3) := by decide +kernel
theorem dX2_perceive_96 : decode cX2_perceive 96 = .ok (.irem, 1) := by decide +kernel
theorem dX2_perceive_97 : decode cX2_perceive 97 = .ok (.aload_n 3, 1) := by decide +kernel
theorem dX2_perceive_98 : decode cX2_perceive 98 = .ok (.aload_n 0, 1) := by decide +kernel
theorem dX2_perceive_99 : decode cX2_perceive 99 = .ok (.getfield 12, 3) := by decide +kernel
theorem dX2_perceive_102 : decode cX2_perceive 102 = .ok (.getfield 142, 3) := by decide +kernel
theorem dX2_perceive_105 : decode cX2_perceive 105 = .ok (.invokevirtual 177, 3) := by decide +kernel
theorem dX2_perceive_108 : decode cX2_perceive 108 = .ok (.if_icmp .lt 20, 3) := by decide +kernel
theorem dX2_perceive_111 : decode cX2_perceive 111 = .ok (.iload 5, 2) := by decide +kernel
theorem dX2_perceive_113 : decode cX2_perceive 113 = .ok (.iconst 1, 1) := by decide +kernel
theorem dX2_perceive_114 : decode cX2_perceive 114 = .ok (.iadd, 1) := by decide +kernel
theorem dX2_perceive_115 : decode cX2_perceive 115 = .ok (.aload_n 0, 1) := by decide +kernel
theorem dX2_perceive_116 : decode cX2_perceive 116 = .ok (.invokevirtual 111, 3) := by decide +kernel
theorem dX2_perceive_119 : decode cX2_perceive 119 = .ok (.bipush 9, 2) := by decide +kernel
theorem dX2_perceive_121 : decode cX2_perceive 121 = .ok (.irem, 1) := by decide +kernel
theorem dX2_perceive_122 : decode cX2_perceive 122 = .ok (.iadd, 1) := by decide +kernel
theorem dX2_perceive_123 : decode cX2_perceive 123 = .ok (.bipush 10, 2) := by decide +kernel
theorem dX2_perceive_125 : decode cX2_perceive 125 = .ok (.irem, 1) := by decide +kernel
theorem dX2_perceive_126 : decode cX2_perceive 126 = .ok (.istore 5, 2) := by decide +kernel
theorem dX2_perceive_128 : decode cX2_perceive 128 = .ok (.aload_n 0, 1) := by decide +kernel
theorem dX2_perceive_129 : decode cX2_perceive 129 = .ok (.getfield 12, 3) := by decide +kernel
theorem dX2_perceive_132 : decode cX2_perceive 132 = .ok (.bipush 7, 2) := by decide +kernel
theorem dX2_perceive_134 : decode cX2_perceive 134 = .ok (.iload 5, 2) := by decide +kernel
theorem dX2_perceive_136 : decode cX2_perceive 136 = .ok (.iconst 0, 1) := by decide +kernel
theorem dX2_perceive_137 : decode cX2_perceive 137 = .ok (.aload_n 1, 1) := by decide +kernel
theorem dX2_perceive_138 : decode cX2_perceive 138 = .ok (.invokevirtual 102, 3) := by decide +kernel
theorem dX2_perceive_141 : decode cX2_perceive 141 = .ok (.ifCond .eq 12, 3) := by decide +kernel
theorem dX2_perceive_144 : decode cX2_perceive 144 = .ok (.aload_n 0, 1) := by decide +kernel
theorem dX2_perceive_145 : decode cX2_perceive 145 = .ok (.getfield 18, 3) := by decide +kernel
theorem dX2_perceive_148 : decode cX2_perceive 148 = .ok (.iconst 4, 1) := by decide +kernel
theorem dX2_perceive_149 : decode cX2_perceive 149 = .ok (.iload 5, 2) := by decide +kernel
theorem dX2_perceive_151 : decode cX2_perceive 151 = .ok (.i2l, 1) := by decide +kernel
theorem dX2_perceive_152 : decode cX2_perceive 152 = .ok (.lastore, 1) := by decide +kernel
theorem dX2_perceive_153 : decode cX2_perceive 153 = .ok (.aload_n 2, 1) := by decide +kernel
theorem dX2_perceive_154 : decode cX2_perceive 154 = .ok (.getfield 180, 3) := by decide +kernel
theorem dX2_perceive_157 : decode cX2_perceive 157 = .ok (.ifCond .le 85, 3) := by decide +kernel
theorem dX2_perceive_160 : decode cX2_perceive 160 = .ok (.aload_n 2, 1) := by decide +kernel
theorem dX2_perceive_161 : decode cX2_perceive 161 = .ok (.iconst 0, 1) := by decide +kernel
theorem dX2_perceive_162 : decode cX2_perceive 162 = .ok (.aload_n 0, 1) := by decide +kernel
theorem dX2_perceive_163 : decode cX2_perceive 163 = .ok (.getfield 51, 3) := by decide +kernel
theorem dX2_perceive_166 : decode cX2_perceive 166 = .ok (.invokevirtual 183, 3) := by decide +kernel
theorem dX2_perceive_169 : decode cX2_perceive 169 = .ok (.istore 6, 2) := by decide +kernel
theorem dX2_perceive_171 : decode cX2_perceive 171 = .ok (.aload_n 0, 1) := by decide +kernel
theorem dX2_perceive_172 : decode cX2_perceive 172 = .ok (.invokevirtual 111, 3) := by decide +kernel
theorem dX2_perceive_175 : decode cX2_perceive 175 = .ok (.sipush 1000, 3) := by decide +kernel
theorem dX2_perceive_178 : decode cX2_perceive 178 = .ok (.irem, 1) := by decide +kernel
theorem dX2_perceive_179 : decode cX2_perceive 179 = .ok (.aload_n 3, 1) := by decide +kernel
theorem dX2_perceive_180 : decode cX2_perceive 180 = .ok (.getfield 186, 3) := by decide +kernel
theorem dX2_perceive_183 : decode cX2_perceive 183 = .ok (.if_icmp .lt 34, 3) := by decide +kernel
theorem dX2_perceive_186 : decode cX2_perceive 186 = .ok (.aload_n 0, 1) := by decide +kernel
theorem dX2_perceive_187 : decode cX2_perceive 187 = .ok (.invokevirtual 111, 3) := by decide +kernel
theorem dX2_perceive_190 : decode cX2_perceive 190 = .ok (.iconst 2, 1) := by decide +kernel
theorem dX2_perceive_191 : decode cX2_perceive 191 = .ok (.irem, 1) := by decide +kernel
theorem dX2_perceive_192 : decode cX2_perceive 192 = .ok (.ifCond .ne 14, 3) := by decide +kernel
theorem dX2_perceive_195 : decode cX2_perceive 195 = .ok (.iconst 0, 1) := by decide +kernel
theorem dX2_perceive_196 : decode cX2_perceive 196 = .ok (.iload 6, 2) := by decide +kernel
theorem dX2_perceive_198 : decode cX2_perceive 198 = .ok (.iconst 1, 1) := by decide +kernel
theorem dX2_perceive_199 : decode cX2_perceive 199 = .ok (.isub, 1) := by decide +kernel
theorem dX2_perceive_200 : decode cX2_perceive 200 = .ok (.invokestatic 189, 3) := by decide +kernel
theorem dX2_perceive_203 : decode cX2_perceive 203 = .ok (.goto 12, 3) := by decide +kernel
theorem dX2_perceive_206 : decode cX2_perceive 206 = .ok (.bipush 40, 2) := by decide +kernel
theorem dX2_perceive_208 : decode cX2_perceive 208 = .ok (.iload 6, 2) := by decide +kernel
theorem dX2_perceive_210 : decode cX2_perceive 210 = .ok (.iconst 1, 1) := by decide +kernel
theorem dX2_perceive_211 : decode cX2_perceive 211 = .ok (.iadd, 1) := by decide +kernel
theorem dX2_perceive_212 : decode cX2_perceive 212 = .ok (.invokestatic 194, 3) := by decide +kernel
theorem dX2_perceive_215 : decode cX2_perceive 215 = .ok (.istore 6, 2) := by decide +kernel
theorem dX2_perceive_217 : decode cX2_perceive 217 = .ok (.aload_n 0, 1) := by decide +kernel
theorem dX2_perceive_218 : decode cX2_perceive 218 = .ok (.getfield 12, 3) := by decide +kernel
theorem dX2_perceive_221 : decode cX2_perceive 221 = .ok (.bipush 8, 2) := by decide +kernel
theorem dX2_perceive_223 : decode cX2_perceive 223 = .ok (.iconst 0, 1) := by decide +kernel
theorem dX2_perceive_224 : decode cX2_perceive 224 = .ok (.iload 6, 2) := by decide +kernel
theorem dX2_perceive_226 : decode cX2_perceive 226 = .ok (.aload_n 1, 1) := by decide +kernel
theorem dX2_perceive_227 : decode cX2_perceive 227 = .ok (.invokevirtual 102, 3) := by decide +kernel
theorem dX2_perceive_230 : decode cX2_perceive 230 = .ok (.ifCond .eq 12, 3) := by decide +kernel
theorem dX2_perceive_233 : decode cX2_perceive 233 = .ok (.aload_n 0, 1) := by decide +kernel
theorem dX2_perceive_234 : decode cX2_perceive 234 = .ok (.getfield 18, 3) := by decide +kernel
theorem dX2_perceive_237 : decode cX2_perceive 237 = .ok (.iconst 5, 1) := by decide +kernel
theorem dX2_perceive_238 : decode cX2_perceive 238 = .ok (.iload 6, 2) := by decide +kernel
theorem dX2_perceive_240 : decode cX2_perceive 240 = .ok (.i2l, 1) := by decide +kernel
theorem dX2_perceive_241 : decode cX2_perceive 241 = .ok (.lastore, 1) := by decide +kernel
theorem dX2_perceive_242 : decode cX2_perceive 242 = .ok (.return_, 1) := by decide +kernel
theorem dX3_init_0 : decode cX3_init 0 = .ok (.aload_n 0, 1) := by decide +kernel
theorem dX3_init_1 : decode cX3_init 1 = .ok (.invokespecial 3, 3) := by decide +kernel
theorem dX3_init_4 : decode cX3_init 4 = .ok (.aload_n 0, 1) := by decide +kernel
theorem dX3_init_5 : decode cX3_init 5 = .ok (.sipush 576, 3) := by decide +kernel
theorem dX3_init_8 : decode cX3_init 8 = .ok (.newarray .long, 2) := by decide +kernel
theorem dX3_init_10 : decode cX3_init 10 = .ok (.putfield 9, 3) := by decide +kernel
theorem dX3_init_13 : decode cX3_init 13 = .ok (.return_, 1) := by decide +kernel
theorem dX3_begin_0 : decode cX3_begin 0 = .ok (.aload_n 0, 1) := by decide +kernel
theorem dX3_begin_1 : decode cX3_begin 1 = .ok (.getfield 9, 3) := by decide +kernel
theorem dX3_begin_4 : decode cX3_begin 4 = .ok (.lconst 0, 1) := by decide +kernel
theorem dX3_begin_5 : decode cX3_begin 5 = .ok (.invokestatic 15, 3) := by decide +kernel
theorem dX3_begin_8 : decode cX3_begin 8 = .ok (.aload_n 0, 1) := by decide +kernel
theorem dX3_begin_9 : decode cX3_begin 9 = .ok (.getfield 9, 3) := by decide +kernel
theorem dX3_begin_12 : decode cX3_begin 12 = .ok (.iload_n 1, 1) := by decide +kernel
theorem dX3_begin_13 : decode cX3_begin 13 = .ok (.iconst 4, 1) := by decide +kernel
theorem dX3_begin_14 : decode cX3_begin 14 = .ok (.imul, 1) := by decide +kernel
theorem dX3_begin_15 : decode cX3_begin 15 = .ok (.iload_n 2, 1) := by decide +kernel
theorem dX3_begin_16 : decode cX3_begin 16 = .ok (.iadd, 1) := by decide +kernel
theorem dX3_begin_17 : decode cX3_begin 17 = .ok (.ldc2_w 21, 3) := by decide +kernel
theorem dX3_begin_20 : decode cX3_begin 20 = .ok (.lastore, 1) := by decide +kernel
theorem dX3_begin_21 : decode cX3_begin 21 = .ok (.aload_n 0, 1) := by decide +kernel
theorem dX3_begin_22 : decode cX3_begin 22 = .ok (.iconst 0, 1) := by decide +kernel
theorem dX3_begin_23 : decode cX3_begin 23 = .ok (.putfield 23, 3) := by decide +kernel
theorem dX3_begin_26 : decode cX3_begin 26 = .ok (.aload_n 0, 1) := by decide +kernel
theorem dX3_begin_27 : decode cX3_begin 27 = .ok (.bipush 9, 2) := by decide +kernel
theorem dX3_begin_29 : decode cX3_begin 29 = .ok (.putfield 27, 3) := by decide +kernel
theorem dX3_begin_32 : decode cX3_begin 32 = .ok (.aload_n 0, 1) := by decide +kernel
theorem dX3_begin_33 : decode cX3_begin 33 = .ok (.iconst 0, 1) := by decide +kernel
theorem dX3_begin_34 : decode cX3_begin 34 = .ok (.putfield 30, 3) := by decide +kernel
theorem dX3_begin_37 : decode cX3_begin 37 = .ok (.return_, 1) := by decide +kernel
theorem dX3_copyFrom_0 : decode cX3_copyFrom 0 = .ok (.aload_n 1, 1) := by decide +kernel
theorem dX3_copyFrom_1 : decode cX3_copyFrom 1 = .ok (.getfield 9, 3) := by decide +kernel
theorem dX3_copyFrom_4 : decode cX3_copyFrom 4 = .ok (.iconst 0, 1) := by decide +kernel
theorem dX3_copyFrom_5 : decode cX3_copyFrom 5 = .ok (.aload_n 0, 1) := by decide +kernel
theorem dX3_copyFrom_6 : decode cX3_copyFrom 6 = .ok (.getfield 9, 3) := by decide +kernel
theorem dX3_copyFrom_9 : decode cX3_copyFrom 9 = .ok (.iconst 0, 1) := by decide +kernel
theorem dX3_copyFrom_10 : decode cX3_copyFrom 10 = .ok (.sipush 576, 3) := by decide +kernel
theorem dX3_copyFrom_13 : decode cX3_copyFrom 13 = .ok (.invokestatic 33, 3) := by decide +kernel
theorem dX3_copyFrom_16 : decode cX3_copyFrom 16 = .ok (.aload_n 0, 1) := by decide +kernel
theorem dX3_copyFrom_17 : decode cX3_copyFrom 17 = .ok (.aload_n 1, 1) := by decide +kernel
theorem dX3_copyFrom_18 : decode cX3_copyFrom 18 = .ok (.getfield 23, 3) := by decide +kernel
theorem dX3_copyFrom_21 : decode cX3_copyFrom 21 = .ok (.putfield 23, 3) := by decide +kernel
theorem dX3_copyFrom_24 : decode cX3_copyFrom 24 = .ok (.aload_n 0, 1) := by decide +kernel
theorem dX3_copyFrom_25 : decode cX3_copyFrom 25 = .ok (.aload_n 1, 1) := by decide +kernel
theorem dX3_copyFrom_26 : decode cX3_copyFrom 26 = .ok (.getfield 27, 3) := by decide +kernel
theorem dX3_copyFrom_29 : decode cX3_copyFrom 29 = .ok (.putfield 27, 3) := by decide +kernel
theorem dX3_copyFrom_32 : decode cX3_copyFrom 32 = .ok (.aload_n 0, 1) := by decide +kernel
theorem dX3_copyFrom_33 : decode cX3_copyFrom 33 = .ok (.aload_n 1, 1) := by decide +kernel
theorem dX3_copyFrom_34 : decode cX3_copyFrom 34 = .ok (.getfield 30, 3) := by decide +kernel
theorem dX3_copyFrom_37 : decode cX3_copyFrom 37 = .ok (.putfield 30, 3) := by decide +kernel
theorem dX3_copyFrom_40 : decode cX3_copyFrom 40 = .ok (.return_, 1) := by decide +kernel
theorem dX3_happens_0 : decode cX3_happens 0 = .ok (.iload_n 1, 1) := by decide +kernel
theorem dX3_happens_1 : decode cX3_happens 1 = .ok (.iconst 4, 1) := by decide +kernel
theorem dX3_happens_2 : decode cX3_happens 2 = .ok (.if_icmp .le 61, 3) := by decide +kernel
theorem dX3_happens_5 : decode cX3_happens 5 = .ok (.aload 4, 2) := by decide +kernel
theorem dX3_happens_7 : decode cX3_happens 7 = .ok (.iload_n 1, 1) := by decide +kernel
theorem dX3_happens_8 : decode cX3_happens 8 = .ok (.iload_n 2, 1) := by decide +kernel
theorem dX3_happens_9 : decode cX3_happens 9 = .ok (.iload_n 3, 1) := by decide +kernel
theorem dX3_happens_10 : decode cX3_happens 10 = .ok (.aload_n 0, 1) := by decide +kernel
theorem dX3_happens_11 : decode cX3_happens 11 = .ok (.getfield 30, 3) := by decide +kernel
theorem dX3_happens_14 : decode cX3_happens 14 = .ok (.invokevirtual 39, 3) := by decide +kernel
theorem dX3_happens_17 : decode cX3_happens 17 = .ok (.aload_n 0, 1) := by decide +kernel
theorem dX3_happens_18 : decode cX3_happens 18 = .ok (.aload 4, 2) := by decide +kernel
theorem dX3_happens_20 : decode cX3_happens 20 = .ok (.invokevirtual 45, 3) := by decide +kernel
theorem dX3_happens_23 : decode cX3_happens 23 = .ok (.istore 5, 2) := by decide +kernel
theorem dX3_happens_25 : decode cX3_happens 25 = .ok (.iload 5, 2) := by decide +kernel
theorem dX3_happens_27 : decode cX3_happens 27 = .ok (.ifCond .eq 33, 3) := by decide +kernel
theorem dX3_happens_30 : decode cX3_happens 30 = .ok (.iload_n 1, 1) := by decide +kernel
theorem dX3_happens_31 : decode cX3_happens 31 = .ok (.iconst 5, 1) := by decide +kernel
theorem dX3_happens_32 : decode cX3_happens 32 = .ok (.if_icmp .ne 28, 3) := by decide +kernel
theorem dX3_happens_35 : decode cX3_happens 35 = .ok (.aload_n 0, 1) := by decide +kernel
theorem dX3_happens_36 : decode cX3_happens 36 = .ok (.dup, 1) := by decide +kernel
theorem dX3_happens_37 : decode cX3_happens 37 = .ok (.getfield 23, 3) := by decide +kernel
theorem dX3_happens_40 : decode cX3_happens 40 = .ok (.iconst 1, 1) := by decide +kernel
theorem dX3_happens_41 : decode cX3_happens 41 = .ok (.iadd, 1) := by decide +kernel
theorem dX3_happens_42 : decode cX3_happens 42 = .ok (.putfield 23, 3) := by decide +kernel
theorem dX3_happens_45 : decode cX3_happens 45 = .ok (.aload_n 0, 1) := by decide +kernel
theorem dX3_happens_46 : decode cX3_happens 46 = .ok (.dup, 1) := by decide +kernel
theorem dX3_happens_47 : decode cX3_happens 47 = .ok (.getfield 27, 3) := by decide +kernel
theorem dX3_happens_50 : decode cX3_happens 50 = .ok (.iconst 1, 1) := by decide +kernel
theorem dX3_happens_51 : decode cX3_happens 51 = .ok (.isub, 1) := by decide +kernel
theorem dX3_happens_52 : decode cX3_happens 52 = .ok (.putfield 27, 3) := by decide +kernel
theorem dX3_happens_55 : decode cX3_happens 55 = .ok (.aload_n 0, 1) := by decide +kernel
theorem dX3_happens_56 : decode cX3_happens 56 = .ok (.iconst 0, 1) := by decide +kernel
theorem dX3_happens_57 : decode cX3_happens 57 = .ok (.putfield 30, 3) := by decide +kernel
theorem dX3_happens_60 : decode cX3_happens 60 = .ok (.iload 5, 2) := by decide +kernel
theorem dX3_happens_62 : decode cX3_happens 62 = .ok (.ireturn, 1) := by decide +kernel
theorem dX3_happens_63 : decode cX3_happens 63 = .ok (.iload_n 1, 1) := by decide +kernel
theorem dX3_happens_64 : decode cX3_happens 64 = .ok (.ifCond .ne 21, 3) := by decide +kernel
theorem dX3_happens_67 : decode cX3_happens 67 = .ok (.aload 4, 2) := by decide +kernel
theorem dX3_happens_69 : decode cX3_happens 69 = .ok (.aload_n 0, 1) := by decide +kernel
theorem dX3_happens_70 : decode cX3_happens 70 = .ok (.getfield 30, 3) := by decide +kernel
theorem dX3_happens_73 : decode cX3_happens 73 = .ok (.invokevirtual 49, 3) := by decide +kernel
theorem dX3_happens_76 : decode cX3_happens 76 = .ok (.aload_n 0, 1) := by decide +kernel
theorem dX3_happens_77 : decode cX3_happens 77 = .ok (.aload 4, 2) := by decide +kernel
theorem dX3_happens_79 : decode cX3_happens 79 = .ok (.invokevirtual 53, 3) := by decide +kernel
theorem dX3_happens_82 : decode cX3_happens 82 = .ok (.goto 22, 3) := by decide +kernel
theorem dX3_happens_85 : decode cX3_happens 85 = .ok (.iload_n 1, 1) := by decide +kernel
theorem dX3_happens_86 : decode cX3_happens 86 = .ok (.iconst 4, 1) := by decide +kernel
theorem dX3_happens_87 : decode cX3_happens 87 = .ok (.if_icmp .eq 17, 3) := by decide +kernel
theorem dX3_happens_90 : decode cX3_happens 90 = .ok (.aload_n 0, 1) := by decide +kernel
theorem dX3_happens_91 : decode cX3_happens 91 = .ok (.iconst 0, 1) := by decide +kernel
theorem dX3_happens_92 : decode cX3_happens 92 = .ok (.iload_n 1, 1) := by decide +kernel
theorem dX3_happens_93 : decode cX3_happens 93 = .ok (.invokestatic 57, 3) := by decide +kernel
theorem dX3_happens_96 : decode cX3_happens 96 = .ok (.aload 4, 2) := by decide +kernel
theorem dX3_happens_98 : decode cX3_happens 98 = .ok (.getfield 61, 3) := by decide +kernel
theorem dX3_happens_101 : decode cX3_happens 101 = .ok (.invokevirtual 65, 3) := by decide +kernel
theorem dX3_happens_104 : decode cX3_happens 104 = .ok (.aload_n 0, 1) := by decide +kernel
theorem dX3_happens_105 : decode cX3_happens 105 = .ok (.dup, 1) := by decide +kernel
theorem dX3_happens_106 : decode cX3_happens 106 = .ok (.getfield 23, 3) := by decide +kernel
theorem dX3_happens_109 : decode cX3_happens 109 = .ok (.iconst 1, 1) := by decide +kernel
theorem dX3_happens_110 : decode cX3_happens 110 = .ok (.iadd, 1) := by decide +kernel
theorem dX3_happens_111 : decode cX3_happens 111 = .ok (.putfield 23, 3) := by decide +kernel
theorem dX3_happens_114 : decode cX3_happens 114 = .ok (.aload_n 0, 1) := by decide +kernel
theorem dX3_happens_115 : decode cX3_happens 115 = .ok (.bipush 30, 2) := by decide +kernel
theorem dX3_happens_117 : decode cX3_happens 117 = .ok (.aload_n 0, 1) := by decide +kernel
theorem dX3_happens_118 : decode cX3_happens 118 = .ok (.getfield 30, 3) := by decide +kernel
theorem dX3_happens_121 : decode cX3_happens 121 = .ok (.iconst 1, 1) := by decide +kernel
theorem dX3_happens_122 : decode cX3_happens 122 = .ok (.iadd, 1) := by decide +kernel
theorem dX3_happens_123 : decode cX3_happens 123 = .ok (.invokestatic 69, 3) := by decide +kernel
theorem dX3_happens_126 : decode cX3_happens 126 = .ok (.putfield 30, 3) := by decide +kernel
theorem dX3_happens_129 : decode cX3_happens 129 = .ok (.iconst 1, 1) := by decide +kernel
theorem dX3_happens_130 : decode cX3_happens 130 = .ok (.ireturn, 1) := by decide +kernel
theorem dX3_turned_0 : decode cX3_turned 0 = .ok (.iload_n 1, 1) := by decide +kernel
theorem dX3_turned_1 : decode cX3_turned 1 = .ok (.iconst 3, 1) := by decide +kernel
theorem dX3_turned_2 : decode cX3_turned 2 = .ok (.if_icmp .ne 7, 3) := by decide +kernel
theorem dX3_turned_5 : decode cX3_turned 5 = .ok (.iconst 2, 1) := by decide +kernel
theorem dX3_turned_6 : decode cX3_turned 6 = .ok (.goto 13, 3) := by decide +kernel
theorem dX3_turned_9 : decode cX3_turned 9 = .ok (.iload_n 1, 1) := by decide +kernel
theorem dX3_turned_10 : decode cX3_turned 10 = .ok (.iconst 1, 1) := by decide +kernel
theorem dX3_turned_11 : decode cX3_turned 11 = .ok (.if_icmp .ne 7, 3) := by decide +kernel
theorem dX3_turned_14 : decode cX3_turned 14 = .ok (.iconst 3, 1) := by decide +kernel
theorem dX3_turned_15 : decode cX3_turned 15 = .ok (.goto 4, 3) := by decide +kernel
theorem dX3_turned_18 : decode cX3_turned 18 = .ok (.iconst 1, 1) := by decide +kernel
theorem dX3_turned_19 : decode cX3_turned 19 = .ok (.istore_n 2, 1) := by decide +kernel
theorem dX3_turned_20 : decode cX3_turned 20 = .ok (.iload_n 0, 1) := by decide +kernel
theorem dX3_turned_21 : decode cX3_turned 21 = .ok (.iload_n 2, 1) := by decide +kernel
theorem dX3_turned_22 : decode cX3_turned 22 = .ok (.iadd, 1) := by decide +kernel
theorem dX3_turned_23 : decode cX3_turned 23 = .ok (.iconst 4, 1) := by decide +kernel
theorem dX3_turned_24 : decode cX3_turned 24 = .ok (.irem, 1) := by decide +kernel
theorem dX3_turned_25 : decode cX3_turned 25 = .ok (.ireturn, 1) := by decide +kernel
theorem dX3_turn_0 : decode cX3_turn 0 = .ok (.iconst 0, 1) := by decide +kernel
theorem dX3_turn_1 : decode cX3_turn 1 = .ok (.istore_n 3, 1) := by decide +kernel
theorem dX3_turn_2 : decode cX3_turn 2 = .ok (.iload_n 3, 1) := by decide +kernel
theorem dX3_turn_3 : decode cX3_turn 3 = .ok (.aload_n 2, 1) := by decide +kernel
theorem dX3_turn_4 : decode cX3_turn 4 = .ok (.getfield 74, 3) := by decide +kernel
theorem dX3_turn_7 : decode cX3_turn 7 = .ok (.if_icmp .ge 106, 3) := by decide +kernel
theorem dX3_turn_10 : decode cX3_turn 10 = .ok (.aload_n 2, 1) := by decide +kernel
theorem dX3_turn_11 : decode cX3_turn 11 = .ok (.getfield 79, 3) := by decide +kernel
theorem dX3_turn_14 : decode cX3_turn 14 = .ok (.iload_n 3, 1) := by decide +kernel
theorem dX3_turn_15 : decode cX3_turn 15 = .ok (.iaload, 1) := by decide +kernel
theorem dX3_turn_16 : decode cX3_turn 16 = .ok (.iconst 4, 1) := by decide +kernel
theorem dX3_turn_17 : decode cX3_turn 17 = .ok (.imul, 1) := by decide +kernel
theorem dX3_turn_18 : decode cX3_turn 18 = .ok (.istore 4, 2) := by decide +kernel
theorem dX3_turn_20 : decode cX3_turn 20 = .ok (.iconst 0, 1) := by decide +kernel
theorem dX3_turn_21 : decode cX3_turn 21 = .ok (.istore 5, 2) := by decide +kernel
theorem dX3_turn_23 : decode cX3_turn 23 = .ok (.iload 5, 2) := by decide +kernel
theorem dX3_turn_25 : decode cX3_turn 25 = .ok (.iload_n 1, 1) := by decide +kernel
theorem dX3_turn_26 : decode cX3_turn 26 = .ok (.if_icmp .ge 81, 3) := by decide +kernel
theorem dX3_turn_29 : decode cX3_turn 29 = .ok (.aload_n 0, 1) := by decide +kernel
theorem dX3_turn_30 : decode cX3_turn 30 = .ok (.getfield 9, 3) := by decide +kernel
theorem dX3_turn_33 : decode cX3_turn 33 = .ok (.iload 4, 2) := by decide +kernel
theorem dX3_turn_35 : decode cX3_turn 35 = .ok (.iconst 3, 1) := by decide +kernel
theorem dX3_turn_36 : decode cX3_turn 36 = .ok (.iadd, 1) := by decide +kernel
theorem dX3_turn_37 : decode cX3_turn 37 = .ok (.laload, 1) := by decide +kernel
theorem dX3_turn_38 : decode cX3_turn 38 = .ok (.lstore 6, 2) := by decide +kernel
theorem dX3_turn_40 : decode cX3_turn 40 = .ok (.aload_n 0, 1) := by decide +kernel
theorem dX3_turn_41 : decode cX3_turn 41 = .ok (.getfield 9, 3) := by decide +kernel
theorem dX3_turn_44 : decode cX3_turn 44 = .ok (.iload 4, 2) := by decide +kernel
theorem dX3_turn_46 : decode cX3_turn 46 = .ok (.iconst 3, 1) := by decide +kernel
theorem dX3_turn_47 : decode cX3_turn 47 = .ok (.iadd, 1) := by decide +kernel
theorem dX3_turn_48 : decode cX3_turn 48 = .ok (.aload_n 0, 1) := by decide +kernel
theorem dX3_turn_49 : decode cX3_turn 49 = .ok (.getfield 9, 3) := by decide +kernel
theorem dX3_turn_52 : decode cX3_turn 52 = .ok (.iload 4, 2) := by decide +kernel
theorem dX3_turn_54 : decode cX3_turn 54 = .ok (.iconst 2, 1) := by decide +kernel
theorem dX3_turn_55 : decode cX3_turn 55 = .ok (.iadd, 1) := by decide +kernel
theorem dX3_turn_56 : decode cX3_turn 56 = .ok (.laload, 1) := by decide +kernel
theorem dX3_turn_57 : decode cX3_turn 57 = .ok (.lastore, 1) := by decide +kernel
theorem dX3_turn_58 : decode cX3_turn 58 = .ok (.aload_n 0, 1) := by decide +kernel
theorem dX3_turn_59 : decode cX3_turn 59 = .ok (.getfield 9, 3) := by decide +kernel
theorem dX3_turn_62 : decode cX3_turn 62 = .ok (.iload 4, 2) := by decide +kernel
theorem dX3_turn_64 : decode cX3_turn 64 = .ok (.iconst 2, 1) := by decide +kernel
theorem dX3_turn_65 : decode cX3_turn 65 = .ok (.iadd, 1) := by decide +kernel
theorem dX3_turn_66 : decode cX3_turn 66 = .ok (.aload_n 0, 1) := by decide +kernel
theorem dX3_turn_67 : decode cX3_turn 67 = .ok (.getfield 9, 3) := by decide +kernel
theorem dX3_turn_70 : decode cX3_turn 70 = .ok (.iload 4, 2) := by decide +kernel
theorem dX3_turn_72 : decode cX3_turn 72 = .ok (.iconst 1, 1) := by decide +kernel
theorem dX3_turn_73 : decode cX3_turn 73 = .ok (.iadd, 1) := by decide +kernel
theorem dX3_turn_74 : decode cX3_turn 74 = .ok (.laload, 1) := by decide +kernel
theorem dX3_turn_75 : decode cX3_turn 75 = .ok (.lastore, 1) := by decide +kernel
theorem dX3_turn_76 : decode cX3_turn 76 = .ok (.aload_n 0, 1) := by decide +kernel
theorem dX3_turn_77 : decode cX3_turn 77 = .ok (.getfield 9, 3) := by decide +kernel
theorem dX3_turn_80 : decode cX3_turn 80 = .ok (.iload 4, 2) := by decide +kernel
theorem dX3_turn_82 : decode cX3_turn 82 = .ok (.iconst 1, 1) := by decide +kernel
theorem dX3_turn_83 : decode cX3_turn 83 = .ok (.iadd, 1) := by decide +kernel
theorem dX3_turn_84 : decode cX3_turn 84 = .ok (.aload_n 0, 1) := by decide +kernel
theorem dX3_turn_85 : decode cX3_turn 85 = .ok (.getfield 9, 3) := by decide +kernel
theorem dX3_turn_88 : decode cX3_turn 88 = .ok (.iload 4, 2) := by decide +kernel
theorem dX3_turn_90 : decode cX3_turn 90 = .ok (.laload, 1) := by decide +kernel
theorem dX3_turn_91 : decode cX3_turn 91 = .ok (.lastore, 1) := by decide +kernel
theorem dX3_turn_92 : decode cX3_turn 92 = .ok (.aload_n 0, 1) := by decide +kernel
theorem dX3_turn_93 : decode cX3_turn 93 = .ok (.getfield 9, 3) := by decide +kernel
theorem dX3_turn_96 : decode cX3_turn 96 = .ok (.iload 4, 2) := by decide +kernel
theorem dX3_turn_98 : decode cX3_turn 98 = .ok (.lload 6, 2) := by decide +kernel
theorem dX3_turn_100 : decode cX3_turn 100 = .ok (.lastore, 1) := by decide +kernel
theorem dX3_turn_101 : decode cX3_turn 101 = .ok (.iinc 5 1, 3) := by decide +kernel
theorem dX3_turn_104 : decode cX3_turn 104 = .ok (.goto (-81), 3) := by decide +kernel
theorem dX3_turn_107 : decode cX3_turn 107 = .ok (.iinc 3 1, 3) := by decide +kernel
theorem dX3_turn_110 : decode cX3_turn 110 = .ok (.goto (-108), 3) := by decide +kernel
theorem dX3_turn_113 : decode cX3_turn 113 = .ok (.return_, 1) := by decide +kernel
theorem dX3_go_0 : decode cX3_go 0 = .ok (.aload_n 1, 1) := by decide +kernel
theorem dX3_go_1 : decode cX3_go 1 = .ok (.getfield 61, 3) := by decide +kernel
theorem dX3_go_4 : decode cX3_go 4 = .ok (.astore_n 2, 1) := by decide +kernel
theorem dX3_go_5 : decode cX3_go 5 = .ok (.aload_n 1, 1) := by decide +kernel
theorem dX3_go_6 : decode cX3_go 6 = .ok (.getfield 83, 3) := by decide +kernel
theorem dX3_go_9 : decode cX3_go 9 = .ok (.astore_n 3, 1) := by decide +kernel
theorem dX3_go_10 : decode cX3_go 10 = .ok (.aload_n 3, 1) := by decide +kernel
theorem dX3_go_11 : decode cX3_go 11 = .ok (.lconst 0, 1) := by decide +kernel
theorem dX3_go_12 : decode cX3_go 12 = .ok (.invokestatic 15, 3) := by decide +kernel
theorem dX3_go_15 : decode cX3_go 15 = .ok (.iconst 0, 1) := by decide +kernel
theorem dX3_go_16 : decode cX3_go 16 = .ok (.istore 4, 2) := by decide +kernel
theorem dX3_go_18 : decode cX3_go 18 = .ok (.iload 4, 2) := by decide +kernel
theorem dX3_go_20 : decode cX3_go 20 = .ok (.aload_n 2, 1) := by decide +kernel
theorem dX3_go_21 : decode cX3_go 21 = .ok (.getfield 74, 3) := by decide +kernel
theorem dX3_go_24 : decode cX3_go 24 = .ok (.if_icmp .ge 184, 3) := by decide +kernel
theorem dX3_go_27 : decode cX3_go 27 = .ok (.aload_n 2, 1) := by decide +kernel
theorem dX3_go_28 : decode cX3_go 28 = .ok (.getfield 79, 3) := by decide +kernel
theorem dX3_go_31 : decode cX3_go 31 = .ok (.iload 4, 2) := by decide +kernel
theorem dX3_go_33 : decode cX3_go 33 = .ok (.iaload, 1) := by decide +kernel
theorem dX3_go_34 : decode cX3_go 34 = .ok (.istore 5, 2) := by decide +kernel
theorem dX3_go_36 : decode cX3_go 36 = .ok (.aload_n 1, 1) := by decide +kernel
theorem dX3_go_37 : decode cX3_go 37 = .ok (.iload 5, 2) := by decide +kernel
theorem dX3_go_39 : decode cX3_go 39 = .ok (.aload_n 0, 1) := by decide +kernel
theorem dX3_go_40 : decode cX3_go 40 = .ok (.getfield 30, 3) := by decide +kernel
theorem dX3_go_43 : decode cX3_go 43 = .ok (.invokevirtual 86, 3) := by decide +kernel
theorem dX3_go_46 : decode cX3_go 46 = .ok (.istore 6, 2) := by decide +kernel
theorem dX3_go_48 : decode cX3_go 48 = .ok (.aload_n 1, 1) := by decide +kernel
theorem dX3_go_49 : decode cX3_go 49 = .ok (.iload 6, 2) := by decide +kernel
theorem dX3_go_51 : decode cX3_go 51 = .ok (.invokevirtual 89, 3) := by decide +kernel
theorem dX3_go_54 : decode cX3_go 54 = .ok (.istore 7, 2) := by decide +kernel
theorem dX3_go_56 : decode cX3_go 56 = .ok (.iconst 0, 1) := by decide +kernel
theorem dX3_go_57 : decode cX3_go 57 = .ok (.istore 8, 2) := by decide +kernel
theorem dX3_go_59 : decode cX3_go 59 = .ok (.iload 8, 2) := by decide +kernel
theorem dX3_go_61 : decode cX3_go 61 = .ok (.iconst 4, 1) := by decide +kernel
theorem dX3_go_62 : decode cX3_go 62 = .ok (.if_icmp .ge 140, 3) := by decide +kernel
theorem dX3_go_65 : decode cX3_go 65 = .ok (.aload_n 0, 1) := by decide +kernel
theorem dX3_go_66 : decode cX3_go 66 = .ok (.getfield 9, 3) := by decide +kernel
theorem dX3_go_69 : decode cX3_go 69 = .ok (.iload 5, 2) := by decide +kernel
theorem dX3_go_71 : decode cX3_go 71 = .ok (.iconst 4, 1) := by decide +kernel
theorem dX3_go_72 : decode cX3_go 72 = .ok (.imul, 1) := by decide +kernel
theorem dX3_go_73 : decode cX3_go 73 = .ok (.iload 8, 2) := by decide +kernel
theorem dX3_go_75 : decode cX3_go 75 = .ok (.iadd, 1) := by decide +kernel
theorem dX3_go_76 : decode cX3_go 76 = .ok (.laload, 1) := by decide +kernel
theorem dX3_go_77 : decode cX3_go 77 = .ok (.lstore 9, 2) := by decide +kernel
theorem dX3_go_79 : decode cX3_go 79 = .ok (.lload 9, 2) := by decide +kernel
theorem dX3_go_81 : decode cX3_go 81 = .ok (.lconst 0, 1) := by decide +kernel
theorem dX3_go_82 : decode cX3_go 82 = .ok (.lcmp, 1) := by decide +kernel
theorem dX3_go_83 : decode cX3_go 83 = .ok (.ifCond .ne 6, 3) := by decide +kernel
theorem dX3_go_86 : decode cX3_go 86 = .ok (.goto 110, 3) := by decide +kernel
theorem dX3_go_89 : decode cX3_go 89 = .ok (.lload 9, 2) := by decide +kernel
theorem dX3_go_91 : decode cX3_go 91 = .ok (.iload 6, 2) := by decide +kernel
theorem dX3_go_93 : decode cX3_go 93 = .ok (.i2l, 1) := by decide +kernel
theorem dX3_go_94 : decode cX3_go 94 = .ok (.lmul, 1) := by decide +kernel
theorem dX3_go_95 : decode cX3_go 95 = .ok (.ldc2_w 93, 3) := by decide +kernel
theorem dX3_go_98 : decode cX3_go 98 = .ok (.ldiv, 1) := by decide +kernel
theorem dX3_go_99 : decode cX3_go 99 = .ok (.lstore 11, 2) := by decide +kernel
theorem dX3_go_101 : decode cX3_go 101 = .ok (.lload 9, 2) := by decide +kernel
theorem dX3_go_103 : decode cX3_go 103 = .ok (.iload 7, 2) := by decide +kernel
theorem dX3_go_105 : decode cX3_go 105 = .ok (.i2l, 1) := by decide +kernel
theorem dX3_go_106 : decode cX3_go 106 = .ok (.lmul, 1) := by decide +kernel
theorem dX3_go_107 : decode cX3_go 107 = .ok (.ldc2_w 93, 3) := by decide +kernel
theorem dX3_go_110 : decode cX3_go 110 = .ok (.ldiv, 1) := by decide +kernel
theorem dX3_go_111 : decode cX3_go 111 = .ok (.lstore 13, 2) := by decide +kernel
theorem dX3_go_113 : decode cX3_go 113 = .ok (.aload_n 3, 1) := by decide +kernel
theorem dX3_go_114 : decode cX3_go 114 = .ok (.iload 5, 2) := by decide +kernel
theorem dX3_go_116 : decode cX3_go 116 = .ok (.iconst 4, 1) := by decide +kernel
theorem dX3_go_117 : decode cX3_go 117 = .ok (.imul, 1) := by decide +kernel
theorem dX3_go_118 : decode cX3_go 118 = .ok (.iload 8, 2) := by decide +kernel
theorem dX3_go_120 : decode cX3_go 120 = .ok (.iadd, 1) := by decide +kernel
theorem dX3_go_121 : decode cX3_go 121 = .ok (.dup2, 1) := by decide +kernel
theorem dX3_go_122 : decode cX3_go 122 = .ok (.laload, 1) := by decide +kernel
theorem dX3_go_123 : decode cX3_go 123 = .ok (.lload 9, 2) := by decide +kernel
theorem dX3_go_125 : decode cX3_go 125 = .ok (.lload 11, 2) := by decide +kernel
theorem dX3_go_127 : decode cX3_go 127 = .ok (.lsub, 1) := by decide +kernel
theorem dX3_go_128 : decode cX3_go 128 = .ok (.ldc2_w 95, 3) := by decide +kernel
theorem dX3_go_131 : decode cX3_go 131 = .ok (.lload 13, 2) := by decide +kernel
theorem dX3_go_133 : decode cX3_go 133 = .ok (.lmul, 1) := by decide +kernel
theorem dX3_go_134 : decode cX3_go 134 = .ok (.lsub, 1) := by decide +kernel
theorem dX3_go_135 : decode cX3_go 135 = .ok (.ladd, 1) := by decide +kernel
theorem dX3_go_136 : decode cX3_go 136 = .ok (.lastore, 1) := by decide +kernel
theorem dX3_go_137 : decode cX3_go 137 = .ok (.aload_n 3, 1) := by decide +kernel
theorem dX3_go_138 : decode cX3_go 138 = .ok (.aload_n 2, 1) := by decide +kernel
theorem dX3_go_139 : decode cX3_go 139 = .ok (.iload 5, 2) := by decide +kernel
theorem dX3_go_141 : decode cX3_go 141 = .ok (.iload 8, 2) := by decide +kernel
theorem dX3_go_143 : decode cX3_go 143 = .ok (.iload 8, 2) := by decide +kernel
theorem dX3_go_145 : decode cX3_go 145 = .ok (.invokestatic 97, 3) := by decide +kernel
theorem dX3_go_148 : decode cX3_go 148 = .ok (.dup2, 1) := by decide +kernel
theorem dX3_go_149 : decode cX3_go 149 = .ok (.laload, 1) := by decide +kernel
theorem dX3_go_150 : decode cX3_go 150 = .ok (.lload 11, 2) := by decide +kernel
theorem dX3_go_152 : decode cX3_go 152 = .ok (.ladd, 1) := by decide +kernel
theorem dX3_go_153 : decode cX3_go 153 = .ok (.lastore, 1) := by decide +kernel
theorem dX3_go_154 : decode cX3_go 154 = .ok (.aload_n 3, 1) := by decide +kernel
theorem dX3_go_155 : decode cX3_go 155 = .ok (.aload_n 2, 1) := by decide +kernel
theorem dX3_go_156 : decode cX3_go 156 = .ok (.iload 5, 2) := by decide +kernel
theorem dX3_go_158 : decode cX3_go 158 = .ok (.iload 8, 2) := by decide +kernel
theorem dX3_go_160 : decode cX3_go 160 = .ok (.iload 8, 2) := by decide +kernel
theorem dX3_go_162 : decode cX3_go 162 = .ok (.iconst 3, 1) := by decide +kernel
theorem dX3_go_163 : decode cX3_go 163 = .ok (.iadd, 1) := by decide +kernel
theorem dX3_go_164 : decode cX3_go 164 = .ok (.iconst 4, 1) := by decide +kernel
theorem dX3_go_165 : decode cX3_go 165 = .ok (.irem, 1) := by decide +kernel
theorem dX3_go_166 : decode cX3_go 166 = .ok (.invokestatic 97, 3) := by decide +kernel
theorem dX3_go_169 : decode cX3_go 169 = .ok (.dup2, 1) := by decide +kernel
theorem dX3_go_170 : decode cX3_go 170 = .ok (.laload, 1) := by decide +kernel
theorem dX3_go_171 : decode cX3_go 171 = .ok (.lload 13, 2) := by decide +kernel
theorem dX3_go_173 : decode cX3_go 173 = .ok (.ladd, 1) := by decide +kernel
theorem dX3_go_174 : decode cX3_go 174 = .ok (.lastore, 1) := by decide +kernel
theorem dX3_go_175 : decode cX3_go 175 = .ok (.aload_n 3, 1) := by decide +kernel
theorem dX3_go_176 : decode cX3_go 176 = .ok (.aload_n 2, 1) := by decide +kernel
theorem dX3_go_177 : decode cX3_go 177 = .ok (.iload 5, 2) := by decide +kernel
theorem dX3_go_179 : decode cX3_go 179 = .ok (.iload 8, 2) := by decide +kernel
theorem dX3_go_181 : decode cX3_go 181 = .ok (.iload 8, 2) := by decide +kernel
theorem dX3_go_183 : decode cX3_go 183 = .ok (.iconst 1, 1) := by decide +kernel
theorem dX3_go_184 : decode cX3_go 184 = .ok (.iadd, 1) := by decide +kernel
theorem dX3_go_185 : decode cX3_go 185 = .ok (.iconst 4, 1) := by decide +kernel
theorem dX3_go_186 : decode cX3_go 186 = .ok (.irem, 1) := by decide +kernel
theorem dX3_go_187 : decode cX3_go 187 = .ok (.invokestatic 97, 3) := by decide +kernel
theorem dX3_go_190 : decode cX3_go 190 = .ok (.dup2, 1) := by decide +kernel
theorem dX3_go_191 : decode cX3_go 191 = .ok (.laload, 1) := by decide +kernel
theorem dX3_go_192 : decode cX3_go 192 = .ok (.lload 13, 2) := by decide +kernel
theorem dX3_go_194 : decode cX3_go 194 = .ok (.ladd, 1) := by decide +kernel
theorem dX3_go_195 : decode cX3_go 195 = .ok (.lastore, 1) := by decide +kernel
theorem dX3_go_196 : decode cX3_go 196 = .ok (.iinc 8 1, 3) := by decide +kernel
theorem dX3_go_199 : decode cX3_go 199 = .ok (.goto (-140), 3) := by decide +kernel
theorem dX3_go_202 : decode cX3_go 202 = .ok (.iinc 4 1, 3) := by decide +kernel
theorem dX3_go_205 : decode cX3_go 205 = .ok (.goto (-187), 3) := by decide +kernel
theorem dX3_go_208 : decode cX3_go 208 = .ok (.aload_n 3, 1) := by decide +kernel
theorem dX3_go_209 : decode cX3_go 209 = .ok (.iconst 0, 1) := by decide +kernel
theorem dX3_go_210 : decode cX3_go 210 = .ok (.aload_n 0, 1) := by decide +kernel
theorem dX3_go_211 : decode cX3_go 211 = .ok (.getfield 9, 3) := by decide +kernel
theorem dX3_go_214 : decode cX3_go 214 = .ok (.iconst 0, 1) := by decide +kernel
theorem dX3_go_215 : decode cX3_go 215 = .ok (.sipush 576, 3) := by decide +kernel
theorem dX3_go_218 : decode cX3_go 218 = .ok (.invokestatic 33, 3) := by decide +kernel
theorem dX3_go_221 : decode cX3_go 221 = .ok (.return_, 1) := by decide +kernel
theorem dX3_comeTo_0 : decode cX3_comeTo 0 = .ok (.aload_n 0, 1) := by decide +kernel
theorem dX3_comeTo_1 : decode cX3_comeTo 1 = .ok (.getfield 101, 3) := by decide +kernel
theorem dX3_comeTo_4 : decode cX3_comeTo 4 = .ok (.iload_n 1, 1) := by decide +kernel
theorem dX3_comeTo_5 : decode cX3_comeTo 5 = .ok (.iconst 4, 1) := by decide +kernel
theorem dX3_comeTo_6 : decode cX3_comeTo 6 = .ok (.imul, 1) := by decide +kernel
theorem dX3_comeTo_7 : decode cX3_comeTo 7 = .ok (.iload_n 3, 1) := by decide +kernel
theorem dX3_comeTo_8 : decode cX3_comeTo 8 = .ok (.iadd, 1) := by decide +kernel
theorem dX3_comeTo_9 : decode cX3_comeTo 9 = .ok (.iaload, 1) := by decide +kernel
theorem dX3_comeTo_10 : decode cX3_comeTo 10 = .ok (.istore 4, 2) := by decide +kernel
theorem dX3_comeTo_12 : decode cX3_comeTo 12 = .ok (.iload 4, 2) := by decide +kernel
theorem dX3_comeTo_14 : decode cX3_comeTo 14 = .ok (.iconst (-1), 1) := by decide +kernel
theorem dX3_comeTo_15 : decode cX3_comeTo 15 = .ok (.if_icmp .ne 11, 3) := by decide +kernel
theorem dX3_comeTo_18 : decode cX3_comeTo 18 = .ok (.iload_n 1, 1) := by decide +kernel
theorem dX3_comeTo_19 : decode cX3_comeTo 19 = .ok (.iconst 4, 1) := by decide +kernel
theorem dX3_comeTo_20 : decode cX3_comeTo 20 = .ok (.imul, 1) := by decide +kernel
theorem dX3_comeTo_21 : decode cX3_comeTo 21 = .ok (.iload_n 2, 1) := by decide +kernel
theorem dX3_comeTo_22 : decode cX3_comeTo 22 = .ok (.iadd, 1) := by decide +kernel
theorem dX3_comeTo_23 : decode cX3_comeTo 23 = .ok (.goto 9, 3) := by decide +kernel
theorem dX3_comeTo_26 : decode cX3_comeTo 26 = .ok (.iload 4, 2) := by decide +kernel
theorem dX3_comeTo_28 : decode cX3_comeTo 28 = .ok (.iconst 4, 1) := by decide +kernel
theorem dX3_comeTo_29 : decode cX3_comeTo 29 = .ok (.imul, 1) := by decide +kernel
theorem dX3_comeTo_30 : decode cX3_comeTo 30 = .ok (.iload_n 3, 1) := by decide +kernel
theorem dX3_comeTo_31 : decode cX3_comeTo 31 = .ok (.iadd, 1) := by decide +kernel
theorem dX3_comeTo_32 : decode cX3_comeTo 32 = .ok (.ireturn, 1) := by decide +kernel
theorem dX3_weigh_0 : decode cX3_weigh 0 = .ok (.aload_n 1, 1) := by decide +kernel
theorem dX3_weigh_1 : decode cX3_weigh 1 = .ok (.getfield 61, 3) := by decide +kernel
theorem dX3_weigh_4 : decode cX3_weigh 4 = .ok (.astore_n 2, 1) := by decide +kernel
theorem dX3_weigh_5 : decode cX3_weigh 5 = .ok (.aload_n 1, 1) := by decide +kernel
theorem dX3_weigh_6 : decode cX3_weigh 6 = .ok (.getfield 83, 3) := by decide +kernel
theorem dX3_weigh_9 : decode cX3_weigh 9 = .ok (.astore_n 3, 1) := by decide +kernel
theorem dX3_weigh_10 : decode cX3_weigh 10 = .ok (.aload_n 3, 1) := by decide +kernel
theorem dX3_weigh_11 : decode cX3_weigh 11 = .ok (.lconst 0, 1) := by decide +kernel
theorem dX3_weigh_12 : decode cX3_weigh 12 = .ok (.invokestatic 15, 3) := by decide +kernel
theorem dX3_weigh_15 : decode cX3_weigh 15 = .ok (.lconst 0, 1) := by decide +kernel
theorem dX3_weigh_16 : decode cX3_weigh 16 = .ok (.lstore 4, 2) := by decide +kernel
theorem dX3_weigh_18 : decode cX3_weigh 18 = .ok (.iconst 0, 1) := by decide +kernel
theorem dX3_weigh_19 : decode cX3_weigh 19 = .ok (.istore 6, 2) := by decide +kernel
theorem dX3_weigh_21 : decode cX3_weigh 21 = .ok (.iload 6, 2) := by decide +kernel
theorem dX3_weigh_23 : decode cX3_weigh 23 = .ok (.aload_n 2, 1) := by decide +kernel
theorem dX3_weigh_24 : decode cX3_weigh 24 = .ok (.getfield 74, 3) := by decide +kernel
theorem dX3_weigh_27 : decode cX3_weigh 27 = .ok (.if_icmp .ge 73, 3) := by decide +kernel
theorem dX3_weigh_30 : decode cX3_weigh 30 = .ok (.aload_n 2, 1) := by decide +kernel
theorem dX3_weigh_31 : decode cX3_weigh 31 = .ok (.getfield 79, 3) := by decide +kernel
theorem dX3_weigh_34 : decode cX3_weigh 34 = .ok (.iload 6, 2) := by decide +kernel
theorem dX3_weigh_36 : decode cX3_weigh 36 = .ok (.iaload, 1) := by decide +kernel
theorem dX3_weigh_37 : decode cX3_weigh 37 = .ok (.istore 7, 2) := by decide +kernel
theorem dX3_weigh_39 : decode cX3_weigh 39 = .ok (.iload 7, 2) := by decide +kernel
theorem dX3_weigh_41 : decode cX3_weigh 41 = .ok (.iconst 4, 1) := by decide +kernel
theorem dX3_weigh_42 : decode cX3_weigh 42 = .ok (.imul, 1) := by decide +kernel
theorem dX3_weigh_43 : decode cX3_weigh 43 = .ok (.istore 8, 2) := by decide +kernel
theorem dX3_weigh_45 : decode cX3_weigh 45 = .ok (.iload 8, 2) := by decide +kernel
theorem dX3_weigh_47 : decode cX3_weigh 47 = .ok (.iload 7, 2) := by decide +kernel
theorem dX3_weigh_49 : decode cX3_weigh 49 = .ok (.iconst 4, 1) := by decide +kernel
theorem dX3_weigh_50 : decode cX3_weigh 50 = .ok (.imul, 1) := by decide +kernel
theorem dX3_weigh_51 : decode cX3_weigh 51 = .ok (.iconst 4, 1) := by decide +kernel
theorem dX3_weigh_52 : decode cX3_weigh 52 = .ok (.iadd, 1) := by decide +kernel
theorem dX3_weigh_53 : decode cX3_weigh 53 = .ok (.if_icmp .ge 41, 3) := by decide +kernel
theorem dX3_weigh_56 : decode cX3_weigh 56 = .ok (.aload_n 3, 1) := by decide +kernel
theorem dX3_weigh_57 : decode cX3_weigh 57 = .ok (.iload 8, 2) := by decide +kernel
theorem dX3_weigh_59 : decode cX3_weigh 59 = .ok (.aload_n 0, 1) := by decide +kernel
theorem dX3_weigh_60 : decode cX3_weigh 60 = .ok (.getfield 9, 3) := by decide +kernel
theorem dX3_weigh_63 : decode cX3_weigh 63 = .ok (.iload 8, 2) := by decide +kernel
theorem dX3_weigh_65 : decode cX3_weigh 65 = .ok (.laload, 1) := by decide +kernel
theorem dX3_weigh_66 : decode cX3_weigh 66 = .ok (.aload_n 1, 1) := by decide +kernel
theorem dX3_weigh_67 : decode cX3_weigh 67 = .ok (.getfield 104, 3) := by decide +kernel
theorem dX3_weigh_70 : decode cX3_weigh 70 = .ok (.iload 7, 2) := by decide +kernel
theorem dX3_weigh_72 : decode cX3_weigh 72 = .ok (.laload, 1) := by decide +kernel
theorem dX3_weigh_73 : decode cX3_weigh 73 = .ok (.lmul, 1) := by decide +kernel
theorem dX3_weigh_74 : decode cX3_weigh 74 = .ok (.ldc2_w 93, 3) := by decide +kernel
theorem dX3_weigh_77 : decode cX3_weigh 77 = .ok (.ldiv, 1) := by decide +kernel
theorem dX3_weigh_78 : decode cX3_weigh 78 = .ok (.lastore, 1) := by decide +kernel
theorem dX3_weigh_79 : decode cX3_weigh 79 = .ok (.lload 4, 2) := by decide +kernel
theorem dX3_weigh_81 : decode cX3_weigh 81 = .ok (.aload_n 3, 1) := by decide +kernel
theorem dX3_weigh_82 : decode cX3_weigh 82 = .ok (.iload 8, 2) := by decide +kernel
theorem dX3_weigh_84 : decode cX3_weigh 84 = .ok (.laload, 1) := by decide +kernel
theorem dX3_weigh_85 : decode cX3_weigh 85 = .ok (.ladd, 1) := by decide +kernel
theorem dX3_weigh_86 : decode cX3_weigh 86 = .ok (.lstore 4, 2) := by decide +kernel
theorem dX3_weigh_88 : decode cX3_weigh 88 = .ok (.iinc 8 1, 3) := by decide +kernel
theorem dX3_weigh_91 : decode cX3_weigh 91 = .ok (.goto (-46), 3) := by decide +kernel
theorem dX3_weigh_94 : decode cX3_weigh 94 = .ok (.iinc 6 1, 3) := by decide +kernel
theorem dX3_weigh_97 : decode cX3_weigh 97 = .ok (.goto (-76), 3) := by decide +kernel
theorem dX3_weigh_100 : decode cX3_weigh 100 = .ok (.lload 4, 2) := by decide +kernel
theorem dX3_weigh_102 : decode cX3_weigh 102 = .ok (.lconst 0, 1) := by decide +kernel
theorem dX3_weigh_103 : decode cX3_weigh 103 = .ok (.lcmp, 1) := by decide +kernel
theorem dX3_weigh_104 : decode cX3_weigh 104 = .ok (.ifCond .gt 5, 3) := by decide +kernel
theorem dX3_weigh_107 : decode cX3_weigh 107 = .ok (.iconst 0, 1) := by decide +kernel
theorem dX3_weigh_108 : decode cX3_weigh 108 = .ok (.ireturn, 1) := by decide +kernel
theorem dX3_weigh_109 : decode cX3_weigh 109 = .ok (.iconst 0, 1) := by decide +kernel
theorem dX3_weigh_110 : decode cX3_weigh 110 = .ok (.istore 6, 2) := by decide +kernel
theorem dX3_weigh_112 : decode cX3_weigh 112 = .ok (.iload 6, 2) := by decide +kernel
theorem dX3_weigh_114 : decode cX3_weigh 114 = .ok (.sipush 576, 3) := by decide +kernel
theorem dX3_weigh_117 : decode cX3_weigh 117 = .ok (.if_icmp .ge 27, 3) := by decide +kernel
theorem dX3_weigh_120 : decode cX3_weigh 120 = .ok (.aload_n 0, 1) := by decide +kernel
theorem dX3_weigh_121 : decode cX3_weigh 121 = .ok (.getfield 9, 3) := by decide +kernel
theorem dX3_weigh_124 : decode cX3_weigh 124 = .ok (.iload 6, 2) := by decide +kernel
theorem dX3_weigh_126 : decode cX3_weigh 126 = .ok (.aload_n 3, 1) := by decide +kernel
theorem dX3_weigh_127 : decode cX3_weigh 127 = .ok (.iload 6, 2) := by decide +kernel
theorem dX3_weigh_129 : decode cX3_weigh 129 = .ok (.laload, 1) := by decide +kernel
theorem dX3_weigh_130 : decode cX3_weigh 130 = .ok (.ldc2_w 21, 3) := by decide +kernel
theorem dX3_weigh_133 : decode cX3_weigh 133 = .ok (.lmul, 1) := by decide +kernel
theorem dX3_weigh_134 : decode cX3_weigh 134 = .ok (.lload 4, 2) := by decide +kernel
theorem dX3_weigh_136 : decode cX3_weigh 136 = .ok (.ldiv, 1) := by decide +kernel
theorem dX3_weigh_137 : decode cX3_weigh 137 = .ok (.lastore, 1) := by decide +kernel
theorem dX3_weigh_138 : decode cX3_weigh 138 = .ok (.iinc 6 1, 3) := by decide +kernel
theorem dX3_weigh_141 : decode cX3_weigh 141 = .ok (.goto (-29), 3) := by decide +kernel
theorem dX3_weigh_144 : decode cX3_weigh 144 = .ok (.iconst 1, 1) := by decide +kernel
theorem dX3_weigh_145 : decode cX3_weigh 145 = .ok (.ireturn, 1) := by decide +kernel
theorem dX3_weightAt_0 : decode cX3_weightAt 0 = .ok (.iload_n 1, 1) := by decide +kernel
theorem dX3_weightAt_1 : decode cX3_weightAt 1 = .ok (.iconst 4, 1) := by decide +kernel
theorem dX3_weightAt_2 : decode cX3_weightAt 2 = .ok (.imul, 1) := by decide +kernel
theorem dX3_weightAt_3 : decode cX3_weightAt 3 = .ok (.istore_n 3, 1) := by decide +kernel
theorem dX3_weightAt_4 : decode cX3_weightAt 4 = .ok (.iload_n 2, 1) := by decide +kernel
theorem dX3_weightAt_5 : decode cX3_weightAt 5 = .ok (.ifCond .lt 17, 3) := by decide +kernel
theorem dX3_weightAt_8 : decode cX3_weightAt 8 = .ok (.iload_n 2, 1) := by decide +kernel
theorem dX3_weightAt_9 : decode cX3_weightAt 9 = .ok (.iconst 4, 1) := by decide +kernel
theorem dX3_weightAt_10 : decode cX3_weightAt 10 = .ok (.if_icmp .ge 12, 3) := by decide +kernel
theorem dX3_weightAt_13 : decode cX3_weightAt 13 = .ok (.aload_n 0, 1) := by decide +kernel
theorem dX3_weightAt_14 : decode cX3_weightAt 14 = .ok (.getfield 9, 3) := by decide +kernel
theorem dX3_weightAt_17 : decode cX3_weightAt 17 = .ok (.iload_n 3, 1) := by decide +kernel
theorem dX3_weightAt_18 : decode cX3_weightAt 18 = .ok (.iload_n 2, 1) := by decide +kernel
theorem dX3_weightAt_19 : decode cX3_weightAt 19 = .ok (.iadd, 1) := by decide +kernel
theorem dX3_weightAt_20 : decode cX3_weightAt 20 = .ok (.laload, 1) := by decide +kernel
theorem dX3_weightAt_21 : decode cX3_weightAt 21 = .ok (.lreturn, 1) := by decide +kernel
theorem dX3_weightAt_22 : decode cX3_weightAt 22 = .ok (.aload_n 0, 1) := by decide +kernel
theorem dX3_weightAt_23 : decode cX3_weightAt 23 = .ok (.getfield 9, 3) := by decide +kernel
theorem dX3_weightAt_26 : decode cX3_weightAt 26 = .ok (.iload_n 3, 1) := by decide +kernel
theorem dX3_weightAt_27 : decode cX3_weightAt 27 = .ok (.laload, 1) := by decide +kernel
theorem dX3_weightAt_28 : decode cX3_weightAt 28 = .ok (.aload_n 0, 1) := by decide +kernel
theorem dX3_weightAt_29 : decode cX3_weightAt 29 = .ok (.getfield 9, 3) := by decide +kernel
theorem dX3_weightAt_32 : decode cX3_weightAt 32 = .ok (.iload_n 3, 1) := by decide +kernel
theorem dX3_weightAt_33 : decode cX3_weightAt 33 = .ok (.iconst 1, 1) := by decide +kernel
theorem dX3_weightAt_34 : decode cX3_weightAt 34 = .ok (.iadd, 1) := by decide +kernel
theorem dX3_weightAt_35 : decode cX3_weightAt 35 = .ok (.laload, 1) := by decide +kernel
theorem dX3_weightAt_36 : decode cX3_weightAt 36 = .ok (.ladd, 1) := by decide +kernel
theorem dX3_weightAt_37 : decode cX3_weightAt 37 = .ok (.aload_n 0, 1) := by decide +kernel
theorem dX3_weightAt_38 : decode cX3_weightAt 38 = .ok (.getfield 9, 3) := by decide +kernel
theorem dX3_weightAt_41 : decode cX3_weightAt 41 = .ok (.iload_n 3, 1) := by decide +kernel
theorem dX3_weightAt_42 : decode cX3_weightAt 42 = .ok (.iconst 2, 1) := by decide +kernel
theorem dX3_weightAt_43 : decode cX3_weightAt 43 = .ok (.iadd, 1) := by decide +kernel
theorem dX3_weightAt_44 : decode cX3_weightAt 44 = .ok (.laload, 1) := by decide +kernel
theorem dX3_weightAt_45 : decode cX3_weightAt 45 = .ok (.ladd, 1) := by decide +kernel
theorem dX3_weightAt_46 : decode cX3_weightAt 46 = .ok (.aload_n 0, 1) := by decide +kernel
theorem dX3_weightAt_47 : decode cX3_weightAt 47 = .ok (.getfield 9, 3) := by decide +kernel
theorem dX3_weightAt_50 : decode cX3_weightAt 50 = .ok (.iload_n 3, 1) := by decide +kernel
theorem dX3_weightAt_51 : decode cX3_weightAt 51 = .ok (.iconst 3, 1) := by decide +kernel
theorem dX3_weightAt_52 : decode cX3_weightAt 52 = .ok (.iadd, 1) := by decide +kernel
theorem dX3_weightAt_53 : decode cX3_weightAt 53 = .ok (.laload, 1) := by decide +kernel
theorem dX3_weightAt_54 : decode cX3_weightAt 54 = .ok (.ladd, 1) := by decide +kernel
theorem dX3_weightAt_55 : decode cX3_weightAt 55 = .ok (.lreturn, 1) := by decide +kernel
theorem dX3_inArea_0 : decode cX3_inArea 0 = .ok (.lconst 0, 1) := by decide +kernel
theorem dX3_inArea_1 : decode cX3_inArea 1 = .ok (.lstore 4, 2) := by decide +kernel
theorem dX3_inArea_3 : decode cX3_inArea 3 = .ok (.iload_n 1, 1) := by decide +kernel
theorem dX3_inArea_4 : decode cX3_inArea 4 = .ok (.bipush 12, 2) := by decide +kernel
theorem dX3_inArea_6 : decode cX3_inArea 6 = .ok (.idiv, 1) := by decide +kernel
theorem dX3_inArea_7 : decode cX3_inArea 7 = .ok (.istore 6, 2) := by decide +kernel
theorem dX3_inArea_9 : decode cX3_inArea 9 = .ok (.iload 6, 2) := by decide +kernel
theorem dX3_inArea_11 : decode cX3_inArea 11 = .ok (.iload_n 2, 1) := by decide +kernel
theorem dX3_inArea_12 : decode cX3_inArea 12 = .ok (.bipush 12, 2) := by decide +kernel
theorem dX3_inArea_14 : decode cX3_inArea 14 = .ok (.idiv, 1) := by decide +kernel
theorem dX3_inArea_15 : decode cX3_inArea 15 = .ok (.if_icmp .gt 55, 3) := by decide +kernel
theorem dX3_inArea_18 : decode cX3_inArea 18 = .ok (.iload 6, 2) := by decide +kernel
theorem dX3_inArea_20 : decode cX3_inArea 20 = .ok (.bipush 12, 2) := by decide +kernel
theorem dX3_inArea_22 : decode cX3_inArea 22 = .ok (.if_icmp .ge 48, 3) := by decide +kernel
theorem dX3_inArea_25 : decode cX3_inArea 25 = .ok (.iload_n 1, 1) := by decide +kernel
theorem dX3_inArea_26 : decode cX3_inArea 26 = .ok (.bipush 12, 2) := by decide +kernel
theorem dX3_inArea_28 : decode cX3_inArea 28 = .ok (.irem, 1) := by decide +kernel
theorem dX3_inArea_29 : decode cX3_inArea 29 = .ok (.istore 7, 2) := by decide +kernel
theorem dX3_inArea_31 : decode cX3_inArea 31 = .ok (.iload 7, 2) := by decide +kernel
theorem dX3_inArea_33 : decode cX3_inArea 33 = .ok (.iload_n 2, 1) := by decide +kernel
theorem dX3_inArea_34 : decode cX3_inArea 34 = .ok (.bipush 12, 2) := by decide +kernel
theorem dX3_inArea_36 : decode cX3_inArea 36 = .ok (.irem, 1) := by decide +kernel
theorem dX3_inArea_37 : decode cX3_inArea 37 = .ok (.if_icmp .gt 27, 3) := by decide +kernel
theorem dX3_inArea_40 : decode cX3_inArea 40 = .ok (.lload 4, 2) := by decide +kernel
theorem dX3_inArea_42 : decode cX3_inArea 42 = .ok (.aload_n 0, 1) := by decide +kernel
theorem dX3_inArea_43 : decode cX3_inArea 43 = .ok (.iload 6, 2) := by decide +kernel
theorem dX3_inArea_45 : decode cX3_inArea 45 = .ok (.bipush 12, 2) := by decide +kernel
theorem dX3_inArea_47 : decode cX3_inArea 47 = .ok (.imul, 1) := by decide +kernel
theorem dX3_inArea_48 : decode cX3_inArea 48 = .ok (.iload 7, 2) := by decide +kernel
theorem dX3_inArea_50 : decode cX3_inArea 50 = .ok (.iadd, 1) := by decide +kernel
theorem dX3_inArea_51 : decode cX3_inArea 51 = .ok (.iload_n 3, 1) := by decide +kernel
theorem dX3_inArea_52 : decode cX3_inArea 52 = .ok (.invokevirtual 107, 3) := by decide +kernel
theorem dX3_inArea_55 : decode cX3_inArea 55 = .ok (.ladd, 1) := by decide +kernel
theorem dX3_inArea_56 : decode cX3_inArea 56 = .ok (.lstore 4, 2) := by decide +kernel
theorem dX3_inArea_58 : decode cX3_inArea 58 = .ok (.iinc 7 1, 3) := by decide +kernel
theorem dX3_inArea_61 : decode cX3_inArea 61 = .ok (.goto (-30), 3) := by decide +kernel
theorem dX3_inArea_64 : decode cX3_inArea 64 = .ok (.iinc 6 1, 3) := by decide +kernel
theorem dX3_inArea_67 : decode cX3_inArea 67 = .ok (.goto (-58), 3) := by decide +kernel
theorem dX3_inArea_70 : decode cX3_inArea 70 = .ok (.lload 4, 2) := by decide +kernel
theorem dX3_inArea_72 : decode cX3_inArea 72 = .ok (.lreturn, 1) := by decide +kernel
theorem dX3_onPath_0 : decode cX3_onPath 0 = .ok (.lconst 0, 1) := by decide +kernel
theorem dX3_onPath_1 : decode cX3_onPath 1 = .ok (.lstore_n 2, 1) := by decide +kernel
theorem dX3_onPath_2 : decode cX3_onPath 2 = .ok (.iconst 0, 1) := by decide +kernel
theorem dX3_onPath_3 : decode cX3_onPath 3 = .ok (.istore 4, 2) := by decide +kernel
theorem dX3_onPath_5 : decode cX3_onPath 5 = .ok (.iload 4, 2) := by decide +kernel
theorem dX3_onPath_7 : decode cX3_onPath 7 = .ok (.aload_n 1, 1) := by decide +kernel
theorem dX3_onPath_8 : decode cX3_onPath 8 = .ok (.getfield 74, 3) := by decide +kernel
theorem dX3_onPath_11 : decode cX3_onPath 11 = .ok (.if_icmp .ge 44, 3) := by decide +kernel
theorem dX3_onPath_14 : decode cX3_onPath 14 = .ok (.lload_n 2, 1) := by decide +kernel
theorem dX3_onPath_15 : decode cX3_onPath 15 = .ok (.aload_n 1, 1) := by decide +kernel
theorem dX3_onPath_16 : decode cX3_onPath 16 = .ok (.getfield 111, 3) := by decide +kernel
theorem dX3_onPath_19 : decode cX3_onPath 19 = .ok (.aload_n 1, 1) := by decide +kernel
theorem dX3_onPath_20 : decode cX3_onPath 20 = .ok (.getfield 79, 3) := by decide +kernel
theorem dX3_onPath_23 : decode cX3_onPath 23 = .ok (.iload 4, 2) := by decide +kernel
theorem dX3_onPath_25 : decode cX3_onPath 25 = .ok (.iaload, 1) := by decide +kernel
theorem dX3_onPath_26 : decode cX3_onPath 26 = .ok (.iaload, 1) := by decide +kernel
theorem dX3_onPath_27 : decode cX3_onPath 27 = .ok (.iconst 1, 1) := by decide +kernel
theorem dX3_onPath_28 : decode cX3_onPath 28 = .ok (.if_icmp .ne 18, 3) := by decide +kernel
theorem dX3_onPath_31 : decode cX3_onPath 31 = .ok (.aload_n 0, 1) := by decide +kernel
theorem dX3_onPath_32 : decode cX3_onPath 32 = .ok (.aload_n 1, 1) := by decide +kernel
theorem dX3_onPath_33 : decode cX3_onPath 33 = .ok (.getfield 79, 3) := by decide +kernel
theorem dX3_onPath_36 : decode cX3_onPath 36 = .ok (.iload 4, 2) := by decide +kernel
theorem dX3_onPath_38 : decode cX3_onPath 38 = .ok (.iaload, 1) := by decide +kernel
theorem dX3_onPath_39 : decode cX3_onPath 39 = .ok (.iconst (-1), 1) := by decide +kernel
theorem dX3_onPath_40 : decode cX3_onPath 40 = .ok (.invokevirtual 107, 3) := by decide +kernel
theorem dX3_onPath_43 : decode cX3_onPath 43 = .ok (.goto 4, 3) := by decide +kernel
theorem dX3_onPath_46 : decode cX3_onPath 46 = .ok (.lconst 0, 1) := by decide +kernel
theorem dX3_onPath_47 : decode cX3_onPath 47 = .ok (.ladd, 1) := by decide +kernel
theorem dX3_onPath_48 : decode cX3_onPath 48 = .ok (.lstore_n 2, 1) := by decide +kernel
theorem dX3_onPath_49 : decode cX3_onPath 49 = .ok (.iinc 4 1, 3) := by decide +kernel
theorem dX3_onPath_52 : decode cX3_onPath 52 = .ok (.goto (-47), 3) := by decide +kernel
theorem dX3_onPath_55 : decode cX3_onPath 55 = .ok (.lload_n 2, 1) := by decide +kernel
theorem dX3_onPath_56 : decode cX3_onPath 56 = .ok (.lreturn, 1) := by decide +kernel
theorem dX3_surest_0 : decode cX3_surest 0 = .ok (.aload_n 1, 1) := by decide +kernel
theorem dX3_surest_1 : decode cX3_surest 1 = .ok (.getfield 114, 3) := by decide +kernel
theorem dX3_surest_4 : decode cX3_surest 4 = .ok (.istore_n 2, 1) := by decide +kernel
theorem dX3_surest_5 : decode cX3_surest 5 = .ok (.lconst 0, 1) := by decide +kernel
theorem dX3_surest_6 : decode cX3_surest 6 = .ok (.lstore_n 3, 1) := by decide +kernel
theorem dX3_surest_7 : decode cX3_surest 7 = .ok (.iconst 0, 1) := by decide +kernel
theorem dX3_surest_8 : decode cX3_surest 8 = .ok (.istore 5, 2) := by decide +kernel
theorem dX3_surest_10 : decode cX3_surest 10 = .ok (.iload 5, 2) := by decide +kernel
theorem dX3_surest_12 : decode cX3_surest 12 = .ok (.aload_n 1, 1) := by decide +kernel
theorem dX3_surest_13 : decode cX3_surest 13 = .ok (.getfield 74, 3) := by decide +kernel
theorem dX3_surest_16 : decode cX3_surest 16 = .ok (.if_icmp .ge 41, 3) := by decide +kernel
theorem dX3_surest_19 : decode cX3_surest 19 = .ok (.aload_n 0, 1) := by decide +kernel
theorem dX3_surest_20 : decode cX3_surest 20 = .ok (.aload_n 1, 1) := by decide +kernel
theorem dX3_surest_21 : decode cX3_surest 21 = .ok (.getfield 79, 3) := by decide +kernel
theorem dX3_surest_24 : decode cX3_surest 24 = .ok (.iload 5, 2) := by decide +kernel
theorem dX3_surest_26 : decode cX3_surest 26 = .ok (.iaload, 1) := by decide +kernel
theorem dX3_surest_27 : decode cX3_surest 27 = .ok (.iconst (-1), 1) := by decide +kernel
theorem dX3_surest_28 : decode cX3_surest 28 = .ok (.invokevirtual 107, 3) := by decide +kernel
theorem dX3_surest_31 : decode cX3_surest 31 = .ok (.lstore 6, 2) := by decide +kernel
theorem dX3_surest_33 : decode cX3_surest 33 = .ok (.lload 6, 2) := by decide +kernel
theorem dX3_surest_35 : decode cX3_surest 35 = .ok (.lload_n 3, 1) := by decide +kernel
theorem dX3_surest_36 : decode cX3_surest 36 = .ok (.lcmp, 1) := by decide +kernel
theorem dX3_surest_37 : decode cX3_surest 37 = .ok (.ifCond .le 14, 3) := by decide +kernel
theorem dX3_surest_40 : decode cX3_surest 40 = .ok (.lload 6, 2) := by decide +kernel
theorem dX3_surest_42 : decode cX3_surest 42 = .ok (.lstore_n 3, 1) := by decide +kernel
theorem dX3_surest_43 : decode cX3_surest 43 = .ok (.aload_n 1, 1) := by decide +kernel
theorem dX3_surest_44 : decode cX3_surest 44 = .ok (.getfield 79, 3) := by decide +kernel
theorem dX3_surest_47 : decode cX3_surest 47 = .ok (.iload 5, 2) := by decide +kernel
theorem dX3_surest_49 : decode cX3_surest 49 = .ok (.iaload, 1) := by decide +kernel
theorem dX3_surest_50 : decode cX3_surest 50 = .ok (.istore_n 2, 1) := by decide +kernel
theorem dX3_surest_51 : decode cX3_surest 51 = .ok (.iinc 5 1, 3) := by decide +kernel
theorem dX3_surest_54 : decode cX3_surest 54 = .ok (.goto (-44), 3) := by decide +kernel
theorem dX3_surest_57 : decode cX3_surest 57 = .ok (.iload_n 2, 1) := by decide +kernel
theorem dX3_surest_58 : decode cX3_surest 58 = .ok (.ireturn, 1) := by decide +kernel
theorem dX3_sure_0 : decode cX3_sure 0 = .ok (.aload_n 0, 1) := by decide +kernel
theorem dX3_sure_1 : decode cX3_sure 1 = .ok (.aload_n 0, 1) := by decide +kernel
theorem dX3_sure_2 : decode cX3_sure 2 = .ok (.aload_n 1, 1) := by decide +kernel
theorem dX3_sure_3 : decode cX3_sure 3 = .ok (.invokevirtual 117, 3) := by decide +kernel
theorem dX3_sure_6 : decode cX3_sure 6 = .ok (.iconst (-1), 1) := by decide +kernel
theorem dX3_sure_7 : decode cX3_sure 7 = .ok (.invokevirtual 107, 3) := by decide +kernel
theorem dX3_sure_10 : decode cX3_sure 10 = .ok (.ldc2_w 121, 3) := by decide +kernel
theorem dX3_sure_13 : decode cX3_sure 13 = .ok (.ldiv, 1) := by decide +kernel
theorem dX3_sure_14 : decode cX3_sure 14 = .ok (.l2i, 1) := by decide +kernel
theorem dX3_sure_15 : decode cX3_sure 15 = .ok (.ireturn, 1) := by decide +kernel
theorem dX3_risk_0 : decode cX3_risk 0 = .ok (.lconst 0, 1) := by decide +kernel
theorem dX3_risk_1 : decode cX3_risk 1 = .ok (.lstore_n 2, 1) := by decide +kernel
theorem dX3_risk_2 : decode cX3_risk 2 = .ok (.iconst 0, 1) := by decide +kernel
theorem dX3_risk_3 : decode cX3_risk 3 = .ok (.istore 4, 2) := by decide +kernel
theorem dX3_risk_5 : decode cX3_risk 5 = .ok (.iload 4, 2) := by decide +kernel
theorem dX3_risk_7 : decode cX3_risk 7 = .ok (.aload_n 1, 1) := by decide +kernel
theorem dX3_risk_8 : decode cX3_risk 8 = .ok (.getfield 74, 3) := by decide +kernel
theorem dX3_risk_11 : decode cX3_risk 11 = .ok (.if_icmp .ge 41, 3) := by decide +kernel
theorem dX3_risk_14 : decode cX3_risk 14 = .ok (.aload_n 1, 1) := by decide +kernel
theorem dX3_risk_15 : decode cX3_risk 15 = .ok (.getfield 79, 3) := by decide +kernel
theorem dX3_risk_18 : decode cX3_risk 18 = .ok (.iload 4, 2) := by decide +kernel
theorem dX3_risk_20 : decode cX3_risk 20 = .ok (.iaload, 1) := by decide +kernel
theorem dX3_risk_21 : decode cX3_risk 21 = .ok (.istore 5, 2) := by decide +kernel
theorem dX3_risk_23 : decode cX3_risk 23 = .ok (.lload_n 2, 1) := by decide +kernel
theorem dX3_risk_24 : decode cX3_risk 24 = .ok (.aload_n 0, 1) := by decide +kernel
theorem dX3_risk_25 : decode cX3_risk 25 = .ok (.iload 5, 2) := by decide +kernel
theorem dX3_risk_27 : decode cX3_risk 27 = .ok (.iconst (-1), 1) := by decide +kernel
theorem dX3_risk_28 : decode cX3_risk 28 = .ok (.invokevirtual 107, 3) := by decide +kernel
theorem dX3_risk_31 : decode cX3_risk 31 = .ok (.aload_n 1, 1) := by decide +kernel
theorem dX3_risk_32 : decode cX3_risk 32 = .ok (.getfield 123, 3) := by decide +kernel
theorem dX3_risk_35 : decode cX3_risk 35 = .ok (.iload 5, 2) := by decide +kernel
theorem dX3_risk_37 : decode cX3_risk 37 = .ok (.iaload, 1) := by decide +kernel
theorem dX3_risk_38 : decode cX3_risk 38 = .ok (.i2l, 1) := by decide +kernel
theorem dX3_risk_39 : decode cX3_risk 39 = .ok (.lmul, 1) := by decide +kernel
theorem dX3_risk_40 : decode cX3_risk 40 = .ok (.ldc2_w 93, 3) := by decide +kernel
theorem dX3_risk_43 : decode cX3_risk 43 = .ok (.ldiv, 1) := by decide +kernel
theorem dX3_risk_44 : decode cX3_risk 44 = .ok (.ladd, 1) := by decide +kernel
theorem dX3_risk_45 : decode cX3_risk 45 = .ok (.lstore_n 2, 1) := by decide +kernel
theorem dX3_risk_46 : decode cX3_risk 46 = .ok (.iinc 4 1, 3) := by decide +kernel
theorem dX3_risk_49 : decode cX3_risk 49 = .ok (.goto (-44), 3) := by decide +kernel
theorem dX3_risk_52 : decode cX3_risk 52 = .ok (.lload_n 2, 1) := by decide +kernel
theorem dX3_risk_53 : decode cX3_risk 53 = .ok (.lreturn, 1) := by decide +kernel
theorem dX3_takeFrom_0 : decode cX3_takeFrom 0 = .ok (.aload_n 0, 1) := by decide +kernel
theorem dX3_takeFrom_1 : decode cX3_takeFrom 1 = .ok (.iload_n 1, 1) := by decide +kernel
theorem dX3_takeFrom_2 : decode cX3_takeFrom 2 = .ok (.iconst (-1), 1) := by decide +kernel
theorem dX3_takeFrom_3 : decode cX3_takeFrom 3 = .ok (.invokevirtual 107, 3) := by decide +kernel
theorem dX3_takeFrom_6 : decode cX3_takeFrom 6 = .ok (.lstore_n 2, 1) := by decide +kernel
theorem dX3_takeFrom_7 : decode cX3_takeFrom 7 = .ok (.aload_n 0, 1) := by decide +kernel
theorem dX3_takeFrom_8 : decode cX3_takeFrom 8 = .ok (.getfield 9, 3) := by decide +kernel
theorem dX3_takeFrom_11 : decode cX3_takeFrom 11 = .ok (.iload_n 1, 1) := by decide +kernel
theorem dX3_takeFrom_12 : decode cX3_takeFrom 12 = .ok (.iconst 4, 1) := by decide +kernel
theorem dX3_takeFrom_13 : decode cX3_takeFrom 13 = .ok (.imul, 1) := by decide +kernel
theorem dX3_takeFrom_14 : decode cX3_takeFrom 14 = .ok (.iload_n 1, 1) := by decide +kernel
theorem dX3_takeFrom_15 : decode cX3_takeFrom 15 = .ok (.iconst 4, 1) := by decide +kernel
theorem dX3_takeFrom_16 : decode cX3_takeFrom 16 = .ok (.imul, 1) := by decide +kernel
theorem dX3_takeFrom_17 : decode cX3_takeFrom 17 = .ok (.iconst 4, 1) := by decide +kernel
theorem dX3_takeFrom_18 : decode cX3_takeFrom 18 = .ok (.iadd, 1) := by decide +kernel
theorem dX3_takeFrom_19 : decode cX3_takeFrom 19 = .ok (.lconst 0, 1) := by decide +kernel
theorem dX3_takeFrom_20 : decode cX3_takeFrom 20 = .ok (.invokestatic 126, 3) := by decide +kernel
theorem dX3_takeFrom_23 : decode cX3_takeFrom 23 = .ok (.lload_n 2, 1) := by decide +kernel
theorem dX3_takeFrom_24 : decode cX3_takeFrom 24 = .ok (.lreturn, 1) := by decide +kernel
theorem dX4_init_0 : decode cX4_init 0 = .ok (.aload_n 0, 1) := by decide +kernel
theorem dX4_init_1 : decode cX4_init 1 = .ok (.invokespecial 3, 3) := by decide +kernel
theorem dX4_init_4 : decode cX4_init 4 = .ok (.aload_n 0, 1) := by decide +kernel
theorem dX4_init_5 : decode cX4_init 5 = .ok (.sipush 400, 3) := by decide +kernel
theorem dX4_init_8 : decode cX4_init 8 = .ok (.newarray .int, 2) := by decide +kernel
theorem dX4_init_10 : decode cX4_init 10 = .ok (.putfield 9, 3) := by decide +kernel
theorem dX4_init_13 : decode cX4_init 13 = .ok (.aload_n 0, 1) := by decide +kernel
theorem dX4_init_14 : decode cX4_init 14 = .ok (.ldc 15, 2) := by decide +kernel
theorem dX4_init_16 : decode cX4_init 16 = .ok (.putfield 17, 3) := by decide +kernel
theorem dX4_init_19 : decode cX4_init 19 = .ok (.aload_n 0, 1) := by decide +kernel
theorem dX4_init_20 : decode cX4_init 20 = .ok (.new 21, 3) := by decide +kernel
theorem dX4_init_23 : decode cX4_init 23 = .ok (.dup, 1) := by decide +kernel
theorem dX4_init_24 : decode cX4_init 24 = .ok (.invokespecial 23, 3) := by decide +kernel
theorem dX4_init_27 : decode cX4_init 27 = .ok (.putfield 24, 3) := by decide +kernel
theorem dX4_init_30 : decode cX4_init 30 = .ok (.return_, 1) := by decide +kernel
theorem dX4_put_0 : decode cX4_put 0 = .ok (.bipush 24, 2) := by decide +kernel
theorem dX4_put_2 : decode cX4_put 2 = .ok (.istore_n 2, 1) := by decide +kernel
theorem dX4_put_3 : decode cX4_put 3 = .ok (.iload_n 2, 1) := by decide +kernel
theorem dX4_put_4 : decode cX4_put 4 = .ok (.ifCond .lt 45, 3) := by decide +kernel
theorem dX4_put_7 : decode cX4_put 7 = .ok (.aload_n 0, 1) := by decide +kernel
theorem dX4_put_8 : decode cX4_put 8 = .ok (.getfield 28, 3) := by decide +kernel
theorem dX4_put_11 : decode cX4_put 11 = .ok (.sipush 400, 3) := by decide +kernel
theorem dX4_put_14 : decode cX4_put 14 = .ok (.if_icmp .ge 35, 3) := by decide +kernel
theorem dX4_put_17 : decode cX4_put 17 = .ok (.aload_n 0, 1) := by decide +kernel
theorem dX4_put_18 : decode cX4_put 18 = .ok (.getfield 9, 3) := by decide +kernel
theorem dX4_put_21 : decode cX4_put 21 = .ok (.aload_n 0, 1) := by decide +kernel
theorem dX4_put_22 : decode cX4_put 22 = .ok (.getfield 28, 3) := by decide +kernel
theorem dX4_put_25 : decode cX4_put 25 = .ok (.iload_n 1, 1) := by decide +kernel
theorem dX4_put_26 : decode cX4_put 26 = .ok (.iload_n 2, 1) := by decide +kernel
theorem dX4_put_27 : decode cX4_put 27 = .ok (.ishr, 1) := by decide +kernel
theorem dX4_put_28 : decode cX4_put 28 = .ok (.sipush 255, 3) := by decide +kernel
theorem dX4_put_31 : decode cX4_put 31 = .ok (.iand, 1) := by decide +kernel
theorem dX4_put_32 : decode cX4_put 32 = .ok (.iastore, 1) := by decide +kernel
theorem dX4_put_33 : decode cX4_put 33 = .ok (.aload_n 0, 1) := by decide +kernel
theorem dX4_put_34 : decode cX4_put 34 = .ok (.dup, 1) := by decide +kernel
theorem dX4_put_35 : decode cX4_put 35 = .ok (.getfield 28, 3) := by decide +kernel
theorem dX4_put_38 : decode cX4_put 38 = .ok (.iconst 1, 1) := by decide +kernel
theorem dX4_put_39 : decode cX4_put 39 = .ok (.iadd, 1) := by decide +kernel
theorem dX4_put_40 : decode cX4_put 40 = .ok (.putfield 28, 3) := by decide +kernel
theorem dX4_put_43 : decode cX4_put 43 = .ok (.iinc 2 (-8), 3) := by decide +kernel
theorem dX4_put_46 : decode cX4_put 46 = .ok (.goto (-43), 3) := by decide +kernel
theorem dX4_put_49 : decode cX4_put 49 = .ok (.return_, 1) := by decide +kernel
theorem dX4_start_0 : decode cX4_start 0 = .ok (.aload_n 0, 1) := by decide +kernel
theorem dX4_start_1 : decode cX4_start 1 = .ok (.iconst 0, 1) := by decide +kernel
theorem dX4_start_2 : decode cX4_start 2 = .ok (.putfield 32, 3) := by decide +kernel
theorem dX4_start_5 : decode cX4_start 5 = .ok (.aload_n 0, 1) := by decide +kernel
theorem dX4_start_6 : decode cX4_start 6 = .ok (.iconst 0, 1) := by decide +kernel
theorem dX4_start_7 : decode cX4_start 7 = .ok (.putfield 35, 3) := by decide +kernel
theorem dX4_start_10 : decode cX4_start 10 = .ok (.aload_n 0, 1) := by decide +kernel
theorem dX4_start_11 : decode cX4_start 11 = .ok (.iconst 0, 1) := by decide +kernel
theorem dX4_start_12 : decode cX4_start 12 = .ok (.putfield 38, 3) := by decide +kernel
theorem dX4_start_15 : decode cX4_start 15 = .ok (.aload_n 0, 1) := by decide +kernel
theorem dX4_start_16 : decode cX4_start 16 = .ok (.invokevirtual 41, 3) := by decide +kernel
theorem dX4_start_19 : decode cX4_start 19 = .ok (.return_, 1) := by decide +kernel
theorem dX4_next_0 : decode cX4_next 0 = .ok (.aload_n 0, 1) := by decide +kernel
theorem dX4_next_1 : decode cX4_next 1 = .ok (.getfield 32, 3) := by decide +kernel
theorem dX4_next_4 : decode cX4_next 4 = .ok (.ifCond .eq 10, 3) := by decide +kernel
theorem dX4_next_7 : decode cX4_next 7 = .ok (.aload_n 0, 1) := by decide +kernel
theorem dX4_next_8 : decode cX4_next 8 = .ok (.bipush (-2), 2) := by decide +kernel
theorem dX4_next_10 : decode cX4_next 10 = .ok (.putfield 44, 3) := by decide +kernel
theorem dX4_next_13 : decode cX4_next 13 = .ok (.return_, 1) := by decide +kernel
theorem dX4_next_14 : decode cX4_next 14 = .ok (.aload_n 0, 1) := by decide +kernel
theorem dX4_next_15 : decode cX4_next 15 = .ok (.getfield 35, 3) := by decide +kernel
theorem dX4_next_18 : decode cX4_next 18 = .ok (.istore_n 1, 1) := by decide +kernel
theorem dX4_next_19 : decode cX4_next 19 = .ok (.iload_n 1, 1) := by decide +kernel
theorem dX4_next_20 : decode cX4_next 20 = .ok (.aload_n 0, 1) := by decide +kernel
theorem dX4_next_21 : decode cX4_next 21 = .ok (.getfield 28, 3) := by decide +kernel
theorem dX4_next_24 : decode cX4_next 24 = .ok (.if_icmp .ge 20, 3) := by decide +kernel
theorem dX4_next_27 : decode cX4_next 27 = .ok (.aload_n 0, 1) := by decide +kernel
theorem dX4_next_28 : decode cX4_next 28 = .ok (.getfield 9, 3) := by decide +kernel
theorem dX4_next_31 : decode cX4_next 31 = .ok (.iload_n 1, 1) := by decide +kernel
theorem dX4_next_32 : decode cX4_next 32 = .ok (.iaload, 1) := by decide +kernel
theorem dX4_next_33 : decode cX4_next 33 = .ok (.bipush 32, 2) := by decide +kernel
theorem dX4_next_35 : decode cX4_next 35 = .ok (.if_icmp .ne 9, 3) := by decide +kernel
theorem dX4_next_38 : decode cX4_next 38 = .ok (.iinc 1 1, 3) := by decide +kernel
theorem dX4_next_41 : decode cX4_next 41 = .ok (.goto (-22), 3) := by decide +kernel
theorem dX4_next_44 : decode cX4_next 44 = .ok (.aload_n 0, 1) := by decide +kernel
theorem dX4_next_45 : decode cX4_next 45 = .ok (.iload_n 1, 1) := by decide +kernel
theorem dX4_next_46 : decode cX4_next 46 = .ok (.putfield 47, 3) := by decide +kernel
theorem dX4_next_49 : decode cX4_next 49 = .ok (.iload_n 1, 1) := by decide +kernel
theorem dX4_next_50 : decode cX4_next 50 = .ok (.aload_n 0, 1) := by decide +kernel
theorem dX4_next_51 : decode cX4_next 51 = .ok (.getfield 28, 3) := by decide +kernel
theorem dX4_next_54 : decode cX4_next 54 = .ok (.if_icmp .lt 14, 3) := by decide +kernel
theorem dX4_next_57 : decode cX4_next 57 = .ok (.aload_n 0, 1) := by decide +kernel
theorem dX4_next_58 : decode cX4_next 58 = .ok (.iconst (-1), 1) := by decide +kernel
theorem dX4_next_59 : decode cX4_next 59 = .ok (.putfield 44, 3) := by decide +kernel
theorem dX4_next_62 : decode cX4_next 62 = .ok (.aload_n 0, 1) := by decide +kernel
theorem dX4_next_63 : decode cX4_next 63 = .ok (.iload_n 1, 1) := by decide +kernel
theorem dX4_next_64 : decode cX4_next 64 = .ok (.putfield 35, 3) := by decide +kernel
theorem dX4_next_67 : decode cX4_next 67 = .ok (.return_, 1) := by decide +kernel
theorem dX4_next_68 : decode cX4_next 68 = .ok (.aload_n 0, 1) := by decide +kernel
theorem dX4_next_69 : decode cX4_next 69 = .ok (.aload_n 0, 1) := by decide +kernel
theorem dX4_next_70 : decode cX4_next 70 = .ok (.getfield 9, 3) := by decide +kernel
theorem dX4_next_73 : decode cX4_next 73 = .ok (.iload_n 1, 1) := by decide +kernel
theorem dX4_next_74 : decode cX4_next 74 = .ok (.iaload, 1) := by decide +kernel
theorem dX4_next_75 : decode cX4_next 75 = .ok (.putfield 44, 3) := by decide +kernel
theorem dX4_next_78 : decode cX4_next 78 = .ok (.iinc 1 1, 3) := by decide +kernel
theorem dX4_next_81 : decode cX4_next 81 = .ok (.aload_n 0, 1) := by decide +kernel
theorem dX4_next_82 : decode cX4_next 82 = .ok (.getfield 44, 3) := by decide +kernel
theorem dX4_next_85 : decode cX4_next 85 = .ok (.bipush 48, 2) := by decide +kernel
theorem dX4_next_87 : decode cX4_next 87 = .ok (.if_icmp .lt 54, 3) := by decide +kernel
theorem dX4_next_90 : decode cX4_next 90 = .ok (.aload_n 0, 1) := by decide +kernel
theorem dX4_next_91 : decode cX4_next 91 = .ok (.getfield 44, 3) := by decide +kernel
theorem dX4_next_94 : decode cX4_next 94 = .ok (.bipush 57, 2) := by decide +kernel
theorem dX4_next_96 : decode cX4_next 96 = .ok (.if_icmp .gt 45, 3) := by decide +kernel
theorem dX4_next_99 : decode cX4_next 99 = .ok (.aload_n 0, 1) := by decide +kernel
theorem dX4_next_100 : decode cX4_next 100 = .ok (.bipush 48, 2) := by decide +kernel
theorem dX4_next_102 : decode cX4_next 102 = .ok (.putfield 44, 3) := by decide +kernel
theorem dX4_next_105 : decode cX4_next 105 = .ok (.iload_n 1, 1) := by decide +kernel
theorem dX4_next_106 : decode cX4_next 106 = .ok (.aload_n 0, 1) := by decide +kernel
theorem dX4_next_107 : decode cX4_next 107 = .ok (.getfield 28, 3) := by decide +kernel
theorem dX4_next_110 : decode cX4_next 110 = .ok (.if_icmp .ge 151, 3) := by decide +kernel
theorem dX4_next_113 : decode cX4_next 113 = .ok (.aload_n 0, 1) := by decide +kernel
theorem dX4_next_114 : decode cX4_next 114 = .ok (.getfield 9, 3) := by decide +kernel
theorem dX4_next_117 : decode cX4_next 117 = .ok (.iload_n 1, 1) := by decide +kernel
theorem dX4_next_118 : decode cX4_next 118 = .ok (.iaload, 1) := by decide +kernel
theorem dX4_next_119 : decode cX4_next 119 = .ok (.bipush 48, 2) := by decide +kernel
theorem dX4_next_121 : decode cX4_next 121 = .ok (.if_icmp .lt 140, 3) := by decide +kernel
theorem dX4_next_124 : decode cX4_next 124 = .ok (.aload_n 0, 1) := by decide +kernel
theorem dX4_next_125 : decode cX4_next 125 = .ok (.getfield 9, 3) := by decide +kernel
theorem dX4_next_128 : decode cX4_next 128 = .ok (.iload_n 1, 1) := by decide +kernel
theorem dX4_next_129 : decode cX4_next 129 = .ok (.iaload, 1) := by decide +kernel
theorem dX4_next_130 : decode cX4_next 130 = .ok (.bipush 57, 2) := by decide +kernel
theorem dX4_next_132 : decode cX4_next 132 = .ok (.if_icmp .gt 129, 3) := by decide +kernel
theorem dX4_next_135 : decode cX4_next 135 = .ok (.iinc 1 1, 3) := by decide +kernel
theorem dX4_next_138 : decode cX4_next 138 = .ok (.goto (-33), 3) := by decide +kernel
theorem dX4_next_141 : decode cX4_next 141 = .ok (.aload_n 0, 1) := by decide +kernel
theorem dX4_next_142 : decode cX4_next 142 = .ok (.getfield 44, 3) := by decide +kernel
theorem dX4_next_145 : decode cX4_next 145 = .ok (.bipush 97, 2) := by decide +kernel
theorem dX4_next_147 : decode cX4_next 147 = .ok (.if_icmp .lt 54, 3) := by decide +kernel
theorem dX4_next_150 : decode cX4_next 150 = .ok (.aload_n 0, 1) := by decide +kernel
theorem dX4_next_151 : decode cX4_next 151 = .ok (.getfield 44, 3) := by decide +kernel
theorem dX4_next_154 : decode cX4_next 154 = .ok (.bipush 122, 2) := by decide +kernel
theorem dX4_next_156 : decode cX4_next 156 = .ok (.if_icmp .gt 45, 3) := by decide +kernel
theorem dX4_next_159 : decode cX4_next 159 = .ok (.aload_n 0, 1) := by decide +kernel
theorem dX4_next_160 : decode cX4_next 160 = .ok (.bipush 97, 2) := by decide +kernel
theorem dX4_next_162 : decode cX4_next 162 = .ok (.putfield 44, 3) := by decide +kernel
theorem dX4_next_165 : decode cX4_next 165 = .ok (.iload_n 1, 1) := by decide +kernel
theorem dX4_next_166 : decode cX4_next 166 = .ok (.aload_n 0, 1) := by decide +kernel
theorem dX4_next_167 : decode cX4_next 167 = .ok (.getfield 28, 3) := by decide +kernel
theorem dX4_next_170 : decode cX4_next 170 = .ok (.if_icmp .ge 91, 3) := by decide +kernel
theorem dX4_next_173 : decode cX4_next 173 = .ok (.aload_n 0, 1) := by decide +kernel
theorem dX4_next_174 : decode cX4_next 174 = .ok (.getfield 9, 3) := by decide +kernel
theorem dX4_next_177 : decode cX4_next 177 = .ok (.iload_n 1, 1) := by decide +kernel
theorem dX4_next_178 : decode cX4_next 178 = .ok (.iaload, 1) := by decide +kernel
theorem dX4_next_179 : decode cX4_next 179 = .ok (.bipush 97, 2) := by decide +kernel
theorem dX4_next_181 : decode cX4_next 181 = .ok (.if_icmp .lt 80, 3) := by decide +kernel
theorem dX4_next_184 : decode cX4_next 184 = .ok (.aload_n 0, 1) := by decide +kernel
theorem dX4_next_185 : decode cX4_next 185 = .ok (.getfield 9, 3) := by decide +kernel
theorem dX4_next_188 : decode cX4_next 188 = .ok (.iload_n 1, 1) := by decide +kernel
theorem dX4_next_189 : decode cX4_next 189 = .ok (.iaload, 1) := by decide +kernel
theorem dX4_next_190 : decode cX4_next 190 = .ok (.bipush 122, 2) := by decide +kernel
theorem dX4_next_192 : decode cX4_next 192 = .ok (.if_icmp .gt 69, 3) := by decide +kernel
theorem dX4_next_195 : decode cX4_next 195 = .ok (.iinc 1 1, 3) := by decide +kernel
theorem dX4_next_198 : decode cX4_next 198 = .ok (.goto (-33), 3) := by decide +kernel
theorem dX4_next_201 : decode cX4_next 201 = .ok (.aload_n 0, 1) := by decide +kernel
theorem dX4_next_202 : decode cX4_next 202 = .ok (.getfield 44, 3) := by decide +kernel
theorem dX4_next_205 : decode cX4_next 205 = .ok (.bipush 60, 2) := by decide +kernel
theorem dX4_next_207 : decode cX4_next 207 = .ok (.if_icmp .eq 12, 3) := by decide +kernel
theorem dX4_next_210 : decode cX4_next 210 = .ok (.aload_n 0, 1) := by decide +kernel
theorem dX4_next_211 : decode cX4_next 211 = .ok (.getfield 44, 3) := by decide +kernel
theorem dX4_next_214 : decode cX4_next 214 = .ok (.bipush 62, 2) := by decide +kernel
theorem dX4_next_216 : decode cX4_next 216 = .ok (.if_icmp .ne 45, 3) := by decide +kernel
theorem dX4_next_219 : decode cX4_next 219 = .ok (.iload_n 1, 1) := by decide +kernel
theorem dX4_next_220 : decode cX4_next 220 = .ok (.aload_n 0, 1) := by decide +kernel
theorem dX4_next_221 : decode cX4_next 221 = .ok (.getfield 28, 3) := by decide +kernel
theorem dX4_next_224 : decode cX4_next 224 = .ok (.if_icmp .ge 37, 3) := by decide +kernel
theorem dX4_next_227 : decode cX4_next 227 = .ok (.aload_n 0, 1) := by decide +kernel
theorem dX4_next_228 : decode cX4_next 228 = .ok (.getfield 9, 3) := by decide +kernel
theorem dX4_next_231 : decode cX4_next 231 = .ok (.iload_n 1, 1) := by decide +kernel
theorem dX4_next_232 : decode cX4_next 232 = .ok (.iaload, 1) := by decide +kernel
theorem dX4_next_233 : decode cX4_next 233 = .ok (.bipush 61, 2) := by decide +kernel
theorem dX4_next_235 : decode cX4_next 235 = .ok (.if_icmp .ne 26, 3) := by decide +kernel
theorem dX4_next_238 : decode cX4_next 238 = .ok (.aload_n 0, 1) := by decide +kernel
theorem dX4_next_239 : decode cX4_next 239 = .ok (.aload_n 0, 1) := by decide +kernel
theorem dX4_next_240 : decode cX4_next 240 = .ok (.getfield 44, 3) := by decide +kernel
theorem dX4_next_243 : decode cX4_next 243 = .ok (.bipush 60, 2) := by decide +kernel
theorem dX4_next_245 : decode cX4_next 245 = .ok (.if_icmp .ne 8, 3) := by decide +kernel
theorem dX4_next_248 : decode cX4_next 248 = .ok (.bipush 108, 2) := by decide +kernel
theorem dX4_next_250 : decode cX4_next 250 = .ok (.goto 5, 3) := by decide +kernel
theorem dX4_next_253 : decode cX4_next 253 = .ok (.bipush 103, 2) := by decide +kernel
theorem dX4_next_255 : decode cX4_next 255 = .ok (.putfield 44, 3) := by decide +kernel
theorem dX4_next_258 : decode cX4_next 258 = .ok (.iinc 1 1, 3) := by decide +kernel
theorem dX4_next_261 : decode cX4_next 261 = .ok (.aload_n 0, 1) := by decide +kernel
theorem dX4_next_262 : decode cX4_next 262 = .ok (.iload_n 1, 1) := by decide +kernel
theorem dX4_next_263 : decode cX4_next 263 = .ok (.putfield 35, 3) := by decide +kernel
theorem dX4_next_266 : decode cX4_next 266 = .ok (.return_, 1) := by decide +kernel
theorem dX4_refuse_0 : decode cX4_refuse 0 = .ok (.aload_n 0, 1) := by decide +kernel
theorem dX4_refuse_1 : decode cX4_refuse 1 = .ok (.getfield 32, 3) := by decide +kernel
theorem dX4_refuse_4 : decode cX4_refuse 4 = .ok (.ifCond .ne 18, 3) := by decide +kernel
theorem dX4_refuse_7 : decode cX4_refuse 7 = .ok (.aload_n 0, 1) := by decide +kernel
theorem dX4_refuse_8 : decode cX4_refuse 8 = .ok (.iconst 1, 1) := by decide +kernel
theorem dX4_refuse_9 : decode cX4_refuse 9 = .ok (.bipush 8, 2) := by decide +kernel
theorem dX4_refuse_11 : decode cX4_refuse 11 = .ok (.aload_n 0, 1) := by decide +kernel
theorem dX4_refuse_12 : decode cX4_refuse 12 = .ok (.getfield 47, 3) := by decide +kernel
theorem dX4_refuse_15 : decode cX4_refuse 15 = .ok (.imul, 1) := by decide +kernel
theorem dX4_refuse_16 : decode cX4_refuse 16 = .ok (.iadd, 1) := by decide +kernel
theorem dX4_refuse_17 : decode cX4_refuse 17 = .ok (.iload_n 1, 1) := by decide +kernel
theorem dX4_refuse_18 : decode cX4_refuse 18 = .ok (.iadd, 1) := by decide +kernel
theorem dX4_refuse_19 : decode cX4_refuse 19 = .ok (.putfield 32, 3) := by decide +kernel
theorem dX4_refuse_22 : decode cX4_refuse 22 = .ok (.aload_n 0, 1) := by decide +kernel
theorem dX4_refuse_23 : decode cX4_refuse 23 = .ok (.bipush (-2), 2) := by decide +kernel
theorem dX4_refuse_25 : decode cX4_refuse 25 = .ok (.putfield 44, 3) := by decide +kernel
theorem dX4_refuse_28 : decode cX4_refuse 28 = .ok (.return_, 1) := by decide +kernel
theorem dX4_wordIn_0 : decode cX4_wordIn 0 = .ok (.aload_n 0, 1) := by decide +kernel
theorem dX4_wordIn_1 : decode cX4_wordIn 1 = .ok (.getfield 44, 3) := by decide +kernel
theorem dX4_wordIn_4 : decode cX4_wordIn 4 = .ok (.bipush 97, 2) := by decide +kernel
theorem dX4_wordIn_6 : decode cX4_wordIn 6 = .ok (.if_icmp .eq 5, 3) := by decide +kernel
theorem dX4_wordIn_9 : decode cX4_wordIn 9 = .ok (.iconst (-1), 1) := by decide +kernel
theorem dX4_wordIn_10 : decode cX4_wordIn 10 = .ok (.ireturn, 1) := by decide +kernel
theorem dX4_wordIn_11 : decode cX4_wordIn 11 = .ok (.iconst 0, 1) := by decide +kernel
theorem dX4_wordIn_12 : decode cX4_wordIn 12 = .ok (.istore_n 2, 1) := by decide +kernel
theorem dX4_wordIn_13 : decode cX4_wordIn 13 = .ok (.aload_n 0, 1) := by decide +kernel
theorem dX4_wordIn_14 : decode cX4_wordIn 14 = .ok (.getfield 47, 3) := by decide +kernel
theorem dX4_wordIn_17 : decode cX4_wordIn 17 = .ok (.istore_n 3, 1) := by decide +kernel
theorem dX4_wordIn_18 : decode cX4_wordIn 18 = .ok (.iconst 1, 1) := by decide +kernel
theorem dX4_wordIn_19 : decode cX4_wordIn 19 = .ok (.istore 4, 2) := by decide +kernel
theorem dX4_wordIn_21 : decode cX4_wordIn 21 = .ok (.iconst 0, 1) := by decide +kernel
theorem dX4_wordIn_22 : decode cX4_wordIn 22 = .ok (.istore 5, 2) := by decide +kernel
theorem dX4_wordIn_24 : decode cX4_wordIn 24 = .ok (.iload 5, 2) := by decide +kernel
theorem dX4_wordIn_26 : decode cX4_wordIn 26 = .ok (.aload_n 1, 1) := by decide +kernel
theorem dX4_wordIn_27 : decode cX4_wordIn 27 = .ok (.invokevirtual 50, 3) := by decide +kernel
theorem dX4_wordIn_30 : decode cX4_wordIn 30 = .ok (.if_icmp .gt 103, 3) := by decide +kernel
theorem dX4_wordIn_33 : decode cX4_wordIn 33 = .ok (.iload 5, 2) := by decide +kernel
theorem dX4_wordIn_35 : decode cX4_wordIn 35 = .ok (.aload_n 1, 1) := by decide +kernel
theorem dX4_wordIn_36 : decode cX4_wordIn 36 = .ok (.invokevirtual 50, 3) := by decide +kernel
theorem dX4_wordIn_39 : decode cX4_wordIn 39 = .ok (.if_icmp .eq 14, 3) := by decide +kernel
theorem dX4_wordIn_42 : decode cX4_wordIn 42 = .ok (.aload_n 1, 1) := by decide +kernel
theorem dX4_wordIn_43 : decode cX4_wordIn 43 = .ok (.iload 5, 2) := by decide +kernel
theorem dX4_wordIn_45 : decode cX4_wordIn 45 = .ok (.invokevirtual 55, 3) := by decide +kernel
theorem dX4_wordIn_48 : decode cX4_wordIn 48 = .ok (.bipush 32, 2) := by decide +kernel
theorem dX4_wordIn_50 : decode cX4_wordIn 50 = .ok (.if_icmp .ne 32, 3) := by decide +kernel
theorem dX4_wordIn_53 : decode cX4_wordIn 53 = .ok (.iload 4, 2) := by decide +kernel
theorem dX4_wordIn_55 : decode cX4_wordIn 55 = .ok (.ifCond .eq 13, 3) := by decide +kernel
theorem dX4_wordIn_58 : decode cX4_wordIn 58 = .ok (.iload_n 3, 1) := by decide +kernel
theorem dX4_wordIn_59 : decode cX4_wordIn 59 = .ok (.aload_n 0, 1) := by decide +kernel
theorem dX4_wordIn_60 : decode cX4_wordIn 60 = .ok (.getfield 35, 3) := by decide +kernel
theorem dX4_wordIn_63 : decode cX4_wordIn 63 = .ok (.if_icmp .ne 5, 3) := by decide +kernel
theorem dX4_wordIn_66 : decode cX4_wordIn 66 = .ok (.iload_n 2, 1) := by decide +kernel
theorem dX4_wordIn_67 : decode cX4_wordIn 67 = .ok (.ireturn, 1) := by decide +kernel
theorem dX4_wordIn_68 : decode cX4_wordIn 68 = .ok (.iinc 2 1, 3) := by decide +kernel
theorem dX4_wordIn_71 : decode cX4_wordIn 71 = .ok (.aload_n 0, 1) := by decide +kernel
theorem dX4_wordIn_72 : decode cX4_wordIn 72 = .ok (.getfield 47, 3) := by decide +kernel
theorem dX4_wordIn_75 : decode cX4_wordIn 75 = .ok (.istore_n 3, 1) := by decide +kernel
theorem dX4_wordIn_76 : decode cX4_wordIn 76 = .ok (.iconst 1, 1) := by decide +kernel
theorem dX4_wordIn_77 : decode cX4_wordIn 77 = .ok (.istore 4, 2) := by decide +kernel
theorem dX4_wordIn_79 : decode cX4_wordIn 79 = .ok (.goto 48, 3) := by decide +kernel
theorem dX4_wordIn_82 : decode cX4_wordIn 82 = .ok (.iload 4, 2) := by decide +kernel
theorem dX4_wordIn_84 : decode cX4_wordIn 84 = .ok (.ifCond .eq 37, 3) := by decide +kernel
theorem dX4_wordIn_87 : decode cX4_wordIn 87 = .ok (.iload_n 3, 1) := by decide +kernel
theorem dX4_wordIn_88 : decode cX4_wordIn 88 = .ok (.aload_n 0, 1) := by decide +kernel
theorem dX4_wordIn_89 : decode cX4_wordIn 89 = .ok (.getfield 35, 3) := by decide +kernel
theorem dX4_wordIn_92 : decode cX4_wordIn 92 = .ok (.if_icmp .ge 29, 3) := by decide +kernel
theorem dX4_wordIn_95 : decode cX4_wordIn 95 = .ok (.iload_n 3, 1) := by decide +kernel
theorem dX4_wordIn_96 : decode cX4_wordIn 96 = .ok (.sipush 400, 3) := by decide +kernel
theorem dX4_wordIn_99 : decode cX4_wordIn 99 = .ok (.if_icmp .ge 22, 3) := by decide +kernel
theorem dX4_wordIn_102 : decode cX4_wordIn 102 = .ok (.aload_n 0, 1) := by decide +kernel
theorem dX4_wordIn_103 : decode cX4_wordIn 103 = .ok (.getfield 9, 3) := by decide +kernel
theorem dX4_wordIn_106 : decode cX4_wordIn 106 = .ok (.iload_n 3, 1) := by decide +kernel
theorem dX4_wordIn_107 : decode cX4_wordIn 107 = .ok (.iaload, 1) := by decide +kernel
theorem dX4_wordIn_108 : decode cX4_wordIn 108 = .ok (.aload_n 1, 1) := by decide +kernel
theorem dX4_wordIn_109 : decode cX4_wordIn 109 = .ok (.iload 5, 2) := by decide +kernel
theorem dX4_wordIn_111 : decode cX4_wordIn 111 = .ok (.invokevirtual 55, 3) := by decide +kernel
theorem dX4_wordIn_114 : decode cX4_wordIn 114 = .ok (.if_icmp .ne 7, 3) := by decide +kernel
theorem dX4_wordIn_117 : decode cX4_wordIn 117 = .ok (.iconst 1, 1) := by decide +kernel
theorem dX4_wordIn_118 : decode cX4_wordIn 118 = .ok (.goto 4, 3) := by decide +kernel
theorem dX4_wordIn_121 : decode cX4_wordIn 121 = .ok (.iconst 0, 1) := by decide +kernel
theorem dX4_wordIn_122 : decode cX4_wordIn 122 = .ok (.istore 4, 2) := by decide +kernel
theorem dX4_wordIn_124 : decode cX4_wordIn 124 = .ok (.iinc 3 1, 3) := by decide +kernel
theorem dX4_wordIn_127 : decode cX4_wordIn 127 = .ok (.iinc 5 1, 3) := by decide +kernel
theorem dX4_wordIn_130 : decode cX4_wordIn 130 = .ok (.goto (-106), 3) := by decide +kernel
theorem dX4_wordIn_133 : decode cX4_wordIn 133 = .ok (.iconst (-1), 1) := by decide +kernel
theorem dX4_wordIn_134 : decode cX4_wordIn 134 = .ok (.ireturn, 1) := by decide +kernel
theorem dX4_digits_0 : decode cX4_digits 0 = .ok (.iconst 0, 1) := by decide +kernel
theorem dX4_digits_1 : decode cX4_digits 1 = .ok (.istore_n 1, 1) := by decide +kernel
theorem dX4_digits_2 : decode cX4_digits 2 = .ok (.aload_n 0, 1) := by decide +kernel
theorem dX4_digits_3 : decode cX4_digits 3 = .ok (.getfield 47, 3) := by decide +kernel
theorem dX4_digits_6 : decode cX4_digits 6 = .ok (.istore_n 2, 1) := by decide +kernel
theorem dX4_digits_7 : decode cX4_digits 7 = .ok (.iload_n 2, 1) := by decide +kernel
theorem dX4_digits_8 : decode cX4_digits 8 = .ok (.aload_n 0, 1) := by decide +kernel
theorem dX4_digits_9 : decode cX4_digits 9 = .ok (.getfield 35, 3) := by decide +kernel
theorem dX4_digits_12 : decode cX4_digits 12 = .ok (.if_icmp .ge 41, 3) := by decide +kernel
theorem dX4_digits_15 : decode cX4_digits 15 = .ok (.iload_n 2, 1) := by decide +kernel
theorem dX4_digits_16 : decode cX4_digits 16 = .ok (.aload_n 0, 1) := by decide +kernel
theorem dX4_digits_17 : decode cX4_digits 17 = .ok (.getfield 47, 3) := by decide +kernel
theorem dX4_digits_20 : decode cX4_digits 20 = .ok (.iconst 5, 1) := by decide +kernel
theorem dX4_digits_21 : decode cX4_digits 21 = .ok (.iadd, 1) := by decide +kernel
theorem dX4_digits_22 : decode cX4_digits 22 = .ok (.if_icmp .ge 31, 3) := by decide +kernel
theorem dX4_digits_25 : decode cX4_digits 25 = .ok (.iload_n 2, 1) := by decide +kernel
theorem dX4_digits_26 : decode cX4_digits 26 = .ok (.sipush 400, 3) := by decide +kernel
theorem dX4_digits_29 : decode cX4_digits 29 = .ok (.if_icmp .ge 24, 3) := by decide +kernel
theorem dX4_digits_32 : decode cX4_digits 32 = .ok (.iload_n 1, 1) := by decide +kernel
theorem dX4_digits_33 : decode cX4_digits 33 = .ok (.bipush 10, 2) := by decide +kernel
theorem dX4_digits_35 : decode cX4_digits 35 = .ok (.imul, 1) := by decide +kernel
theorem dX4_digits_36 : decode cX4_digits 36 = .ok (.aload_n 0, 1) := by decide +kernel
theorem dX4_digits_37 : decode cX4_digits 37 = .ok (.getfield 9, 3) := by decide +kernel
theorem dX4_digits_40 : decode cX4_digits 40 = .ok (.iload_n 2, 1) := by decide +kernel
theorem dX4_digits_41 : decode cX4_digits 41 = .ok (.iaload, 1) := by decide +kernel
theorem dX4_digits_42 : decode cX4_digits 42 = .ok (.iadd, 1) := by decide +kernel
theorem dX4_digits_43 : decode cX4_digits 43 = .ok (.bipush 48, 2) := by decide +kernel
theorem dX4_digits_45 : decode cX4_digits 45 = .ok (.isub, 1) := by decide +kernel
theorem dX4_digits_46 : decode cX4_digits 46 = .ok (.istore_n 1, 1) := by decide +kernel
theorem dX4_digits_47 : decode cX4_digits 47 = .ok (.iinc 2 1, 3) := by decide +kernel
theorem dX4_digits_50 : decode cX4_digits 50 = .ok (.goto (-43), 3) := by decide +kernel
theorem dX4_digits_53 : decode cX4_digits 53 = .ok (.iload_n 1, 1) := by decide +kernel
theorem dX4_digits_54 : decode cX4_digits 54 = .ok (.ireturn, 1) := by decide +kernel
theorem dX4_number_0 : decode cX4_number 0 = .ok (.aload_n 0, 1) := by decide +kernel
theorem dX4_number_1 : decode cX4_number 1 = .ok (.getfield 44, 3) := by decide +kernel
theorem dX4_number_4 : decode cX4_number 4 = .ok (.bipush 48, 2) := by decide +kernel
theorem dX4_number_6 : decode cX4_number 6 = .ok (.if_icmp .eq 10, 3) := by decide +kernel
theorem dX4_number_9 : decode cX4_number 9 = .ok (.aload_n 0, 1) := by decide +kernel
theorem dX4_number_10 : decode cX4_number 10 = .ok (.iconst 0, 1) := by decide +kernel
theorem dX4_number_11 : decode cX4_number 11 = .ok (.invokevirtual 59, 3) := by decide +kernel
theorem dX4_number_14 : decode cX4_number 14 = .ok (.iload_n 1, 1) := by decide +kernel
theorem dX4_number_15 : decode cX4_number 15 = .ok (.ireturn, 1) := by decide +kernel
theorem dX4_number_16 : decode cX4_number 16 = .ok (.aload_n 0, 1) := by decide +kernel
theorem dX4_number_17 : decode cX4_number 17 = .ok (.invokevirtual 63, 3) := by decide +kernel
theorem dX4_number_20 : decode cX4_number 20 = .ok (.istore_n 3, 1) := by decide +kernel
theorem dX4_number_21 : decode cX4_number 21 = .ok (.aload_n 0, 1) := by decide +kernel
theorem dX4_number_22 : decode cX4_number 22 = .ok (.getfield 35, 3) := by decide +kernel
theorem dX4_number_25 : decode cX4_number 25 = .ok (.aload_n 0, 1) := by decide +kernel
theorem dX4_number_26 : decode cX4_number 26 = .ok (.getfield 47, 3) := by decide +kernel
theorem dX4_number_29 : decode cX4_number 29 = .ok (.isub, 1) := by decide +kernel
theorem dX4_number_30 : decode cX4_number 30 = .ok (.iconst 5, 1) := by decide +kernel
theorem dX4_number_31 : decode cX4_number 31 = .ok (.if_icmp .gt 13, 3) := by decide +kernel
theorem dX4_number_34 : decode cX4_number 34 = .ok (.iload_n 3, 1) := by decide +kernel
theorem dX4_number_35 : decode cX4_number 35 = .ok (.iload_n 1, 1) := by decide +kernel
theorem dX4_number_36 : decode cX4_number 36 = .ok (.if_icmp .lt 8, 3) := by decide +kernel
theorem dX4_number_39 : decode cX4_number 39 = .ok (.iload_n 3, 1) := by decide +kernel
theorem dX4_number_40 : decode cX4_number 40 = .ok (.iload_n 2, 1) := by decide +kernel
theorem dX4_number_41 : decode cX4_number 41 = .ok (.if_icmp .le 10, 3) := by decide +kernel
theorem dX4_number_44 : decode cX4_number 44 = .ok (.aload_n 0, 1) := by decide +kernel
theorem dX4_number_45 : decode cX4_number 45 = .ok (.iconst 1, 1) := by decide +kernel
theorem dX4_number_46 : decode cX4_number 46 = .ok (.invokevirtual 59, 3) := by decide +kernel
theorem dX4_number_49 : decode cX4_number 49 = .ok (.iload_n 1, 1) := by decide +kernel
theorem dX4_number_50 : decode cX4_number 50 = .ok (.ireturn, 1) := by decide +kernel
theorem dX4_number_51 : decode cX4_number 51 = .ok (.aload_n 0, 1) := by decide +kernel
theorem dX4_number_52 : decode cX4_number 52 = .ok (.invokevirtual 41, 3) := by decide +kernel
theorem dX4_number_55 : decode cX4_number 55 = .ok (.iload_n 3, 1) := by decide +kernel
theorem dX4_number_56 : decode cX4_number 56 = .ok (.ireturn, 1) := by decide +kernel
theorem dX4_opened_0 : decode cX4_opened 0 = .ok (.aload_n 0, 1) := by decide +kernel
theorem dX4_opened_1 : decode cX4_opened 1 = .ok (.aload_n 1, 1) := by decide +kernel
theorem dX4_opened_2 : decode cX4_opened 2 = .ok (.invokevirtual 66, 3) := by decide +kernel
theorem dX4_opened_5 : decode cX4_opened 5 = .ok (.istore 4, 2) := by decide +kernel
theorem dX4_opened_7 : decode cX4_opened 7 = .ok (.iload 4, 2) := by decide +kernel
theorem dX4_opened_9 : decode cX4_opened 9 = .ok (.iconst (-1), 1) := by decide +kernel
theorem dX4_opened_10 : decode cX4_opened 10 = .ok (.if_icmp .ne 11, 3) := by decide +kernel
theorem dX4_opened_13 : decode cX4_opened 13 = .ok (.aload_n 0, 1) := by decide +kernel
theorem dX4_opened_14 : decode cX4_opened 14 = .ok (.iconst 0, 1) := by decide +kernel
theorem dX4_opened_15 : decode cX4_opened 15 = .ok (.invokevirtual 59, 3) := by decide +kernel
theorem dX4_opened_18 : decode cX4_opened 18 = .ok (.goto 13, 3) := by decide +kernel
theorem dX4_opened_21 : decode cX4_opened 21 = .ok (.iload_n 2, 1) := by decide +kernel
theorem dX4_opened_22 : decode cX4_opened 22 = .ok (.iload_n 3, 1) := by decide +kernel
theorem dX4_opened_23 : decode cX4_opened 23 = .ok (.if_icmp .lt 8, 3) := by decide +kernel
theorem dX4_opened_26 : decode cX4_opened 26 = .ok (.aload_n 0, 1) := by decide +kernel
theorem dX4_opened_27 : decode cX4_opened 27 = .ok (.iconst 4, 1) := by decide +kernel
theorem dX4_opened_28 : decode cX4_opened 28 = .ok (.invokevirtual 59, 3) := by decide +kernel
theorem dX4_opened_31 : decode cX4_opened 31 = .ok (.aload_n 0, 1) := by decide +kernel
theorem dX4_opened_32 : decode cX4_opened 32 = .ok (.getfield 32, 3) := by decide +kernel
theorem dX4_opened_35 : decode cX4_opened 35 = .ok (.ifCond .ne 8, 3) := by decide +kernel
theorem dX4_opened_38 : decode cX4_opened 38 = .ok (.iload 4, 2) := by decide +kernel
theorem dX4_opened_40 : decode cX4_opened 40 = .ok (.goto 4, 3) := by decide +kernel
theorem dX4_opened_43 : decode cX4_opened 43 = .ok (.iconst (-1), 1) := by decide +kernel
theorem dX4_opened_44 : decode cX4_opened 44 = .ok (.ireturn, 1) := by decide +kernel
theorem dX4_goesOn_0 : decode cX4_goesOn 0 = .ok (.aload_n 0, 1) := by decide +kernel
theorem dX4_goesOn_1 : decode cX4_goesOn 1 = .ok (.getfield 44, 3) := by decide +kernel
theorem dX4_goesOn_4 : decode cX4_goesOn 4 = .ok (.bipush 59, 2) := by decide +kernel
theorem dX4_goesOn_6 : decode cX4_goesOn 6 = .ok (.if_icmp .ne 9, 3) := by decide +kernel
theorem dX4_goesOn_9 : decode cX4_goesOn 9 = .ok (.aload_n 0, 1) := by decide +kernel
theorem dX4_goesOn_10 : decode cX4_goesOn 10 = .ok (.invokevirtual 41, 3) := by decide +kernel
theorem dX4_goesOn_13 : decode cX4_goesOn 13 = .ok (.iconst 1, 1) := by decide +kernel
theorem dX4_goesOn_14 : decode cX4_goesOn 14 = .ok (.ireturn, 1) := by decide +kernel
theorem dX4_goesOn_15 : decode cX4_goesOn 15 = .ok (.aload_n 0, 1) := by decide +kernel
theorem dX4_goesOn_16 : decode cX4_goesOn 16 = .ok (.getfield 44, 3) := by decide +kernel
theorem dX4_goesOn_19 : decode cX4_goesOn 19 = .ok (.iconst (-1), 1) := by decide +kernel
theorem dX4_goesOn_20 : decode cX4_goesOn 20 = .ok (.if_icmp .eq 8, 3) := by decide +kernel
theorem dX4_goesOn_23 : decode cX4_goesOn 23 = .ok (.aload_n 0, 1) := by decide +kernel
theorem dX4_goesOn_24 : decode cX4_goesOn 24 = .ok (.iconst 0, 1) := by decide +kernel
theorem dX4_goesOn_25 : decode cX4_goesOn 25 = .ok (.invokevirtual 59, 3) := by decide +kernel
theorem dX4_goesOn_28 : decode cX4_goesOn 28 = .ok (.iconst 0, 1) := by decide +kernel
theorem dX4_goesOn_29 : decode cX4_goesOn 29 = .ok (.ireturn, 1) := by decide +kernel
theorem dX4_readWood_0 : decode cX4_readWood 0 = .ok (.aload_n 0, 1) := by decide +kernel
theorem dX4_readWood_1 : decode cX4_readWood 1 = .ok (.invokevirtual 70, 3) := by decide +kernel
theorem dX4_readWood_4 : decode cX4_readWood 4 = .ok (.aload_n 1, 1) := by decide +kernel
theorem dX4_readWood_5 : decode cX4_readWood 5 = .ok (.invokevirtual 73, 3) := by decide +kernel
theorem dX4_readWood_8 : decode cX4_readWood 8 = .ok (.iconst 1, 1) := by decide +kernel
theorem dX4_readWood_9 : decode cX4_readWood 9 = .ok (.istore_n 2, 1) := by decide +kernel
theorem dX4_readWood_10 : decode cX4_readWood 10 = .ok (.iconst 0, 1) := by decide +kernel
theorem dX4_readWood_11 : decode cX4_readWood 11 = .ok (.istore_n 3, 1) := by decide +kernel
theorem dX4_readWood_12 : decode cX4_readWood 12 = .ok (.iconst 0, 1) := by decide +kernel
theorem dX4_readWood_13 : decode cX4_readWood 13 = .ok (.istore 4, 2) := by decide +kernel
theorem dX4_readWood_15 : decode cX4_readWood 15 = .ok (.iload_n 2, 1) := by decide +kernel
theorem dX4_readWood_16 : decode cX4_readWood 16 = .ok (.ifCond .eq 227, 3) := by decide +kernel
theorem dX4_readWood_19 : decode cX4_readWood 19 = .ok (.iload 4, 2) := by decide +kernel
theorem dX4_readWood_21 : decode cX4_readWood 21 = .ok (.bipush 24, 2) := by decide +kernel
theorem dX4_readWood_23 : decode cX4_readWood 23 = .ok (.if_icmp .gt 220, 3) := by decide +kernel
theorem dX4_readWood_26 : decode cX4_readWood 26 = .ok (.aload_n 0, 1) := by decide +kernel
theorem dX4_readWood_27 : decode cX4_readWood 27 = .ok (.ldc 78, 2) := by decide +kernel
theorem dX4_readWood_29 : decode cX4_readWood 29 = .ok (.iload 4, 2) := by decide +kernel
theorem dX4_readWood_31 : decode cX4_readWood 31 = .ok (.bipush 24, 2) := by decide +kernel
theorem dX4_readWood_33 : decode cX4_readWood 33 = .ok (.invokevirtual 80, 3) := by decide +kernel
theorem dX4_readWood_36 : decode cX4_readWood 36 = .ok (.istore 5, 2) := by decide +kernel
theorem dX4_readWood_38 : decode cX4_readWood 38 = .ok (.iload 5, 2) := by decide +kernel
theorem dX4_readWood_40 : decode cX4_readWood 40 = .ok (.ifCond .lt 23, 3) := by decide +kernel
theorem dX4_readWood_43 : decode cX4_readWood 43 = .ok (.iload 5, 2) := by decide +kernel
theorem dX4_readWood_45 : decode cX4_readWood 45 = .ok (.iconst 2, 1) := by decide +kernel
theorem dX4_readWood_46 : decode cX4_readWood 46 = .ok (.if_icmp .ge 17, 3) := by decide +kernel
theorem dX4_readWood_49 : decode cX4_readWood 49 = .ok (.iload_n 3, 1) := by decide +kernel
theorem dX4_readWood_50 : decode cX4_readWood 50 = .ok (.iload 5, 2) := by decide +kernel
theorem dX4_readWood_52 : decode cX4_readWood 52 = .ok (.ishr, 1) := by decide +kernel
theorem dX4_readWood_53 : decode cX4_readWood 53 = .ok (.iconst 1, 1) := by decide +kernel
theorem dX4_readWood_54 : decode cX4_readWood 54 = .ok (.iand, 1) := by decide +kernel
theorem dX4_readWood_55 : decode cX4_readWood 55 = .ok (.iconst 1, 1) := by decide +kernel
theorem dX4_readWood_56 : decode cX4_readWood 56 = .ok (.if_icmp .ne 7, 3) := by decide +kernel
theorem dX4_readWood_59 : decode cX4_readWood 59 = .ok (.iconst 1, 1) := by decide +kernel
theorem dX4_readWood_60 : decode cX4_readWood 60 = .ok (.goto 4, 3) := by decide +kernel
theorem dX4_readWood_63 : decode cX4_readWood 63 = .ok (.iconst 0, 1) := by decide +kernel
theorem dX4_readWood_64 : decode cX4_readWood 64 = .ok (.istore 6, 2) := by decide +kernel
theorem dX4_readWood_66 : decode cX4_readWood 66 = .ok (.iload 6, 2) := by decide +kernel
theorem dX4_readWood_68 : decode cX4_readWood 68 = .ok (.ifCond .ne 18, 3) := by decide +kernel
theorem dX4_readWood_71 : decode cX4_readWood 71 = .ok (.iload 5, 2) := by decide +kernel
theorem dX4_readWood_73 : decode cX4_readWood 73 = .ok (.bipush 7, 2) := by decide +kernel
theorem dX4_readWood_75 : decode cX4_readWood 75 = .ok (.if_icmp .ne 16, 3) := by decide +kernel
theorem dX4_readWood_78 : decode cX4_readWood 78 = .ok (.aload_n 1, 1) := by decide +kernel
theorem dX4_readWood_79 : decode cX4_readWood 79 = .ok (.getfield 84, 3) := by decide +kernel
theorem dX4_readWood_82 : decode cX4_readWood 82 = .ok (.iconst 4, 1) := by decide +kernel
theorem dX4_readWood_83 : decode cX4_readWood 83 = .ok (.if_icmp .lt 8, 3) := by decide +kernel
theorem dX4_readWood_86 : decode cX4_readWood 86 = .ok (.aload_n 0, 1) := by decide +kernel
theorem dX4_readWood_87 : decode cX4_readWood 87 = .ok (.iconst 4, 1) := by decide +kernel
theorem dX4_readWood_88 : decode cX4_readWood 88 = .ok (.invokevirtual 59, 3) := by decide +kernel
theorem dX4_readWood_91 : decode cX4_readWood 91 = .ok (.aload_n 0, 1) := by decide +kernel
theorem dX4_readWood_92 : decode cX4_readWood 92 = .ok (.invokevirtual 41, 3) := by decide +kernel
theorem dX4_readWood_95 : decode cX4_readWood 95 = .ok (.iload 5, 2) := by decide +kernel
theorem dX4_readWood_97 : decode cX4_readWood 97 = .ok (.ifCond .ne 28, 3) := by decide +kernel
theorem dX4_readWood_100 : decode cX4_readWood 100 = .ok (.aload_n 1, 1) := by decide +kernel
theorem dX4_readWood_101 : decode cX4_readWood 101 = .ok (.aload_n 0, 1) := by decide +kernel
theorem dX4_readWood_102 : decode cX4_readWood 102 = .ok (.iconst 2, 1) := by decide +kernel
theorem dX4_readWood_103 : decode cX4_readWood 103 = .ok (.bipush 12, 2) := by decide +kernel
theorem dX4_readWood_105 : decode cX4_readWood 105 = .ok (.invokevirtual 87, 3) := by decide +kernel
theorem dX4_readWood_108 : decode cX4_readWood 108 = .ok (.putfield 91, 3) := by decide +kernel
theorem dX4_readWood_111 : decode cX4_readWood 111 = .ok (.aload_n 1, 1) := by decide +kernel
theorem dX4_readWood_112 : decode cX4_readWood 112 = .ok (.aload_n 0, 1) := by decide +kernel
theorem dX4_readWood_113 : decode cX4_readWood 113 = .ok (.iconst 2, 1) := by decide +kernel
theorem dX4_readWood_114 : decode cX4_readWood 114 = .ok (.bipush 12, 2) := by decide +kernel
theorem dX4_readWood_116 : decode cX4_readWood 116 = .ok (.invokevirtual 87, 3) := by decide +kernel
theorem dX4_readWood_119 : decode cX4_readWood 119 = .ok (.putfield 94, 3) := by decide +kernel
theorem dX4_readWood_122 : decode cX4_readWood 122 = .ok (.goto 94, 3) := by decide +kernel
theorem dX4_readWood_125 : decode cX4_readWood 125 = .ok (.iload 5, 2) := by decide +kernel
theorem dX4_readWood_127 : decode cX4_readWood 127 = .ok (.iconst 1, 1) := by decide +kernel
theorem dX4_readWood_128 : decode cX4_readWood 128 = .ok (.if_icmp .ne 32, 3) := by decide +kernel
theorem dX4_readWood_131 : decode cX4_readWood 131 = .ok (.aload_n 0, 1) := by decide +kernel
theorem dX4_readWood_132 : decode cX4_readWood 132 = .ok (.iconst 0, 1) := by decide +kernel
theorem dX4_readWood_133 : decode cX4_readWood 133 = .ok (.bipush 11, 2) := by decide +kernel
theorem dX4_readWood_135 : decode cX4_readWood 135 = .ok (.invokevirtual 87, 3) := by decide +kernel
theorem dX4_readWood_138 : decode cX4_readWood 138 = .ok (.istore 7, 2) := by decide +kernel
theorem dX4_readWood_140 : decode cX4_readWood 140 = .ok (.aload_n 1, 1) := by decide +kernel
theorem dX4_readWood_141 : decode cX4_readWood 141 = .ok (.aload_n 0, 1) := by decide +kernel
theorem dX4_readWood_142 : decode cX4_readWood 142 = .ok (.iconst 0, 1) := by decide +kernel
theorem dX4_readWood_143 : decode cX4_readWood 143 = .ok (.bipush 11, 2) := by decide +kernel
theorem dX4_readWood_145 : decode cX4_readWood 145 = .ok (.invokevirtual 87, 3) := by decide +kernel
theorem dX4_readWood_148 : decode cX4_readWood 148 = .ok (.bipush 12, 2) := by decide +kernel
theorem dX4_readWood_150 : decode cX4_readWood 150 = .ok (.imul, 1) := by decide +kernel
theorem dX4_readWood_151 : decode cX4_readWood 151 = .ok (.iload 7, 2) := by decide +kernel
theorem dX4_readWood_153 : decode cX4_readWood 153 = .ok (.iadd, 1) := by decide +kernel
theorem dX4_readWood_154 : decode cX4_readWood 154 = .ok (.putfield 97, 3) := by decide +kernel
theorem dX4_readWood_157 : decode cX4_readWood 157 = .ok (.goto 59, 3) := by decide +kernel
theorem dX4_readWood_160 : decode cX4_readWood 160 = .ok (.iload 5, 2) := by decide +kernel
theorem dX4_readWood_162 : decode cX4_readWood 162 = .ok (.bipush 7, 2) := by decide +kernel
theorem dX4_readWood_164 : decode cX4_readWood 164 = .ok (.if_icmp .ne 39, 3) := by decide +kernel
theorem dX4_readWood_167 : decode cX4_readWood 167 = .ok (.aload_n 0, 1) := by decide +kernel
theorem dX4_readWood_168 : decode cX4_readWood 168 = .ok (.iconst 1, 1) := by decide +kernel
theorem dX4_readWood_169 : decode cX4_readWood 169 = .ok (.bipush 40, 2) := by decide +kernel
theorem dX4_readWood_171 : decode cX4_readWood 171 = .ok (.invokevirtual 87, 3) := by decide +kernel
theorem dX4_readWood_174 : decode cX4_readWood 174 = .ok (.istore 7, 2) := by decide +kernel
theorem dX4_readWood_176 : decode cX4_readWood 176 = .ok (.aload_n 0, 1) := by decide +kernel
theorem dX4_readWood_177 : decode cX4_readWood 177 = .ok (.iconst 0, 1) := by decide +kernel
theorem dX4_readWood_178 : decode cX4_readWood 178 = .ok (.bipush 11, 2) := by decide +kernel
theorem dX4_readWood_180 : decode cX4_readWood 180 = .ok (.invokevirtual 87, 3) := by decide +kernel
theorem dX4_readWood_183 : decode cX4_readWood 183 = .ok (.istore 8, 2) := by decide +kernel
theorem dX4_readWood_185 : decode cX4_readWood 185 = .ok (.aload_n 1, 1) := by decide +kernel
theorem dX4_readWood_186 : decode cX4_readWood 186 = .ok (.iload 7, 2) := by decide +kernel
theorem dX4_readWood_188 : decode cX4_readWood 188 = .ok (.iload 8, 2) := by decide +kernel
theorem dX4_readWood_190 : decode cX4_readWood 190 = .ok (.aload_n 0, 1) := by decide +kernel
theorem dX4_readWood_191 : decode cX4_readWood 191 = .ok (.iconst 0, 1) := by decide +kernel
theorem dX4_readWood_192 : decode cX4_readWood 192 = .ok (.bipush 11, 2) := by decide +kernel
theorem dX4_readWood_194 : decode cX4_readWood 194 = .ok (.invokevirtual 87, 3) := by decide +kernel
theorem dX4_readWood_197 : decode cX4_readWood 197 = .ok (.invokevirtual 100, 3) := by decide +kernel
theorem dX4_readWood_200 : decode cX4_readWood 200 = .ok (.goto 16, 3) := by decide +kernel
theorem dX4_readWood_203 : decode cX4_readWood 203 = .ok (.iload 5, 2) := by decide +kernel
theorem dX4_readWood_205 : decode cX4_readWood 205 = .ok (.iconst (-1), 1) := by decide +kernel
theorem dX4_readWood_206 : decode cX4_readWood 206 = .ok (.if_icmp .eq 10, 3) := by decide +kernel
theorem dX4_readWood_209 : decode cX4_readWood 209 = .ok (.aload_n 0, 1) := by decide +kernel
theorem dX4_readWood_210 : decode cX4_readWood 210 = .ok (.aload_n 1, 1) := by decide +kernel
theorem dX4_readWood_211 : decode cX4_readWood 211 = .ok (.iload 5, 2) := by decide +kernel
theorem dX4_readWood_213 : decode cX4_readWood 213 = .ok (.invokevirtual 104, 3) := by decide +kernel
theorem dX4_readWood_216 : decode cX4_readWood 216 = .ok (.iload_n 3, 1) := by decide +kernel
theorem dX4_readWood_217 : decode cX4_readWood 217 = .ok (.iload 5, 2) := by decide +kernel
theorem dX4_readWood_219 : decode cX4_readWood 219 = .ok (.ifCond .lt 10, 3) := by decide +kernel
theorem dX4_readWood_222 : decode cX4_readWood 222 = .ok (.iconst 1, 1) := by decide +kernel
theorem dX4_readWood_223 : decode cX4_readWood 223 = .ok (.iload 5, 2) := by decide +kernel
theorem dX4_readWood_225 : decode cX4_readWood 225 = .ok (.ishl, 1) := by decide +kernel
theorem dX4_readWood_226 : decode cX4_readWood 226 = .ok (.goto 4, 3) := by decide +kernel
theorem dX4_readWood_229 : decode cX4_readWood 229 = .ok (.iconst 0, 1) := by decide +kernel
theorem dX4_readWood_230 : decode cX4_readWood 230 = .ok (.ior, 1) := by decide +kernel
theorem dX4_readWood_231 : decode cX4_readWood 231 = .ok (.istore_n 3, 1) := by decide +kernel
theorem dX4_readWood_232 : decode cX4_readWood 232 = .ok (.aload_n 0, 1) := by decide +kernel
theorem dX4_readWood_233 : decode cX4_readWood 233 = .ok (.invokevirtual 108, 3) := by decide +kernel
theorem dX4_readWood_236 : decode cX4_readWood 236 = .ok (.istore_n 2, 1) := by decide +kernel
theorem dX4_readWood_237 : decode cX4_readWood 237 = .ok (.iinc 4 1, 3) := by decide +kernel
theorem dX4_readWood_240 : decode cX4_readWood 240 = .ok (.goto (-225), 3) := by decide +kernel
theorem dX4_readWood_243 : decode cX4_readWood 243 = .ok (.aload_n 0, 1) := by decide +kernel
theorem dX4_readWood_244 : decode cX4_readWood 244 = .ok (.getfield 32, 3) := by decide +kernel
theorem dX4_readWood_247 : decode cX4_readWood 247 = .ok (.ifCond .ne 7, 3) := by decide +kernel
theorem dX4_readWood_250 : decode cX4_readWood 250 = .ok (.aload_n 1, 1) := by decide +kernel
theorem dX4_readWood_251 : decode cX4_readWood 251 = .ok (.invokevirtual 112, 3) := by decide +kernel
theorem dX4_readWood_254 : decode cX4_readWood 254 = .ok (.return_, 1) := by decide +kernel
theorem dX4_readArea_0 : decode cX4_readArea 0 = .ok (.iconst 1, 1) := by decide +kernel
theorem dX4_readArea_1 : decode cX4_readArea 1 = .ok (.istore_n 3, 1) := by decide +kernel
theorem dX4_readArea_2 : decode cX4_readArea 2 = .ok (.aload_n 1, 1) := by decide +kernel
theorem dX4_readArea_3 : decode cX4_readArea 3 = .ok (.getfield 115, 3) := by decide +kernel
theorem dX4_readArea_6 : decode cX4_readArea 6 = .ok (.astore 4, 2) := by decide +kernel
theorem dX4_readArea_8 : decode cX4_readArea 8 = .ok (.iload_n 2, 1) := by decide +kernel
theorem dX4_readArea_9 : decode cX4_readArea 9 = .ok (.iconst 3, 1) := by decide +kernel
theorem dX4_readArea_10 : decode cX4_readArea 10 = .ok (.if_icmp .ne 12, 3) := by decide +kernel
theorem dX4_readArea_13 : decode cX4_readArea 13 = .ok (.aload_n 1, 1) := by decide +kernel
theorem dX4_readArea_14 : decode cX4_readArea 14 = .ok (.getfield 118, 3) := by decide +kernel
theorem dX4_readArea_17 : decode cX4_readArea 17 = .ok (.astore 4, 2) := by decide +kernel
theorem dX4_readArea_19 : decode cX4_readArea 19 = .ok (.goto 68, 3) := by decide +kernel
theorem dX4_readArea_22 : decode cX4_readArea 22 = .ok (.iload_n 2, 1) := by decide +kernel
theorem dX4_readArea_23 : decode cX4_readArea 23 = .ok (.iconst 4, 1) := by decide +kernel
theorem dX4_readArea_24 : decode cX4_readArea 24 = .ok (.if_icmp .ne 20, 3) := by decide +kernel
theorem dX4_readArea_27 : decode cX4_readArea 27 = .ok (.aload_n 1, 1) := by decide +kernel
theorem dX4_readArea_28 : decode cX4_readArea 28 = .ok (.getfield 121, 3) := by decide +kernel
theorem dX4_readArea_31 : decode cX4_readArea 31 = .ok (.astore 4, 2) := by decide +kernel
theorem dX4_readArea_33 : decode cX4_readArea 33 = .ok (.aload_n 0, 1) := by decide +kernel
theorem dX4_readArea_34 : decode cX4_readArea 34 = .ok (.iconst 0, 1) := by decide +kernel
theorem dX4_readArea_35 : decode cX4_readArea 35 = .ok (.bipush 7, 2) := by decide +kernel
theorem dX4_readArea_37 : decode cX4_readArea 37 = .ok (.invokevirtual 87, 3) := by decide +kernel
theorem dX4_readArea_40 : decode cX4_readArea 40 = .ok (.istore_n 3, 1) := by decide +kernel
theorem dX4_readArea_41 : decode cX4_readArea 41 = .ok (.goto 46, 3) := by decide +kernel
theorem dX4_readArea_44 : decode cX4_readArea 44 = .ok (.iload_n 2, 1) := by decide +kernel
theorem dX4_readArea_45 : decode cX4_readArea 45 = .ok (.iconst 5, 1) := by decide +kernel
theorem dX4_readArea_46 : decode cX4_readArea 46 = .ok (.if_icmp .ne 20, 3) := by decide +kernel
theorem dX4_readArea_49 : decode cX4_readArea 49 = .ok (.aload_n 1, 1) := by decide +kernel
theorem dX4_readArea_50 : decode cX4_readArea 50 = .ok (.getfield 124, 3) := by decide +kernel
theorem dX4_readArea_53 : decode cX4_readArea 53 = .ok (.astore 4, 2) := by decide +kernel
theorem dX4_readArea_55 : decode cX4_readArea 55 = .ok (.aload_n 0, 1) := by decide +kernel
theorem dX4_readArea_56 : decode cX4_readArea 56 = .ok (.iconst 0, 1) := by decide +kernel
theorem dX4_readArea_57 : decode cX4_readArea 57 = .ok (.bipush 9, 2) := by decide +kernel
theorem dX4_readArea_59 : decode cX4_readArea 59 = .ok (.invokevirtual 87, 3) := by decide +kernel
theorem dX4_readArea_62 : decode cX4_readArea 62 = .ok (.istore_n 3, 1) := by decide +kernel
theorem dX4_readArea_63 : decode cX4_readArea 63 = .ok (.goto 24, 3) := by decide +kernel
theorem dX4_readArea_66 : decode cX4_readArea 66 = .ok (.iload_n 2, 1) := by decide +kernel
theorem dX4_readArea_67 : decode cX4_readArea 67 = .ok (.bipush 6, 2) := by decide +kernel
theorem dX4_readArea_69 : decode cX4_readArea 69 = .ok (.if_icmp .ne 18, 3) := by decide +kernel
theorem dX4_readArea_72 : decode cX4_readArea 72 = .ok (.aload_n 1, 1) := by decide +kernel
theorem dX4_readArea_73 : decode cX4_readArea 73 = .ok (.getfield 127, 3) := by decide +kernel
theorem dX4_readArea_76 : decode cX4_readArea 76 = .ok (.astore 4, 2) := by decide +kernel
theorem dX4_readArea_78 : decode cX4_readArea 78 = .ok (.aload_n 0, 1) := by decide +kernel
theorem dX4_readArea_79 : decode cX4_readArea 79 = .ok (.iconst 0, 1) := by decide +kernel
theorem dX4_readArea_80 : decode cX4_readArea 80 = .ok (.sipush 1000, 3) := by decide +kernel
theorem dX4_readArea_83 : decode cX4_readArea 83 = .ok (.invokevirtual 87, 3) := by decide +kernel
theorem dX4_readArea_86 : decode cX4_readArea 86 = .ok (.istore_n 3, 1) := by decide +kernel
theorem dX4_readArea_87 : decode cX4_readArea 87 = .ok (.aload_n 0, 1) := by decide +kernel
theorem dX4_readArea_88 : decode cX4_readArea 88 = .ok (.iconst 0, 1) := by decide +kernel
theorem dX4_readArea_89 : decode cX4_readArea 89 = .ok (.bipush 11, 2) := by decide +kernel
theorem dX4_readArea_91 : decode cX4_readArea 91 = .ok (.invokevirtual 87, 3) := by decide +kernel
theorem dX4_readArea_94 : decode cX4_readArea 94 = .ok (.istore 5, 2) := by decide +kernel
theorem dX4_readArea_96 : decode cX4_readArea 96 = .ok (.aload_n 0, 1) := by decide +kernel
theorem dX4_readArea_97 : decode cX4_readArea 97 = .ok (.iconst 0, 1) := by decide +kernel
theorem dX4_readArea_98 : decode cX4_readArea 98 = .ok (.bipush 11, 2) := by decide +kernel
theorem dX4_readArea_100 : decode cX4_readArea 100 = .ok (.invokevirtual 87, 3) := by decide +kernel
theorem dX4_readArea_103 : decode cX4_readArea 103 = .ok (.istore 6, 2) := by decide +kernel
theorem dX4_readArea_105 : decode cX4_readArea 105 = .ok (.aload_n 0, 1) := by decide +kernel
theorem dX4_readArea_106 : decode cX4_readArea 106 = .ok (.iload 5, 2) := by decide +kernel
theorem dX4_readArea_108 : decode cX4_readArea 108 = .ok (.bipush 11, 2) := by decide +kernel
theorem dX4_readArea_110 : decode cX4_readArea 110 = .ok (.invokevirtual 87, 3) := by decide +kernel
theorem dX4_readArea_113 : decode cX4_readArea 113 = .ok (.istore 7, 2) := by decide +kernel
theorem dX4_readArea_115 : decode cX4_readArea 115 = .ok (.aload_n 0, 1) := by decide +kernel
theorem dX4_readArea_116 : decode cX4_readArea 116 = .ok (.iload 6, 2) := by decide +kernel
theorem dX4_readArea_118 : decode cX4_readArea 118 = .ok (.bipush 11, 2) := by decide +kernel
theorem dX4_readArea_120 : decode cX4_readArea 120 = .ok (.invokevirtual 87, 3) := by decide +kernel
theorem dX4_readArea_123 : decode cX4_readArea 123 = .ok (.istore 8, 2) := by decide +kernel
theorem dX4_readArea_125 : decode cX4_readArea 125 = .ok (.aload_n 0, 1) := by decide +kernel
theorem dX4_readArea_126 : decode cX4_readArea 126 = .ok (.getfield 32, 3) := by decide +kernel
theorem dX4_readArea_129 : decode cX4_readArea 129 = .ok (.ifCond .ne 44, 3) := by decide +kernel
theorem dX4_readArea_132 : decode cX4_readArea 132 = .ok (.iload 6, 2) := by decide +kernel
theorem dX4_readArea_134 : decode cX4_readArea 134 = .ok (.istore 9, 2) := by decide +kernel
theorem dX4_readArea_136 : decode cX4_readArea 136 = .ok (.iload 9, 2) := by decide +kernel
theorem dX4_readArea_138 : decode cX4_readArea 138 = .ok (.iload 8, 2) := by decide +kernel
theorem dX4_readArea_140 : decode cX4_readArea 140 = .ok (.if_icmp .gt 33, 3) := by decide +kernel
theorem dX4_readArea_143 : decode cX4_readArea 143 = .ok (.aload 4, 2) := by decide +kernel
theorem dX4_readArea_145 : decode cX4_readArea 145 = .ok (.iload 9, 2) := by decide +kernel
theorem dX4_readArea_147 : decode cX4_readArea 147 = .ok (.bipush 12, 2) := by decide +kernel
theorem dX4_readArea_149 : decode cX4_readArea 149 = .ok (.imul, 1) := by decide +kernel
theorem dX4_readArea_150 : decode cX4_readArea 150 = .ok (.iload 5, 2) := by decide +kernel
theorem dX4_readArea_152 : decode cX4_readArea 152 = .ok (.iadd, 1) := by decide +kernel
theorem dX4_readArea_153 : decode cX4_readArea 153 = .ok (.iload 9, 2) := by decide +kernel
theorem dX4_readArea_155 : decode cX4_readArea 155 = .ok (.bipush 12, 2) := by decide +kernel
theorem dX4_readArea_157 : decode cX4_readArea 157 = .ok (.imul, 1) := by decide +kernel
theorem dX4_readArea_158 : decode cX4_readArea 158 = .ok (.iload 7, 2) := by decide +kernel
theorem dX4_readArea_160 : decode cX4_readArea 160 = .ok (.iadd, 1) := by decide +kernel
theorem dX4_readArea_161 : decode cX4_readArea 161 = .ok (.iconst 1, 1) := by decide +kernel
theorem dX4_readArea_162 : decode cX4_readArea 162 = .ok (.iadd, 1) := by decide +kernel
theorem dX4_readArea_163 : decode cX4_readArea 163 = .ok (.iload_n 3, 1) := by decide +kernel
theorem dX4_readArea_164 : decode cX4_readArea 164 = .ok (.invokestatic 130, 3) := by decide +kernel
theorem dX4_readArea_167 : decode cX4_readArea 167 = .ok (.iinc 9 1, 3) := by decide +kernel
theorem dX4_readArea_170 : decode cX4_readArea 170 = .ok (.goto (-34), 3) := by decide +kernel
theorem dX4_readArea_173 : decode cX4_readArea 173 = .ok (.return_, 1) := by decide +kernel
theorem dX4_readLaw_0 : decode cX4_readLaw 0 = .ok (.aload_n 0, 1) := by decide +kernel
theorem dX4_readLaw_1 : decode cX4_readLaw 1 = .ok (.invokevirtual 70, 3) := by decide +kernel
theorem dX4_readLaw_4 : decode cX4_readLaw 4 = .ok (.aload_n 1, 1) := by decide +kernel
theorem dX4_readLaw_5 : decode cX4_readLaw 5 = .ok (.invokevirtual 136, 3) := by decide +kernel
theorem dX4_readLaw_8 : decode cX4_readLaw 8 = .ok (.aload_n 0, 1) := by decide +kernel
theorem dX4_readLaw_9 : decode cX4_readLaw 9 = .ok (.aload_n 1, 1) := by decide +kernel
theorem dX4_readLaw_10 : decode cX4_readLaw 10 = .ok (.getfield 139, 3) := by decide +kernel
theorem dX4_readLaw_13 : decode cX4_readLaw 13 = .ok (.putfield 24, 3) := by decide +kernel
theorem dX4_readLaw_16 : decode cX4_readLaw 16 = .ok (.aload_n 0, 1) := by decide +kernel
theorem dX4_readLaw_17 : decode cX4_readLaw 17 = .ok (.ldc 15, 2) := by decide +kernel
theorem dX4_readLaw_19 : decode cX4_readLaw 19 = .ok (.putfield 17, 3) := by decide +kernel
theorem dX4_readLaw_22 : decode cX4_readLaw 22 = .ok (.iconst 1, 1) := by decide +kernel
theorem dX4_readLaw_23 : decode cX4_readLaw 23 = .ok (.istore_n 2, 1) := by decide +kernel
theorem dX4_readLaw_24 : decode cX4_readLaw 24 = .ok (.iconst 0, 1) := by decide +kernel
theorem dX4_readLaw_25 : decode cX4_readLaw 25 = .ok (.istore_n 3, 1) := by decide +kernel
theorem dX4_readLaw_26 : decode cX4_readLaw 26 = .ok (.iconst 0, 1) := by decide +kernel
theorem dX4_readLaw_27 : decode cX4_readLaw 27 = .ok (.istore 4, 2) := by decide +kernel
theorem dX4_readLaw_29 : decode cX4_readLaw 29 = .ok (.iload_n 2, 1) := by decide +kernel
theorem dX4_readLaw_30 : decode cX4_readLaw 30 = .ok (.ifCond .eq 198, 3) := by decide +kernel
theorem dX4_readLaw_33 : decode cX4_readLaw 33 = .ok (.iload 4, 2) := by decide +kernel
theorem dX4_readLaw_35 : decode cX4_readLaw 35 = .ok (.bipush 12, 2) := by decide +kernel
theorem dX4_readLaw_37 : decode cX4_readLaw 37 = .ok (.if_icmp .gt 191, 3) := by decide +kernel
theorem dX4_readLaw_40 : decode cX4_readLaw 40 = .ok (.aload_n 0, 1) := by decide +kernel
theorem dX4_readLaw_41 : decode cX4_readLaw 41 = .ok (.ldc 142, 2) := by decide +kernel
theorem dX4_readLaw_43 : decode cX4_readLaw 43 = .ok (.iload 4, 2) := by decide +kernel
theorem dX4_readLaw_45 : decode cX4_readLaw 45 = .ok (.bipush 12, 2) := by decide +kernel
theorem dX4_readLaw_47 : decode cX4_readLaw 47 = .ok (.invokevirtual 80, 3) := by decide +kernel
theorem dX4_readLaw_50 : decode cX4_readLaw 50 = .ok (.istore 5, 2) := by decide +kernel
theorem dX4_readLaw_52 : decode cX4_readLaw 52 = .ok (.iload 5, 2) := by decide +kernel
theorem dX4_readLaw_54 : decode cX4_readLaw 54 = .ok (.ifCond .lt 24, 3) := by decide +kernel
theorem dX4_readLaw_57 : decode cX4_readLaw 57 = .ok (.iload 5, 2) := by decide +kernel
theorem dX4_readLaw_59 : decode cX4_readLaw 59 = .ok (.iconst 4, 1) := by decide +kernel
theorem dX4_readLaw_60 : decode cX4_readLaw 60 = .ok (.if_icmp .ge 18, 3) := by decide +kernel
theorem dX4_readLaw_63 : decode cX4_readLaw 63 = .ok (.iload_n 3, 1) := by decide +kernel
theorem dX4_readLaw_64 : decode cX4_readLaw 64 = .ok (.iload 5, 2) := by decide +kernel
theorem dX4_readLaw_66 : decode cX4_readLaw 66 = .ok (.ishr, 1) := by decide +kernel
theorem dX4_readLaw_67 : decode cX4_readLaw 67 = .ok (.iconst 1, 1) := by decide +kernel
theorem dX4_readLaw_68 : decode cX4_readLaw 68 = .ok (.iand, 1) := by decide +kernel
theorem dX4_readLaw_69 : decode cX4_readLaw 69 = .ok (.iconst 1, 1) := by decide +kernel
theorem dX4_readLaw_70 : decode cX4_readLaw 70 = .ok (.if_icmp .ne 8, 3) := by decide +kernel
theorem dX4_readLaw_73 : decode cX4_readLaw 73 = .ok (.aload_n 0, 1) := by decide +kernel
theorem dX4_readLaw_74 : decode cX4_readLaw 74 = .ok (.iconst 4, 1) := by decide +kernel
theorem dX4_readLaw_75 : decode cX4_readLaw 75 = .ok (.invokevirtual 59, 3) := by decide +kernel
theorem dX4_readLaw_78 : decode cX4_readLaw 78 = .ok (.aload_n 0, 1) := by decide +kernel
theorem dX4_readLaw_79 : decode cX4_readLaw 79 = .ok (.invokevirtual 41, 3) := by decide +kernel
theorem dX4_readLaw_82 : decode cX4_readLaw 82 = .ok (.iload 5, 2) := by decide +kernel
theorem dX4_readLaw_84 : decode cX4_readLaw 84 = .ok (.ifCond .ne 18, 3) := by decide +kernel
theorem dX4_readLaw_87 : decode cX4_readLaw 87 = .ok (.aload_n 1, 1) := by decide +kernel
theorem dX4_readLaw_88 : decode cX4_readLaw 88 = .ok (.aload_n 0, 1) := by decide +kernel
theorem dX4_readLaw_89 : decode cX4_readLaw 89 = .ok (.iconst 0, 1) := by decide +kernel
theorem dX4_readLaw_90 : decode cX4_readLaw 90 = .ok (.sipush 500, 3) := by decide +kernel
theorem dX4_readLaw_93 : decode cX4_readLaw 93 = .ok (.invokevirtual 87, 3) := by decide +kernel
theorem dX4_readLaw_96 : decode cX4_readLaw 96 = .ok (.putfield 144, 3) := by decide +kernel
theorem dX4_readLaw_99 : decode cX4_readLaw 99 = .ok (.goto 102, 3) := by decide +kernel
theorem dX4_readLaw_102 : decode cX4_readLaw 102 = .ok (.iload 5, 2) := by decide +kernel
theorem dX4_readLaw_104 : decode cX4_readLaw 104 = .ok (.iconst 1, 1) := by decide +kernel
theorem dX4_readLaw_105 : decode cX4_readLaw 105 = .ok (.if_icmp .ne 18, 3) := by decide +kernel
theorem dX4_readLaw_108 : decode cX4_readLaw 108 = .ok (.aload_n 1, 1) := by decide +kernel
theorem dX4_readLaw_109 : decode cX4_readLaw 109 = .ok (.aload_n 0, 1) := by decide +kernel
theorem dX4_readLaw_110 : decode cX4_readLaw 110 = .ok (.iconst 0, 1) := by decide +kernel
theorem dX4_readLaw_111 : decode cX4_readLaw 111 = .ok (.sipush 1000, 3) := by decide +kernel
theorem dX4_readLaw_114 : decode cX4_readLaw 114 = .ok (.invokevirtual 87, 3) := by decide +kernel
theorem dX4_readLaw_117 : decode cX4_readLaw 117 = .ok (.putfield 147, 3) := by decide +kernel
theorem dX4_readLaw_120 : decode cX4_readLaw 120 = .ok (.goto 81, 3) := by decide +kernel
theorem dX4_readLaw_123 : decode cX4_readLaw 123 = .ok (.iload 5, 2) := by decide +kernel
theorem dX4_readLaw_125 : decode cX4_readLaw 125 = .ok (.iconst 2, 1) := by decide +kernel
theorem dX4_readLaw_126 : decode cX4_readLaw 126 = .ok (.if_icmp .ne 18, 3) := by decide +kernel
theorem dX4_readLaw_129 : decode cX4_readLaw 129 = .ok (.aload_n 1, 1) := by decide +kernel
theorem dX4_readLaw_130 : decode cX4_readLaw 130 = .ok (.aload_n 0, 1) := by decide +kernel
theorem dX4_readLaw_131 : decode cX4_readLaw 131 = .ok (.iconst 0, 1) := by decide +kernel
theorem dX4_readLaw_132 : decode cX4_readLaw 132 = .ok (.sipush 1000, 3) := by decide +kernel
theorem dX4_readLaw_135 : decode cX4_readLaw 135 = .ok (.invokevirtual 87, 3) := by decide +kernel
theorem dX4_readLaw_138 : decode cX4_readLaw 138 = .ok (.putfield 150, 3) := by decide +kernel
theorem dX4_readLaw_141 : decode cX4_readLaw 141 = .ok (.goto 60, 3) := by decide +kernel
theorem dX4_readLaw_144 : decode cX4_readLaw 144 = .ok (.iload 5, 2) := by decide +kernel
theorem dX4_readLaw_146 : decode cX4_readLaw 146 = .ok (.iconst 3, 1) := by decide +kernel
theorem dX4_readLaw_147 : decode cX4_readLaw 147 = .ok (.if_icmp .ne 18, 3) := by decide +kernel
theorem dX4_readLaw_150 : decode cX4_readLaw 150 = .ok (.aload_n 1, 1) := by decide +kernel
theorem dX4_readLaw_151 : decode cX4_readLaw 151 = .ok (.aload_n 0, 1) := by decide +kernel
theorem dX4_readLaw_152 : decode cX4_readLaw 152 = .ok (.iconst 0, 1) := by decide +kernel
theorem dX4_readLaw_153 : decode cX4_readLaw 153 = .ok (.sipush 1000, 3) := by decide +kernel
theorem dX4_readLaw_156 : decode cX4_readLaw 156 = .ok (.invokevirtual 87, 3) := by decide +kernel
theorem dX4_readLaw_159 : decode cX4_readLaw 159 = .ok (.putfield 153, 3) := by decide +kernel
theorem dX4_readLaw_162 : decode cX4_readLaw 162 = .ok (.goto 39, 3) := by decide +kernel
theorem dX4_readLaw_165 : decode cX4_readLaw 165 = .ok (.iload 5, 2) := by decide +kernel
theorem dX4_readLaw_167 : decode cX4_readLaw 167 = .ok (.iconst 4, 1) := by decide +kernel
theorem dX4_readLaw_168 : decode cX4_readLaw 168 = .ok (.if_icmp .ne 33, 3) := by decide +kernel
theorem dX4_readLaw_171 : decode cX4_readLaw 171 = .ok (.aload_n 0, 1) := by decide +kernel
theorem dX4_readLaw_172 : decode cX4_readLaw 172 = .ok (.getfield 24, 3) := by decide +kernel
theorem dX4_readLaw_175 : decode cX4_readLaw 175 = .ok (.invokevirtual 156, 3) := by decide +kernel
theorem dX4_readLaw_178 : decode cX4_readLaw 178 = .ok (.aload_n 0, 1) := by decide +kernel
theorem dX4_readLaw_179 : decode cX4_readLaw 179 = .ok (.invokevirtual 159, 3) := by decide +kernel
theorem dX4_readLaw_182 : decode cX4_readLaw 182 = .ok (.aload_n 0, 1) := by decide +kernel
theorem dX4_readLaw_183 : decode cX4_readLaw 183 = .ok (.invokevirtual 162, 3) := by decide +kernel
theorem dX4_readLaw_186 : decode cX4_readLaw 186 = .ok (.ifCond .eq 8, 3) := by decide +kernel
theorem dX4_readLaw_189 : decode cX4_readLaw 189 = .ok (.aload_n 0, 1) := by decide +kernel
theorem dX4_readLaw_190 : decode cX4_readLaw 190 = .ok (.iconst 0, 1) := by decide +kernel
theorem dX4_readLaw_191 : decode cX4_readLaw 191 = .ok (.invokevirtual 165, 3) := by decide +kernel
theorem dX4_readLaw_194 : decode cX4_readLaw 194 = .ok (.aload_n 0, 1) := by decide +kernel
theorem dX4_readLaw_195 : decode cX4_readLaw 195 = .ok (.getfield 24, 3) := by decide +kernel
theorem dX4_readLaw_198 : decode cX4_readLaw 198 = .ok (.invokevirtual 168, 3) := by decide +kernel
theorem dX4_readLaw_201 : decode cX4_readLaw 201 = .ok (.iload_n 3, 1) := by decide +kernel
theorem dX4_readLaw_202 : decode cX4_readLaw 202 = .ok (.iload 5, 2) := by decide +kernel
theorem dX4_readLaw_204 : decode cX4_readLaw 204 = .ok (.ifCond .lt 10, 3) := by decide +kernel
theorem dX4_readLaw_207 : decode cX4_readLaw 207 = .ok (.iconst 1, 1) := by decide +kernel
theorem dX4_readLaw_208 : decode cX4_readLaw 208 = .ok (.iload 5, 2) := by decide +kernel
theorem dX4_readLaw_210 : decode cX4_readLaw 210 = .ok (.ishl, 1) := by decide +kernel
theorem dX4_readLaw_211 : decode cX4_readLaw 211 = .ok (.goto 4, 3) := by decide +kernel
theorem dX4_readLaw_214 : decode cX4_readLaw 214 = .ok (.iconst 0, 1) := by decide +kernel
theorem dX4_readLaw_215 : decode cX4_readLaw 215 = .ok (.ior, 1) := by decide +kernel
theorem dX4_readLaw_216 : decode cX4_readLaw 216 = .ok (.istore_n 3, 1) := by decide +kernel
theorem dX4_readLaw_217 : decode cX4_readLaw 217 = .ok (.aload_n 0, 1) := by decide +kernel
theorem dX4_readLaw_218 : decode cX4_readLaw 218 = .ok (.invokevirtual 108, 3) := by decide +kernel
theorem dX4_readLaw_221 : decode cX4_readLaw 221 = .ok (.istore_n 2, 1) := by decide +kernel
theorem dX4_readLaw_222 : decode cX4_readLaw 222 = .ok (.iinc 4 1, 3) := by decide +kernel
theorem dX4_readLaw_225 : decode cX4_readLaw 225 = .ok (.goto (-196), 3) := by decide +kernel
theorem dX4_readLaw_228 : decode cX4_readLaw 228 = .ok (.return_, 1) := by decide +kernel
theorem dX4_readRule_0 : decode cX4_readRule 0 = .ok (.aload_n 0, 1) := by decide +kernel
theorem dX4_readRule_1 : decode cX4_readRule 1 = .ok (.invokevirtual 70, 3) := by decide +kernel
theorem dX4_readRule_4 : decode cX4_readRule 4 = .ok (.aload_n 1, 1) := by decide +kernel
theorem dX4_readRule_5 : decode cX4_readRule 5 = .ok (.invokevirtual 171, 3) := by decide +kernel
theorem dX4_readRule_8 : decode cX4_readRule 8 = .ok (.aload_n 0, 1) := by decide +kernel
theorem dX4_readRule_9 : decode cX4_readRule 9 = .ok (.aload_n 1, 1) := by decide +kernel
theorem dX4_readRule_10 : decode cX4_readRule 10 = .ok (.putfield 24, 3) := by decide +kernel
theorem dX4_readRule_13 : decode cX4_readRule 13 = .ok (.aload_n 0, 1) := by decide +kernel
theorem dX4_readRule_14 : decode cX4_readRule 14 = .ok (.ldc 172, 2) := by decide +kernel
theorem dX4_readRule_16 : decode cX4_readRule 16 = .ok (.putfield 17, 3) := by decide +kernel
theorem dX4_readRule_19 : decode cX4_readRule 19 = .ok (.iconst 1, 1) := by decide +kernel
theorem dX4_readRule_20 : decode cX4_readRule 20 = .ok (.istore_n 2, 1) := by decide +kernel
theorem dX4_readRule_21 : decode cX4_readRule 21 = .ok (.iconst 0, 1) := by decide +kernel
theorem dX4_readRule_22 : decode cX4_readRule 22 = .ok (.istore_n 3, 1) := by decide +kernel
theorem dX4_readRule_23 : decode cX4_readRule 23 = .ok (.iload_n 2, 1) := by decide +kernel
theorem dX4_readRule_24 : decode cX4_readRule 24 = .ok (.ifCond .eq 78, 3) := by decide +kernel
theorem dX4_readRule_27 : decode cX4_readRule 27 = .ok (.iload_n 3, 1) := by decide +kernel
theorem dX4_readRule_28 : decode cX4_readRule 28 = .ok (.bipush 12, 2) := by decide +kernel
theorem dX4_readRule_30 : decode cX4_readRule 30 = .ok (.if_icmp .gt 72, 3) := by decide +kernel
theorem dX4_readRule_33 : decode cX4_readRule 33 = .ok (.aload_n 0, 1) := by decide +kernel
theorem dX4_readRule_34 : decode cX4_readRule 34 = .ok (.ldc 174, 2) := by decide +kernel
theorem dX4_readRule_36 : decode cX4_readRule 36 = .ok (.iload_n 3, 1) := by decide +kernel
theorem dX4_readRule_37 : decode cX4_readRule 37 = .ok (.bipush 12, 2) := by decide +kernel
theorem dX4_readRule_39 : decode cX4_readRule 39 = .ok (.invokevirtual 80, 3) := by decide +kernel
theorem dX4_readRule_42 : decode cX4_readRule 42 = .ok (.istore 4, 2) := by decide +kernel
theorem dX4_readRule_44 : decode cX4_readRule 44 = .ok (.aload_n 0, 1) := by decide +kernel
theorem dX4_readRule_45 : decode cX4_readRule 45 = .ok (.invokevirtual 41, 3) := by decide +kernel
theorem dX4_readRule_48 : decode cX4_readRule 48 = .ok (.iload 4, 2) := by decide +kernel
theorem dX4_readRule_50 : decode cX4_readRule 50 = .ok (.iconst (-1), 1) := by decide +kernel
theorem dX4_readRule_51 : decode cX4_readRule 51 = .ok (.if_icmp .eq 40, 3) := by decide +kernel
theorem dX4_readRule_54 : decode cX4_readRule 54 = .ok (.aload_n 0, 1) := by decide +kernel
theorem dX4_readRule_55 : decode cX4_readRule 55 = .ok (.getfield 24, 3) := by decide +kernel
theorem dX4_readRule_58 : decode cX4_readRule 58 = .ok (.invokevirtual 156, 3) := by decide +kernel
theorem dX4_readRule_61 : decode cX4_readRule 61 = .ok (.aload_n 0, 1) := by decide +kernel
theorem dX4_readRule_62 : decode cX4_readRule 62 = .ok (.getfield 24, 3) := by decide +kernel
theorem dX4_readRule_65 : decode cX4_readRule 65 = .ok (.bipush 48, 2) := by decide +kernel
theorem dX4_readRule_67 : decode cX4_readRule 67 = .ok (.iload 4, 2) := by decide +kernel
theorem dX4_readRule_69 : decode cX4_readRule 69 = .ok (.invokevirtual 176, 3) := by decide +kernel
theorem dX4_readRule_72 : decode cX4_readRule 72 = .ok (.aload_n 0, 1) := by decide +kernel
theorem dX4_readRule_73 : decode cX4_readRule 73 = .ok (.invokevirtual 162, 3) := by decide +kernel
theorem dX4_readRule_76 : decode cX4_readRule 76 = .ok (.ifCond .eq 8, 3) := by decide +kernel
theorem dX4_readRule_79 : decode cX4_readRule 79 = .ok (.aload_n 0, 1) := by decide +kernel
theorem dX4_readRule_80 : decode cX4_readRule 80 = .ok (.iconst 0, 1) := by decide +kernel
theorem dX4_readRule_81 : decode cX4_readRule 81 = .ok (.invokevirtual 165, 3) := by decide +kernel
theorem dX4_readRule_84 : decode cX4_readRule 84 = .ok (.aload_n 0, 1) := by decide +kernel
theorem dX4_readRule_85 : decode cX4_readRule 85 = .ok (.getfield 24, 3) := by decide +kernel
theorem dX4_readRule_88 : decode cX4_readRule 88 = .ok (.invokevirtual 168, 3) := by decide +kernel
theorem dX4_readRule_91 : decode cX4_readRule 91 = .ok (.aload_n 0, 1) := by decide +kernel
theorem dX4_readRule_92 : decode cX4_readRule 92 = .ok (.invokevirtual 108, 3) := by decide +kernel
theorem dX4_readRule_95 : decode cX4_readRule 95 = .ok (.istore_n 2, 1) := by decide +kernel
theorem dX4_readRule_96 : decode cX4_readRule 96 = .ok (.iinc 3 1, 3) := by decide +kernel
theorem dX4_readRule_99 : decode cX4_readRule 99 = .ok (.goto (-76), 3) := by decide +kernel
theorem dX4_readRule_102 : decode cX4_readRule 102 = .ok (.return_, 1) := by decide +kernel
theorem dX4_opensTest_0 : decode cX4_opensTest 0 = .ok (.aload_n 0, 1) := by decide +kernel
theorem dX4_opensTest_1 : decode cX4_opensTest 1 = .ok (.getfield 24, 3) := by decide +kernel
theorem dX4_opensTest_4 : decode cX4_opensTest 4 = .ok (.invokevirtual 180, 3) := by decide +kernel
theorem dX4_opensTest_7 : decode cX4_opensTest 7 = .ok (.aload_n 0, 1) := by decide +kernel
theorem dX4_opensTest_8 : decode cX4_opensTest 8 = .ok (.ldc 183, 2) := by decide +kernel
theorem dX4_opensTest_10 : decode cX4_opensTest 10 = .ok (.invokevirtual 66, 3) := by decide +kernel
theorem dX4_opensTest_13 : decode cX4_opensTest 13 = .ok (.iconst (-1), 1) := by decide +kernel
theorem dX4_opensTest_14 : decode cX4_opensTest 14 = .ok (.if_icmp .ne 5, 3) := by decide +kernel
theorem dX4_opensTest_17 : decode cX4_opensTest 17 = .ok (.iconst 0, 1) := by decide +kernel
theorem dX4_opensTest_18 : decode cX4_opensTest 18 = .ok (.ireturn, 1) := by decide +kernel
theorem dX4_opensTest_19 : decode cX4_opensTest 19 = .ok (.aload_n 0, 1) := by decide +kernel
theorem dX4_opensTest_20 : decode cX4_opensTest 20 = .ok (.invokevirtual 41, 3) := by decide +kernel
theorem dX4_opensTest_23 : decode cX4_opensTest 23 = .ok (.iconst 1, 1) := by decide +kernel
theorem dX4_opensTest_24 : decode cX4_opensTest 24 = .ok (.ireturn, 1) := by decide +kernel
theorem dX4_test_0 : decode cX4_test 0 = .ok (.iconst 0, 1) := by decide +kernel
theorem dX4_test_1 : decode cX4_test 1 = .ok (.istore_n 2, 1) := by decide +kernel
theorem dX4_test_2 : decode cX4_test 2 = .ok (.aload_n 0, 1) := by decide +kernel
theorem dX4_test_3 : decode cX4_test 3 = .ok (.iload_n 1, 1) := by decide +kernel
theorem dX4_test_4 : decode cX4_test 4 = .ok (.invokevirtual 185, 3) := by decide +kernel
theorem dX4_test_7 : decode cX4_test 7 = .ok (.iconst 0, 1) := by decide +kernel
theorem dX4_test_8 : decode cX4_test 8 = .ok (.istore_n 3, 1) := by decide +kernel
theorem dX4_test_9 : decode cX4_test 9 = .ok (.iload_n 3, 1) := by decide +kernel
theorem dX4_test_10 : decode cX4_test 10 = .ok (.sipush 400, 3) := by decide +kernel
theorem dX4_test_13 : decode cX4_test 13 = .ok (.if_icmp .ge 87, 3) := by decide +kernel
theorem dX4_test_16 : decode cX4_test 16 = .ok (.aload_n 0, 1) := by decide +kernel
theorem dX4_test_17 : decode cX4_test 17 = .ok (.ldc 188, 2) := by decide +kernel
theorem dX4_test_19 : decode cX4_test 19 = .ok (.invokevirtual 66, 3) := by decide +kernel
theorem dX4_test_22 : decode cX4_test 22 = .ok (.iconst (-1), 1) := by decide +kernel
theorem dX4_test_23 : decode cX4_test 23 = .ok (.if_icmp .eq 77, 3) := by decide +kernel
theorem dX4_test_26 : decode cX4_test 26 = .ok (.aload_n 0, 1) := by decide +kernel
theorem dX4_test_27 : decode cX4_test 27 = .ok (.ldc 188, 2) := by decide +kernel
theorem dX4_test_29 : decode cX4_test 29 = .ok (.invokevirtual 66, 3) := by decide +kernel
theorem dX4_test_32 : decode cX4_test 32 = .ok (.istore 4, 2) := by decide +kernel
theorem dX4_test_34 : decode cX4_test 34 = .ok (.iload 4, 2) := by decide +kernel
theorem dX4_test_36 : decode cX4_test 36 = .ok (.iconst 1, 1) := by decide +kernel
theorem dX4_test_37 : decode cX4_test 37 = .ok (.if_icmp .ne 17, 3) := by decide +kernel
theorem dX4_test_40 : decode cX4_test 40 = .ok (.iload_n 2, 1) := by decide +kernel
theorem dX4_test_41 : decode cX4_test 41 = .ok (.ifCond .eq 13, 3) := by decide +kernel
theorem dX4_test_44 : decode cX4_test 44 = .ok (.aload_n 0, 1) := by decide +kernel
theorem dX4_test_45 : decode cX4_test 45 = .ok (.getfield 24, 3) := by decide +kernel
theorem dX4_test_48 : decode cX4_test 48 = .ok (.bipush 124, 2) := by decide +kernel
theorem dX4_test_50 : decode cX4_test 50 = .ok (.iconst 0, 1) := by decide +kernel
theorem dX4_test_51 : decode cX4_test 51 = .ok (.invokevirtual 176, 3) := by decide +kernel
theorem dX4_test_54 : decode cX4_test 54 = .ok (.iload_n 2, 1) := by decide +kernel
theorem dX4_test_55 : decode cX4_test 55 = .ok (.ifCond .ne 9, 3) := by decide +kernel
theorem dX4_test_58 : decode cX4_test 58 = .ok (.iload 4, 2) := by decide +kernel
theorem dX4_test_60 : decode cX4_test 60 = .ok (.iconst 1, 1) := by decide +kernel
theorem dX4_test_61 : decode cX4_test 61 = .ok (.if_icmp .ne 7, 3) := by decide +kernel
theorem dX4_test_64 : decode cX4_test 64 = .ok (.iconst 1, 1) := by decide +kernel
theorem dX4_test_65 : decode cX4_test 65 = .ok (.goto 4, 3) := by decide +kernel
theorem dX4_test_68 : decode cX4_test 68 = .ok (.iconst 0, 1) := by decide +kernel
theorem dX4_test_69 : decode cX4_test 69 = .ok (.istore_n 2, 1) := by decide +kernel
theorem dX4_test_70 : decode cX4_test 70 = .ok (.aload_n 0, 1) := by decide +kernel
theorem dX4_test_71 : decode cX4_test 71 = .ok (.invokevirtual 41, 3) := by decide +kernel
theorem dX4_test_74 : decode cX4_test 74 = .ok (.aload_n 0, 1) := by decide +kernel
theorem dX4_test_75 : decode cX4_test 75 = .ok (.iload_n 1, 1) := by decide +kernel
theorem dX4_test_76 : decode cX4_test 76 = .ok (.invokevirtual 185, 3) := by decide +kernel
theorem dX4_test_79 : decode cX4_test 79 = .ok (.iload 4, 2) := by decide +kernel
theorem dX4_test_81 : decode cX4_test 81 = .ok (.ifCond .ne 13, 3) := by decide +kernel
theorem dX4_test_84 : decode cX4_test 84 = .ok (.aload_n 0, 1) := by decide +kernel
theorem dX4_test_85 : decode cX4_test 85 = .ok (.getfield 24, 3) := by decide +kernel
theorem dX4_test_88 : decode cX4_test 88 = .ok (.bipush 38, 2) := by decide +kernel
theorem dX4_test_90 : decode cX4_test 90 = .ok (.iconst 0, 1) := by decide +kernel
theorem dX4_test_91 : decode cX4_test 91 = .ok (.invokevirtual 176, 3) := by decide +kernel
theorem dX4_test_94 : decode cX4_test 94 = .ok (.iinc 3 1, 3) := by decide +kernel
theorem dX4_test_97 : decode cX4_test 97 = .ok (.goto (-88), 3) := by decide +kernel
theorem dX4_test_100 : decode cX4_test 100 = .ok (.iload_n 2, 1) := by decide +kernel
theorem dX4_test_101 : decode cX4_test 101 = .ok (.ifCond .eq 13, 3) := by decide +kernel
theorem dX4_test_104 : decode cX4_test 104 = .ok (.aload_n 0, 1) := by decide +kernel
theorem dX4_test_105 : decode cX4_test 105 = .ok (.getfield 24, 3) := by decide +kernel
theorem dX4_test_108 : decode cX4_test 108 = .ok (.bipush 124, 2) := by decide +kernel
theorem dX4_test_110 : decode cX4_test 110 = .ok (.iconst 0, 1) := by decide +kernel
theorem dX4_test_111 : decode cX4_test 111 = .ok (.invokevirtual 176, 3) := by decide +kernel
theorem dX4_test_114 : decode cX4_test 114 = .ok (.return_, 1) := by decide +kernel
theorem dX4_fact_0 : decode cX4_fact 0 = .ok (.iload_n 1, 1) := by decide +kernel
theorem dX4_fact_1 : decode cX4_fact 1 = .ok (.istore_n 2, 1) := by decide +kernel
theorem dX4_fact_2 : decode cX4_fact 2 = .ok (.iconst 0, 1) := by decide +kernel
theorem dX4_fact_3 : decode cX4_fact 3 = .ok (.istore_n 3, 1) := by decide +kernel
theorem dX4_fact_4 : decode cX4_fact 4 = .ok (.iload_n 3, 1) := by decide +kernel
theorem dX4_fact_5 : decode cX4_fact 5 = .ok (.bipush 10, 2) := by decide +kernel
theorem dX4_fact_7 : decode cX4_fact 7 = .ok (.if_icmp .gt 24, 3) := by decide +kernel
theorem dX4_fact_10 : decode cX4_fact 10 = .ok (.aload_n 0, 1) := by decide +kernel
theorem dX4_fact_11 : decode cX4_fact 11 = .ok (.ldc 190, 2) := by decide +kernel
theorem dX4_fact_13 : decode cX4_fact 13 = .ok (.invokevirtual 66, 3) := by decide +kernel
theorem dX4_fact_16 : decode cX4_fact 16 = .ok (.ifCond .ne 15, 3) := by decide +kernel
theorem dX4_fact_19 : decode cX4_fact 19 = .ok (.aload_n 0, 1) := by decide +kernel
theorem dX4_fact_20 : decode cX4_fact 20 = .ok (.iload_n 2, 1) := by decide +kernel
theorem dX4_fact_21 : decode cX4_fact 21 = .ok (.invokevirtual 192, 3) := by decide +kernel
theorem dX4_fact_24 : decode cX4_fact 24 = .ok (.istore_n 2, 1) := by decide +kernel
theorem dX4_fact_25 : decode cX4_fact 25 = .ok (.iinc 3 1, 3) := by decide +kernel
theorem dX4_fact_28 : decode cX4_fact 28 = .ok (.goto (-24), 3) := by decide +kernel
theorem dX4_fact_31 : decode cX4_fact 31 = .ok (.aload_n 0, 1) := by decide +kernel
theorem dX4_fact_32 : decode cX4_fact 32 = .ok (.getfield 44, 3) := by decide +kernel
theorem dX4_fact_35 : decode cX4_fact 35 = .ok (.bipush 91, 2) := by decide +kernel
theorem dX4_fact_37 : decode cX4_fact 37 = .ok (.if_icmp .ne 44, 3) := by decide +kernel
theorem dX4_fact_40 : decode cX4_fact 40 = .ok (.aload_n 0, 1) := by decide +kernel
theorem dX4_fact_41 : decode cX4_fact 41 = .ok (.iload_n 2, 1) := by decide +kernel
theorem dX4_fact_42 : decode cX4_fact 42 = .ok (.invokevirtual 192, 3) := by decide +kernel
theorem dX4_fact_45 : decode cX4_fact 45 = .ok (.istore_n 3, 1) := by decide +kernel
theorem dX4_fact_46 : decode cX4_fact 46 = .ok (.iload_n 3, 1) := by decide +kernel
theorem dX4_fact_47 : decode cX4_fact 47 = .ok (.bipush 10, 2) := by decide +kernel
theorem dX4_fact_49 : decode cX4_fact 49 = .ok (.if_icmp .gt 8, 3) := by decide +kernel
theorem dX4_fact_52 : decode cX4_fact 52 = .ok (.aload_n 0, 1) := by decide +kernel
theorem dX4_fact_53 : decode cX4_fact 53 = .ok (.iload_n 3, 1) := by decide +kernel
theorem dX4_fact_54 : decode cX4_fact 54 = .ok (.invokevirtual 165, 3) := by decide +kernel
theorem dX4_fact_57 : decode cX4_fact 57 = .ok (.aload_n 0, 1) := by decide +kernel
theorem dX4_fact_58 : decode cX4_fact 58 = .ok (.getfield 44, 3) := by decide +kernel
theorem dX4_fact_61 : decode cX4_fact 61 = .ok (.bipush 93, 2) := by decide +kernel
theorem dX4_fact_63 : decode cX4_fact 63 = .ok (.if_icmp .ne 10, 3) := by decide +kernel
theorem dX4_fact_66 : decode cX4_fact 66 = .ok (.aload_n 0, 1) := by decide +kernel
theorem dX4_fact_67 : decode cX4_fact 67 = .ok (.invokevirtual 41, 3) := by decide +kernel
theorem dX4_fact_70 : decode cX4_fact 70 = .ok (.goto 8, 3) := by decide +kernel
theorem dX4_fact_73 : decode cX4_fact 73 = .ok (.aload_n 0, 1) := by decide +kernel
theorem dX4_fact_74 : decode cX4_fact 74 = .ok (.iconst 0, 1) := by decide +kernel
theorem dX4_fact_75 : decode cX4_fact 75 = .ok (.invokevirtual 59, 3) := by decide +kernel
theorem dX4_fact_78 : decode cX4_fact 78 = .ok (.goto 67, 3) := by decide +kernel
theorem dX4_fact_81 : decode cX4_fact 81 = .ok (.aload_n 0, 1) := by decide +kernel
theorem dX4_fact_82 : decode cX4_fact 82 = .ok (.invokevirtual 159, 3) := by decide +kernel
theorem dX4_fact_85 : decode cX4_fact 85 = .ok (.aload_n 0, 1) := by decide +kernel
theorem dX4_fact_86 : decode cX4_fact 86 = .ok (.getfield 44, 3) := by decide +kernel
theorem dX4_fact_89 : decode cX4_fact 89 = .ok (.istore_n 3, 1) := by decide +kernel
theorem dX4_fact_90 : decode cX4_fact 90 = .ok (.iload_n 3, 1) := by decide +kernel
theorem dX4_fact_91 : decode cX4_fact 91 = .ok (.bipush 60, 2) := by decide +kernel
theorem dX4_fact_93 : decode cX4_fact 93 = .ok (.if_icmp .eq 27, 3) := by decide +kernel
theorem dX4_fact_96 : decode cX4_fact 96 = .ok (.iload_n 3, 1) := by decide +kernel
theorem dX4_fact_97 : decode cX4_fact 97 = .ok (.bipush 108, 2) := by decide +kernel
theorem dX4_fact_99 : decode cX4_fact 99 = .ok (.if_icmp .eq 21, 3) := by decide +kernel
theorem dX4_fact_102 : decode cX4_fact 102 = .ok (.iload_n 3, 1) := by decide +kernel
theorem dX4_fact_103 : decode cX4_fact 103 = .ok (.bipush 61, 2) := by decide +kernel
theorem dX4_fact_105 : decode cX4_fact 105 = .ok (.if_icmp .eq 15, 3) := by decide +kernel
theorem dX4_fact_108 : decode cX4_fact 108 = .ok (.iload_n 3, 1) := by decide +kernel
theorem dX4_fact_109 : decode cX4_fact 109 = .ok (.bipush 103, 2) := by decide +kernel
theorem dX4_fact_111 : decode cX4_fact 111 = .ok (.if_icmp .eq 9, 3) := by decide +kernel
theorem dX4_fact_114 : decode cX4_fact 114 = .ok (.iload_n 3, 1) := by decide +kernel
theorem dX4_fact_115 : decode cX4_fact 115 = .ok (.bipush 62, 2) := by decide +kernel
theorem dX4_fact_117 : decode cX4_fact 117 = .ok (.if_icmp .ne 23, 3) := by decide +kernel
theorem dX4_fact_120 : decode cX4_fact 120 = .ok (.aload_n 0, 1) := by decide +kernel
theorem dX4_fact_121 : decode cX4_fact 121 = .ok (.invokevirtual 196, 3) := by decide +kernel
theorem dX4_fact_124 : decode cX4_fact 124 = .ok (.aload_n 0, 1) := by decide +kernel
theorem dX4_fact_125 : decode cX4_fact 125 = .ok (.invokevirtual 41, 3) := by decide +kernel
theorem dX4_fact_128 : decode cX4_fact 128 = .ok (.aload_n 0, 1) := by decide +kernel
theorem dX4_fact_129 : decode cX4_fact 129 = .ok (.invokevirtual 159, 3) := by decide +kernel
theorem dX4_fact_132 : decode cX4_fact 132 = .ok (.aload_n 0, 1) := by decide +kernel
theorem dX4_fact_133 : decode cX4_fact 133 = .ok (.iload_n 3, 1) := by decide +kernel
theorem dX4_fact_134 : decode cX4_fact 134 = .ok (.invokevirtual 199, 3) := by decide +kernel
theorem dX4_fact_137 : decode cX4_fact 137 = .ok (.goto 8, 3) := by decide +kernel
theorem dX4_fact_140 : decode cX4_fact 140 = .ok (.aload_n 0, 1) := by decide +kernel
theorem dX4_fact_141 : decode cX4_fact 141 = .ok (.iconst 0, 1) := by decide +kernel
theorem dX4_fact_142 : decode cX4_fact 142 = .ok (.invokevirtual 59, 3) := by decide +kernel
theorem dX4_fact_145 : decode cX4_fact 145 = .ok (.iload_n 1, 1) := by decide +kernel
theorem dX4_fact_146 : decode cX4_fact 146 = .ok (.istore_n 3, 1) := by decide +kernel
theorem dX4_fact_147 : decode cX4_fact 147 = .ok (.iload_n 3, 1) := by decide +kernel
theorem dX4_fact_148 : decode cX4_fact 148 = .ok (.iload_n 2, 1) := by decide +kernel
theorem dX4_fact_149 : decode cX4_fact 149 = .ok (.if_icmp .ge 19, 3) := by decide +kernel
theorem dX4_fact_152 : decode cX4_fact 152 = .ok (.aload_n 0, 1) := by decide +kernel
theorem dX4_fact_153 : decode cX4_fact 153 = .ok (.getfield 24, 3) := by decide +kernel
theorem dX4_fact_156 : decode cX4_fact 156 = .ok (.bipush 33, 2) := by decide +kernel
theorem dX4_fact_158 : decode cX4_fact 158 = .ok (.iconst 0, 1) := by decide +kernel
theorem dX4_fact_159 : decode cX4_fact 159 = .ok (.invokevirtual 176, 3) := by decide +kernel
theorem dX4_fact_162 : decode cX4_fact 162 = .ok (.iinc 3 1, 3) := by decide +kernel
theorem dX4_fact_165 : decode cX4_fact 165 = .ok (.goto (-18), 3) := by decide +kernel
theorem dX4_fact_168 : decode cX4_fact 168 = .ok (.return_, 1) := by decide +kernel
theorem dX4_addComparison_0 : decode cX4_addComparison 0 = .ok (.iload_n 1, 1) := by decide +kernel
theorem dX4_addComparison_1 : decode cX4_addComparison 1 = .ok (.bipush 108, 2) := by decide +kernel
theorem dX4_addComparison_3 : decode cX4_addComparison 3 = .ok (.if_icmp .ne 26, 3) := by decide +kernel
theorem dX4_addComparison_6 : decode cX4_addComparison 6 = .ok (.aload_n 0, 1) := by decide +kernel
theorem dX4_addComparison_7 : decode cX4_addComparison 7 = .ok (.getfield 24, 3) := by decide +kernel
theorem dX4_addComparison_10 : decode cX4_addComparison 10 = .ok (.bipush 62, 2) := by decide +kernel
theorem dX4_addComparison_12 : decode cX4_addComparison 12 = .ok (.iconst 0, 1) := by decide +kernel
theorem dX4_addComparison_13 : decode cX4_addComparison 13 = .ok (.invokevirtual 176, 3) := by decide +kernel
theorem dX4_addComparison_16 : decode cX4_addComparison 16 = .ok (.aload_n 0, 1) := by decide +kernel
theorem dX4_addComparison_17 : decode cX4_addComparison 17 = .ok (.getfield 24, 3) := by decide +kernel
theorem dX4_addComparison_20 : decode cX4_addComparison 20 = .ok (.bipush 33, 2) := by decide +kernel
theorem dX4_addComparison_22 : decode cX4_addComparison 22 = .ok (.iconst 0, 1) := by decide +kernel
theorem dX4_addComparison_23 : decode cX4_addComparison 23 = .ok (.invokevirtual 176, 3) := by decide +kernel
theorem dX4_addComparison_26 : decode cX4_addComparison 26 = .ok (.goto 41, 3) := by decide +kernel
theorem dX4_addComparison_29 : decode cX4_addComparison 29 = .ok (.iload_n 1, 1) := by decide +kernel
theorem dX4_addComparison_30 : decode cX4_addComparison 30 = .ok (.bipush 103, 2) := by decide +kernel
theorem dX4_addComparison_32 : decode cX4_addComparison 32 = .ok (.if_icmp .ne 26, 3) := by decide +kernel
theorem dX4_addComparison_35 : decode cX4_addComparison 35 = .ok (.aload_n 0, 1) := by decide +kernel
theorem dX4_addComparison_36 : decode cX4_addComparison 36 = .ok (.getfield 24, 3) := by decide +kernel
theorem dX4_addComparison_39 : decode cX4_addComparison 39 = .ok (.bipush 60, 2) := by decide +kernel
theorem dX4_addComparison_41 : decode cX4_addComparison 41 = .ok (.iconst 0, 1) := by decide +kernel
theorem dX4_addComparison_42 : decode cX4_addComparison 42 = .ok (.invokevirtual 176, 3) := by decide +kernel
theorem dX4_addComparison_45 : decode cX4_addComparison 45 = .ok (.aload_n 0, 1) := by decide +kernel
theorem dX4_addComparison_46 : decode cX4_addComparison 46 = .ok (.getfield 24, 3) := by decide +kernel
theorem dX4_addComparison_49 : decode cX4_addComparison 49 = .ok (.bipush 33, 2) := by decide +kernel
theorem dX4_addComparison_51 : decode cX4_addComparison 51 = .ok (.iconst 0, 1) := by decide +kernel
theorem dX4_addComparison_52 : decode cX4_addComparison 52 = .ok (.invokevirtual 176, 3) := by decide +kernel
theorem dX4_addComparison_55 : decode cX4_addComparison 55 = .ok (.goto 12, 3) := by decide +kernel
theorem dX4_addComparison_58 : decode cX4_addComparison 58 = .ok (.aload_n 0, 1) := by decide +kernel
theorem dX4_addComparison_59 : decode cX4_addComparison 59 = .ok (.getfield 24, 3) := by decide +kernel
theorem dX4_addComparison_62 : decode cX4_addComparison 62 = .ok (.iload_n 1, 1) := by decide +kernel
theorem dX4_addComparison_63 : decode cX4_addComparison 63 = .ok (.iconst 0, 1) := by decide +kernel
theorem dX4_addComparison_64 : decode cX4_addComparison 64 = .ok (.invokevirtual 176, 3) := by decide +kernel
theorem dX4_addComparison_67 : decode cX4_addComparison 67 = .ok (.return_, 1) := by decide +kernel
theorem dX4_deeper_0 : decode cX4_deeper 0 = .ok (.iload_n 1, 1) := by decide +kernel
theorem dX4_deeper_1 : decode cX4_deeper 1 = .ok (.bipush 10, 2) := by decide +kernel
theorem dX4_deeper_3 : decode cX4_deeper 3 = .ok (.if_icmp .lt 11, 3) := by decide +kernel
theorem dX4_deeper_6 : decode cX4_deeper 6 = .ok (.aload_n 0, 1) := by decide +kernel
theorem dX4_deeper_7 : decode cX4_deeper 7 = .ok (.iconst 2, 1) := by decide +kernel
theorem dX4_deeper_8 : decode cX4_deeper 8 = .ok (.invokevirtual 59, 3) := by decide +kernel
theorem dX4_deeper_11 : decode cX4_deeper 11 = .ok (.goto 7, 3) := by decide +kernel
theorem dX4_deeper_14 : decode cX4_deeper 14 = .ok (.aload_n 0, 1) := by decide +kernel
theorem dX4_deeper_15 : decode cX4_deeper 15 = .ok (.invokevirtual 41, 3) := by decide +kernel
theorem dX4_deeper_18 : decode cX4_deeper 18 = .ok (.iload_n 1, 1) := by decide +kernel
theorem dX4_deeper_19 : decode cX4_deeper 19 = .ok (.iconst 1, 1) := by decide +kernel
theorem dX4_deeper_20 : decode cX4_deeper 20 = .ok (.iadd, 1) := by decide +kernel
theorem dX4_deeper_21 : decode cX4_deeper 21 = .ok (.ireturn, 1) := by decide +kernel
theorem dX4_countPart_0 : decode cX4_countPart 0 = .ok (.aload_n 0, 1) := by decide +kernel
theorem dX4_countPart_1 : decode cX4_countPart 1 = .ok (.getfield 38, 3) := by decide +kernel
theorem dX4_countPart_4 : decode cX4_countPart 4 = .ok (.bipush 60, 2) := by decide +kernel
theorem dX4_countPart_6 : decode cX4_countPart 6 = .ok (.if_icmp .lt 8, 3) := by decide +kernel
theorem dX4_countPart_9 : decode cX4_countPart 9 = .ok (.aload_n 0, 1) := by decide +kernel
theorem dX4_countPart_10 : decode cX4_countPart 10 = .ok (.iconst 3, 1) := by decide +kernel
theorem dX4_countPart_11 : decode cX4_countPart 11 = .ok (.invokevirtual 59, 3) := by decide +kernel
theorem dX4_countPart_14 : decode cX4_countPart 14 = .ok (.aload_n 0, 1) := by decide +kernel
theorem dX4_countPart_15 : decode cX4_countPart 15 = .ok (.dup, 1) := by decide +kernel
theorem dX4_countPart_16 : decode cX4_countPart 16 = .ok (.getfield 38, 3) := by decide +kernel
theorem dX4_countPart_19 : decode cX4_countPart 19 = .ok (.iconst 1, 1) := by decide +kernel
theorem dX4_countPart_20 : decode cX4_countPart 20 = .ok (.iadd, 1) := by decide +kernel
theorem dX4_countPart_21 : decode cX4_countPart 21 = .ok (.putfield 38, 3) := by decide +kernel
theorem dX4_countPart_24 : decode cX4_countPart 24 = .ok (.return_, 1) := by decide +kernel
theorem dX4_sum_0 : decode cX4_sum 0 = .ok (.iconst 0, 1) := by decide +kernel
theorem dX4_sum_1 : decode cX4_sum 1 = .ok (.istore_n 1, 1) := by decide +kernel
theorem dX4_sum_2 : decode cX4_sum 2 = .ok (.aload_n 0, 1) := by decide +kernel
theorem dX4_sum_3 : decode cX4_sum 3 = .ok (.invokevirtual 202, 3) := by decide +kernel
theorem dX4_sum_6 : decode cX4_sum 6 = .ok (.iconst 0, 1) := by decide +kernel
theorem dX4_sum_7 : decode cX4_sum 7 = .ok (.istore_n 2, 1) := by decide +kernel
theorem dX4_sum_8 : decode cX4_sum 8 = .ok (.iload_n 2, 1) := by decide +kernel
theorem dX4_sum_9 : decode cX4_sum 9 = .ok (.sipush 400, 3) := by decide +kernel
theorem dX4_sum_12 : decode cX4_sum 12 = .ok (.if_icmp .ge 114, 3) := by decide +kernel
theorem dX4_sum_15 : decode cX4_sum 15 = .ok (.aload_n 0, 1) := by decide +kernel
theorem dX4_sum_16 : decode cX4_sum 16 = .ok (.getfield 44, 3) := by decide +kernel
theorem dX4_sum_19 : decode cX4_sum 19 = .ok (.bipush 43, 2) := by decide +kernel
theorem dX4_sum_21 : decode cX4_sum 21 = .ok (.if_icmp .eq 30, 3) := by decide +kernel
theorem dX4_sum_24 : decode cX4_sum 24 = .ok (.aload_n 0, 1) := by decide +kernel
theorem dX4_sum_25 : decode cX4_sum 25 = .ok (.getfield 44, 3) := by decide +kernel
theorem dX4_sum_28 : decode cX4_sum 28 = .ok (.bipush 45, 2) := by decide +kernel
theorem dX4_sum_30 : decode cX4_sum 30 = .ok (.if_icmp .eq 21, 3) := by decide +kernel
theorem dX4_sum_33 : decode cX4_sum 33 = .ok (.aload_n 0, 1) := by decide +kernel
theorem dX4_sum_34 : decode cX4_sum 34 = .ok (.getfield 44, 3) := by decide +kernel
theorem dX4_sum_37 : decode cX4_sum 37 = .ok (.bipush 42, 2) := by decide +kernel
theorem dX4_sum_39 : decode cX4_sum 39 = .ok (.if_icmp .eq 12, 3) := by decide +kernel
theorem dX4_sum_42 : decode cX4_sum 42 = .ok (.aload_n 0, 1) := by decide +kernel
theorem dX4_sum_43 : decode cX4_sum 43 = .ok (.getfield 44, 3) := by decide +kernel
theorem dX4_sum_46 : decode cX4_sum 46 = .ok (.bipush 47, 2) := by decide +kernel
theorem dX4_sum_48 : decode cX4_sum 48 = .ok (.if_icmp .ne 78, 3) := by decide +kernel
theorem dX4_sum_51 : decode cX4_sum 51 = .ok (.aload_n 0, 1) := by decide +kernel
theorem dX4_sum_52 : decode cX4_sum 52 = .ok (.getfield 44, 3) := by decide +kernel
theorem dX4_sum_55 : decode cX4_sum 55 = .ok (.istore_n 3, 1) := by decide +kernel
theorem dX4_sum_56 : decode cX4_sum 56 = .ok (.iload_n 3, 1) := by decide +kernel
theorem dX4_sum_57 : decode cX4_sum 57 = .ok (.bipush 42, 2) := by decide +kernel
theorem dX4_sum_59 : decode cX4_sum 59 = .ok (.if_icmp .eq 9, 3) := by decide +kernel
theorem dX4_sum_62 : decode cX4_sum 62 = .ok (.iload_n 3, 1) := by decide +kernel
theorem dX4_sum_63 : decode cX4_sum 63 = .ok (.bipush 47, 2) := by decide +kernel
theorem dX4_sum_65 : decode cX4_sum 65 = .ok (.if_icmp .ne 7, 3) := by decide +kernel
theorem dX4_sum_68 : decode cX4_sum 68 = .ok (.iconst 1, 1) := by decide +kernel
theorem dX4_sum_69 : decode cX4_sum 69 = .ok (.goto 4, 3) := by decide +kernel
theorem dX4_sum_72 : decode cX4_sum 72 = .ok (.iconst 0, 1) := by decide +kernel
theorem dX4_sum_73 : decode cX4_sum 73 = .ok (.istore 4, 2) := by decide +kernel
theorem dX4_sum_75 : decode cX4_sum 75 = .ok (.iload 4, 2) := by decide +kernel
theorem dX4_sum_77 : decode cX4_sum 77 = .ok (.ifCond .ne 16, 3) := by decide +kernel
theorem dX4_sum_80 : decode cX4_sum 80 = .ok (.iload_n 1, 1) := by decide +kernel
theorem dX4_sum_81 : decode cX4_sum 81 = .ok (.ifCond .eq 12, 3) := by decide +kernel
theorem dX4_sum_84 : decode cX4_sum 84 = .ok (.aload_n 0, 1) := by decide +kernel
theorem dX4_sum_85 : decode cX4_sum 85 = .ok (.getfield 24, 3) := by decide +kernel
theorem dX4_sum_88 : decode cX4_sum 88 = .ok (.iload_n 1, 1) := by decide +kernel
theorem dX4_sum_89 : decode cX4_sum 89 = .ok (.iconst 0, 1) := by decide +kernel
theorem dX4_sum_90 : decode cX4_sum 90 = .ok (.invokevirtual 176, 3) := by decide +kernel
theorem dX4_sum_93 : decode cX4_sum 93 = .ok (.aload_n 0, 1) := by decide +kernel
theorem dX4_sum_94 : decode cX4_sum 94 = .ok (.invokevirtual 41, 3) := by decide +kernel
theorem dX4_sum_97 : decode cX4_sum 97 = .ok (.aload_n 0, 1) := by decide +kernel
theorem dX4_sum_98 : decode cX4_sum 98 = .ok (.invokevirtual 202, 3) := by decide +kernel
theorem dX4_sum_101 : decode cX4_sum 101 = .ok (.iload 4, 2) := by decide +kernel
theorem dX4_sum_103 : decode cX4_sum 103 = .ok (.ifCond .eq 15, 3) := by decide +kernel
theorem dX4_sum_106 : decode cX4_sum 106 = .ok (.aload_n 0, 1) := by decide +kernel
theorem dX4_sum_107 : decode cX4_sum 107 = .ok (.getfield 24, 3) := by decide +kernel
theorem dX4_sum_110 : decode cX4_sum 110 = .ok (.iload_n 3, 1) := by decide +kernel
theorem dX4_sum_111 : decode cX4_sum 111 = .ok (.iconst 0, 1) := by decide +kernel
theorem dX4_sum_112 : decode cX4_sum 112 = .ok (.invokevirtual 176, 3) := by decide +kernel
theorem dX4_sum_115 : decode cX4_sum 115 = .ok (.goto 5, 3) := by decide +kernel
theorem dX4_sum_118 : decode cX4_sum 118 = .ok (.iload_n 3, 1) := by decide +kernel
theorem dX4_sum_119 : decode cX4_sum 119 = .ok (.istore_n 1, 1) := by decide +kernel
theorem dX4_sum_120 : decode cX4_sum 120 = .ok (.iinc 2 1, 3) := by decide +kernel
theorem dX4_sum_123 : decode cX4_sum 123 = .ok (.goto (-115), 3) := by decide +kernel
theorem dX4_sum_126 : decode cX4_sum 126 = .ok (.iload_n 1, 1) := by decide +kernel
theorem dX4_sum_127 : decode cX4_sum 127 = .ok (.ifCond .eq 12, 3) := by decide +kernel
theorem dX4_sum_130 : decode cX4_sum 130 = .ok (.aload_n 0, 1) := by decide +kernel
theorem dX4_sum_131 : decode cX4_sum 131 = .ok (.getfield 24, 3) := by decide +kernel
theorem dX4_sum_134 : decode cX4_sum 134 = .ok (.iload_n 1, 1) := by decide +kernel
theorem dX4_sum_135 : decode cX4_sum 135 = .ok (.iconst 0, 1) := by decide +kernel
theorem dX4_sum_136 : decode cX4_sum 136 = .ok (.invokevirtual 176, 3) := by decide +kernel
theorem dX4_sum_139 : decode cX4_sum 139 = .ok (.return_, 1) := by decide +kernel
theorem dX4_value_0 : decode cX4_value 0 = .ok (.aload_n 0, 1) := by decide +kernel
theorem dX4_value_1 : decode cX4_value 1 = .ok (.aload_n 0, 1) := by decide +kernel
theorem dX4_value_2 : decode cX4_value 2 = .ok (.getfield 17, 3) := by decide +kernel
theorem dX4_value_5 : decode cX4_value 5 = .ok (.invokevirtual 66, 3) := by decide +kernel
theorem dX4_value_8 : decode cX4_value 8 = .ok (.istore_n 1, 1) := by decide +kernel
theorem dX4_value_9 : decode cX4_value 9 = .ok (.aload_n 0, 1) := by decide +kernel
theorem dX4_value_10 : decode cX4_value 10 = .ok (.getfield 44, 3) := by decide +kernel
theorem dX4_value_13 : decode cX4_value 13 = .ok (.bipush 48, 2) := by decide +kernel
theorem dX4_value_15 : decode cX4_value 15 = .ok (.if_icmp .ne 37, 3) := by decide +kernel
theorem dX4_value_18 : decode cX4_value 18 = .ok (.aload_n 0, 1) := by decide +kernel
theorem dX4_value_19 : decode cX4_value 19 = .ok (.getfield 35, 3) := by decide +kernel
theorem dX4_value_22 : decode cX4_value 22 = .ok (.aload_n 0, 1) := by decide +kernel
theorem dX4_value_23 : decode cX4_value 23 = .ok (.getfield 47, 3) := by decide +kernel
theorem dX4_value_26 : decode cX4_value 26 = .ok (.isub, 1) := by decide +kernel
theorem dX4_value_27 : decode cX4_value 27 = .ok (.iconst 5, 1) := by decide +kernel
theorem dX4_value_28 : decode cX4_value 28 = .ok (.if_icmp .le 8, 3) := by decide +kernel
theorem dX4_value_31 : decode cX4_value 31 = .ok (.aload_n 0, 1) := by decide +kernel
theorem dX4_value_32 : decode cX4_value 32 = .ok (.iconst 1, 1) := by decide +kernel
theorem dX4_value_33 : decode cX4_value 33 = .ok (.invokevirtual 59, 3) := by decide +kernel
theorem dX4_value_36 : decode cX4_value 36 = .ok (.aload_n 0, 1) := by decide +kernel
theorem dX4_value_37 : decode cX4_value 37 = .ok (.getfield 24, 3) := by decide +kernel
theorem dX4_value_40 : decode cX4_value 40 = .ok (.bipush 48, 2) := by decide +kernel
theorem dX4_value_42 : decode cX4_value 42 = .ok (.aload_n 0, 1) := by decide +kernel
theorem dX4_value_43 : decode cX4_value 43 = .ok (.invokevirtual 63, 3) := by decide +kernel
theorem dX4_value_46 : decode cX4_value 46 = .ok (.invokevirtual 176, 3) := by decide +kernel
theorem dX4_value_49 : decode cX4_value 49 = .ok (.goto 26, 3) := by decide +kernel
theorem dX4_value_52 : decode cX4_value 52 = .ok (.iload_n 1, 1) := by decide +kernel
theorem dX4_value_53 : decode cX4_value 53 = .ok (.iconst (-1), 1) := by decide +kernel
theorem dX4_value_54 : decode cX4_value 54 = .ok (.if_icmp .eq 16, 3) := by decide +kernel
theorem dX4_value_57 : decode cX4_value 57 = .ok (.aload_n 0, 1) := by decide +kernel
theorem dX4_value_58 : decode cX4_value 58 = .ok (.getfield 24, 3) := by decide +kernel
theorem dX4_value_61 : decode cX4_value 61 = .ok (.bipush 97, 2) := by decide +kernel
theorem dX4_value_63 : decode cX4_value 63 = .ok (.iload_n 1, 1) := by decide +kernel
theorem dX4_value_64 : decode cX4_value 64 = .ok (.invokevirtual 176, 3) := by decide +kernel
theorem dX4_value_67 : decode cX4_value 67 = .ok (.goto 8, 3) := by decide +kernel
theorem dX4_value_70 : decode cX4_value 70 = .ok (.aload_n 0, 1) := by decide +kernel
theorem dX4_value_71 : decode cX4_value 71 = .ok (.iconst 0, 1) := by decide +kernel
theorem dX4_value_72 : decode cX4_value 72 = .ok (.invokevirtual 59, 3) := by decide +kernel
theorem dX4_value_75 : decode cX4_value 75 = .ok (.aload_n 0, 1) := by decide +kernel
theorem dX4_value_76 : decode cX4_value 76 = .ok (.invokevirtual 196, 3) := by decide +kernel
theorem dX4_value_79 : decode cX4_value 79 = .ok (.aload_n 0, 1) := by decide +kernel
theorem dX4_value_80 : decode cX4_value 80 = .ok (.invokevirtual 41, 3) := by decide +kernel
theorem dX4_value_83 : decode cX4_value 83 = .ok (.return_, 1) := by decide +kernel
theorem dX5_init_0 : decode cX5_init 0 = .ok (.aload_n 0, 1) := by decide +kernel
theorem dX5_init_1 : decode cX5_init 1 = .ok (.invokespecial 3, 3) := by decide +kernel
theorem dX5_init_4 : decode cX5_init 4 = .ok (.aload_n 0, 1) := by decide +kernel
theorem dX5_init_5 : decode cX5_init 5 = .ok (.bipush 7, 2) := by decide +kernel
theorem dX5_init_7 : decode cX5_init 7 = .ok (.anewarray 9, 3) := by decide +kernel
theorem dX5_init_10 : decode cX5_init 10 = .ok (.putfield 11, 3) := by decide +kernel
theorem dX5_init_13 : decode cX5_init 13 = .ok (.aload_n 0, 1) := by decide +kernel
theorem dX5_init_14 : decode cX5_init 14 = .ok (.bipush 7, 2) := by decide +kernel
theorem dX5_init_16 : decode cX5_init 16 = .ok (.newarray .long, 2) := by decide +kernel
theorem dX5_init_18 : decode cX5_init 18 = .ok (.putfield 17, 3) := by decide +kernel
theorem dX5_init_21 : decode cX5_init 21 = .ok (.aload_n 0, 1) := by decide +kernel
theorem dX5_init_22 : decode cX5_init 22 = .ok (.bipush 7, 2) := by decide +kernel
theorem dX5_init_24 : decode cX5_init 24 = .ok (.newarray .long, 2) := by decide +kernel
theorem dX5_init_26 : decode cX5_init 26 = .ok (.putfield 21, 3) := by decide +kernel
theorem dX5_init_29 : decode cX5_init 29 = .ok (.iconst 0, 1) := by decide +kernel
theorem dX5_init_30 : decode cX5_init 30 = .ok (.istore_n 1, 1) := by decide +kernel
theorem dX5_init_31 : decode cX5_init 31 = .ok (.iload_n 1, 1) := by decide +kernel
theorem dX5_init_32 : decode cX5_init 32 = .ok (.bipush 6, 2) := by decide +kernel
theorem dX5_init_34 : decode cX5_init 34 = .ok (.if_icmp .gt 22, 3) := by decide +kernel
theorem dX5_init_37 : decode cX5_init 37 = .ok (.aload_n 0, 1) := by decide +kernel
theorem dX5_init_38 : decode cX5_init 38 = .ok (.getfield 11, 3) := by decide +kernel
theorem dX5_init_41 : decode cX5_init 41 = .ok (.iload_n 1, 1) := by decide +kernel
theorem dX5_init_42 : decode cX5_init 42 = .ok (.new 9, 3) := by decide +kernel
theorem dX5_init_45 : decode cX5_init 45 = .ok (.dup, 1) := by decide +kernel
theorem dX5_init_46 : decode cX5_init 46 = .ok (.invokespecial 24, 3) := by decide +kernel
theorem dX5_init_49 : decode cX5_init 49 = .ok (.aastore, 1) := by decide +kernel
theorem dX5_init_50 : decode cX5_init 50 = .ok (.iinc 1 1, 3) := by decide +kernel
theorem dX5_init_53 : decode cX5_init 53 = .ok (.goto (-22), 3) := by decide +kernel
theorem dX5_init_56 : decode cX5_init 56 = .ok (.return_, 1) := by decide +kernel
theorem dX5_begin_0 : decode cX5_begin 0 = .ok (.aload_n 0, 1) := by decide +kernel
theorem dX5_begin_1 : decode cX5_begin 1 = .ok (.getfield 11, 3) := by decide +kernel
theorem dX5_begin_4 : decode cX5_begin 4 = .ok (.iconst 0, 1) := by decide +kernel
theorem dX5_begin_5 : decode cX5_begin 5 = .ok (.aaload, 1) := by decide +kernel
theorem dX5_begin_6 : decode cX5_begin 6 = .ok (.aload_n 1, 1) := by decide +kernel
theorem dX5_begin_7 : decode cX5_begin 7 = .ok (.invokevirtual 25, 3) := by decide +kernel
theorem dX5_begin_10 : decode cX5_begin 10 = .ok (.aload_n 0, 1) := by decide +kernel
theorem dX5_begin_11 : decode cX5_begin 11 = .ok (.getfield 17, 3) := by decide +kernel
theorem dX5_begin_14 : decode cX5_begin 14 = .ok (.iconst 0, 1) := by decide +kernel
theorem dX5_begin_15 : decode cX5_begin 15 = .ok (.aload_n 0, 1) := by decide +kernel
theorem dX5_begin_16 : decode cX5_begin 16 = .ok (.getfield 11, 3) := by decide +kernel
theorem dX5_begin_19 : decode cX5_begin 19 = .ok (.iconst 0, 1) := by decide +kernel
theorem dX5_begin_20 : decode cX5_begin 20 = .ok (.aaload, 1) := by decide +kernel
theorem dX5_begin_21 : decode cX5_begin 21 = .ok (.aload_n 2, 1) := by decide +kernel
theorem dX5_begin_22 : decode cX5_begin 22 = .ok (.getfield 29, 3) := by decide +kernel
theorem dX5_begin_25 : decode cX5_begin 25 = .ok (.invokevirtual 35, 3) := by decide +kernel
theorem dX5_begin_28 : decode cX5_begin 28 = .ok (.lastore, 1) := by decide +kernel
theorem dX5_begin_29 : decode cX5_begin 29 = .ok (.aload_n 0, 1) := by decide +kernel
theorem dX5_begin_30 : decode cX5_begin 30 = .ok (.getfield 21, 3) := by decide +kernel
theorem dX5_begin_33 : decode cX5_begin 33 = .ok (.iconst 0, 1) := by decide +kernel
theorem dX5_begin_34 : decode cX5_begin 34 = .ok (.lconst 0, 1) := by decide +kernel
theorem dX5_begin_35 : decode cX5_begin 35 = .ok (.lastore, 1) := by decide +kernel
theorem dX5_begin_36 : decode cX5_begin 36 = .ok (.return_, 1) := by decide +kernel
theorem dX5_step_0 : decode cX5_step 0 = .ok (.aload_n 0, 1) := by decide +kernel
theorem dX5_step_1 : decode cX5_step 1 = .ok (.getfield 11, 3) := by decide +kernel
theorem dX5_step_4 : decode cX5_step 4 = .ok (.iload_n 1, 1) := by decide +kernel
theorem dX5_step_5 : decode cX5_step 5 = .ok (.iconst 1, 1) := by decide +kernel
theorem dX5_step_6 : decode cX5_step 6 = .ok (.iadd, 1) := by decide +kernel
theorem dX5_step_7 : decode cX5_step 7 = .ok (.aaload, 1) := by decide +kernel
theorem dX5_step_8 : decode cX5_step 8 = .ok (.astore 4, 2) := by decide +kernel
theorem dX5_step_10 : decode cX5_step 10 = .ok (.aload 4, 2) := by decide +kernel
theorem dX5_step_12 : decode cX5_step 12 = .ok (.aload_n 0, 1) := by decide +kernel
theorem dX5_step_13 : decode cX5_step 13 = .ok (.getfield 11, 3) := by decide +kernel
theorem dX5_step_16 : decode cX5_step 16 = .ok (.iload_n 1, 1) := by decide +kernel
theorem dX5_step_17 : decode cX5_step 17 = .ok (.aaload, 1) := by decide +kernel
theorem dX5_step_18 : decode cX5_step 18 = .ok (.invokevirtual 25, 3) := by decide +kernel
theorem dX5_step_21 : decode cX5_step 21 = .ok (.aload_n 0, 1) := by decide +kernel
theorem dX5_step_22 : decode cX5_step 22 = .ok (.getfield 17, 3) := by decide +kernel
theorem dX5_step_25 : decode cX5_step 25 = .ok (.iload_n 1, 1) := by decide +kernel
theorem dX5_step_26 : decode cX5_step 26 = .ok (.iconst 1, 1) := by decide +kernel
theorem dX5_step_27 : decode cX5_step 27 = .ok (.iadd, 1) := by decide +kernel
theorem dX5_step_28 : decode cX5_step 28 = .ok (.aload_n 0, 1) := by decide +kernel
theorem dX5_step_29 : decode cX5_step 29 = .ok (.getfield 17, 3) := by decide +kernel
theorem dX5_step_32 : decode cX5_step 32 = .ok (.iload_n 1, 1) := by decide +kernel
theorem dX5_step_33 : decode cX5_step 33 = .ok (.laload, 1) := by decide +kernel
theorem dX5_step_34 : decode cX5_step 34 = .ok (.lastore, 1) := by decide +kernel
theorem dX5_step_35 : decode cX5_step 35 = .ok (.aload_n 0, 1) := by decide +kernel
theorem dX5_step_36 : decode cX5_step 36 = .ok (.getfield 21, 3) := by decide +kernel
theorem dX5_step_39 : decode cX5_step 39 = .ok (.iload_n 1, 1) := by decide +kernel
theorem dX5_step_40 : decode cX5_step 40 = .ok (.iconst 1, 1) := by decide +kernel
theorem dX5_step_41 : decode cX5_step 41 = .ok (.iadd, 1) := by decide +kernel
theorem dX5_step_42 : decode cX5_step 42 = .ok (.aload_n 0, 1) := by decide +kernel
theorem dX5_step_43 : decode cX5_step 43 = .ok (.getfield 21, 3) := by decide +kernel
theorem dX5_step_46 : decode cX5_step 46 = .ok (.iload_n 1, 1) := by decide +kernel
theorem dX5_step_47 : decode cX5_step 47 = .ok (.laload, 1) := by decide +kernel
theorem dX5_step_48 : decode cX5_step 48 = .ok (.lastore, 1) := by decide +kernel
theorem dX5_step_49 : decode cX5_step 49 = .ok (.iload_n 2, 1) := by decide +kernel
theorem dX5_step_50 : decode cX5_step 50 = .ok (.ifCond .ne 23, 3) := by decide +kernel
theorem dX5_step_53 : decode cX5_step 53 = .ok (.aload_n 0, 1) := by decide +kernel
theorem dX5_step_54 : decode cX5_step 54 = .ok (.getfield 21, 3) := by decide +kernel
theorem dX5_step_57 : decode cX5_step 57 = .ok (.iload_n 1, 1) := by decide +kernel
theorem dX5_step_58 : decode cX5_step 58 = .ok (.iconst 1, 1) := by decide +kernel
theorem dX5_step_59 : decode cX5_step 59 = .ok (.iadd, 1) := by decide +kernel
theorem dX5_step_60 : decode cX5_step 60 = .ok (.dup2, 1) := by decide +kernel
theorem dX5_step_61 : decode cX5_step 61 = .ok (.laload, 1) := by decide +kernel
theorem dX5_step_62 : decode cX5_step 62 = .ok (.aload 4, 2) := by decide +kernel
theorem dX5_step_64 : decode cX5_step 64 = .ok (.aload_n 3, 1) := by decide +kernel
theorem dX5_step_65 : decode cX5_step 65 = .ok (.getfield 39, 3) := by decide +kernel
theorem dX5_step_68 : decode cX5_step 68 = .ok (.invokevirtual 45, 3) := by decide +kernel
theorem dX5_step_71 : decode cX5_step 71 = .ok (.ladd, 1) := by decide +kernel
theorem dX5_step_72 : decode cX5_step 72 = .ok (.lastore, 1) := by decide +kernel
theorem dX5_step_73 : decode cX5_step 73 = .ok (.aload 4, 2) := by decide +kernel
theorem dX5_step_75 : decode cX5_step 75 = .ok (.iload_n 2, 1) := by decide +kernel
theorem dX5_step_76 : decode cX5_step 76 = .ok (.iconst 0, 1) := by decide +kernel
theorem dX5_step_77 : decode cX5_step 77 = .ok (.iconst 0, 1) := by decide +kernel
theorem dX5_step_78 : decode cX5_step 78 = .ok (.aload_n 3, 1) := by decide +kernel
theorem dX5_step_79 : decode cX5_step 79 = .ok (.invokevirtual 49, 3) := by decide +kernel
theorem dX5_step_82 : decode cX5_step 82 = .ok (.pop, 1) := by decide +kernel
theorem dX5_step_83 : decode cX5_step 83 = .ok (.iload_n 2, 1) := by decide +kernel
theorem dX5_step_84 : decode cX5_step 84 = .ok (.ifCond .ne 26, 3) := by decide +kernel
theorem dX5_step_87 : decode cX5_step 87 = .ok (.aload_n 0, 1) := by decide +kernel
theorem dX5_step_88 : decode cX5_step 88 = .ok (.getfield 17, 3) := by decide +kernel
theorem dX5_step_91 : decode cX5_step 91 = .ok (.iload_n 1, 1) := by decide +kernel
theorem dX5_step_92 : decode cX5_step 92 = .ok (.iconst 1, 1) := by decide +kernel
theorem dX5_step_93 : decode cX5_step 93 = .ok (.iadd, 1) := by decide +kernel
theorem dX5_step_94 : decode cX5_step 94 = .ok (.dup2, 1) := by decide +kernel
theorem dX5_step_95 : decode cX5_step 95 = .ok (.laload, 1) := by decide +kernel
theorem dX5_step_96 : decode cX5_step 96 = .ok (.aload 4, 2) := by decide +kernel
theorem dX5_step_98 : decode cX5_step 98 = .ok (.aload_n 3, 1) := by decide +kernel
theorem dX5_step_99 : decode cX5_step 99 = .ok (.getfield 39, 3) := by decide +kernel
theorem dX5_step_102 : decode cX5_step 102 = .ok (.getfield 29, 3) := by decide +kernel
theorem dX5_step_105 : decode cX5_step 105 = .ok (.invokevirtual 35, 3) := by decide +kernel
theorem dX5_step_108 : decode cX5_step 108 = .ok (.ladd, 1) := by decide +kernel
theorem dX5_step_109 : decode cX5_step 109 = .ok (.lastore, 1) := by decide +kernel
theorem dX5_step_110 : decode cX5_step 110 = .ok (.return_, 1) := by decide +kernel
theorem dX5_best_0 : decode cX5_best 0 = .ok (.aload_n 0, 1) := by decide +kernel
theorem dX5_best_1 : decode cX5_best 1 = .ok (.aload_n 1, 1) := by decide +kernel
theorem dX5_best_2 : decode cX5_best 2 = .ok (.aload_n 3, 1) := by decide +kernel
theorem dX5_best_3 : decode cX5_best 3 = .ok (.getfield 39, 3) := by decide +kernel
theorem dX5_best_6 : decode cX5_best 6 = .ok (.invokevirtual 53, 3) := by decide +kernel
theorem dX5_best_9 : decode cX5_best 9 = .ok (.iconst (-1), 1) := by decide +kernel
theorem dX5_best_10 : decode cX5_best 10 = .ok (.istore 4, 2) := by decide +kernel
theorem dX5_best_12 : decode cX5_best 12 = .ok (.lconst 0, 1) := by decide +kernel
theorem dX5_best_13 : decode cX5_best 13 = .ok (.lstore 5, 2) := by decide +kernel
theorem dX5_best_15 : decode cX5_best 15 = .ok (.lconst 0, 1) := by decide +kernel
theorem dX5_best_16 : decode cX5_best 16 = .ok (.lstore 7, 2) := by decide +kernel
theorem dX5_best_18 : decode cX5_best 18 = .ok (.iconst 0, 1) := by decide +kernel
theorem dX5_best_19 : decode cX5_best 19 = .ok (.istore 9, 2) := by decide +kernel
theorem dX5_best_21 : decode cX5_best 21 = .ok (.iload 9, 2) := by decide +kernel
theorem dX5_best_23 : decode cX5_best 23 = .ok (.iconst 1, 1) := by decide +kernel
theorem dX5_best_24 : decode cX5_best 24 = .ok (.iconst 2, 1) := by decide +kernel
theorem dX5_best_25 : decode cX5_best 25 = .ok (.iload_n 2, 1) := by decide +kernel
theorem dX5_best_26 : decode cX5_best 26 = .ok (.imul, 1) := by decide +kernel
theorem dX5_best_27 : decode cX5_best 27 = .ok (.ishl, 1) := by decide +kernel
theorem dX5_best_28 : decode cX5_best 28 = .ok (.if_icmp .ge 187, 3) := by decide +kernel
theorem dX5_best_31 : decode cX5_best 31 = .ok (.iload_n 2, 1) := by decide +kernel
theorem dX5_best_32 : decode cX5_best 32 = .ok (.iconst 1, 1) := by decide +kernel
theorem dX5_best_33 : decode cX5_best 33 = .ok (.isub, 1) := by decide +kernel
theorem dX5_best_34 : decode cX5_best 34 = .ok (.istore 10, 2) := by decide +kernel
theorem dX5_best_36 : decode cX5_best 36 = .ok (.iload 9, 2) := by decide +kernel
theorem dX5_best_38 : decode cX5_best 38 = .ok (.istore 11, 2) := by decide +kernel
theorem dX5_best_40 : decode cX5_best 40 = .ok (.iload 10, 2) := by decide +kernel
theorem dX5_best_42 : decode cX5_best 42 = .ok (.ifCond .le 22, 3) := by decide +kernel
theorem dX5_best_45 : decode cX5_best 45 = .ok (.iload 11, 2) := by decide +kernel
theorem dX5_best_47 : decode cX5_best 47 = .ok (.iconst 3, 1) := by decide +kernel
theorem dX5_best_48 : decode cX5_best 48 = .ok (.iand, 1) := by decide +kernel
theorem dX5_best_49 : decode cX5_best 49 = .ok (.ifCond .ne 15, 3) := by decide +kernel
theorem dX5_best_52 : decode cX5_best 52 = .ok (.iinc 10 (-1), 3) := by decide +kernel
theorem dX5_best_55 : decode cX5_best 55 = .ok (.iload 11, 2) := by decide +kernel
theorem dX5_best_57 : decode cX5_best 57 = .ok (.iconst 2, 1) := by decide +kernel
theorem dX5_best_58 : decode cX5_best 58 = .ok (.ishr, 1) := by decide +kernel
theorem dX5_best_59 : decode cX5_best 59 = .ok (.istore 11, 2) := by decide +kernel
theorem dX5_best_61 : decode cX5_best 61 = .ok (.goto (-21), 3) := by decide +kernel
theorem dX5_best_64 : decode cX5_best 64 = .ok (.iload 10, 2) := by decide +kernel
theorem dX5_best_66 : decode cX5_best 66 = .ok (.iload_n 2, 1) := by decide +kernel
theorem dX5_best_67 : decode cX5_best 67 = .ok (.if_icmp .ge 29, 3) := by decide +kernel
theorem dX5_best_70 : decode cX5_best 70 = .ok (.aload_n 0, 1) := by decide +kernel
theorem dX5_best_71 : decode cX5_best 71 = .ok (.iload 10, 2) := by decide +kernel
theorem dX5_best_73 : decode cX5_best 73 = .ok (.iload 9, 2) := by decide +kernel
theorem dX5_best_75 : decode cX5_best 75 = .ok (.iconst 2, 1) := by decide +kernel
theorem dX5_best_76 : decode cX5_best 76 = .ok (.iload_n 2, 1) := by decide +kernel
theorem dX5_best_77 : decode cX5_best 77 = .ok (.iconst 1, 1) := by decide +kernel
theorem dX5_best_78 : decode cX5_best 78 = .ok (.isub, 1) := by decide +kernel
theorem dX5_best_79 : decode cX5_best 79 = .ok (.iload 10, 2) := by decide +kernel
theorem dX5_best_81 : decode cX5_best 81 = .ok (.isub, 1) := by decide +kernel
theorem dX5_best_82 : decode cX5_best 82 = .ok (.imul, 1) := by decide +kernel
theorem dX5_best_83 : decode cX5_best 83 = .ok (.ishr, 1) := by decide +kernel
theorem dX5_best_84 : decode cX5_best 84 = .ok (.iconst 3, 1) := by decide +kernel
theorem dX5_best_85 : decode cX5_best 85 = .ok (.iand, 1) := by decide +kernel
theorem dX5_best_86 : decode cX5_best 86 = .ok (.aload_n 3, 1) := by decide +kernel
theorem dX5_best_87 : decode cX5_best 87 = .ok (.invokevirtual 57, 3) := by decide +kernel
theorem dX5_best_90 : decode cX5_best 90 = .ok (.iinc 10 1, 3) := by decide +kernel
theorem dX5_best_93 : decode cX5_best 93 = .ok (.goto (-29), 3) := by decide +kernel
theorem dX5_best_96 : decode cX5_best 96 = .ok (.iload 9, 2) := by decide +kernel
theorem dX5_best_98 : decode cX5_best 98 = .ok (.iload_n 2, 1) := by decide +kernel
theorem dX5_best_99 : decode cX5_best 99 = .ok (.invokestatic 61, 3) := by decide +kernel
theorem dX5_best_102 : decode cX5_best 102 = .ok (.istore 11, 2) := by decide +kernel
theorem dX5_best_104 : decode cX5_best 104 = .ok (.aload_n 0, 1) := by decide +kernel
theorem dX5_best_105 : decode cX5_best 105 = .ok (.getfield 17, 3) := by decide +kernel
theorem dX5_best_108 : decode cX5_best 108 = .ok (.iload_n 2, 1) := by decide +kernel
theorem dX5_best_109 : decode cX5_best 109 = .ok (.laload, 1) := by decide +kernel
theorem dX5_best_110 : decode cX5_best 110 = .ok (.lload 5, 2) := by decide +kernel
theorem dX5_best_112 : decode cX5_best 112 = .ok (.lcmp, 1) := by decide +kernel
theorem dX5_best_113 : decode cX5_best 113 = .ok (.ifCond .ne 19, 3) := by decide +kernel
theorem dX5_best_116 : decode cX5_best 116 = .ok (.aload_n 0, 1) := by decide +kernel
theorem dX5_best_117 : decode cX5_best 117 = .ok (.getfield 21, 3) := by decide +kernel
theorem dX5_best_120 : decode cX5_best 120 = .ok (.iload_n 2, 1) := by decide +kernel
theorem dX5_best_121 : decode cX5_best 121 = .ok (.laload, 1) := by decide +kernel
theorem dX5_best_122 : decode cX5_best 122 = .ok (.lload 7, 2) := by decide +kernel
theorem dX5_best_124 : decode cX5_best 124 = .ok (.lcmp, 1) := by decide +kernel
theorem dX5_best_125 : decode cX5_best 125 = .ok (.ifCond .ne 7, 3) := by decide +kernel
theorem dX5_best_128 : decode cX5_best 128 = .ok (.iconst 1, 1) := by decide +kernel
theorem dX5_best_129 : decode cX5_best 129 = .ok (.goto 4, 3) := by decide +kernel
theorem dX5_best_132 : decode cX5_best 132 = .ok (.iconst 0, 1) := by decide +kernel
theorem dX5_best_133 : decode cX5_best 133 = .ok (.istore 12, 2) := by decide +kernel
theorem dX5_best_135 : decode cX5_best 135 = .ok (.iload 4, 2) := by decide +kernel
theorem dX5_best_137 : decode cX5_best 137 = .ok (.iconst (-1), 1) := by decide +kernel
theorem dX5_best_138 : decode cX5_best 138 = .ok (.if_icmp .eq 51, 3) := by decide +kernel
theorem dX5_best_141 : decode cX5_best 141 = .ok (.aload_n 0, 1) := by decide +kernel
theorem dX5_best_142 : decode cX5_best 142 = .ok (.getfield 17, 3) := by decide +kernel
theorem dX5_best_145 : decode cX5_best 145 = .ok (.iload_n 2, 1) := by decide +kernel
theorem dX5_best_146 : decode cX5_best 146 = .ok (.laload, 1) := by decide +kernel
theorem dX5_best_147 : decode cX5_best 147 = .ok (.lload 5, 2) := by decide +kernel
theorem dX5_best_149 : decode cX5_best 149 = .ok (.lcmp, 1) := by decide +kernel
theorem dX5_best_150 : decode cX5_best 150 = .ok (.ifCond .gt 39, 3) := by decide +kernel
theorem dX5_best_153 : decode cX5_best 153 = .ok (.aload_n 0, 1) := by decide +kernel
theorem dX5_best_154 : decode cX5_best 154 = .ok (.getfield 17, 3) := by decide +kernel
theorem dX5_best_157 : decode cX5_best 157 = .ok (.iload_n 2, 1) := by decide +kernel
theorem dX5_best_158 : decode cX5_best 158 = .ok (.laload, 1) := by decide +kernel
theorem dX5_best_159 : decode cX5_best 159 = .ok (.lload 5, 2) := by decide +kernel
theorem dX5_best_161 : decode cX5_best 161 = .ok (.lcmp, 1) := by decide +kernel
theorem dX5_best_162 : decode cX5_best 162 = .ok (.ifCond .ne 15, 3) := by decide +kernel
theorem dX5_best_165 : decode cX5_best 165 = .ok (.aload_n 0, 1) := by decide +kernel
theorem dX5_best_166 : decode cX5_best 166 = .ok (.getfield 21, 3) := by decide +kernel
theorem dX5_best_169 : decode cX5_best 169 = .ok (.iload_n 2, 1) := by decide +kernel
theorem dX5_best_170 : decode cX5_best 170 = .ok (.laload, 1) := by decide +kernel
theorem dX5_best_171 : decode cX5_best 171 = .ok (.lload 7, 2) := by decide +kernel
theorem dX5_best_173 : decode cX5_best 173 = .ok (.lcmp, 1) := by decide +kernel
theorem dX5_best_174 : decode cX5_best 174 = .ok (.ifCond .lt 15, 3) := by decide +kernel
theorem dX5_best_177 : decode cX5_best 177 = .ok (.iload 12, 2) := by decide +kernel
theorem dX5_best_179 : decode cX5_best 179 = .ok (.ifCond .eq 30, 3) := by decide +kernel
theorem dX5_best_182 : decode cX5_best 182 = .ok (.iload 11, 2) := by decide +kernel
theorem dX5_best_184 : decode cX5_best 184 = .ok (.iload 4, 2) := by decide +kernel
theorem dX5_best_186 : decode cX5_best 186 = .ok (.if_icmp .ge 23, 3) := by decide +kernel
theorem dX5_best_189 : decode cX5_best 189 = .ok (.iload 11, 2) := by decide +kernel
theorem dX5_best_191 : decode cX5_best 191 = .ok (.istore 4, 2) := by decide +kernel
theorem dX5_best_193 : decode cX5_best 193 = .ok (.aload_n 0, 1) := by decide +kernel
theorem dX5_best_194 : decode cX5_best 194 = .ok (.getfield 17, 3) := by decide +kernel
theorem dX5_best_197 : decode cX5_best 197 = .ok (.iload_n 2, 1) := by decide +kernel
theorem dX5_best_198 : decode cX5_best 198 = .ok (.laload, 1) := by decide +kernel
theorem dX5_best_199 : decode cX5_best 199 = .ok (.lstore 5, 2) := by decide +kernel
theorem dX5_best_201 : decode cX5_best 201 = .ok (.aload_n 0, 1) := by decide +kernel
theorem dX5_best_202 : decode cX5_best 202 = .ok (.getfield 21, 3) := by decide +kernel
theorem dX5_best_205 : decode cX5_best 205 = .ok (.iload_n 2, 1) := by decide +kernel
theorem dX5_best_206 : decode cX5_best 206 = .ok (.laload, 1) := by decide +kernel
theorem dX5_best_207 : decode cX5_best 207 = .ok (.lstore 7, 2) := by decide +kernel
theorem dX5_best_209 : decode cX5_best 209 = .ok (.iinc 9 1, 3) := by decide +kernel
theorem dX5_best_212 : decode cX5_best 212 = .ok (.goto (-191), 3) := by decide +kernel
theorem dX5_best_215 : decode cX5_best 215 = .ok (.iload 4, 2) := by decide +kernel
theorem dX5_best_217 : decode cX5_best 217 = .ok (.ireturn, 1) := by decide +kernel
theorem dX5_turnedAround_0 : decode cX5_turnedAround 0 = .ok (.iconst 0, 1) := by decide +kernel
theorem dX5_turnedAround_1 : decode cX5_turnedAround 1 = .ok (.istore_n 2, 1) := by decide +kernel
theorem dX5_turnedAround_2 : decode cX5_turnedAround 2 = .ok (.iconst 0, 1) := by decide +kernel
theorem dX5_turnedAround_3 : decode cX5_turnedAround 3 = .ok (.istore_n 3, 1) := by decide +kernel
theorem dX5_turnedAround_4 : decode cX5_turnedAround 4 = .ok (.iload_n 3, 1) := by decide +kernel
theorem dX5_turnedAround_5 : decode cX5_turnedAround 5 = .ok (.iload_n 1, 1) := by decide +kernel
theorem dX5_turnedAround_6 : decode cX5_turnedAround 6 = .ok (.if_icmp .ge 21, 3) := by decide +kernel
theorem dX5_turnedAround_9 : decode cX5_turnedAround 9 = .ok (.iload_n 2, 1) := by decide +kernel
theorem dX5_turnedAround_10 : decode cX5_turnedAround 10 = .ok (.iconst 2, 1) := by decide +kernel
theorem dX5_turnedAround_11 : decode cX5_turnedAround 11 = .ok (.ishl, 1) := by decide +kernel
theorem dX5_turnedAround_12 : decode cX5_turnedAround 12 = .ok (.iload_n 0, 1) := by decide +kernel
theorem dX5_turnedAround_13 : decode cX5_turnedAround 13 = .ok (.iconst 2, 1) := by decide +kernel
theorem dX5_turnedAround_14 : decode cX5_turnedAround 14 = .ok (.iload_n 3, 1) := by decide +kernel
theorem dX5_turnedAround_15 : decode cX5_turnedAround 15 = .ok (.imul, 1) := by decide +kernel
theorem dX5_turnedAround_16 : decode cX5_turnedAround 16 = .ok (.ishr, 1) := by decide +kernel
theorem dX5_turnedAround_17 : decode cX5_turnedAround 17 = .ok (.iconst 3, 1) := by decide +kernel
theorem dX5_turnedAround_18 : decode cX5_turnedAround 18 = .ok (.iand, 1) := by decide +kernel
theorem dX5_turnedAround_19 : decode cX5_turnedAround 19 = .ok (.ior, 1) := by decide +kernel
theorem dX5_turnedAround_20 : decode cX5_turnedAround 20 = .ok (.istore_n 2, 1) := by decide +kernel
theorem dX5_turnedAround_21 : decode cX5_turnedAround 21 = .ok (.iinc 3 1, 3) := by decide +kernel
theorem dX5_turnedAround_24 : decode cX5_turnedAround 24 = .ok (.goto (-20), 3) := by decide +kernel
theorem dX5_turnedAround_27 : decode cX5_turnedAround 27 = .ok (.iload_n 2, 1) := by decide +kernel
theorem dX5_turnedAround_28 : decode cX5_turnedAround 28 = .ok (.ireturn, 1) := by decide +kernel
theorem dX6_init_0 : decode cX6_init 0 = .ok (.aload_n 0, 1) := by decide +kernel
theorem dX6_init_1 : decode cX6_init 1 = .ok (.invokespecial 3, 3) := by decide +kernel
theorem dX6_init_4 : decode cX6_init 4 = .ok (.aload_n 0, 1) := by decide +kernel
theorem dX6_init_5 : decode cX6_init 5 = .ok (.sipush 144, 3) := by decide +kernel
theorem dX6_init_8 : decode cX6_init 8 = .ok (.newarray .long, 2) := by decide +kernel
theorem dX6_init_10 : decode cX6_init 10 = .ok (.putfield 9, 3) := by decide +kernel
theorem dX6_init_13 : decode cX6_init 13 = .ok (.aload_n 0, 1) := by decide +kernel
theorem dX6_init_14 : decode cX6_init 14 = .ok (.sipush 576, 3) := by decide +kernel
theorem dX6_init_17 : decode cX6_init 17 = .ok (.newarray .long, 2) := by decide +kernel
theorem dX6_init_19 : decode cX6_init 19 = .ok (.putfield 15, 3) := by decide +kernel
theorem dX6_init_22 : decode cX6_init 22 = .ok (.aload_n 0, 1) := by decide +kernel
theorem dX6_init_23 : decode cX6_init 23 = .ok (.sipush 4464, 3) := by decide +kernel
theorem dX6_init_26 : decode cX6_init 26 = .ok (.newarray .int, 2) := by decide +kernel
theorem dX6_init_28 : decode cX6_init 28 = .ok (.putfield 18, 3) := by decide +kernel
theorem dX6_init_31 : decode cX6_init 31 = .ok (.aload_n 0, 1) := by decide +kernel
theorem dX6_init_32 : decode cX6_init 32 = .ok (.bipush 31, 2) := by decide +kernel
theorem dX6_init_34 : decode cX6_init 34 = .ok (.newarray .boolean, 2) := by decide +kernel
theorem dX6_init_36 : decode cX6_init 36 = .ok (.putfield 22, 3) := by decide +kernel
theorem dX6_init_39 : decode cX6_init 39 = .ok (.aload_n 0, 1) := by decide +kernel
theorem dX6_init_40 : decode cX6_init 40 = .ok (.iconst 5, 1) := by decide +kernel
theorem dX6_init_41 : decode cX6_init 41 = .ok (.newarray .long, 2) := by decide +kernel
theorem dX6_init_43 : decode cX6_init 43 = .ok (.putfield 26, 3) := by decide +kernel
theorem dX6_init_46 : decode cX6_init 46 = .ok (.aload_n 0, 1) := by decide +kernel
theorem dX6_init_47 : decode cX6_init 47 = .ok (.aload_n 1, 1) := by decide +kernel
theorem dX6_init_48 : decode cX6_init 48 = .ok (.putfield 29, 3) := by decide +kernel
theorem dX6_init_51 : decode cX6_init 51 = .ok (.aload_n 0, 1) := by decide +kernel
theorem dX6_init_52 : decode cX6_init 52 = .ok (.aload_n 2, 1) := by decide +kernel
theorem dX6_init_53 : decode cX6_init 53 = .ok (.putfield 33, 3) := by decide +kernel
theorem dX6_init_56 : decode cX6_init 56 = .ok (.return_, 1) := by decide +kernel
theorem dX6_take_0 : decode cX6_take 0 = .ok (.aload_n 0, 1) := by decide +kernel
theorem dX6_take_1 : decode cX6_take 1 = .ok (.aload_n 1, 1) := by decide +kernel
theorem dX6_take_2 : decode cX6_take 2 = .ok (.putfield 29, 3) := by decide +kernel
theorem dX6_take_5 : decode cX6_take 5 = .ok (.aload_n 0, 1) := by decide +kernel
theorem dX6_take_6 : decode cX6_take 6 = .ok (.aload_n 2, 1) := by decide +kernel
theorem dX6_take_7 : decode cX6_take 7 = .ok (.putfield 33, 3) := by decide +kernel
theorem dX6_take_10 : decode cX6_take 10 = .ok (.iconst 0, 1) := by decide +kernel
theorem dX6_take_11 : decode cX6_take 11 = .ok (.istore_n 3, 1) := by decide +kernel
theorem dX6_take_12 : decode cX6_take 12 = .ok (.iload_n 3, 1) := by decide +kernel
theorem dX6_take_13 : decode cX6_take 13 = .ok (.bipush 30, 2) := by decide +kernel
theorem dX6_take_15 : decode cX6_take 15 = .ok (.if_icmp .gt 16, 3) := by decide +kernel
theorem dX6_take_18 : decode cX6_take 18 = .ok (.aload_n 0, 1) := by decide +kernel
theorem dX6_take_19 : decode cX6_take 19 = .ok (.getfield 22, 3) := by decide +kernel
theorem dX6_take_22 : decode cX6_take 22 = .ok (.iload_n 3, 1) := by decide +kernel
theorem dX6_take_23 : decode cX6_take 23 = .ok (.iconst 0, 1) := by decide +kernel
theorem dX6_take_24 : decode cX6_take 24 = .ok (.bastore, 1) := by decide +kernel
theorem dX6_take_25 : decode cX6_take 25 = .ok (.iinc 3 1, 3) := by decide +kernel
theorem dX6_take_28 : decode cX6_take 28 = .ok (.goto (-16), 3) := by decide +kernel
theorem dX6_take_31 : decode cX6_take 31 = .ok (.return_, 1) := by decide +kernel
theorem dX6_ready_0 : decode cX6_ready 0 = .ok (.aload_n 0, 1) := by decide +kernel
theorem dX6_ready_1 : decode cX6_ready 1 = .ok (.getfield 22, 3) := by decide +kernel
theorem dX6_ready_4 : decode cX6_ready 4 = .ok (.iload_n 1, 1) := by decide +kernel
theorem dX6_ready_5 : decode cX6_ready 5 = .ok (.baload, 1) := by decide +kernel
theorem dX6_ready_6 : decode cX6_ready 6 = .ok (.ifCond .eq 4, 3) := by decide +kernel
theorem dX6_ready_9 : decode cX6_ready 9 = .ok (.return_, 1) := by decide +kernel
theorem dX6_ready_10 : decode cX6_ready 10 = .ok (.aload_n 0, 1) := by decide +kernel
theorem dX6_ready_11 : decode cX6_ready 11 = .ok (.getfield 22, 3) := by decide +kernel
theorem dX6_ready_14 : decode cX6_ready 14 = .ok (.iload_n 1, 1) := by decide +kernel
theorem dX6_ready_15 : decode cX6_ready 15 = .ok (.iconst 1, 1) := by decide +kernel
theorem dX6_ready_16 : decode cX6_ready 16 = .ok (.bastore, 1) := by decide +kernel
theorem dX6_ready_17 : decode cX6_ready 17 = .ok (.iconst 0, 1) := by decide +kernel
theorem dX6_ready_18 : decode cX6_ready 18 = .ok (.istore_n 2, 1) := by decide +kernel
theorem dX6_ready_19 : decode cX6_ready 19 = .ok (.iload_n 2, 1) := by decide +kernel
theorem dX6_ready_20 : decode cX6_ready 20 = .ok (.aload_n 0, 1) := by decide +kernel
theorem dX6_ready_21 : decode cX6_ready 21 = .ok (.getfield 29, 3) := by decide +kernel
theorem dX6_ready_24 : decode cX6_ready 24 = .ok (.getfield 37, 3) := by decide +kernel
theorem dX6_ready_27 : decode cX6_ready 27 = .ok (.if_icmp .ge 131, 3) := by decide +kernel
theorem dX6_ready_30 : decode cX6_ready 30 = .ok (.aload_n 0, 1) := by decide +kernel
theorem dX6_ready_31 : decode cX6_ready 31 = .ok (.getfield 29, 3) := by decide +kernel
theorem dX6_ready_34 : decode cX6_ready 34 = .ok (.getfield 43, 3) := by decide +kernel
theorem dX6_ready_37 : decode cX6_ready 37 = .ok (.iload_n 2, 1) := by decide +kernel
theorem dX6_ready_38 : decode cX6_ready 38 = .ok (.iaload, 1) := by decide +kernel
theorem dX6_ready_39 : decode cX6_ready 39 = .ok (.istore_n 3, 1) := by decide +kernel
theorem dX6_ready_40 : decode cX6_ready 40 = .ok (.aload_n 0, 1) := by decide +kernel
theorem dX6_ready_41 : decode cX6_ready 41 = .ok (.getfield 26, 3) := by decide +kernel
theorem dX6_ready_44 : decode cX6_ready 44 = .ok (.iconst 0, 1) := by decide +kernel
theorem dX6_ready_45 : decode cX6_ready 45 = .ok (.aload_n 0, 1) := by decide +kernel
theorem dX6_ready_46 : decode cX6_ready 46 = .ok (.getfield 29, 3) := by decide +kernel
theorem dX6_ready_49 : decode cX6_ready 49 = .ok (.getfield 46, 3) := by decide +kernel
theorem dX6_ready_52 : decode cX6_ready 52 = .ok (.iload_n 3, 1) := by decide +kernel
theorem dX6_ready_53 : decode cX6_ready 53 = .ok (.iaload, 1) := by decide +kernel
theorem dX6_ready_54 : decode cX6_ready 54 = .ok (.i2l, 1) := by decide +kernel
theorem dX6_ready_55 : decode cX6_ready 55 = .ok (.lastore, 1) := by decide +kernel
theorem dX6_ready_56 : decode cX6_ready 56 = .ok (.aload_n 0, 1) := by decide +kernel
theorem dX6_ready_57 : decode cX6_ready 57 = .ok (.getfield 26, 3) := by decide +kernel
theorem dX6_ready_60 : decode cX6_ready 60 = .ok (.iconst 1, 1) := by decide +kernel
theorem dX6_ready_61 : decode cX6_ready 61 = .ok (.aload_n 0, 1) := by decide +kernel
theorem dX6_ready_62 : decode cX6_ready 62 = .ok (.getfield 29, 3) := by decide +kernel
theorem dX6_ready_65 : decode cX6_ready 65 = .ok (.getfield 49, 3) := by decide +kernel
theorem dX6_ready_68 : decode cX6_ready 68 = .ok (.iload_n 3, 1) := by decide +kernel
theorem dX6_ready_69 : decode cX6_ready 69 = .ok (.iaload, 1) := by decide +kernel
theorem dX6_ready_70 : decode cX6_ready 70 = .ok (.i2l, 1) := by decide +kernel
theorem dX6_ready_71 : decode cX6_ready 71 = .ok (.lastore, 1) := by decide +kernel
theorem dX6_ready_72 : decode cX6_ready 72 = .ok (.aload_n 0, 1) := by decide +kernel
theorem dX6_ready_73 : decode cX6_ready 73 = .ok (.getfield 26, 3) := by decide +kernel
theorem dX6_ready_76 : decode cX6_ready 76 = .ok (.iconst 2, 1) := by decide +kernel
theorem dX6_ready_77 : decode cX6_ready 77 = .ok (.aload_n 0, 1) := by decide +kernel
theorem dX6_ready_78 : decode cX6_ready 78 = .ok (.getfield 29, 3) := by decide +kernel
theorem dX6_ready_81 : decode cX6_ready 81 = .ok (.getfield 52, 3) := by decide +kernel
theorem dX6_ready_84 : decode cX6_ready 84 = .ok (.iload_n 3, 1) := by decide +kernel
theorem dX6_ready_85 : decode cX6_ready 85 = .ok (.iaload, 1) := by decide +kernel
theorem dX6_ready_86 : decode cX6_ready 86 = .ok (.i2l, 1) := by decide +kernel
theorem dX6_ready_87 : decode cX6_ready 87 = .ok (.lastore, 1) := by decide +kernel
theorem dX6_ready_88 : decode cX6_ready 88 = .ok (.aload_n 0, 1) := by decide +kernel
theorem dX6_ready_89 : decode cX6_ready 89 = .ok (.getfield 26, 3) := by decide +kernel
theorem dX6_ready_92 : decode cX6_ready 92 = .ok (.iconst 3, 1) := by decide +kernel
theorem dX6_ready_93 : decode cX6_ready 93 = .ok (.aload_n 0, 1) := by decide +kernel
theorem dX6_ready_94 : decode cX6_ready 94 = .ok (.getfield 29, 3) := by decide +kernel
theorem dX6_ready_97 : decode cX6_ready 97 = .ok (.getfield 55, 3) := by decide +kernel
theorem dX6_ready_100 : decode cX6_ready 100 = .ok (.iload_n 3, 1) := by decide +kernel
theorem dX6_ready_101 : decode cX6_ready 101 = .ok (.iaload, 1) := by decide +kernel
theorem dX6_ready_102 : decode cX6_ready 102 = .ok (.i2l, 1) := by decide +kernel
theorem dX6_ready_103 : decode cX6_ready 103 = .ok (.lastore, 1) := by decide +kernel
theorem dX6_ready_104 : decode cX6_ready 104 = .ok (.aload_n 0, 1) := by decide +kernel
theorem dX6_ready_105 : decode cX6_ready 105 = .ok (.getfield 26, 3) := by decide +kernel
theorem dX6_ready_108 : decode cX6_ready 108 = .ok (.iconst 4, 1) := by decide +kernel
theorem dX6_ready_109 : decode cX6_ready 109 = .ok (.iload_n 1, 1) := by decide +kernel
theorem dX6_ready_110 : decode cX6_ready 110 = .ok (.i2l, 1) := by decide +kernel
theorem dX6_ready_111 : decode cX6_ready 111 = .ok (.lastore, 1) := by decide +kernel
theorem dX6_ready_112 : decode cX6_ready 112 = .ok (.aload_n 0, 1) := by decide +kernel
theorem dX6_ready_113 : decode cX6_ready 113 = .ok (.getfield 18, 3) := by decide +kernel
theorem dX6_ready_116 : decode cX6_ready 116 = .ok (.iload_n 1, 1) := by decide +kernel
theorem dX6_ready_117 : decode cX6_ready 117 = .ok (.sipush 144, 3) := by decide +kernel
theorem dX6_ready_120 : decode cX6_ready 120 = .ok (.imul, 1) := by decide +kernel
theorem dX6_ready_121 : decode cX6_ready 121 = .ok (.iload_n 3, 1) := by decide +kernel
theorem dX6_ready_122 : decode cX6_ready 122 = .ok (.iadd, 1) := by decide +kernel
theorem dX6_ready_123 : decode cX6_ready 123 = .ok (.lconst 0, 1) := by decide +kernel
theorem dX6_ready_124 : decode cX6_ready 124 = .ok (.ldc2_w 58, 3) := by decide +kernel
theorem dX6_ready_127 : decode cX6_ready 127 = .ok (.aload_n 0, 1) := by decide +kernel
theorem dX6_ready_128 : decode cX6_ready 128 = .ok (.getfield 33, 3) := by decide +kernel
theorem dX6_ready_131 : decode cX6_ready 131 = .ok (.getfield 60, 3) := by decide +kernel
theorem dX6_ready_134 : decode cX6_ready 134 = .ok (.aload_n 0, 1) := by decide +kernel
theorem dX6_ready_135 : decode cX6_ready 135 = .ok (.getfield 26, 3) := by decide +kernel
theorem dX6_ready_138 : decode cX6_ready 138 = .ok (.ldc2_w 66, 3) := by decide +kernel
theorem dX6_ready_141 : decode cX6_ready 141 = .ok (.invokevirtual 68, 3) := by decide +kernel
theorem dX6_ready_144 : decode cX6_ready 144 = .ok (.invokestatic 74, 3) := by decide +kernel
theorem dX6_ready_147 : decode cX6_ready 147 = .ok (.invokestatic 80, 3) := by decide +kernel
theorem dX6_ready_150 : decode cX6_ready 150 = .ok (.l2i, 1) := by decide +kernel
theorem dX6_ready_151 : decode cX6_ready 151 = .ok (.iastore, 1) := by decide +kernel
theorem dX6_ready_152 : decode cX6_ready 152 = .ok (.iinc 2 1, 3) := by decide +kernel
theorem dX6_ready_155 : decode cX6_ready 155 = .ok (.goto (-136), 3) := by decide +kernel
theorem dX6_ready_158 : decode cX6_ready 158 = .ok (.return_, 1) := by decide +kernel
theorem dX6_aheadAt_0 : decode cX6_aheadAt 0 = .ok (.aload_n 0, 1) := by decide +kernel
theorem dX6_aheadAt_1 : decode cX6_aheadAt 1 = .ok (.getfield 18, 3) := by decide +kernel
theorem dX6_aheadAt_4 : decode cX6_aheadAt 4 = .ok (.iload_n 2, 1) := by decide +kernel
theorem dX6_aheadAt_5 : decode cX6_aheadAt 5 = .ok (.sipush 144, 3) := by decide +kernel
theorem dX6_aheadAt_8 : decode cX6_aheadAt 8 = .ok (.imul, 1) := by decide +kernel
theorem dX6_aheadAt_9 : decode cX6_aheadAt 9 = .ok (.iload_n 1, 1) := by decide +kernel
theorem dX6_aheadAt_10 : decode cX6_aheadAt 10 = .ok (.iadd, 1) := by decide +kernel
theorem dX6_aheadAt_11 : decode cX6_aheadAt 11 = .ok (.iaload, 1) := by decide +kernel
theorem dX6_aheadAt_12 : decode cX6_aheadAt 12 = .ok (.ireturn, 1) := by decide +kernel
theorem dX6_asideBy_0 : decode cX6_asideBy 0 = .ok (.aload_n 0, 1) := by decide +kernel
theorem dX6_asideBy_1 : decode cX6_asideBy 1 = .ok (.getfield 33, 3) := by decide +kernel
theorem dX6_asideBy_4 : decode cX6_asideBy 4 = .ok (.getfield 83, 3) := by decide +kernel
theorem dX6_asideBy_7 : decode cX6_asideBy 7 = .ok (.sipush 1000, 3) := by decide +kernel
theorem dX6_asideBy_10 : decode cX6_asideBy 10 = .ok (.iload_n 1, 1) := by decide +kernel
theorem dX6_asideBy_11 : decode cX6_asideBy 11 = .ok (.isub, 1) := by decide +kernel
theorem dX6_asideBy_12 : decode cX6_asideBy 12 = .ok (.iconst 2, 1) := by decide +kernel
theorem dX6_asideBy_13 : decode cX6_asideBy 13 = .ok (.idiv, 1) := by decide +kernel
theorem dX6_asideBy_14 : decode cX6_asideBy 14 = .ok (.invokestatic 86, 3) := by decide +kernel
theorem dX6_asideBy_17 : decode cX6_asideBy 17 = .ok (.ireturn, 1) := by decide +kernel
theorem dX6_tell_0 : decode cX6_tell 0 = .ok (.aload_n 0, 1) := by decide +kernel
theorem dX6_tell_1 : decode cX6_tell 1 = .ok (.getfield 33, 3) := by decide +kernel
theorem dX6_tell_4 : decode cX6_tell 4 = .ok (.iload 4, 2) := by decide +kernel
theorem dX6_tell_6 : decode cX6_tell 6 = .ok (.invokevirtual 89, 3) := by decide +kernel
theorem dX6_tell_9 : decode cX6_tell 9 = .ok (.istore 5, 2) := by decide +kernel
theorem dX6_tell_11 : decode cX6_tell 11 = .ok (.iconst 0, 1) := by decide +kernel
theorem dX6_tell_12 : decode cX6_tell 12 = .ok (.istore 6, 2) := by decide +kernel
theorem dX6_tell_14 : decode cX6_tell 14 = .ok (.iload 6, 2) := by decide +kernel
theorem dX6_tell_16 : decode cX6_tell 16 = .ok (.aload_n 0, 1) := by decide +kernel
theorem dX6_tell_17 : decode cX6_tell 17 = .ok (.getfield 29, 3) := by decide +kernel
theorem dX6_tell_20 : decode cX6_tell 20 = .ok (.getfield 37, 3) := by decide +kernel
theorem dX6_tell_23 : decode cX6_tell 23 = .ok (.if_icmp .ge 239, 3) := by decide +kernel
theorem dX6_tell_26 : decode cX6_tell 26 = .ok (.aload_n 0, 1) := by decide +kernel
theorem dX6_tell_27 : decode cX6_tell 27 = .ok (.getfield 29, 3) := by decide +kernel
theorem dX6_tell_30 : decode cX6_tell 30 = .ok (.getfield 43, 3) := by decide +kernel
theorem dX6_tell_33 : decode cX6_tell 33 = .ok (.iload 6, 2) := by decide +kernel
theorem dX6_tell_35 : decode cX6_tell 35 = .ok (.iaload, 1) := by decide +kernel
theorem dX6_tell_36 : decode cX6_tell 36 = .ok (.istore 7, 2) := by decide +kernel
theorem dX6_tell_38 : decode cX6_tell 38 = .ok (.iload_n 1, 1) := by decide +kernel
theorem dX6_tell_39 : decode cX6_tell 39 = .ok (.bipush 6, 2) := by decide +kernel
theorem dX6_tell_41 : decode cX6_tell 41 = .ok (.if_icmp .ne 53, 3) := by decide +kernel
theorem dX6_tell_44 : decode cX6_tell 44 = .ok (.aload_n 0, 1) := by decide +kernel
theorem dX6_tell_45 : decode cX6_tell 45 = .ok (.getfield 9, 3) := by decide +kernel
theorem dX6_tell_48 : decode cX6_tell 48 = .ok (.iload 7, 2) := by decide +kernel
theorem dX6_tell_50 : decode cX6_tell 50 = .ok (.aload_n 0, 1) := by decide +kernel
theorem dX6_tell_51 : decode cX6_tell 51 = .ok (.getfield 29, 3) := by decide +kernel
theorem dX6_tell_54 : decode cX6_tell 54 = .ok (.getfield 49, 3) := by decide +kernel
theorem dX6_tell_57 : decode cX6_tell 57 = .ok (.iload 7, 2) := by decide +kernel
theorem dX6_tell_59 : decode cX6_tell 59 = .ok (.iaload, 1) := by decide +kernel
theorem dX6_tell_60 : decode cX6_tell 60 = .ok (.iload_n 2, 1) := by decide +kernel
theorem dX6_tell_61 : decode cX6_tell 61 = .ok (.if_icmp .ne 14, 3) := by decide +kernel
theorem dX6_tell_64 : decode cX6_tell 64 = .ok (.aload_n 0, 1) := by decide +kernel
theorem dX6_tell_65 : decode cX6_tell 65 = .ok (.getfield 33, 3) := by decide +kernel
theorem dX6_tell_68 : decode cX6_tell 68 = .ok (.getfield 93, 3) := by decide +kernel
theorem dX6_tell_71 : decode cX6_tell 71 = .ok (.i2l, 1) := by decide +kernel
theorem dX6_tell_72 : decode cX6_tell 72 = .ok (.goto 18, 3) := by decide +kernel
theorem dX6_tell_75 : decode cX6_tell 75 = .ok (.sipush 1000, 3) := by decide +kernel
theorem dX6_tell_78 : decode cX6_tell 78 = .ok (.aload_n 0, 1) := by decide +kernel
theorem dX6_tell_79 : decode cX6_tell 79 = .ok (.getfield 33, 3) := by decide +kernel
theorem dX6_tell_82 : decode cX6_tell 82 = .ok (.getfield 93, 3) := by decide +kernel
theorem dX6_tell_85 : decode cX6_tell 85 = .ok (.isub, 1) := by decide +kernel
theorem dX6_tell_86 : decode cX6_tell 86 = .ok (.bipush 7, 2) := by decide +kernel
theorem dX6_tell_88 : decode cX6_tell 88 = .ok (.idiv, 1) := by decide +kernel
theorem dX6_tell_89 : decode cX6_tell 89 = .ok (.i2l, 1) := by decide +kernel
theorem dX6_tell_90 : decode cX6_tell 90 = .ok (.lastore, 1) := by decide +kernel
theorem dX6_tell_91 : decode cX6_tell 91 = .ok (.goto 165, 3) := by decide +kernel
theorem dX6_tell_94 : decode cX6_tell 94 = .ok (.iload_n 1, 1) := by decide +kernel
theorem dX6_tell_95 : decode cX6_tell 95 = .ok (.bipush 7, 2) := by decide +kernel
theorem dX6_tell_97 : decode cX6_tell 97 = .ok (.if_icmp .ne 43, 3) := by decide +kernel
theorem dX6_tell_100 : decode cX6_tell 100 = .ok (.aload_n 0, 1) := by decide +kernel
theorem dX6_tell_101 : decode cX6_tell 101 = .ok (.getfield 9, 3) := by decide +kernel
theorem dX6_tell_104 : decode cX6_tell 104 = .ok (.iload 7, 2) := by decide +kernel
theorem dX6_tell_106 : decode cX6_tell 106 = .ok (.aload_n 0, 1) := by decide +kernel
theorem dX6_tell_107 : decode cX6_tell 107 = .ok (.getfield 29, 3) := by decide +kernel
theorem dX6_tell_110 : decode cX6_tell 110 = .ok (.getfield 52, 3) := by decide +kernel
theorem dX6_tell_113 : decode cX6_tell 113 = .ok (.iload 7, 2) := by decide +kernel
theorem dX6_tell_115 : decode cX6_tell 115 = .ok (.iaload, 1) := by decide +kernel
theorem dX6_tell_116 : decode cX6_tell 116 = .ok (.iload_n 2, 1) := by decide +kernel
theorem dX6_tell_117 : decode cX6_tell 117 = .ok (.if_icmp .ne 9, 3) := by decide +kernel
theorem dX6_tell_120 : decode cX6_tell 120 = .ok (.iload 5, 2) := by decide +kernel
theorem dX6_tell_122 : decode cX6_tell 122 = .ok (.i2l, 1) := by decide +kernel
theorem dX6_tell_123 : decode cX6_tell 123 = .ok (.goto 13, 3) := by decide +kernel
theorem dX6_tell_126 : decode cX6_tell 126 = .ok (.sipush 1000, 3) := by decide +kernel
theorem dX6_tell_129 : decode cX6_tell 129 = .ok (.iload 5, 2) := by decide +kernel
theorem dX6_tell_131 : decode cX6_tell 131 = .ok (.isub, 1) := by decide +kernel
theorem dX6_tell_132 : decode cX6_tell 132 = .ok (.bipush 9, 2) := by decide +kernel
theorem dX6_tell_134 : decode cX6_tell 134 = .ok (.idiv, 1) := by decide +kernel
theorem dX6_tell_135 : decode cX6_tell 135 = .ok (.i2l, 1) := by decide +kernel
theorem dX6_tell_136 : decode cX6_tell 136 = .ok (.lastore, 1) := by decide +kernel
theorem dX6_tell_137 : decode cX6_tell 137 = .ok (.goto 119, 3) := by decide +kernel
theorem dX6_tell_140 : decode cX6_tell 140 = .ok (.iload_n 1, 1) := by decide +kernel
theorem dX6_tell_141 : decode cX6_tell 141 = .ok (.bipush 8, 2) := by decide +kernel
theorem dX6_tell_143 : decode cX6_tell 143 = .ok (.if_icmp .ne 71, 3) := by decide +kernel
theorem dX6_tell_146 : decode cX6_tell 146 = .ok (.aload_n 0, 1) := by decide +kernel
theorem dX6_tell_147 : decode cX6_tell 147 = .ok (.getfield 29, 3) := by decide +kernel
theorem dX6_tell_150 : decode cX6_tell 150 = .ok (.iload_n 2, 1) := by decide +kernel
theorem dX6_tell_151 : decode cX6_tell 151 = .ok (.iload 7, 2) := by decide +kernel
theorem dX6_tell_153 : decode cX6_tell 153 = .ok (.invokevirtual 96, 3) := by decide +kernel
theorem dX6_tell_156 : decode cX6_tell 156 = .ok (.iload_n 3, 1) := by decide +kernel
theorem dX6_tell_157 : decode cX6_tell 157 = .ok (.isub, 1) := by decide +kernel
theorem dX6_tell_158 : decode cX6_tell 158 = .ok (.invokestatic 99, 3) := by decide +kernel
theorem dX6_tell_161 : decode cX6_tell 161 = .ok (.istore 8, 2) := by decide +kernel
theorem dX6_tell_163 : decode cX6_tell 163 = .ok (.aload_n 0, 1) := by decide +kernel
theorem dX6_tell_164 : decode cX6_tell 164 = .ok (.getfield 9, 3) := by decide +kernel
theorem dX6_tell_167 : decode cX6_tell 167 = .ok (.iload 7, 2) := by decide +kernel
theorem dX6_tell_169 : decode cX6_tell 169 = .ok (.iload 8, 2) := by decide +kernel
theorem dX6_tell_171 : decode cX6_tell 171 = .ok (.ifCond .ne 14, 3) := by decide +kernel
theorem dX6_tell_174 : decode cX6_tell 174 = .ok (.aload_n 0, 1) := by decide +kernel
theorem dX6_tell_175 : decode cX6_tell 175 = .ok (.getfield 33, 3) := by decide +kernel
theorem dX6_tell_178 : decode cX6_tell 178 = .ok (.getfield 102, 3) := by decide +kernel
theorem dX6_tell_181 : decode cX6_tell 181 = .ok (.i2l, 1) := by decide +kernel
theorem dX6_tell_182 : decode cX6_tell 182 = .ok (.goto 28, 3) := by decide +kernel
theorem dX6_tell_185 : decode cX6_tell 185 = .ok (.sipush 1000, 3) := by decide +kernel
theorem dX6_tell_188 : decode cX6_tell 188 = .ok (.aload_n 0, 1) := by decide +kernel
theorem dX6_tell_189 : decode cX6_tell 189 = .ok (.getfield 33, 3) := by decide +kernel
theorem dX6_tell_192 : decode cX6_tell 192 = .ok (.getfield 102, 3) := by decide +kernel
theorem dX6_tell_195 : decode cX6_tell 195 = .ok (.isub, 1) := by decide +kernel
theorem dX6_tell_196 : decode cX6_tell 196 = .ok (.iload 8, 2) := by decide +kernel
theorem dX6_tell_198 : decode cX6_tell 198 = .ok (.iconst 1, 1) := by decide +kernel
theorem dX6_tell_199 : decode cX6_tell 199 = .ok (.if_icmp .ne 7, 3) := by decide +kernel
theorem dX6_tell_202 : decode cX6_tell 202 = .ok (.iconst 4, 1) := by decide +kernel
theorem dX6_tell_203 : decode cX6_tell 203 = .ok (.goto 5, 3) := by decide +kernel
theorem dX6_tell_206 : decode cX6_tell 206 = .ok (.bipush 80, 2) := by decide +kernel
