theorem dX6_tell_208 : decode cX6_tell 208 = .ok (.idiv, 1) := by decide +kernel
theorem dX6_tell_209 : decode cX6_tell 209 = .ok (.i2l, 1) := by decide +kernel
theorem dX6_tell_210 : decode cX6_tell 210 = .ok (.lastore, 1) := by decide +kernel
theorem dX6_tell_211 : decode cX6_tell 211 = .ok (.goto 45, 3) := by decide +kernel
theorem dX6_tell_214 : decode cX6_tell 214 = .ok (.aload_n 0, 1) := by decide +kernel
theorem dX6_tell_215 : decode cX6_tell 215 = .ok (.getfield 9, 3) := by decide +kernel
theorem dX6_tell_218 : decode cX6_tell 218 = .ok (.iload 7, 2) := by decide +kernel
theorem dX6_tell_220 : decode cX6_tell 220 = .ok (.aload_n 0, 1) := by decide +kernel
theorem dX6_tell_221 : decode cX6_tell 221 = .ok (.getfield 29, 3) := by decide +kernel
theorem dX6_tell_224 : decode cX6_tell 224 = .ok (.getfield 49, 3) := by decide +kernel
theorem dX6_tell_227 : decode cX6_tell 227 = .ok (.iload 7, 2) := by decide +kernel
theorem dX6_tell_229 : decode cX6_tell 229 = .ok (.iaload, 1) := by decide +kernel
theorem dX6_tell_230 : decode cX6_tell 230 = .ok (.iload_n 2, 1) := by decide +kernel
theorem dX6_tell_231 : decode cX6_tell 231 = .ok (.if_icmp .ne 23, 3) := by decide +kernel
theorem dX6_tell_234 : decode cX6_tell 234 = .ok (.aload_n 0, 1) := by decide +kernel
theorem dX6_tell_235 : decode cX6_tell 235 = .ok (.getfield 29, 3) := by decide +kernel
theorem dX6_tell_238 : decode cX6_tell 238 = .ok (.getfield 46, 3) := by decide +kernel
theorem dX6_tell_241 : decode cX6_tell 241 = .ok (.iload 7, 2) := by decide +kernel
theorem dX6_tell_243 : decode cX6_tell 243 = .ok (.iaload, 1) := by decide +kernel
theorem dX6_tell_244 : decode cX6_tell 244 = .ok (.iload_n 3, 1) := by decide +kernel
theorem dX6_tell_245 : decode cX6_tell 245 = .ok (.if_icmp .ne 9, 3) := by decide +kernel
theorem dX6_tell_248 : decode cX6_tell 248 = .ok (.ldc2_w 58, 3) := by decide +kernel
theorem dX6_tell_251 : decode cX6_tell 251 = .ok (.goto 4, 3) := by decide +kernel
theorem dX6_tell_254 : decode cX6_tell 254 = .ok (.lconst 0, 1) := by decide +kernel
theorem dX6_tell_255 : decode cX6_tell 255 = .ok (.lastore, 1) := by decide +kernel
theorem dX6_tell_256 : decode cX6_tell 256 = .ok (.iinc 6 1, 3) := by decide +kernel
theorem dX6_tell_259 : decode cX6_tell 259 = .ok (.goto (-245), 3) := by decide +kernel
theorem dX6_tell_262 : decode cX6_tell 262 = .ok (.return_, 1) := by decide +kernel
theorem dX7_init_0 : decode cX7_init 0 = .ok (.aload_n 0, 1) := by decide +kernel
theorem dX7_init_1 : decode cX7_init 1 = .ok (.invokespecial 3, 3) := by decide +kernel
theorem dX7_init_4 : decode cX7_init 4 = .ok (.aload_n 0, 1) := by decide +kernel
theorem dX7_init_5 : decode cX7_init 5 = .ok (.new 9, 3) := by decide +kernel
theorem dX7_init_8 : decode cX7_init 8 = .ok (.dup, 1) := by decide +kernel
theorem dX7_init_9 : decode cX7_init 9 = .ok (.invokespecial 11, 3) := by decide +kernel
theorem dX7_init_12 : decode cX7_init 12 = .ok (.putfield 12, 3) := by decide +kernel
theorem dX7_init_15 : decode cX7_init 15 = .ok (.aload_n 0, 1) := by decide +kernel
theorem dX7_init_16 : decode cX7_init 16 = .ok (.sipush 200, 3) := by decide +kernel
theorem dX7_init_19 : decode cX7_init 19 = .ok (.newarray .int, 2) := by decide +kernel
theorem dX7_init_21 : decode cX7_init 21 = .ok (.putfield 18, 3) := by decide +kernel
theorem dX7_init_24 : decode cX7_init 24 = .ok (.aload_n 0, 1) := by decide +kernel
theorem dX7_init_25 : decode cX7_init 25 = .ok (.sipush 200, 3) := by decide +kernel
theorem dX7_init_28 : decode cX7_init 28 = .ok (.newarray .int, 2) := by decide +kernel
theorem dX7_init_30 : decode cX7_init 30 = .ok (.putfield 22, 3) := by decide +kernel
theorem dX7_init_33 : decode cX7_init 33 = .ok (.aload_n 0, 1) := by decide +kernel
theorem dX7_init_34 : decode cX7_init 34 = .ok (.bipush 8, 2) := by decide +kernel
theorem dX7_init_36 : decode cX7_init 36 = .ok (.newarray .int, 2) := by decide +kernel
theorem dX7_init_38 : decode cX7_init 38 = .ok (.putfield 25, 3) := by decide +kernel
theorem dX7_init_41 : decode cX7_init 41 = .ok (.aload_n 0, 1) := by decide +kernel
theorem dX7_init_42 : decode cX7_init 42 = .ok (.getfield 25, 3) := by decide +kernel
theorem dX7_init_45 : decode cX7_init 45 = .ok (.iconst (-1), 1) := by decide +kernel
theorem dX7_init_46 : decode cX7_init 46 = .ok (.invokestatic 28, 3) := by decide +kernel
theorem dX7_init_49 : decode cX7_init 49 = .ok (.return_, 1) := by decide +kernel
theorem dX7_begin_0 : decode cX7_begin 0 = .ok (.aload_n 0, 1) := by decide +kernel
theorem dX7_begin_1 : decode cX7_begin 1 = .ok (.iconst 1, 1) := by decide +kernel
theorem dX7_begin_2 : decode cX7_begin 2 = .ok (.putfield 34, 3) := by decide +kernel
theorem dX7_begin_5 : decode cX7_begin 5 = .ok (.aload_n 0, 1) := by decide +kernel
theorem dX7_begin_6 : decode cX7_begin 6 = .ok (.iload_n 1, 1) := by decide +kernel
theorem dX7_begin_7 : decode cX7_begin 7 = .ok (.putfield 38, 3) := by decide +kernel
theorem dX7_begin_10 : decode cX7_begin 10 = .ok (.aload_n 0, 1) := by decide +kernel
theorem dX7_begin_11 : decode cX7_begin 11 = .ok (.iload_n 2, 1) := by decide +kernel
theorem dX7_begin_12 : decode cX7_begin 12 = .ok (.putfield 42, 3) := by decide +kernel
theorem dX7_begin_15 : decode cX7_begin 15 = .ok (.aload_n 0, 1) := by decide +kernel
theorem dX7_begin_16 : decode cX7_begin 16 = .ok (.iload_n 3, 1) := by decide +kernel
theorem dX7_begin_17 : decode cX7_begin 17 = .ok (.putfield 45, 3) := by decide +kernel
theorem dX7_begin_20 : decode cX7_begin 20 = .ok (.aload_n 0, 1) := by decide +kernel
theorem dX7_begin_21 : decode cX7_begin 21 = .ok (.iload 4, 2) := by decide +kernel
theorem dX7_begin_23 : decode cX7_begin 23 = .ok (.putfield 48, 3) := by decide +kernel
theorem dX7_begin_26 : decode cX7_begin 26 = .ok (.aload_n 0, 1) := by decide +kernel
theorem dX7_begin_27 : decode cX7_begin 27 = .ok (.iconst 0, 1) := by decide +kernel
theorem dX7_begin_28 : decode cX7_begin 28 = .ok (.putfield 51, 3) := by decide +kernel
theorem dX7_begin_31 : decode cX7_begin 31 = .ok (.aload_n 0, 1) := by decide +kernel
theorem dX7_begin_32 : decode cX7_begin 32 = .ok (.getfield 12, 3) := by decide +kernel
theorem dX7_begin_35 : decode cX7_begin 35 = .ok (.iload_n 3, 1) := by decide +kernel
theorem dX7_begin_36 : decode cX7_begin 36 = .ok (.iload 4, 2) := by decide +kernel
theorem dX7_begin_38 : decode cX7_begin 38 = .ok (.invokevirtual 54, 3) := by decide +kernel
theorem dX7_begin_41 : decode cX7_begin 41 = .ok (.return_, 1) := by decide +kernel
theorem dX7_keep_0 : decode cX7_keep 0 = .ok (.aload_n 0, 1) := by decide +kernel
theorem dX7_keep_1 : decode cX7_keep 1 = .ok (.getfield 34, 3) := by decide +kernel
theorem dX7_keep_4 : decode cX7_keep 4 = .ok (.ifCond .eq 28, 3) := by decide +kernel
theorem dX7_keep_7 : decode cX7_keep 7 = .ok (.aload_n 0, 1) := by decide +kernel
theorem dX7_keep_8 : decode cX7_keep 8 = .ok (.getfield 51, 3) := by decide +kernel
theorem dX7_keep_11 : decode cX7_keep 11 = .ok (.sipush 200, 3) := by decide +kernel
theorem dX7_keep_14 : decode cX7_keep 14 = .ok (.if_icmp .ge 18, 3) := by decide +kernel
theorem dX7_keep_17 : decode cX7_keep 17 = .ok (.aload_n 0, 1) := by decide +kernel
theorem dX7_keep_18 : decode cX7_keep 18 = .ok (.getfield 12, 3) := by decide +kernel
theorem dX7_keep_21 : decode cX7_keep 21 = .ok (.iload_n 1, 1) := by decide +kernel
theorem dX7_keep_22 : decode cX7_keep 22 = .ok (.iload_n 2, 1) := by decide +kernel
theorem dX7_keep_23 : decode cX7_keep 23 = .ok (.iload_n 3, 1) := by decide +kernel
theorem dX7_keep_24 : decode cX7_keep 24 = .ok (.aload 4, 2) := by decide +kernel
theorem dX7_keep_26 : decode cX7_keep 26 = .ok (.invokevirtual 58, 3) := by decide +kernel
theorem dX7_keep_29 : decode cX7_keep 29 = .ok (.ifCond .ne 5, 3) := by decide +kernel
theorem dX7_keep_32 : decode cX7_keep 32 = .ok (.iconst 0, 1) := by decide +kernel
theorem dX7_keep_33 : decode cX7_keep 33 = .ok (.ireturn, 1) := by decide +kernel
theorem dX7_keep_34 : decode cX7_keep 34 = .ok (.aload_n 0, 1) := by decide +kernel
theorem dX7_keep_35 : decode cX7_keep 35 = .ok (.getfield 18, 3) := by decide +kernel
theorem dX7_keep_38 : decode cX7_keep 38 = .ok (.aload_n 0, 1) := by decide +kernel
theorem dX7_keep_39 : decode cX7_keep 39 = .ok (.getfield 51, 3) := by decide +kernel
theorem dX7_keep_42 : decode cX7_keep 42 = .ok (.iload_n 1, 1) := by decide +kernel
theorem dX7_keep_43 : decode cX7_keep 43 = .ok (.iload_n 2, 1) := by decide +kernel
theorem dX7_keep_44 : decode cX7_keep 44 = .ok (.bipush 8, 2) := by decide +kernel
theorem dX7_keep_46 : decode cX7_keep 46 = .ok (.ishl, 1) := by decide +kernel
theorem dX7_keep_47 : decode cX7_keep 47 = .ok (.ior, 1) := by decide +kernel
theorem dX7_keep_48 : decode cX7_keep 48 = .ok (.iload_n 3, 1) := by decide +kernel
theorem dX7_keep_49 : decode cX7_keep 49 = .ok (.bipush 16, 2) := by decide +kernel
theorem dX7_keep_51 : decode cX7_keep 51 = .ok (.ishl, 1) := by decide +kernel
theorem dX7_keep_52 : decode cX7_keep 52 = .ok (.ior, 1) := by decide +kernel
theorem dX7_keep_53 : decode cX7_keep 53 = .ok (.iastore, 1) := by decide +kernel
theorem dX7_keep_54 : decode cX7_keep 54 = .ok (.aload_n 0, 1) := by decide +kernel
theorem dX7_keep_55 : decode cX7_keep 55 = .ok (.getfield 22, 3) := by decide +kernel
theorem dX7_keep_58 : decode cX7_keep 58 = .ok (.aload_n 0, 1) := by decide +kernel
theorem dX7_keep_59 : decode cX7_keep 59 = .ok (.getfield 51, 3) := by decide +kernel
theorem dX7_keep_62 : decode cX7_keep 62 = .ok (.aload_n 0, 1) := by decide +kernel
theorem dX7_keep_63 : decode cX7_keep 63 = .ok (.getfield 12, 3) := by decide +kernel
theorem dX7_keep_66 : decode cX7_keep 66 = .ok (.aload 4, 2) := by decide +kernel
theorem dX7_keep_68 : decode cX7_keep 68 = .ok (.getfield 62, 3) := by decide +kernel
theorem dX7_keep_71 : decode cX7_keep 71 = .ok (.invokevirtual 67, 3) := by decide +kernel
theorem dX7_keep_74 : decode cX7_keep 74 = .ok (.ldc2_w 71, 3) := by decide +kernel
theorem dX7_keep_77 : decode cX7_keep 77 = .ok (.ldiv, 1) := by decide +kernel
theorem dX7_keep_78 : decode cX7_keep 78 = .ok (.l2i, 1) := by decide +kernel
theorem dX7_keep_79 : decode cX7_keep 79 = .ok (.iastore, 1) := by decide +kernel
theorem dX7_keep_80 : decode cX7_keep 80 = .ok (.aload_n 0, 1) := by decide +kernel
theorem dX7_keep_81 : decode cX7_keep 81 = .ok (.dup, 1) := by decide +kernel
theorem dX7_keep_82 : decode cX7_keep 82 = .ok (.getfield 51, 3) := by decide +kernel
theorem dX7_keep_85 : decode cX7_keep 85 = .ok (.iconst 1, 1) := by decide +kernel
theorem dX7_keep_86 : decode cX7_keep 86 = .ok (.iadd, 1) := by decide +kernel
theorem dX7_keep_87 : decode cX7_keep 87 = .ok (.putfield 51, 3) := by decide +kernel
theorem dX7_keep_90 : decode cX7_keep 90 = .ok (.iconst 1, 1) := by decide +kernel
theorem dX7_keep_91 : decode cX7_keep 91 = .ok (.ireturn, 1) := by decide +kernel
theorem dX7_doAgain_0 : decode cX7_doAgain 0 = .ok (.aload_n 2, 1) := by decide +kernel
theorem dX7_doAgain_1 : decode cX7_doAgain 1 = .ok (.aload_n 0, 1) := by decide +kernel
theorem dX7_doAgain_2 : decode cX7_doAgain 2 = .ok (.getfield 45, 3) := by decide +kernel
theorem dX7_doAgain_5 : decode cX7_doAgain 5 = .ok (.aload_n 0, 1) := by decide +kernel
theorem dX7_doAgain_6 : decode cX7_doAgain 6 = .ok (.getfield 48, 3) := by decide +kernel
theorem dX7_doAgain_9 : decode cX7_doAgain 9 = .ok (.invokevirtual 54, 3) := by decide +kernel
theorem dX7_doAgain_12 : decode cX7_doAgain 12 = .ok (.iconst 0, 1) := by decide +kernel
theorem dX7_doAgain_13 : decode cX7_doAgain 13 = .ok (.istore 4, 2) := by decide +kernel
theorem dX7_doAgain_15 : decode cX7_doAgain 15 = .ok (.iload 4, 2) := by decide +kernel
theorem dX7_doAgain_17 : decode cX7_doAgain 17 = .ok (.aload_n 0, 1) := by decide +kernel
theorem dX7_doAgain_18 : decode cX7_doAgain 18 = .ok (.getfield 51, 3) := by decide +kernel
theorem dX7_doAgain_21 : decode cX7_doAgain 21 = .ok (.if_icmp .ge 128, 3) := by decide +kernel
theorem dX7_doAgain_24 : decode cX7_doAgain 24 = .ok (.aload_n 0, 1) := by decide +kernel
theorem dX7_doAgain_25 : decode cX7_doAgain 25 = .ok (.getfield 18, 3) := by decide +kernel
theorem dX7_doAgain_28 : decode cX7_doAgain 28 = .ok (.iload 4, 2) := by decide +kernel
theorem dX7_doAgain_30 : decode cX7_doAgain 30 = .ok (.iaload, 1) := by decide +kernel
theorem dX7_doAgain_31 : decode cX7_doAgain 31 = .ok (.sipush 255, 3) := by decide +kernel
theorem dX7_doAgain_34 : decode cX7_doAgain 34 = .ok (.iand, 1) := by decide +kernel
theorem dX7_doAgain_35 : decode cX7_doAgain 35 = .ok (.istore 5, 2) := by decide +kernel
theorem dX7_doAgain_37 : decode cX7_doAgain 37 = .ok (.iload 5, 2) := by decide +kernel
theorem dX7_doAgain_39 : decode cX7_doAgain 39 = .ok (.iconst 5, 1) := by decide +kernel
theorem dX7_doAgain_40 : decode cX7_doAgain 40 = .ok (.if_icmp .ne 7, 3) := by decide +kernel
theorem dX7_doAgain_43 : decode cX7_doAgain 43 = .ok (.iconst 3, 1) := by decide +kernel
theorem dX7_doAgain_44 : decode cX7_doAgain 44 = .ok (.goto 8, 3) := by decide +kernel
theorem dX7_doAgain_47 : decode cX7_doAgain 47 = .ok (.iload 5, 2) := by decide +kernel
theorem dX7_doAgain_49 : decode cX7_doAgain 49 = .ok (.bipush 6, 2) := by decide +kernel
theorem dX7_doAgain_51 : decode cX7_doAgain 51 = .ok (.isub, 1) := by decide +kernel
theorem dX7_doAgain_52 : decode cX7_doAgain 52 = .ok (.istore 6, 2) := by decide +kernel
theorem dX7_doAgain_54 : decode cX7_doAgain 54 = .ok (.iload 5, 2) := by decide +kernel
theorem dX7_doAgain_56 : decode cX7_doAgain 56 = .ok (.iconst 4, 1) := by decide +kernel
theorem dX7_doAgain_57 : decode cX7_doAgain 57 = .ok (.if_icmp .le 13, 3) := by decide +kernel
theorem dX7_doAgain_60 : decode cX7_doAgain 60 = .ok (.iload_n 1, 1) := by decide +kernel
theorem dX7_doAgain_61 : decode cX7_doAgain 61 = .ok (.iload 6, 2) := by decide +kernel
theorem dX7_doAgain_63 : decode cX7_doAgain 63 = .ok (.ishr, 1) := by decide +kernel
theorem dX7_doAgain_64 : decode cX7_doAgain 64 = .ok (.iconst 1, 1) := by decide +kernel
theorem dX7_doAgain_65 : decode cX7_doAgain 65 = .ok (.iand, 1) := by decide +kernel
theorem dX7_doAgain_66 : decode cX7_doAgain 66 = .ok (.iconst 1, 1) := by decide +kernel
theorem dX7_doAgain_67 : decode cX7_doAgain 67 = .ok (.if_icmp .ne 7, 3) := by decide +kernel
theorem dX7_doAgain_70 : decode cX7_doAgain 70 = .ok (.iconst 1, 1) := by decide +kernel
theorem dX7_doAgain_71 : decode cX7_doAgain 71 = .ok (.goto 4, 3) := by decide +kernel
theorem dX7_doAgain_74 : decode cX7_doAgain 74 = .ok (.iconst 0, 1) := by decide +kernel
theorem dX7_doAgain_75 : decode cX7_doAgain 75 = .ok (.istore 7, 2) := by decide +kernel
theorem dX7_doAgain_77 : decode cX7_doAgain 77 = .ok (.iload 7, 2) := by decide +kernel
theorem dX7_doAgain_79 : decode cX7_doAgain 79 = .ok (.ifCond .eq 41, 3) := by decide +kernel
theorem dX7_doAgain_82 : decode cX7_doAgain 82 = .ok (.aload_n 2, 1) := by decide +kernel
theorem dX7_doAgain_83 : decode cX7_doAgain 83 = .ok (.iload 5, 2) := by decide +kernel
theorem dX7_doAgain_85 : decode cX7_doAgain 85 = .ok (.aload_n 0, 1) := by decide +kernel
theorem dX7_doAgain_86 : decode cX7_doAgain 86 = .ok (.getfield 18, 3) := by decide +kernel
theorem dX7_doAgain_89 : decode cX7_doAgain 89 = .ok (.iload 4, 2) := by decide +kernel
theorem dX7_doAgain_91 : decode cX7_doAgain 91 = .ok (.iaload, 1) := by decide +kernel
theorem dX7_doAgain_92 : decode cX7_doAgain 92 = .ok (.bipush 8, 2) := by decide +kernel
theorem dX7_doAgain_94 : decode cX7_doAgain 94 = .ok (.ishr, 1) := by decide +kernel
theorem dX7_doAgain_95 : decode cX7_doAgain 95 = .ok (.sipush 255, 3) := by decide +kernel
theorem dX7_doAgain_98 : decode cX7_doAgain 98 = .ok (.iand, 1) := by decide +kernel
theorem dX7_doAgain_99 : decode cX7_doAgain 99 = .ok (.aload_n 0, 1) := by decide +kernel
theorem dX7_doAgain_100 : decode cX7_doAgain 100 = .ok (.getfield 18, 3) := by decide +kernel
theorem dX7_doAgain_103 : decode cX7_doAgain 103 = .ok (.iload 4, 2) := by decide +kernel
theorem dX7_doAgain_105 : decode cX7_doAgain 105 = .ok (.iaload, 1) := by decide +kernel
theorem dX7_doAgain_106 : decode cX7_doAgain 106 = .ok (.bipush 16, 2) := by decide +kernel
theorem dX7_doAgain_108 : decode cX7_doAgain 108 = .ok (.ishr, 1) := by decide +kernel
theorem dX7_doAgain_109 : decode cX7_doAgain 109 = .ok (.aload_n 3, 1) := by decide +kernel
theorem dX7_doAgain_110 : decode cX7_doAgain 110 = .ok (.invokevirtual 58, 3) := by decide +kernel
theorem dX7_doAgain_113 : decode cX7_doAgain 113 = .ok (.ifCond .eq 7, 3) := by decide +kernel
theorem dX7_doAgain_116 : decode cX7_doAgain 116 = .ok (.iconst 1, 1) := by decide +kernel
theorem dX7_doAgain_117 : decode cX7_doAgain 117 = .ok (.goto 4, 3) := by decide +kernel
theorem dX7_doAgain_120 : decode cX7_doAgain 120 = .ok (.iconst 0, 1) := by decide +kernel
theorem dX7_doAgain_121 : decode cX7_doAgain 121 = .ok (.istore 8, 2) := by decide +kernel
theorem dX7_doAgain_123 : decode cX7_doAgain 123 = .ok (.iload 8, 2) := by decide +kernel
theorem dX7_doAgain_125 : decode cX7_doAgain 125 = .ok (.ifCond .ne 18, 3) := by decide +kernel
theorem dX7_doAgain_128 : decode cX7_doAgain 128 = .ok (.iload 5, 2) := by decide +kernel
theorem dX7_doAgain_130 : decode cX7_doAgain 130 = .ok (.iconst 5, 1) := by decide +kernel
theorem dX7_doAgain_131 : decode cX7_doAgain 131 = .ok (.if_icmp .ne 12, 3) := by decide +kernel
theorem dX7_doAgain_134 : decode cX7_doAgain 134 = .ok (.aload_n 2, 1) := by decide +kernel
theorem dX7_doAgain_135 : decode cX7_doAgain 135 = .ok (.iconst 4, 1) := by decide +kernel
theorem dX7_doAgain_136 : decode cX7_doAgain 136 = .ok (.iconst 0, 1) := by decide +kernel
theorem dX7_doAgain_137 : decode cX7_doAgain 137 = .ok (.iconst 0, 1) := by decide +kernel
theorem dX7_doAgain_138 : decode cX7_doAgain 138 = .ok (.aload_n 3, 1) := by decide +kernel
theorem dX7_doAgain_139 : decode cX7_doAgain 139 = .ok (.invokevirtual 58, 3) := by decide +kernel
theorem dX7_doAgain_142 : decode cX7_doAgain 142 = .ok (.pop, 1) := by decide +kernel
theorem dX7_doAgain_143 : decode cX7_doAgain 143 = .ok (.iinc 4 1, 3) := by decide +kernel
theorem dX7_doAgain_146 : decode cX7_doAgain 146 = .ok (.goto (-131), 3) := by decide +kernel
theorem dX7_doAgain_149 : decode cX7_doAgain 149 = .ok (.return_, 1) := by decide +kernel
theorem dX7_copyFrom_0 : decode cX7_copyFrom 0 = .ok (.aload_n 0, 1) := by decide +kernel
theorem dX7_copyFrom_1 : decode cX7_copyFrom 1 = .ok (.aload_n 1, 1) := by decide +kernel
theorem dX7_copyFrom_2 : decode cX7_copyFrom 2 = .ok (.getfield 34, 3) := by decide +kernel
theorem dX7_copyFrom_5 : decode cX7_copyFrom 5 = .ok (.putfield 34, 3) := by decide +kernel
theorem dX7_copyFrom_8 : decode cX7_copyFrom 8 = .ok (.aload_n 0, 1) := by decide +kernel
theorem dX7_copyFrom_9 : decode cX7_copyFrom 9 = .ok (.aload_n 1, 1) := by decide +kernel
theorem dX7_copyFrom_10 : decode cX7_copyFrom 10 = .ok (.getfield 38, 3) := by decide +kernel
theorem dX7_copyFrom_13 : decode cX7_copyFrom 13 = .ok (.putfield 38, 3) := by decide +kernel
theorem dX7_copyFrom_16 : decode cX7_copyFrom 16 = .ok (.aload_n 0, 1) := by decide +kernel
theorem dX7_copyFrom_17 : decode cX7_copyFrom 17 = .ok (.aload_n 1, 1) := by decide +kernel
theorem dX7_copyFrom_18 : decode cX7_copyFrom 18 = .ok (.getfield 42, 3) := by decide +kernel
theorem dX7_copyFrom_21 : decode cX7_copyFrom 21 = .ok (.putfield 42, 3) := by decide +kernel
theorem dX7_copyFrom_24 : decode cX7_copyFrom 24 = .ok (.aload_n 0, 1) := by decide +kernel
theorem dX7_copyFrom_25 : decode cX7_copyFrom 25 = .ok (.aload_n 1, 1) := by decide +kernel
theorem dX7_copyFrom_26 : decode cX7_copyFrom 26 = .ok (.getfield 45, 3) := by decide +kernel
theorem dX7_copyFrom_29 : decode cX7_copyFrom 29 = .ok (.putfield 45, 3) := by decide +kernel
theorem dX7_copyFrom_32 : decode cX7_copyFrom 32 = .ok (.aload_n 0, 1) := by decide +kernel
theorem dX7_copyFrom_33 : decode cX7_copyFrom 33 = .ok (.aload_n 1, 1) := by decide +kernel
theorem dX7_copyFrom_34 : decode cX7_copyFrom 34 = .ok (.getfield 48, 3) := by decide +kernel
theorem dX7_copyFrom_37 : decode cX7_copyFrom 37 = .ok (.putfield 48, 3) := by decide +kernel
theorem dX7_copyFrom_40 : decode cX7_copyFrom 40 = .ok (.aload_n 0, 1) := by decide +kernel
theorem dX7_copyFrom_41 : decode cX7_copyFrom 41 = .ok (.aload_n 1, 1) := by decide +kernel
theorem dX7_copyFrom_42 : decode cX7_copyFrom 42 = .ok (.getfield 51, 3) := by decide +kernel
theorem dX7_copyFrom_45 : decode cX7_copyFrom 45 = .ok (.putfield 51, 3) := by decide +kernel
theorem dX7_copyFrom_48 : decode cX7_copyFrom 48 = .ok (.aload_n 0, 1) := by decide +kernel
theorem dX7_copyFrom_49 : decode cX7_copyFrom 49 = .ok (.getfield 12, 3) := by decide +kernel
theorem dX7_copyFrom_52 : decode cX7_copyFrom 52 = .ok (.aload_n 1, 1) := by decide +kernel
theorem dX7_copyFrom_53 : decode cX7_copyFrom 53 = .ok (.getfield 12, 3) := by decide +kernel
theorem dX7_copyFrom_56 : decode cX7_copyFrom 56 = .ok (.invokevirtual 73, 3) := by decide +kernel
theorem dX7_copyFrom_59 : decode cX7_copyFrom 59 = .ok (.aload_n 1, 1) := by decide +kernel
theorem dX7_copyFrom_60 : decode cX7_copyFrom 60 = .ok (.getfield 18, 3) := by decide +kernel
theorem dX7_copyFrom_63 : decode cX7_copyFrom 63 = .ok (.iconst 0, 1) := by decide +kernel
theorem dX7_copyFrom_64 : decode cX7_copyFrom 64 = .ok (.aload_n 0, 1) := by decide +kernel
theorem dX7_copyFrom_65 : decode cX7_copyFrom 65 = .ok (.getfield 18, 3) := by decide +kernel
theorem dX7_copyFrom_68 : decode cX7_copyFrom 68 = .ok (.iconst 0, 1) := by decide +kernel
theorem dX7_copyFrom_69 : decode cX7_copyFrom 69 = .ok (.sipush 200, 3) := by decide +kernel
theorem dX7_copyFrom_72 : decode cX7_copyFrom 72 = .ok (.invokestatic 77, 3) := by decide +kernel
theorem dX7_copyFrom_75 : decode cX7_copyFrom 75 = .ok (.aload_n 1, 1) := by decide +kernel
theorem dX7_copyFrom_76 : decode cX7_copyFrom 76 = .ok (.getfield 22, 3) := by decide +kernel
theorem dX7_copyFrom_79 : decode cX7_copyFrom 79 = .ok (.iconst 0, 1) := by decide +kernel
theorem dX7_copyFrom_80 : decode cX7_copyFrom 80 = .ok (.aload_n 0, 1) := by decide +kernel
theorem dX7_copyFrom_81 : decode cX7_copyFrom 81 = .ok (.getfield 22, 3) := by decide +kernel
theorem dX7_copyFrom_84 : decode cX7_copyFrom 84 = .ok (.iconst 0, 1) := by decide +kernel
theorem dX7_copyFrom_85 : decode cX7_copyFrom 85 = .ok (.sipush 200, 3) := by decide +kernel
theorem dX7_copyFrom_88 : decode cX7_copyFrom 88 = .ok (.invokestatic 77, 3) := by decide +kernel
theorem dX7_copyFrom_91 : decode cX7_copyFrom 91 = .ok (.aload_n 1, 1) := by decide +kernel
theorem dX7_copyFrom_92 : decode cX7_copyFrom 92 = .ok (.getfield 25, 3) := by decide +kernel
theorem dX7_copyFrom_95 : decode cX7_copyFrom 95 = .ok (.iconst 0, 1) := by decide +kernel
theorem dX7_copyFrom_96 : decode cX7_copyFrom 96 = .ok (.aload_n 0, 1) := by decide +kernel
theorem dX7_copyFrom_97 : decode cX7_copyFrom 97 = .ok (.getfield 25, 3) := by decide +kernel
theorem dX7_copyFrom_100 : decode cX7_copyFrom 100 = .ok (.iconst 0, 1) := by decide +kernel
theorem dX7_copyFrom_101 : decode cX7_copyFrom 101 = .ok (.bipush 8, 2) := by decide +kernel
theorem dX7_copyFrom_103 : decode cX7_copyFrom 103 = .ok (.invokestatic 77, 3) := by decide +kernel
theorem dX7_copyFrom_106 : decode cX7_copyFrom 106 = .ok (.return_, 1) := by decide +kernel
theorem dX8_init_0 : decode cX8_init 0 = .ok (.aload_n 0, 1) := by decide +kernel
theorem dX8_init_1 : decode cX8_init 1 = .ok (.invokespecial 3, 3) := by decide +kernel
theorem dX8_init_4 : decode cX8_init 4 = .ok (.aload_n 0, 1) := by decide +kernel
theorem dX8_init_5 : decode cX8_init 5 = .ok (.sipush 576, 3) := by decide +kernel
theorem dX8_init_8 : decode cX8_init 8 = .ok (.newarray .int, 2) := by decide +kernel
theorem dX8_init_10 : decode cX8_init 10 = .ok (.putfield 9, 3) := by decide +kernel
theorem dX8_init_13 : decode cX8_init 13 = .ok (.aload_n 0, 1) := by decide +kernel
theorem dX8_init_14 : decode cX8_init 14 = .ok (.sipush 144, 3) := by decide +kernel
theorem dX8_init_17 : decode cX8_init 17 = .ok (.newarray .int, 2) := by decide +kernel
theorem dX8_init_19 : decode cX8_init 19 = .ok (.putfield 15, 3) := by decide +kernel
theorem dX8_init_22 : decode cX8_init 22 = .ok (.aload_n 0, 1) := by decide +kernel
theorem dX8_init_23 : decode cX8_init 23 = .ok (.sipush 144, 3) := by decide +kernel
theorem dX8_init_26 : decode cX8_init 26 = .ok (.newarray .int, 2) := by decide +kernel
theorem dX8_init_28 : decode cX8_init 28 = .ok (.putfield 18, 3) := by decide +kernel
theorem dX8_init_31 : decode cX8_init 31 = .ok (.aload_n 0, 1) := by decide +kernel
theorem dX8_init_32 : decode cX8_init 32 = .ok (.sipush 144, 3) := by decide +kernel
theorem dX8_init_35 : decode cX8_init 35 = .ok (.newarray .int, 2) := by decide +kernel
theorem dX8_init_37 : decode cX8_init 37 = .ok (.putfield 21, 3) := by decide +kernel
theorem dX8_init_40 : decode cX8_init 40 = .ok (.aload_n 0, 1) := by decide +kernel
theorem dX8_init_41 : decode cX8_init 41 = .ok (.sipush 144, 3) := by decide +kernel
theorem dX8_init_44 : decode cX8_init 44 = .ok (.newarray .int, 2) := by decide +kernel
theorem dX8_init_46 : decode cX8_init 46 = .ok (.putfield 24, 3) := by decide +kernel
theorem dX8_init_49 : decode cX8_init 49 = .ok (.aload_n 0, 1) := by decide +kernel
theorem dX8_init_50 : decode cX8_init 50 = .ok (.sipush 144, 3) := by decide +kernel
theorem dX8_init_53 : decode cX8_init 53 = .ok (.newarray .int, 2) := by decide +kernel
theorem dX8_init_55 : decode cX8_init 55 = .ok (.putfield 27, 3) := by decide +kernel
theorem dX8_init_58 : decode cX8_init 58 = .ok (.aload_n 0, 1) := by decide +kernel
theorem dX8_init_59 : decode cX8_init 59 = .ok (.sipush 144, 3) := by decide +kernel
theorem dX8_init_62 : decode cX8_init 62 = .ok (.newarray .int, 2) := by decide +kernel
theorem dX8_init_64 : decode cX8_init 64 = .ok (.putfield 30, 3) := by decide +kernel
theorem dX8_init_67 : decode cX8_init 67 = .ok (.aload_n 0, 1) := by decide +kernel
theorem dX8_init_68 : decode cX8_init 68 = .ok (.sipush 576, 3) := by decide +kernel
theorem dX8_init_71 : decode cX8_init 71 = .ok (.newarray .int, 2) := by decide +kernel
theorem dX8_init_73 : decode cX8_init 73 = .ok (.putfield 33, 3) := by decide +kernel
theorem dX8_init_76 : decode cX8_init 76 = .ok (.aload_n 0, 1) := by decide +kernel
theorem dX8_init_77 : decode cX8_init 77 = .ok (.sipush 144, 3) := by decide +kernel
theorem dX8_init_80 : decode cX8_init 80 = .ok (.newarray .int, 2) := by decide +kernel
theorem dX8_init_82 : decode cX8_init 82 = .ok (.putfield 36, 3) := by decide +kernel
theorem dX8_init_85 : decode cX8_init 85 = .ok (.aload_n 0, 1) := by decide +kernel
theorem dX8_init_86 : decode cX8_init 86 = .ok (.sipush 144, 3) := by decide +kernel
theorem dX8_init_89 : decode cX8_init 89 = .ok (.newarray .int, 2) := by decide +kernel
theorem dX8_init_91 : decode cX8_init 91 = .ok (.putfield 39, 3) := by decide +kernel
theorem dX8_init_94 : decode cX8_init 94 = .ok (.return_, 1) := by decide +kernel
theorem dX8_clear_0 : decode cX8_clear 0 = .ok (.aload_n 0, 1) := by decide +kernel
theorem dX8_clear_1 : decode cX8_clear 1 = .ok (.bipush 12, 2) := by decide +kernel
theorem dX8_clear_3 : decode cX8_clear 3 = .ok (.putfield 42, 3) := by decide +kernel
theorem dX8_clear_6 : decode cX8_clear 6 = .ok (.aload_n 0, 1) := by decide +kernel
theorem dX8_clear_7 : decode cX8_clear 7 = .ok (.bipush 12, 2) := by decide +kernel
theorem dX8_clear_9 : decode cX8_clear 9 = .ok (.putfield 46, 3) := by decide +kernel
theorem dX8_clear_12 : decode cX8_clear 12 = .ok (.aload_n 0, 1) := by decide +kernel
theorem dX8_clear_13 : decode cX8_clear 13 = .ok (.iconst 0, 1) := by decide +kernel
theorem dX8_clear_14 : decode cX8_clear 14 = .ok (.putfield 49, 3) := by decide +kernel
theorem dX8_clear_17 : decode cX8_clear 17 = .ok (.aload_n 0, 1) := by decide +kernel
theorem dX8_clear_18 : decode cX8_clear 18 = .ok (.iconst 0, 1) := by decide +kernel
theorem dX8_clear_19 : decode cX8_clear 19 = .ok (.putfield 52, 3) := by decide +kernel
theorem dX8_clear_22 : decode cX8_clear 22 = .ok (.aload_n 0, 1) := by decide +kernel
theorem dX8_clear_23 : decode cX8_clear 23 = .ok (.getfield 15, 3) := by decide +kernel
theorem dX8_clear_26 : decode cX8_clear 26 = .ok (.iconst 0, 1) := by decide +kernel
theorem dX8_clear_27 : decode cX8_clear 27 = .ok (.invokestatic 55, 3) := by decide +kernel
theorem dX8_clear_30 : decode cX8_clear 30 = .ok (.aload_n 0, 1) := by decide +kernel
theorem dX8_clear_31 : decode cX8_clear 31 = .ok (.getfield 18, 3) := by decide +kernel
theorem dX8_clear_34 : decode cX8_clear 34 = .ok (.iconst 0, 1) := by decide +kernel
theorem dX8_clear_35 : decode cX8_clear 35 = .ok (.invokestatic 55, 3) := by decide +kernel
theorem dX8_clear_38 : decode cX8_clear 38 = .ok (.aload_n 0, 1) := by decide +kernel
theorem dX8_clear_39 : decode cX8_clear 39 = .ok (.getfield 21, 3) := by decide +kernel
theorem dX8_clear_42 : decode cX8_clear 42 = .ok (.iconst 0, 1) := by decide +kernel
theorem dX8_clear_43 : decode cX8_clear 43 = .ok (.invokestatic 55, 3) := by decide +kernel
theorem dX8_clear_46 : decode cX8_clear 46 = .ok (.aload_n 0, 1) := by decide +kernel
theorem dX8_clear_47 : decode cX8_clear 47 = .ok (.getfield 24, 3) := by decide +kernel
theorem dX8_clear_50 : decode cX8_clear 50 = .ok (.iconst 0, 1) := by decide +kernel
theorem dX8_clear_51 : decode cX8_clear 51 = .ok (.invokestatic 55, 3) := by decide +kernel
theorem dX8_clear_54 : decode cX8_clear 54 = .ok (.aload_n 0, 1) := by decide +kernel
theorem dX8_clear_55 : decode cX8_clear 55 = .ok (.getfield 27, 3) := by decide +kernel
theorem dX8_clear_58 : decode cX8_clear 58 = .ok (.iconst 0, 1) := by decide +kernel
theorem dX8_clear_59 : decode cX8_clear 59 = .ok (.invokestatic 55, 3) := by decide +kernel
theorem dX8_clear_62 : decode cX8_clear 62 = .ok (.return_, 1) := by decide +kernel
theorem dX8_addSource_0 : decode cX8_addSource 0 = .ok (.aload_n 0, 1) := by decide +kernel
theorem dX8_addSource_1 : decode cX8_addSource 1 = .ok (.getfield 52, 3) := by decide +kernel
theorem dX8_addSource_4 : decode cX8_addSource 4 = .ok (.iconst 4, 1) := by decide +kernel
theorem dX8_addSource_5 : decode cX8_addSource 5 = .ok (.if_icmp .ge 77, 3) := by decide +kernel
theorem dX8_addSource_8 : decode cX8_addSource 8 = .ok (.iconst 0, 1) := by decide +kernel
theorem dX8_addSource_9 : decode cX8_addSource 9 = .ok (.istore 4, 2) := by decide +kernel
theorem dX8_addSource_11 : decode cX8_addSource 11 = .ok (.iload 4, 2) := by decide +kernel
theorem dX8_addSource_13 : decode cX8_addSource 13 = .ok (.sipush 144, 3) := by decide +kernel
theorem dX8_addSource_16 : decode cX8_addSource 16 = .ok (.if_icmp .ge 56, 3) := by decide +kernel
theorem dX8_addSource_19 : decode cX8_addSource 19 = .ok (.iload 4, 2) := by decide +kernel
theorem dX8_addSource_21 : decode cX8_addSource 21 = .ok (.bipush 12, 2) := by decide +kernel
theorem dX8_addSource_23 : decode cX8_addSource 23 = .ok (.irem, 1) := by decide +kernel
theorem dX8_addSource_24 : decode cX8_addSource 24 = .ok (.iload_n 2, 1) := by decide +kernel
theorem dX8_addSource_25 : decode cX8_addSource 25 = .ok (.isub, 1) := by decide +kernel
theorem dX8_addSource_26 : decode cX8_addSource 26 = .ok (.invokestatic 61, 3) := by decide +kernel
theorem dX8_addSource_29 : decode cX8_addSource 29 = .ok (.iload 4, 2) := by decide +kernel
theorem dX8_addSource_31 : decode cX8_addSource 31 = .ok (.bipush 12, 2) := by decide +kernel
theorem dX8_addSource_33 : decode cX8_addSource 33 = .ok (.idiv, 1) := by decide +kernel
theorem dX8_addSource_34 : decode cX8_addSource 34 = .ok (.iload_n 3, 1) := by decide +kernel
theorem dX8_addSource_35 : decode cX8_addSource 35 = .ok (.isub, 1) := by decide +kernel
theorem dX8_addSource_36 : decode cX8_addSource 36 = .ok (.invokestatic 61, 3) := by decide +kernel
theorem dX8_addSource_39 : decode cX8_addSource 39 = .ok (.iadd, 1) := by decide +kernel
theorem dX8_addSource_40 : decode cX8_addSource 40 = .ok (.istore 5, 2) := by decide +kernel
theorem dX8_addSource_42 : decode cX8_addSource 42 = .ok (.aload_n 0, 1) := by decide +kernel
theorem dX8_addSource_43 : decode cX8_addSource 43 = .ok (.getfield 9, 3) := by decide +kernel
theorem dX8_addSource_46 : decode cX8_addSource 46 = .ok (.aload_n 0, 1) := by decide +kernel
theorem dX8_addSource_47 : decode cX8_addSource 47 = .ok (.getfield 52, 3) := by decide +kernel
theorem dX8_addSource_50 : decode cX8_addSource 50 = .ok (.sipush 144, 3) := by decide +kernel
theorem dX8_addSource_53 : decode cX8_addSource 53 = .ok (.imul, 1) := by decide +kernel
theorem dX8_addSource_54 : decode cX8_addSource 54 = .ok (.iload 4, 2) := by decide +kernel
theorem dX8_addSource_56 : decode cX8_addSource 56 = .ok (.iadd, 1) := by decide +kernel
theorem dX8_addSource_57 : decode cX8_addSource 57 = .ok (.iconst 0, 1) := by decide +kernel
theorem dX8_addSource_58 : decode cX8_addSource 58 = .ok (.iload_n 1, 1) := by decide +kernel
theorem dX8_addSource_59 : decode cX8_addSource 59 = .ok (.iload 5, 2) := by decide +kernel
theorem dX8_addSource_61 : decode cX8_addSource 61 = .ok (.isub, 1) := by decide +kernel
theorem dX8_addSource_62 : decode cX8_addSource 62 = .ok (.invokestatic 67, 3) := by decide +kernel
theorem dX8_addSource_65 : decode cX8_addSource 65 = .ok (.iastore, 1) := by decide +kernel
theorem dX8_addSource_66 : decode cX8_addSource 66 = .ok (.iinc 4 1, 3) := by decide +kernel
theorem dX8_addSource_69 : decode cX8_addSource 69 = .ok (.goto (-58), 3) := by decide +kernel
theorem dX8_addSource_72 : decode cX8_addSource 72 = .ok (.aload_n 0, 1) := by decide +kernel
theorem dX8_addSource_73 : decode cX8_addSource 73 = .ok (.dup, 1) := by decide +kernel
theorem dX8_addSource_74 : decode cX8_addSource 74 = .ok (.getfield 52, 3) := by decide +kernel
theorem dX8_addSource_77 : decode cX8_addSource 77 = .ok (.iconst 1, 1) := by decide +kernel
theorem dX8_addSource_78 : decode cX8_addSource 78 = .ok (.iadd, 1) := by decide +kernel
theorem dX8_addSource_79 : decode cX8_addSource 79 = .ok (.putfield 52, 3) := by decide +kernel
theorem dX8_addSource_82 : decode cX8_addSource 82 = .ok (.return_, 1) := by decide +kernel
theorem dX8_settle_0 : decode cX8_settle 0 = .ok (.aload_n 0, 1) := by decide +kernel
theorem dX8_settle_1 : decode cX8_settle 1 = .ok (.getfield 49, 3) := by decide +kernel
theorem dX8_settle_4 : decode cX8_settle 4 = .ok (.bipush 12, 2) := by decide +kernel
theorem dX8_settle_6 : decode cX8_settle 6 = .ok (.irem, 1) := by decide +kernel
theorem dX8_settle_7 : decode cX8_settle 7 = .ok (.aload_n 0, 1) := by decide +kernel
theorem dX8_settle_8 : decode cX8_settle 8 = .ok (.getfield 42, 3) := by decide +kernel
theorem dX8_settle_11 : decode cX8_settle 11 = .ok (.iconst 1, 1) := by decide +kernel
theorem dX8_settle_12 : decode cX8_settle 12 = .ok (.isub, 1) := by decide +kernel
theorem dX8_settle_13 : decode cX8_settle 13 = .ok (.invokestatic 71, 3) := by decide +kernel
theorem dX8_settle_16 : decode cX8_settle 16 = .ok (.istore_n 1, 1) := by decide +kernel
theorem dX8_settle_17 : decode cX8_settle 17 = .ok (.aload_n 0, 1) := by decide +kernel
theorem dX8_settle_18 : decode cX8_settle 18 = .ok (.getfield 49, 3) := by decide +kernel
theorem dX8_settle_21 : decode cX8_settle 21 = .ok (.bipush 12, 2) := by decide +kernel
theorem dX8_settle_23 : decode cX8_settle 23 = .ok (.idiv, 1) := by decide +kernel
theorem dX8_settle_24 : decode cX8_settle 24 = .ok (.aload_n 0, 1) := by decide +kernel
theorem dX8_settle_25 : decode cX8_settle 25 = .ok (.getfield 46, 3) := by decide +kernel
theorem dX8_settle_28 : decode cX8_settle 28 = .ok (.iconst 1, 1) := by decide +kernel
theorem dX8_settle_29 : decode cX8_settle 29 = .ok (.isub, 1) := by decide +kernel
theorem dX8_settle_30 : decode cX8_settle 30 = .ok (.invokestatic 71, 3) := by decide +kernel
theorem dX8_settle_33 : decode cX8_settle 33 = .ok (.istore_n 2, 1) := by decide +kernel
theorem dX8_settle_34 : decode cX8_settle 34 = .ok (.aload_n 0, 1) := by decide +kernel
theorem dX8_settle_35 : decode cX8_settle 35 = .ok (.iload_n 2, 1) := by decide +kernel
theorem dX8_settle_36 : decode cX8_settle 36 = .ok (.bipush 12, 2) := by decide +kernel
theorem dX8_settle_38 : decode cX8_settle 38 = .ok (.imul, 1) := by decide +kernel
theorem dX8_settle_39 : decode cX8_settle 39 = .ok (.iload_n 1, 1) := by decide +kernel
theorem dX8_settle_40 : decode cX8_settle 40 = .ok (.iadd, 1) := by decide +kernel
theorem dX8_settle_41 : decode cX8_settle 41 = .ok (.putfield 49, 3) := by decide +kernel
theorem dX8_settle_44 : decode cX8_settle 44 = .ok (.aload_n 0, 1) := by decide +kernel
theorem dX8_settle_45 : decode cX8_settle 45 = .ok (.getfield 18, 3) := by decide +kernel
theorem dX8_settle_48 : decode cX8_settle 48 = .ok (.aload_n 0, 1) := by decide +kernel
theorem dX8_settle_49 : decode cX8_settle 49 = .ok (.getfield 49, 3) := by decide +kernel
theorem dX8_settle_52 : decode cX8_settle 52 = .ok (.iconst 0, 1) := by decide +kernel
theorem dX8_settle_53 : decode cX8_settle 53 = .ok (.iastore, 1) := by decide +kernel
theorem dX8_settle_54 : decode cX8_settle 54 = .ok (.aload_n 0, 1) := by decide +kernel
theorem dX8_settle_55 : decode cX8_settle 55 = .ok (.iconst 0, 1) := by decide +kernel
theorem dX8_settle_56 : decode cX8_settle 56 = .ok (.putfield 74, 3) := by decide +kernel
theorem dX8_settle_59 : decode cX8_settle 59 = .ok (.iconst 0, 1) := by decide +kernel
theorem dX8_settle_60 : decode cX8_settle 60 = .ok (.istore_n 3, 1) := by decide +kernel
theorem dX8_settle_61 : decode cX8_settle 61 = .ok (.iload_n 3, 1) := by decide +kernel
theorem dX8_settle_62 : decode cX8_settle 62 = .ok (.sipush 144, 3) := by decide +kernel
theorem dX8_settle_65 : decode cX8_settle 65 = .ok (.if_icmp .ge 131, 3) := by decide +kernel
theorem dX8_settle_68 : decode cX8_settle 68 = .ok (.iload_n 3, 1) := by decide +kernel
theorem dX8_settle_69 : decode cX8_settle 69 = .ok (.bipush 12, 2) := by decide +kernel
theorem dX8_settle_71 : decode cX8_settle 71 = .ok (.irem, 1) := by decide +kernel
theorem dX8_settle_72 : decode cX8_settle 72 = .ok (.istore 4, 2) := by decide +kernel
theorem dX8_settle_74 : decode cX8_settle 74 = .ok (.iload_n 3, 1) := by decide +kernel
theorem dX8_settle_75 : decode cX8_settle 75 = .ok (.bipush 12, 2) := by decide +kernel
theorem dX8_settle_77 : decode cX8_settle 77 = .ok (.idiv, 1) := by decide +kernel
theorem dX8_settle_78 : decode cX8_settle 78 = .ok (.istore 5, 2) := by decide +kernel
theorem dX8_settle_80 : decode cX8_settle 80 = .ok (.aload_n 0, 1) := by decide +kernel
theorem dX8_settle_81 : decode cX8_settle 81 = .ok (.iload 4, 2) := by decide +kernel
theorem dX8_settle_83 : decode cX8_settle 83 = .ok (.iload 5, 2) := by decide +kernel
theorem dX8_settle_85 : decode cX8_settle 85 = .ok (.invokevirtual 77, 3) := by decide +kernel
theorem dX8_settle_88 : decode cX8_settle 88 = .ok (.iconst (-1), 1) := by decide +kernel
theorem dX8_settle_89 : decode cX8_settle 89 = .ok (.if_icmp .eq 23, 3) := by decide +kernel
theorem dX8_settle_92 : decode cX8_settle 92 = .ok (.aload_n 0, 1) := by decide +kernel
theorem dX8_settle_93 : decode cX8_settle 93 = .ok (.getfield 36, 3) := by decide +kernel
theorem dX8_settle_96 : decode cX8_settle 96 = .ok (.aload_n 0, 1) := by decide +kernel
theorem dX8_settle_97 : decode cX8_settle 97 = .ok (.getfield 74, 3) := by decide +kernel
theorem dX8_settle_100 : decode cX8_settle 100 = .ok (.iload_n 3, 1) := by decide +kernel
theorem dX8_settle_101 : decode cX8_settle 101 = .ok (.iastore, 1) := by decide +kernel
theorem dX8_settle_102 : decode cX8_settle 102 = .ok (.aload_n 0, 1) := by decide +kernel
theorem dX8_settle_103 : decode cX8_settle 103 = .ok (.dup, 1) := by decide +kernel
theorem dX8_settle_104 : decode cX8_settle 104 = .ok (.getfield 74, 3) := by decide +kernel
theorem dX8_settle_107 : decode cX8_settle 107 = .ok (.iconst 1, 1) := by decide +kernel
theorem dX8_settle_108 : decode cX8_settle 108 = .ok (.iadd, 1) := by decide +kernel
theorem dX8_settle_109 : decode cX8_settle 109 = .ok (.putfield 74, 3) := by decide +kernel
theorem dX8_settle_112 : decode cX8_settle 112 = .ok (.aload_n 0, 1) := by decide +kernel
theorem dX8_settle_113 : decode cX8_settle 113 = .ok (.getfield 33, 3) := by decide +kernel
theorem dX8_settle_116 : decode cX8_settle 116 = .ok (.iload_n 3, 1) := by decide +kernel
theorem dX8_settle_117 : decode cX8_settle 117 = .ok (.iconst 4, 1) := by decide +kernel
theorem dX8_settle_118 : decode cX8_settle 118 = .ok (.imul, 1) := by decide +kernel
theorem dX8_settle_119 : decode cX8_settle 119 = .ok (.aload_n 0, 1) := by decide +kernel
theorem dX8_settle_120 : decode cX8_settle 120 = .ok (.iload 4, 2) := by decide +kernel
theorem dX8_settle_122 : decode cX8_settle 122 = .ok (.iload 5, 2) := by decide +kernel
theorem dX8_settle_124 : decode cX8_settle 124 = .ok (.iconst 1, 1) := by decide +kernel
theorem dX8_settle_125 : decode cX8_settle 125 = .ok (.isub, 1) := by decide +kernel
theorem dX8_settle_126 : decode cX8_settle 126 = .ok (.invokevirtual 77, 3) := by decide +kernel
theorem dX8_settle_129 : decode cX8_settle 129 = .ok (.iastore, 1) := by decide +kernel
theorem dX8_settle_130 : decode cX8_settle 130 = .ok (.aload_n 0, 1) := by decide +kernel
theorem dX8_settle_131 : decode cX8_settle 131 = .ok (.getfield 33, 3) := by decide +kernel
theorem dX8_settle_134 : decode cX8_settle 134 = .ok (.iload_n 3, 1) := by decide +kernel
theorem dX8_settle_135 : decode cX8_settle 135 = .ok (.iconst 4, 1) := by decide +kernel
theorem dX8_settle_136 : decode cX8_settle 136 = .ok (.imul, 1) := by decide +kernel
theorem dX8_settle_137 : decode cX8_settle 137 = .ok (.iconst 1, 1) := by decide +kernel
theorem dX8_settle_138 : decode cX8_settle 138 = .ok (.iadd, 1) := by decide +kernel
theorem dX8_settle_139 : decode cX8_settle 139 = .ok (.aload_n 0, 1) := by decide +kernel
theorem dX8_settle_140 : decode cX8_settle 140 = .ok (.iload 4, 2) := by decide +kernel
theorem dX8_settle_142 : decode cX8_settle 142 = .ok (.iconst 1, 1) := by decide +kernel
theorem dX8_settle_143 : decode cX8_settle 143 = .ok (.iadd, 1) := by decide +kernel
theorem dX8_settle_144 : decode cX8_settle 144 = .ok (.iload 5, 2) := by decide +kernel
theorem dX8_settle_146 : decode cX8_settle 146 = .ok (.invokevirtual 77, 3) := by decide +kernel
theorem dX8_settle_149 : decode cX8_settle 149 = .ok (.iastore, 1) := by decide +kernel
theorem dX8_settle_150 : decode cX8_settle 150 = .ok (.aload_n 0, 1) := by decide +kernel
theorem dX8_settle_151 : decode cX8_settle 151 = .ok (.getfield 33, 3) := by decide +kernel
theorem dX8_settle_154 : decode cX8_settle 154 = .ok (.iload_n 3, 1) := by decide +kernel
theorem dX8_settle_155 : decode cX8_settle 155 = .ok (.iconst 4, 1) := by decide +kernel
theorem dX8_settle_156 : decode cX8_settle 156 = .ok (.imul, 1) := by decide +kernel
theorem dX8_settle_157 : decode cX8_settle 157 = .ok (.iconst 2, 1) := by decide +kernel
theorem dX8_settle_158 : decode cX8_settle 158 = .ok (.iadd, 1) := by decide +kernel
theorem dX8_settle_159 : decode cX8_settle 159 = .ok (.aload_n 0, 1) := by decide +kernel
theorem dX8_settle_160 : decode cX8_settle 160 = .ok (.iload 4, 2) := by decide +kernel
theorem dX8_settle_162 : decode cX8_settle 162 = .ok (.iload 5, 2) := by decide +kernel
theorem dX8_settle_164 : decode cX8_settle 164 = .ok (.iconst 1, 1) := by decide +kernel
theorem dX8_settle_165 : decode cX8_settle 165 = .ok (.iadd, 1) := by decide +kernel
theorem dX8_settle_166 : decode cX8_settle 166 = .ok (.invokevirtual 77, 3) := by decide +kernel
theorem dX8_settle_169 : decode cX8_settle 169 = .ok (.iastore, 1) := by decide +kernel
theorem dX8_settle_170 : decode cX8_settle 170 = .ok (.aload_n 0, 1) := by decide +kernel
theorem dX8_settle_171 : decode cX8_settle 171 = .ok (.getfield 33, 3) := by decide +kernel
theorem dX8_settle_174 : decode cX8_settle 174 = .ok (.iload_n 3, 1) := by decide +kernel
theorem dX8_settle_175 : decode cX8_settle 175 = .ok (.iconst 4, 1) := by decide +kernel
theorem dX8_settle_176 : decode cX8_settle 176 = .ok (.imul, 1) := by decide +kernel
theorem dX8_settle_177 : decode cX8_settle 177 = .ok (.iconst 3, 1) := by decide +kernel
theorem dX8_settle_178 : decode cX8_settle 178 = .ok (.iadd, 1) := by decide +kernel
theorem dX8_settle_179 : decode cX8_settle 179 = .ok (.aload_n 0, 1) := by decide +kernel
theorem dX8_settle_180 : decode cX8_settle 180 = .ok (.iload 4, 2) := by decide +kernel
theorem dX8_settle_182 : decode cX8_settle 182 = .ok (.iconst 1, 1) := by decide +kernel
theorem dX8_settle_183 : decode cX8_settle 183 = .ok (.isub, 1) := by decide +kernel
theorem dX8_settle_184 : decode cX8_settle 184 = .ok (.iload 5, 2) := by decide +kernel
theorem dX8_settle_186 : decode cX8_settle 186 = .ok (.invokevirtual 77, 3) := by decide +kernel
theorem dX8_settle_189 : decode cX8_settle 189 = .ok (.iastore, 1) := by decide +kernel
theorem dX8_settle_190 : decode cX8_settle 190 = .ok (.iinc 3 1, 3) := by decide +kernel
theorem dX8_settle_193 : decode cX8_settle 193 = .ok (.goto (-132), 3) := by decide +kernel
theorem dX8_settle_196 : decode cX8_settle 196 = .ok (.aload_n 0, 1) := by decide +kernel
theorem dX8_settle_197 : decode cX8_settle 197 = .ok (.aload_n 0, 1) := by decide +kernel
theorem dX8_settle_198 : decode cX8_settle 198 = .ok (.getfield 49, 3) := by decide +kernel
theorem dX8_settle_201 : decode cX8_settle 201 = .ok (.aload_n 0, 1) := by decide +kernel
theorem dX8_settle_202 : decode cX8_settle 202 = .ok (.getfield 30, 3) := by decide +kernel
theorem dX8_settle_205 : decode cX8_settle 205 = .ok (.invokevirtual 80, 3) := by decide +kernel
theorem dX8_settle_208 : decode cX8_settle 208 = .ok (.return_, 1) := by decide +kernel
theorem dX8_cellAt_0 : decode cX8_cellAt 0 = .ok (.iload_n 1, 1) := by decide +kernel
theorem dX8_cellAt_1 : decode cX8_cellAt 1 = .ok (.ifCond .lt 23, 3) := by decide +kernel
theorem dX8_cellAt_4 : decode cX8_cellAt 4 = .ok (.iload_n 2, 1) := by decide +kernel
theorem dX8_cellAt_5 : decode cX8_cellAt 5 = .ok (.ifCond .lt 19, 3) := by decide +kernel
theorem dX8_cellAt_8 : decode cX8_cellAt 8 = .ok (.iload_n 1, 1) := by decide +kernel
theorem dX8_cellAt_9 : decode cX8_cellAt 9 = .ok (.aload_n 0, 1) := by decide +kernel
theorem dX8_cellAt_10 : decode cX8_cellAt 10 = .ok (.getfield 42, 3) := by decide +kernel
theorem dX8_cellAt_13 : decode cX8_cellAt 13 = .ok (.if_icmp .ge 11, 3) := by decide +kernel
theorem dX8_cellAt_16 : decode cX8_cellAt 16 = .ok (.iload_n 2, 1) := by decide +kernel
theorem dX8_cellAt_17 : decode cX8_cellAt 17 = .ok (.aload_n 0, 1) := by decide +kernel
theorem dX8_cellAt_18 : decode cX8_cellAt 18 = .ok (.getfield 46, 3) := by decide +kernel
theorem dX8_cellAt_21 : decode cX8_cellAt 21 = .ok (.if_icmp .lt 7, 3) := by decide +kernel
theorem dX8_cellAt_24 : decode cX8_cellAt 24 = .ok (.iconst (-1), 1) := by decide +kernel
theorem dX8_cellAt_25 : decode cX8_cellAt 25 = .ok (.goto 9, 3) := by decide +kernel
theorem dX8_cellAt_28 : decode cX8_cellAt 28 = .ok (.iload_n 2, 1) := by decide +kernel
theorem dX8_cellAt_29 : decode cX8_cellAt 29 = .ok (.bipush 12, 2) := by decide +kernel
theorem dX8_cellAt_31 : decode cX8_cellAt 31 = .ok (.imul, 1) := by decide +kernel
theorem dX8_cellAt_32 : decode cX8_cellAt 32 = .ok (.iload_n 1, 1) := by decide +kernel
theorem dX8_cellAt_33 : decode cX8_cellAt 33 = .ok (.iadd, 1) := by decide +kernel
theorem dX8_cellAt_34 : decode cX8_cellAt 34 = .ok (.ireturn, 1) := by decide +kernel
theorem dX8_openAt_0 : decode cX8_openAt 0 = .ok (.aload_n 0, 1) := by decide +kernel
theorem dX8_openAt_1 : decode cX8_openAt 1 = .ok (.iload_n 1, 1) := by decide +kernel
theorem dX8_openAt_2 : decode cX8_openAt 2 = .ok (.iload_n 2, 1) := by decide +kernel
theorem dX8_openAt_3 : decode cX8_openAt 3 = .ok (.invokevirtual 84, 3) := by decide +kernel
theorem dX8_openAt_6 : decode cX8_openAt 6 = .ok (.istore_n 3, 1) := by decide +kernel
theorem dX8_openAt_7 : decode cX8_openAt 7 = .ok (.iload_n 3, 1) := by decide +kernel
theorem dX8_openAt_8 : decode cX8_openAt 8 = .ok (.iconst (-1), 1) := by decide +kernel
theorem dX8_openAt_9 : decode cX8_openAt 9 = .ok (.if_icmp .eq 13, 3) := by decide +kernel
theorem dX8_openAt_12 : decode cX8_openAt 12 = .ok (.aload_n 0, 1) := by decide +kernel
theorem dX8_openAt_13 : decode cX8_openAt 13 = .ok (.getfield 18, 3) := by decide +kernel
theorem dX8_openAt_16 : decode cX8_openAt 16 = .ok (.iload_n 3, 1) := by decide +kernel
theorem dX8_openAt_17 : decode cX8_openAt 17 = .ok (.iaload, 1) := by decide +kernel
theorem dX8_openAt_18 : decode cX8_openAt 18 = .ok (.iconst 1, 1) := by decide +kernel
theorem dX8_openAt_19 : decode cX8_openAt 19 = .ok (.if_icmp .ne 7, 3) := by decide +kernel
theorem dX8_openAt_22 : decode cX8_openAt 22 = .ok (.iconst (-1), 1) := by decide +kernel
theorem dX8_openAt_23 : decode cX8_openAt 23 = .ok (.goto 4, 3) := by decide +kernel
theorem dX8_openAt_26 : decode cX8_openAt 26 = .ok (.iload_n 3, 1) := by decide +kernel
theorem dX8_openAt_27 : decode cX8_openAt 27 = .ok (.ireturn, 1) := by decide +kernel
theorem dX8_measure_0 : decode cX8_measure 0 = .ok (.aload_n 2, 1) := by decide +kernel
theorem dX8_measure_1 : decode cX8_measure 1 = .ok (.iconst (-1), 1) := by decide +kernel
theorem dX8_measure_2 : decode cX8_measure 2 = .ok (.invokestatic 55, 3) := by decide +kernel
theorem dX8_measure_5 : decode cX8_measure 5 = .ok (.aload_n 2, 1) := by decide +kernel
theorem dX8_measure_6 : decode cX8_measure 6 = .ok (.iload_n 1, 1) := by decide +kernel
theorem dX8_measure_7 : decode cX8_measure 7 = .ok (.iconst 0, 1) := by decide +kernel
theorem dX8_measure_8 : decode cX8_measure 8 = .ok (.iastore, 1) := by decide +kernel
theorem dX8_measure_9 : decode cX8_measure 9 = .ok (.aload_n 0, 1) := by decide +kernel
theorem dX8_measure_10 : decode cX8_measure 10 = .ok (.getfield 39, 3) := by decide +kernel
theorem dX8_measure_13 : decode cX8_measure 13 = .ok (.iconst 0, 1) := by decide +kernel
theorem dX8_measure_14 : decode cX8_measure 14 = .ok (.iload_n 1, 1) := by decide +kernel
theorem dX8_measure_15 : decode cX8_measure 15 = .ok (.iastore, 1) := by decide +kernel
theorem dX8_measure_16 : decode cX8_measure 16 = .ok (.iconst 1, 1) := by decide +kernel
theorem dX8_measure_17 : decode cX8_measure 17 = .ok (.istore_n 3, 1) := by decide +kernel
theorem dX8_measure_18 : decode cX8_measure 18 = .ok (.iconst 0, 1) := by decide +kernel
theorem dX8_measure_19 : decode cX8_measure 19 = .ok (.istore 4, 2) := by decide +kernel
theorem dX8_measure_21 : decode cX8_measure 21 = .ok (.iload 4, 2) := by decide +kernel
theorem dX8_measure_23 : decode cX8_measure 23 = .ok (.iload_n 3, 1) := by decide +kernel
theorem dX8_measure_24 : decode cX8_measure 24 = .ok (.if_icmp .ge 97, 3) := by decide +kernel
theorem dX8_measure_27 : decode cX8_measure 27 = .ok (.iload 4, 2) := by decide +kernel
theorem dX8_measure_29 : decode cX8_measure 29 = .ok (.sipush 144, 3) := by decide +kernel
theorem dX8_measure_32 : decode cX8_measure 32 = .ok (.if_icmp .ge 89, 3) := by decide +kernel
theorem dX8_measure_35 : decode cX8_measure 35 = .ok (.aload_n 0, 1) := by decide +kernel
theorem dX8_measure_36 : decode cX8_measure 36 = .ok (.getfield 39, 3) := by decide +kernel
theorem dX8_measure_39 : decode cX8_measure 39 = .ok (.iload 4, 2) := by decide +kernel
theorem dX8_measure_41 : decode cX8_measure 41 = .ok (.iaload, 1) := by decide +kernel
theorem dX8_measure_42 : decode cX8_measure 42 = .ok (.istore 5, 2) := by decide +kernel
theorem dX8_measure_44 : decode cX8_measure 44 = .ok (.iconst 0, 1) := by decide +kernel
theorem dX8_measure_45 : decode cX8_measure 45 = .ok (.istore 6, 2) := by decide +kernel
theorem dX8_measure_47 : decode cX8_measure 47 = .ok (.iload 6, 2) := by decide +kernel
theorem dX8_measure_49 : decode cX8_measure 49 = .ok (.iconst 4, 1) := by decide +kernel
theorem dX8_measure_50 : decode cX8_measure 50 = .ok (.if_icmp .ge 65, 3) := by decide +kernel
theorem dX8_measure_53 : decode cX8_measure 53 = .ok (.aload_n 0, 1) := by decide +kernel
theorem dX8_measure_54 : decode cX8_measure 54 = .ok (.getfield 33, 3) := by decide +kernel
theorem dX8_measure_57 : decode cX8_measure 57 = .ok (.iload 5, 2) := by decide +kernel
theorem dX8_measure_59 : decode cX8_measure 59 = .ok (.iconst 4, 1) := by decide +kernel
theorem dX8_measure_60 : decode cX8_measure 60 = .ok (.imul, 1) := by decide +kernel
theorem dX8_measure_61 : decode cX8_measure 61 = .ok (.iload 6, 2) := by decide +kernel
theorem dX8_measure_63 : decode cX8_measure 63 = .ok (.iadd, 1) := by decide +kernel
theorem dX8_measure_64 : decode cX8_measure 64 = .ok (.iaload, 1) := by decide +kernel
theorem dX8_measure_65 : decode cX8_measure 65 = .ok (.istore 7, 2) := by decide +kernel
theorem dX8_measure_67 : decode cX8_measure 67 = .ok (.iload 7, 2) := by decide +kernel
theorem dX8_measure_69 : decode cX8_measure 69 = .ok (.iconst (-1), 1) := by decide +kernel
theorem dX8_measure_70 : decode cX8_measure 70 = .ok (.if_icmp .eq 39, 3) := by decide +kernel
theorem dX8_measure_73 : decode cX8_measure 73 = .ok (.aload_n 2, 1) := by decide +kernel
theorem dX8_measure_74 : decode cX8_measure 74 = .ok (.iload 7, 2) := by decide +kernel
theorem dX8_measure_76 : decode cX8_measure 76 = .ok (.iaload, 1) := by decide +kernel
theorem dX8_measure_77 : decode cX8_measure 77 = .ok (.iconst (-1), 1) := by decide +kernel
theorem dX8_measure_78 : decode cX8_measure 78 = .ok (.if_icmp .ne 31, 3) := by decide +kernel
theorem dX8_measure_81 : decode cX8_measure 81 = .ok (.iload_n 3, 1) := by decide +kernel
theorem dX8_measure_82 : decode cX8_measure 82 = .ok (.sipush 144, 3) := by decide +kernel
theorem dX8_measure_85 : decode cX8_measure 85 = .ok (.if_icmp .ge 24, 3) := by decide +kernel
theorem dX8_measure_88 : decode cX8_measure 88 = .ok (.aload_n 2, 1) := by decide +kernel
theorem dX8_measure_89 : decode cX8_measure 89 = .ok (.iload 7, 2) := by decide +kernel
theorem dX8_measure_91 : decode cX8_measure 91 = .ok (.aload_n 2, 1) := by decide +kernel
theorem dX8_measure_92 : decode cX8_measure 92 = .ok (.iload 5, 2) := by decide +kernel
theorem dX8_measure_94 : decode cX8_measure 94 = .ok (.iaload, 1) := by decide +kernel
theorem dX8_measure_95 : decode cX8_measure 95 = .ok (.iconst 1, 1) := by decide +kernel
theorem dX8_measure_96 : decode cX8_measure 96 = .ok (.iadd, 1) := by decide +kernel
theorem dX8_measure_97 : decode cX8_measure 97 = .ok (.iastore, 1) := by decide +kernel
theorem dX8_measure_98 : decode cX8_measure 98 = .ok (.aload_n 0, 1) := by decide +kernel
theorem dX8_measure_99 : decode cX8_measure 99 = .ok (.getfield 39, 3) := by decide +kernel
theorem dX8_measure_102 : decode cX8_measure 102 = .ok (.iload_n 3, 1) := by decide +kernel
theorem dX8_measure_103 : decode cX8_measure 103 = .ok (.iload 7, 2) := by decide +kernel
theorem dX8_measure_105 : decode cX8_measure 105 = .ok (.iastore, 1) := by decide +kernel
theorem dX8_measure_106 : decode cX8_measure 106 = .ok (.iinc 3 1, 3) := by decide +kernel
theorem dX8_measure_109 : decode cX8_measure 109 = .ok (.iinc 6 1, 3) := by decide +kernel
theorem dX8_measure_112 : decode cX8_measure 112 = .ok (.goto (-65), 3) := by decide +kernel
theorem dX8_measure_115 : decode cX8_measure 115 = .ok (.iinc 4 1, 3) := by decide +kernel
theorem dX8_measure_118 : decode cX8_measure 118 = .ok (.goto (-97), 3) := by decide +kernel
theorem dX8_measure_121 : decode cX8_measure 121 = .ok (.return_, 1) := by decide +kernel
theorem dX8_loudAt_0 : decode cX8_loudAt 0 = .ok (.iload_n 1, 1) := by decide +kernel
theorem dX8_loudAt_1 : decode cX8_loudAt 1 = .ok (.ifCond .lt 11, 3) := by decide +kernel
theorem dX8_loudAt_4 : decode cX8_loudAt 4 = .ok (.iload_n 1, 1) := by decide +kernel
theorem dX8_loudAt_5 : decode cX8_loudAt 5 = .ok (.aload_n 0, 1) := by decide +kernel
theorem dX8_loudAt_6 : decode cX8_loudAt 6 = .ok (.getfield 52, 3) := by decide +kernel
theorem dX8_loudAt_9 : decode cX8_loudAt 9 = .ok (.if_icmp .lt 7, 3) := by decide +kernel
theorem dX8_loudAt_12 : decode cX8_loudAt 12 = .ok (.iconst (-1), 1) := by decide +kernel
theorem dX8_loudAt_13 : decode cX8_loudAt 13 = .ok (.goto 15, 3) := by decide +kernel
theorem dX8_loudAt_16 : decode cX8_loudAt 16 = .ok (.aload_n 0, 1) := by decide +kernel
theorem dX8_loudAt_17 : decode cX8_loudAt 17 = .ok (.getfield 9, 3) := by decide +kernel
theorem dX8_loudAt_20 : decode cX8_loudAt 20 = .ok (.iload_n 1, 1) := by decide +kernel
theorem dX8_loudAt_21 : decode cX8_loudAt 21 = .ok (.sipush 144, 3) := by decide +kernel
theorem dX8_loudAt_24 : decode cX8_loudAt 24 = .ok (.imul, 1) := by decide +kernel
theorem dX8_loudAt_25 : decode cX8_loudAt 25 = .ok (.iload_n 2, 1) := by decide +kernel
theorem dX8_loudAt_26 : decode cX8_loudAt 26 = .ok (.iadd, 1) := by decide +kernel
theorem dX8_loudAt_27 : decode cX8_loudAt 27 = .ok (.iaload, 1) := by decide +kernel
theorem dX8_loudAt_28 : decode cX8_loudAt 28 = .ok (.ireturn, 1) := by decide +kernel
theorem dX8_told_0 : decode cX8_told 0 = .ok (.iload_n 2, 1) := by decide +kernel
theorem dX8_told_1 : decode cX8_told 1 = .ok (.tableswitch 97 0 9 #[55, 62, 69, 76, 83, 97, 97, 97, 97, 90], 55) := by decide +kernel
theorem dX8_told_56 : decode cX8_told 56 = .ok (.aload_n 0, 1) := by decide +kernel
theorem dX8_told_57 : decode cX8_told 57 = .ok (.getfield 15, 3) := by decide +kernel
theorem dX8_told_60 : decode cX8_told 60 = .ok (.iload_n 1, 1) := by decide +kernel
theorem dX8_told_61 : decode cX8_told 61 = .ok (.iaload, 1) := by decide +kernel
theorem dX8_told_62 : decode cX8_told 62 = .ok (.ireturn, 1) := by decide +kernel
theorem dX8_told_63 : decode cX8_told 63 = .ok (.aload_n 0, 1) := by decide +kernel
theorem dX8_told_64 : decode cX8_told 64 = .ok (.getfield 18, 3) := by decide +kernel
theorem dX8_told_67 : decode cX8_told 67 = .ok (.iload_n 1, 1) := by decide +kernel
theorem dX8_told_68 : decode cX8_told 68 = .ok (.iaload, 1) := by decide +kernel
theorem dX8_told_69 : decode cX8_told 69 = .ok (.ireturn, 1) := by decide +kernel
theorem dX8_told_70 : decode cX8_told 70 = .ok (.aload_n 0, 1) := by decide +kernel
theorem dX8_told_71 : decode cX8_told 71 = .ok (.getfield 21, 3) := by decide +kernel
theorem dX8_told_74 : decode cX8_told 74 = .ok (.iload_n 1, 1) := by decide +kernel
theorem dX8_told_75 : decode cX8_told 75 = .ok (.iaload, 1) := by decide +kernel
theorem dX8_told_76 : decode cX8_told 76 = .ok (.ireturn, 1) := by decide +kernel
theorem dX8_told_77 : decode cX8_told 77 = .ok (.aload_n 0, 1) := by decide +kernel
theorem dX8_told_78 : decode cX8_told 78 = .ok (.getfield 24, 3) := by decide +kernel
theorem dX8_told_81 : decode cX8_told 81 = .ok (.iload_n 1, 1) := by decide +kernel
theorem dX8_told_82 : decode cX8_told 82 = .ok (.iaload, 1) := by decide +kernel
theorem dX8_told_83 : decode cX8_told 83 = .ok (.ireturn, 1) := by decide +kernel
theorem dX8_told_84 : decode cX8_told 84 = .ok (.aload_n 0, 1) := by decide +kernel
theorem dX8_told_85 : decode cX8_told 85 = .ok (.getfield 27, 3) := by decide +kernel
theorem dX8_told_88 : decode cX8_told 88 = .ok (.iload_n 1, 1) := by decide +kernel
theorem dX8_told_89 : decode cX8_told 89 = .ok (.iaload, 1) := by decide +kernel
theorem dX8_told_90 : decode cX8_told 90 = .ok (.ireturn, 1) := by decide +kernel
theorem dX8_told_91 : decode cX8_told 91 = .ok (.aload_n 0, 1) := by decide +kernel
theorem dX8_told_92 : decode cX8_told 92 = .ok (.getfield 30, 3) := by decide +kernel
theorem dX8_told_95 : decode cX8_told 95 = .ok (.iload_n 1, 1) := by decide +kernel
theorem dX8_told_96 : decode cX8_told 96 = .ok (.iaload, 1) := by decide +kernel
theorem dX8_told_97 : decode cX8_told 97 = .ok (.ireturn, 1) := by decide +kernel
theorem dX8_told_98 : decode cX8_told 98 = .ok (.aload_n 0, 1) := by decide +kernel
theorem dX8_told_99 : decode cX8_told 99 = .ok (.iload_n 2, 1) := by decide +kernel
theorem dX8_told_100 : decode cX8_told 100 = .ok (.iconst 5, 1) := by decide +kernel
theorem dX8_told_101 : decode cX8_told 101 = .ok (.isub, 1) := by decide +kernel
theorem dX8_told_102 : decode cX8_told 102 = .ok (.iload_n 1, 1) := by decide +kernel
theorem dX8_told_103 : decode cX8_told 103 = .ok (.invokevirtual 87, 3) := by decide +kernel
theorem dX8_told_106 : decode cX8_told 106 = .ok (.ireturn, 1) := by decide +kernel
theorem dX9_init_0 : decode cX9_init 0 = .ok (.aload_n 0, 1) := by decide +kernel
theorem dX9_init_1 : decode cX9_init 1 = .ok (.invokespecial 1, 3) := by decide +kernel
theorem dX9_init_4 : decode cX9_init 4 = .ok (.aload_n 0, 1) := by decide +kernel
theorem dX9_init_5 : decode cX9_init 5 = .ok (.new 7, 3) := by decide +kernel
theorem dX9_init_8 : decode cX9_init 8 = .ok (.dup, 1) := by decide +kernel
theorem dX9_init_9 : decode cX9_init 9 = .ok (.invokespecial 9, 3) := by decide +kernel
theorem dX9_init_12 : decode cX9_init 12 = .ok (.putfield 10, 3) := by decide +kernel
theorem dX9_init_15 : decode cX9_init 15 = .ok (.aload_n 0, 1) := by decide +kernel
theorem dX9_init_16 : decode cX9_init 16 = .ok (.iconst 4, 1) := by decide +kernel
theorem dX9_init_17 : decode cX9_init 17 = .ok (.anewarray 16, 3) := by decide +kernel
theorem dX9_init_20 : decode cX9_init 20 = .ok (.putfield 18, 3) := by decide +kernel
theorem dX9_init_23 : decode cX9_init 23 = .ok (.aload_n 0, 1) := by decide +kernel
theorem dX9_init_24 : decode cX9_init 24 = .ok (.bipush 6, 2) := by decide +kernel
theorem dX9_init_26 : decode cX9_init 26 = .ok (.anewarray 22, 3) := by decide +kernel
theorem dX9_init_29 : decode cX9_init 29 = .ok (.putfield 24, 3) := by decide +kernel
theorem dX9_init_32 : decode cX9_init 32 = .ok (.aload_n 0, 1) := by decide +kernel
theorem dX9_init_33 : decode cX9_init 33 = .ok (.bipush 6, 2) := by decide +kernel
theorem dX9_init_35 : decode cX9_init 35 = .ok (.anewarray 28, 3) := by decide +kernel
theorem dX9_init_38 : decode cX9_init 38 = .ok (.putfield 30, 3) := by decide +kernel
theorem dX9_init_41 : decode cX9_init 41 = .ok (.aload_n 0, 1) := by decide +kernel
theorem dX9_init_42 : decode cX9_init 42 = .ok (.new 34, 3) := by decide +kernel
theorem dX9_init_45 : decode cX9_init 45 = .ok (.dup, 1) := by decide +kernel
theorem dX9_init_46 : decode cX9_init 46 = .ok (.invokespecial 36, 3) := by decide +kernel
theorem dX9_init_49 : decode cX9_init 49 = .ok (.putfield 37, 3) := by decide +kernel
theorem dX9_init_52 : decode cX9_init 52 = .ok (.aload_n 0, 1) := by decide +kernel
theorem dX9_init_53 : decode cX9_init 53 = .ok (.iconst 4, 1) := by decide +kernel
theorem dX9_init_54 : decode cX9_init 54 = .ok (.anewarray 34, 3) := by decide +kernel
theorem dX9_init_57 : decode cX9_init 57 = .ok (.putfield 41, 3) := by decide +kernel
theorem dX9_init_60 : decode cX9_init 60 = .ok (.aload_n 0, 1) := by decide +kernel
theorem dX9_init_61 : decode cX9_init 61 = .ok (.new 45, 3) := by decide +kernel
theorem dX9_init_64 : decode cX9_init 64 = .ok (.dup, 1) := by decide +kernel
theorem dX9_init_65 : decode cX9_init 65 = .ok (.invokespecial 47, 3) := by decide +kernel
theorem dX9_init_68 : decode cX9_init 68 = .ok (.putfield 48, 3) := by decide +kernel
theorem dX9_init_71 : decode cX9_init 71 = .ok (.aload_n 0, 1) := by decide +kernel
theorem dX9_init_72 : decode cX9_init 72 = .ok (.new 52, 3) := by decide +kernel
theorem dX9_init_75 : decode cX9_init 75 = .ok (.dup, 1) := by decide +kernel
theorem dX9_init_76 : decode cX9_init 76 = .ok (.invokespecial 54, 3) := by decide +kernel
theorem dX9_init_79 : decode cX9_init 79 = .ok (.putfield 55, 3) := by decide +kernel
theorem dX9_init_82 : decode cX9_init 82 = .ok (.aload_n 0, 1) := by decide +kernel
theorem dX9_init_83 : decode cX9_init 83 = .ok (.new 59, 3) := by decide +kernel
theorem dX9_init_86 : decode cX9_init 86 = .ok (.dup, 1) := by decide +kernel
theorem dX9_init_87 : decode cX9_init 87 = .ok (.invokespecial 61, 3) := by decide +kernel
theorem dX9_init_90 : decode cX9_init 90 = .ok (.putfield 62, 3) := by decide +kernel
theorem dX9_init_93 : decode cX9_init 93 = .ok (.aload_n 0, 1) := by decide +kernel
theorem dX9_init_94 : decode cX9_init 94 = .ok (.sipush 144, 3) := by decide +kernel
theorem dX9_init_97 : decode cX9_init 97 = .ok (.newarray .int, 2) := by decide +kernel
theorem dX9_init_99 : decode cX9_init 99 = .ok (.putfield 66, 3) := by decide +kernel
theorem dX9_init_102 : decode cX9_init 102 = .ok (.aload_n 0, 1) := by decide +kernel
theorem dX9_init_103 : decode cX9_init 103 = .ok (.sipush 144, 3) := by decide +kernel
theorem dX9_init_106 : decode cX9_init 106 = .ok (.newarray .int, 2) := by decide +kernel
theorem dX9_init_108 : decode cX9_init 108 = .ok (.putfield 70, 3) := by decide +kernel
theorem dX9_init_111 : decode cX9_init 111 = .ok (.iconst 0, 1) := by decide +kernel
theorem dX9_init_112 : decode cX9_init 112 = .ok (.istore_n 1, 1) := by decide +kernel
theorem dX9_init_113 : decode cX9_init 113 = .ok (.iload_n 1, 1) := by decide +kernel
theorem dX9_init_114 : decode cX9_init 114 = .ok (.iconst 4, 1) := by decide +kernel
theorem dX9_init_115 : decode cX9_init 115 = .ok (.if_icmp .ge 22, 3) := by decide +kernel
theorem dX9_init_118 : decode cX9_init 118 = .ok (.aload_n 0, 1) := by decide +kernel
theorem dX9_init_119 : decode cX9_init 119 = .ok (.getfield 18, 3) := by decide +kernel
theorem dX9_init_122 : decode cX9_init 122 = .ok (.iload_n 1, 1) := by decide +kernel
theorem dX9_init_123 : decode cX9_init 123 = .ok (.new 16, 3) := by decide +kernel
theorem dX9_init_126 : decode cX9_init 126 = .ok (.dup, 1) := by decide +kernel
theorem dX9_init_127 : decode cX9_init 127 = .ok (.invokespecial 73, 3) := by decide +kernel
theorem dX9_init_130 : decode cX9_init 130 = .ok (.aastore, 1) := by decide +kernel
theorem dX9_init_131 : decode cX9_init 131 = .ok (.iinc 1 1, 3) := by decide +kernel
theorem dX9_init_134 : decode cX9_init 134 = .ok (.goto (-21), 3) := by decide +kernel
theorem dX9_init_137 : decode cX9_init 137 = .ok (.iconst 0, 1) := by decide +kernel
theorem dX9_init_138 : decode cX9_init 138 = .ok (.istore_n 1, 1) := by decide +kernel
theorem dX9_init_139 : decode cX9_init 139 = .ok (.iload_n 1, 1) := by decide +kernel
theorem dX9_init_140 : decode cX9_init 140 = .ok (.bipush 6, 2) := by decide +kernel
theorem dX9_init_142 : decode cX9_init 142 = .ok (.if_icmp .ge 35, 3) := by decide +kernel
theorem dX9_init_145 : decode cX9_init 145 = .ok (.aload_n 0, 1) := by decide +kernel
theorem dX9_init_146 : decode cX9_init 146 = .ok (.getfield 24, 3) := by decide +kernel
theorem dX9_init_149 : decode cX9_init 149 = .ok (.iload_n 1, 1) := by decide +kernel
theorem dX9_init_150 : decode cX9_init 150 = .ok (.new 22, 3) := by decide +kernel
theorem dX9_init_153 : decode cX9_init 153 = .ok (.dup, 1) := by decide +kernel
theorem dX9_init_154 : decode cX9_init 154 = .ok (.invokespecial 74, 3) := by decide +kernel
theorem dX9_init_157 : decode cX9_init 157 = .ok (.aastore, 1) := by decide +kernel
theorem dX9_init_158 : decode cX9_init 158 = .ok (.aload_n 0, 1) := by decide +kernel
theorem dX9_init_159 : decode cX9_init 159 = .ok (.getfield 30, 3) := by decide +kernel
theorem dX9_init_162 : decode cX9_init 162 = .ok (.iload_n 1, 1) := by decide +kernel
theorem dX9_init_163 : decode cX9_init 163 = .ok (.new 28, 3) := by decide +kernel
theorem dX9_init_166 : decode cX9_init 166 = .ok (.dup, 1) := by decide +kernel
theorem dX9_init_167 : decode cX9_init 167 = .ok (.invokespecial 75, 3) := by decide +kernel
theorem dX9_init_170 : decode cX9_init 170 = .ok (.aastore, 1) := by decide +kernel
theorem dX9_init_171 : decode cX9_init 171 = .ok (.iinc 1 1, 3) := by decide +kernel
theorem dX9_init_174 : decode cX9_init 174 = .ok (.goto (-35), 3) := by decide +kernel
theorem dX9_init_177 : decode cX9_init 177 = .ok (.iconst 0, 1) := by decide +kernel
theorem dX9_init_178 : decode cX9_init 178 = .ok (.istore_n 1, 1) := by decide +kernel
theorem dX9_init_179 : decode cX9_init 179 = .ok (.iload_n 1, 1) := by decide +kernel
theorem dX9_init_180 : decode cX9_init 180 = .ok (.iconst 4, 1) := by decide +kernel
theorem dX9_init_181 : decode cX9_init 181 = .ok (.if_icmp .ge 22, 3) := by decide +kernel
theorem dX9_init_184 : decode cX9_init 184 = .ok (.aload_n 0, 1) := by decide +kernel
theorem dX9_init_185 : decode cX9_init 185 = .ok (.getfield 41, 3) := by decide +kernel
theorem dX9_init_188 : decode cX9_init 188 = .ok (.iload_n 1, 1) := by decide +kernel
theorem dX9_init_189 : decode cX9_init 189 = .ok (.new 34, 3) := by decide +kernel
theorem dX9_init_192 : decode cX9_init 192 = .ok (.dup, 1) := by decide +kernel
theorem dX9_init_193 : decode cX9_init 193 = .ok (.invokespecial 36, 3) := by decide +kernel
theorem dX9_init_196 : decode cX9_init 196 = .ok (.aastore, 1) := by decide +kernel
theorem dX9_init_197 : decode cX9_init 197 = .ok (.iinc 1 1, 3) := by decide +kernel
theorem dX9_init_200 : decode cX9_init 200 = .ok (.goto (-21), 3) := by decide +kernel
theorem dX9_init_203 : decode cX9_init 203 = .ok (.aload_n 0, 1) := by decide +kernel
theorem dX9_init_204 : decode cX9_init 204 = .ok (.new 76, 3) := by decide +kernel
theorem dX9_init_207 : decode cX9_init 207 = .ok (.dup, 1) := by decide +kernel
theorem dX9_init_208 : decode cX9_init 208 = .ok (.aload_n 0, 1) := by decide +kernel
theorem dX9_init_209 : decode cX9_init 209 = .ok (.getfield 18, 3) := by decide +kernel
theorem dX9_init_212 : decode cX9_init 212 = .ok (.iconst 0, 1) := by decide +kernel
theorem dX9_init_213 : decode cX9_init 213 = .ok (.aaload, 1) := by decide +kernel
theorem dX9_init_214 : decode cX9_init 214 = .ok (.aload_n 0, 1) := by decide +kernel
theorem dX9_init_215 : decode cX9_init 215 = .ok (.getfield 24, 3) := by decide +kernel
theorem dX9_init_218 : decode cX9_init 218 = .ok (.iconst 0, 1) := by decide +kernel
theorem dX9_init_219 : decode cX9_init 219 = .ok (.aaload, 1) := by decide +kernel
theorem dX9_init_220 : decode cX9_init 220 = .ok (.invokespecial 78, 3) := by decide +kernel
theorem dX9_init_223 : decode cX9_init 223 = .ok (.putfield 81, 3) := by decide +kernel
theorem dX9_init_226 : decode cX9_init 226 = .ok (.return_, 1) := by decide +kernel
theorem dX9_feed_0 : decode cX9_feed 0 = .ok (.aload_n 0, 1) := by decide +kernel
theorem dX9_feed_1 : decode cX9_feed 1 = .ok (.getfield 10, 3) := by decide +kernel
theorem dX9_feed_4 : decode cX9_feed 4 = .ok (.getfield 85, 3) := by decide +kernel
theorem dX9_feed_7 : decode cX9_feed 7 = .ok (.bipush 20, 2) := by decide +kernel
theorem dX9_feed_9 : decode cX9_feed 9 = .ok (.iadd, 1) := by decide +kernel
theorem dX9_feed_10 : decode cX9_feed 10 = .ok (.sipush 400, 3) := by decide +kernel
theorem dX9_feed_13 : decode cX9_feed 13 = .ok (.if_icmp .le 5, 3) := by decide +kernel
theorem dX9_feed_16 : decode cX9_feed 16 = .ok (.iconst (-1), 1) := by decide +kernel
theorem dX9_feed_17 : decode cX9_feed 17 = .ok (.ireturn, 1) := by decide +kernel
theorem dX9_feed_18 : decode cX9_feed 18 = .ok (.aload_n 0, 1) := by decide +kernel
theorem dX9_feed_19 : decode cX9_feed 19 = .ok (.getfield 10, 3) := by decide +kernel
theorem dX9_feed_22 : decode cX9_feed 22 = .ok (.iload_n 1, 1) := by decide +kernel
theorem dX9_feed_23 : decode cX9_feed 23 = .ok (.invokevirtual 89, 3) := by decide +kernel
theorem dX9_feed_26 : decode cX9_feed 26 = .ok (.aload_n 0, 1) := by decide +kernel
theorem dX9_feed_27 : decode cX9_feed 27 = .ok (.getfield 10, 3) := by decide +kernel
theorem dX9_feed_30 : decode cX9_feed 30 = .ok (.iload_n 2, 1) := by decide +kernel
theorem dX9_feed_31 : decode cX9_feed 31 = .ok (.invokevirtual 89, 3) := by decide +kernel
theorem dX9_feed_34 : decode cX9_feed 34 = .ok (.aload_n 0, 1) := by decide +kernel
theorem dX9_feed_35 : decode cX9_feed 35 = .ok (.getfield 10, 3) := by decide +kernel
theorem dX9_feed_38 : decode cX9_feed 38 = .ok (.iload_n 3, 1) := by decide +kernel
theorem dX9_feed_39 : decode cX9_feed 39 = .ok (.invokevirtual 89, 3) := by decide +kernel
theorem dX9_feed_42 : decode cX9_feed 42 = .ok (.aload_n 0, 1) := by decide +kernel
theorem dX9_feed_43 : decode cX9_feed 43 = .ok (.getfield 10, 3) := by decide +kernel
theorem dX9_feed_46 : decode cX9_feed 46 = .ok (.iload 4, 2) := by decide +kernel
theorem dX9_feed_48 : decode cX9_feed 48 = .ok (.invokevirtual 89, 3) := by decide +kernel
theorem dX9_feed_51 : decode cX9_feed 51 = .ok (.aload_n 0, 1) := by decide +kernel
theorem dX9_feed_52 : decode cX9_feed 52 = .ok (.getfield 10, 3) := by decide +kernel
theorem dX9_feed_55 : decode cX9_feed 55 = .ok (.iload 5, 2) := by decide +kernel
theorem dX9_feed_57 : decode cX9_feed 57 = .ok (.invokevirtual 89, 3) := by decide +kernel
theorem dX9_feed_60 : decode cX9_feed 60 = .ok (.aload_n 0, 1) := by decide +kernel
theorem dX9_feed_61 : decode cX9_feed 61 = .ok (.getfield 10, 3) := by decide +kernel
theorem dX9_feed_64 : decode cX9_feed 64 = .ok (.getfield 85, 3) := by decide +kernel
theorem dX9_feed_67 : decode cX9_feed 67 = .ok (.ireturn, 1) := by decide +kernel
theorem dX9_end_0 : decode cX9_end 0 = .ok (.iload_n 1, 1) := by decide +kernel
theorem dX9_end_1 : decode cX9_end 1 = .ok (.ifCond .lt 14, 3) := by decide +kernel
theorem dX9_end_4 : decode cX9_end 4 = .ok (.iload_n 1, 1) := by decide +kernel
theorem dX9_end_5 : decode cX9_end 5 = .ok (.aload_n 0, 1) := by decide +kernel
theorem dX9_end_6 : decode cX9_end 6 = .ok (.getfield 10, 3) := by decide +kernel
theorem dX9_end_9 : decode cX9_end 9 = .ok (.getfield 85, 3) := by decide +kernel
theorem dX9_end_12 : decode cX9_end 12 = .ok (.if_icmp .le 5, 3) := by decide +kernel
theorem dX9_end_15 : decode cX9_end 15 = .ok (.iconst (-1), 1) := by decide +kernel
theorem dX9_end_16 : decode cX9_end 16 = .ok (.ireturn, 1) := by decide +kernel
theorem dX9_end_17 : decode cX9_end 17 = .ok (.aload_n 0, 1) := by decide +kernel
theorem dX9_end_18 : decode cX9_end 18 = .ok (.getfield 10, 3) := by decide +kernel
theorem dX9_end_21 : decode cX9_end 21 = .ok (.iload_n 1, 1) := by decide +kernel
theorem dX9_end_22 : decode cX9_end 22 = .ok (.putfield 85, 3) := by decide +kernel
theorem dX9_end_25 : decode cX9_end 25 = .ok (.iload_n 1, 1) := by decide +kernel
theorem dX9_end_26 : decode cX9_end 26 = .ok (.ireturn, 1) := by decide +kernel
theorem dX9_text_0 : decode cX9_text 0 = .ok (.iconst (-1), 1) := by decide +kernel
theorem dX9_text_1 : decode cX9_text 1 = .ok (.istore_n 2, 1) := by decide +kernel
theorem dX9_text_2 : decode cX9_text 2 = .ok (.iload_n 1, 1) := by decide +kernel
theorem dX9_text_3 : decode cX9_text 3 = .ok (.ifCond .ne 59, 3) := by decide +kernel
theorem dX9_text_6 : decode cX9_text 6 = .ok (.aload_n 0, 1) := by decide +kernel
theorem dX9_text_7 : decode cX9_text 7 = .ok (.getfield 93, 3) := by decide +kernel
theorem dX9_text_10 : decode cX9_text 10 = .ok (.iconst 4, 1) := by decide +kernel
theorem dX9_text_11 : decode cX9_text 11 = .ok (.if_icmp .ge 51, 3) := by decide +kernel
theorem dX9_text_14 : decode cX9_text 14 = .ok (.aload_n 0, 1) := by decide +kernel
theorem dX9_text_15 : decode cX9_text 15 = .ok (.getfield 10, 3) := by decide +kernel
theorem dX9_text_18 : decode cX9_text 18 = .ok (.aload_n 0, 1) := by decide +kernel
theorem dX9_text_19 : decode cX9_text 19 = .ok (.getfield 18, 3) := by decide +kernel
theorem dX9_text_22 : decode cX9_text 22 = .ok (.aload_n 0, 1) := by decide +kernel
theorem dX9_text_23 : decode cX9_text 23 = .ok (.getfield 93, 3) := by decide +kernel
theorem dX9_text_26 : decode cX9_text 26 = .ok (.aaload, 1) := by decide +kernel
theorem dX9_text_27 : decode cX9_text 27 = .ok (.invokevirtual 96, 3) := by decide +kernel
theorem dX9_text_30 : decode cX9_text 30 = .ok (.aload_n 0, 1) := by decide +kernel
theorem dX9_text_31 : decode cX9_text 31 = .ok (.getfield 93, 3) := by decide +kernel
theorem dX9_text_34 : decode cX9_text 34 = .ok (.istore_n 2, 1) := by decide +kernel
theorem dX9_text_35 : decode cX9_text 35 = .ok (.aload_n 0, 1) := by decide +kernel
theorem dX9_text_36 : decode cX9_text 36 = .ok (.dup, 1) := by decide +kernel
theorem dX9_text_37 : decode cX9_text 37 = .ok (.getfield 93, 3) := by decide +kernel
theorem dX9_text_40 : decode cX9_text 40 = .ok (.aload_n 0, 1) := by decide +kernel
theorem dX9_text_41 : decode cX9_text 41 = .ok (.getfield 10, 3) := by decide +kernel
theorem dX9_text_44 : decode cX9_text 44 = .ok (.getfield 100, 3) := by decide +kernel
theorem dX9_text_47 : decode cX9_text 47 = .ok (.ifCond .ne 7, 3) := by decide +kernel
theorem dX9_text_50 : decode cX9_text 50 = .ok (.iconst 1, 1) := by decide +kernel
theorem dX9_text_51 : decode cX9_text 51 = .ok (.goto 4, 3) := by decide +kernel
theorem dX9_text_54 : decode cX9_text 54 = .ok (.iconst 0, 1) := by decide +kernel
theorem dX9_text_55 : decode cX9_text 55 = .ok (.iadd, 1) := by decide +kernel
theorem dX9_text_56 : decode cX9_text 56 = .ok (.putfield 93, 3) := by decide +kernel
theorem dX9_text_59 : decode cX9_text 59 = .ok (.goto 129, 3) := by decide +kernel
theorem dX9_text_62 : decode cX9_text 62 = .ok (.iload_n 1, 1) := by decide +kernel
theorem dX9_text_63 : decode cX9_text 63 = .ok (.iconst 1, 1) := by decide +kernel
theorem dX9_text_64 : decode cX9_text 64 = .ok (.if_icmp .ne 60, 3) := by decide +kernel
theorem dX9_text_67 : decode cX9_text 67 = .ok (.aload_n 0, 1) := by decide +kernel
theorem dX9_text_68 : decode cX9_text 68 = .ok (.getfield 103, 3) := by decide +kernel
theorem dX9_text_71 : decode cX9_text 71 = .ok (.bipush 6, 2) := by decide +kernel
theorem dX9_text_73 : decode cX9_text 73 = .ok (.if_icmp .ge 51, 3) := by decide +kernel
theorem dX9_text_76 : decode cX9_text 76 = .ok (.aload_n 0, 1) := by decide +kernel
theorem dX9_text_77 : decode cX9_text 77 = .ok (.getfield 10, 3) := by decide +kernel
theorem dX9_text_80 : decode cX9_text 80 = .ok (.aload_n 0, 1) := by decide +kernel
theorem dX9_text_81 : decode cX9_text 81 = .ok (.getfield 24, 3) := by decide +kernel
theorem dX9_text_84 : decode cX9_text 84 = .ok (.aload_n 0, 1) := by decide +kernel
theorem dX9_text_85 : decode cX9_text 85 = .ok (.getfield 103, 3) := by decide +kernel
theorem dX9_text_88 : decode cX9_text 88 = .ok (.aaload, 1) := by decide +kernel
theorem dX9_text_89 : decode cX9_text 89 = .ok (.invokevirtual 106, 3) := by decide +kernel
theorem dX9_text_92 : decode cX9_text 92 = .ok (.aload_n 0, 1) := by decide +kernel
theorem dX9_text_93 : decode cX9_text 93 = .ok (.getfield 103, 3) := by decide +kernel
theorem dX9_text_96 : decode cX9_text 96 = .ok (.istore_n 2, 1) := by decide +kernel
theorem dX9_text_97 : decode cX9_text 97 = .ok (.aload_n 0, 1) := by decide +kernel
theorem dX9_text_98 : decode cX9_text 98 = .ok (.dup, 1) := by decide +kernel
theorem dX9_text_99 : decode cX9_text 99 = .ok (.getfield 103, 3) := by decide +kernel
theorem dX9_text_102 : decode cX9_text 102 = .ok (.aload_n 0, 1) := by decide +kernel
theorem dX9_text_103 : decode cX9_text 103 = .ok (.getfield 10, 3) := by decide +kernel
theorem dX9_text_106 : decode cX9_text 106 = .ok (.getfield 100, 3) := by decide +kernel
theorem dX9_text_109 : decode cX9_text 109 = .ok (.ifCond .ne 7, 3) := by decide +kernel
theorem dX9_text_112 : decode cX9_text 112 = .ok (.iconst 1, 1) := by decide +kernel
theorem dX9_text_113 : decode cX9_text 113 = .ok (.goto 4, 3) := by decide +kernel
theorem dX9_text_116 : decode cX9_text 116 = .ok (.iconst 0, 1) := by decide +kernel
theorem dX9_text_117 : decode cX9_text 117 = .ok (.iadd, 1) := by decide +kernel
theorem dX9_text_118 : decode cX9_text 118 = .ok (.putfield 103, 3) := by decide +kernel
theorem dX9_text_121 : decode cX9_text 121 = .ok (.goto 67, 3) := by decide +kernel
theorem dX9_text_124 : decode cX9_text 124 = .ok (.iload_n 1, 1) := by decide +kernel
theorem dX9_text_125 : decode cX9_text 125 = .ok (.iconst 2, 1) := by decide +kernel
theorem dX9_text_126 : decode cX9_text 126 = .ok (.if_icmp .ne 60, 3) := by decide +kernel
theorem dX9_text_129 : decode cX9_text 129 = .ok (.aload_n 0, 1) := by decide +kernel
theorem dX9_text_130 : decode cX9_text 130 = .ok (.getfield 110, 3) := by decide +kernel
theorem dX9_text_133 : decode cX9_text 133 = .ok (.bipush 6, 2) := by decide +kernel
theorem dX9_text_135 : decode cX9_text 135 = .ok (.if_icmp .ge 51, 3) := by decide +kernel
theorem dX9_text_138 : decode cX9_text 138 = .ok (.aload_n 0, 1) := by decide +kernel
theorem dX9_text_139 : decode cX9_text 139 = .ok (.getfield 10, 3) := by decide +kernel
theorem dX9_text_142 : decode cX9_text 142 = .ok (.aload_n 0, 1) := by decide +kernel
theorem dX9_text_143 : decode cX9_text 143 = .ok (.getfield 30, 3) := by decide +kernel
theorem dX9_text_146 : decode cX9_text 146 = .ok (.aload_n 0, 1) := by decide +kernel
theorem dX9_text_147 : decode cX9_text 147 = .ok (.getfield 110, 3) := by decide +kernel
theorem dX9_text_150 : decode cX9_text 150 = .ok (.aaload, 1) := by decide +kernel
theorem dX9_text_151 : decode cX9_text 151 = .ok (.invokevirtual 113, 3) := by decide +kernel
theorem dX9_text_154 : decode cX9_text 154 = .ok (.aload_n 0, 1) := by decide +kernel
theorem dX9_text_155 : decode cX9_text 155 = .ok (.getfield 110, 3) := by decide +kernel
theorem dX9_text_158 : decode cX9_text 158 = .ok (.istore_n 2, 1) := by decide +kernel
theorem dX9_text_159 : decode cX9_text 159 = .ok (.aload_n 0, 1) := by decide +kernel
theorem dX9_text_160 : decode cX9_text 160 = .ok (.dup, 1) := by decide +kernel
theorem dX9_text_161 : decode cX9_text 161 = .ok (.getfield 110, 3) := by decide +kernel
theorem dX9_text_164 : decode cX9_text 164 = .ok (.aload_n 0, 1) := by decide +kernel
theorem dX9_text_165 : decode cX9_text 165 = .ok (.getfield 10, 3) := by decide +kernel
theorem dX9_text_168 : decode cX9_text 168 = .ok (.getfield 100, 3) := by decide +kernel
theorem dX9_text_171 : decode cX9_text 171 = .ok (.ifCond .ne 7, 3) := by decide +kernel
theorem dX9_text_174 : decode cX9_text 174 = .ok (.iconst 1, 1) := by decide +kernel
theorem dX9_text_175 : decode cX9_text 175 = .ok (.goto 4, 3) := by decide +kernel
theorem dX9_text_178 : decode cX9_text 178 = .ok (.iconst 0, 1) := by decide +kernel
theorem dX9_text_179 : decode cX9_text 179 = .ok (.iadd, 1) := by decide +kernel
theorem dX9_text_180 : decode cX9_text 180 = .ok (.putfield 110, 3) := by decide +kernel
theorem dX9_text_183 : decode cX9_text 183 = .ok (.goto 5, 3) := by decide +kernel
theorem dX9_text_186 : decode cX9_text 186 = .ok (.iconst (-1), 1) := by decide +kernel
theorem dX9_text_187 : decode cX9_text 187 = .ok (.ireturn, 1) := by decide +kernel
theorem dX9_text_188 : decode cX9_text 188 = .ok (.aload_n 0, 1) := by decide +kernel
theorem dX9_text_189 : decode cX9_text 189 = .ok (.getfield 10, 3) := by decide +kernel
theorem dX9_text_192 : decode cX9_text 192 = .ok (.iconst 0, 1) := by decide +kernel
theorem dX9_text_193 : decode cX9_text 193 = .ok (.putfield 85, 3) := by decide +kernel
theorem dX9_text_196 : decode cX9_text 196 = .ok (.aload_n 0, 1) := by decide +kernel
theorem dX9_text_197 : decode cX9_text 197 = .ok (.getfield 10, 3) := by decide +kernel
theorem dX9_text_200 : decode cX9_text 200 = .ok (.getfield 100, 3) := by decide +kernel
theorem dX9_text_203 : decode cX9_text 203 = .ok (.ifCond .ne 7, 3) := by decide +kernel
theorem dX9_text_206 : decode cX9_text 206 = .ok (.iload_n 2, 1) := by decide +kernel
theorem dX9_text_207 : decode cX9_text 207 = .ok (.goto 13, 3) := by decide +kernel
theorem dX9_text_210 : decode cX9_text 210 = .ok (.bipush (-2), 2) := by decide +kernel
theorem dX9_text_212 : decode cX9_text 212 = .ok (.aload_n 0, 1) := by decide +kernel
theorem dX9_text_213 : decode cX9_text 213 = .ok (.getfield 10, 3) := by decide +kernel
theorem dX9_text_216 : decode cX9_text 216 = .ok (.getfield 100, 3) := by decide +kernel
theorem dX9_text_219 : decode cX9_text 219 = .ok (.isub, 1) := by decide +kernel
theorem dX9_text_220 : decode cX9_text 220 = .ok (.ireturn, 1) := by decide +kernel
theorem dX9_cell_0 : decode cX9_cell 0 = .ok (.iload_n 1, 1) := by decide +kernel
theorem dX9_cell_1 : decode cX9_cell 1 = .ok (.ifCond .lt 23, 3) := by decide +kernel
theorem dX9_cell_4 : decode cX9_cell 4 = .ok (.iload_n 1, 1) := by decide +kernel
theorem dX9_cell_5 : decode cX9_cell 5 = .ok (.aload_n 0, 1) := by decide +kernel
theorem dX9_cell_6 : decode cX9_cell 6 = .ok (.getfield 93, 3) := by decide +kernel
theorem dX9_cell_9 : decode cX9_cell 9 = .ok (.if_icmp .ge 15, 3) := by decide +kernel
theorem dX9_cell_12 : decode cX9_cell 12 = .ok (.iload 4, 2) := by decide +kernel
theorem dX9_cell_14 : decode cX9_cell 14 = .ok (.ifCond .lt 10, 3) := by decide +kernel
theorem dX9_cell_17 : decode cX9_cell 17 = .ok (.iload 4, 2) := by decide +kernel
theorem dX9_cell_19 : decode cX9_cell 19 = .ok (.bipush 9, 2) := by decide +kernel
theorem dX9_cell_21 : decode cX9_cell 21 = .ok (.if_icmp .le 6, 3) := by decide +kernel
theorem dX9_cell_24 : decode cX9_cell 24 = .ok (.bipush (-2), 2) := by decide +kernel
theorem dX9_cell_26 : decode cX9_cell 26 = .ok (.ireturn, 1) := by decide +kernel
theorem dX9_cell_27 : decode cX9_cell 27 = .ok (.aload_n 0, 1) := by decide +kernel
theorem dX9_cell_28 : decode cX9_cell 28 = .ok (.getfield 18, 3) := by decide +kernel
theorem dX9_cell_31 : decode cX9_cell 31 = .ok (.iload_n 1, 1) := by decide +kernel
theorem dX9_cell_32 : decode cX9_cell 32 = .ok (.aaload, 1) := by decide +kernel
theorem dX9_cell_33 : decode cX9_cell 33 = .ok (.iload_n 2, 1) := by decide +kernel
theorem dX9_cell_34 : decode cX9_cell 34 = .ok (.iload_n 3, 1) := by decide +kernel
theorem dX9_cell_35 : decode cX9_cell 35 = .ok (.invokevirtual 117, 3) := by decide +kernel
theorem dX9_cell_38 : decode cX9_cell 38 = .ok (.istore 5, 2) := by decide +kernel
theorem dX9_cell_40 : decode cX9_cell 40 = .ok (.iload 5, 2) := by decide +kernel
theorem dX9_cell_42 : decode cX9_cell 42 = .ok (.iconst (-1), 1) := by decide +kernel
theorem dX9_cell_43 : decode cX9_cell 43 = .ok (.if_icmp .ne 8, 3) := by decide +kernel
theorem dX9_cell_46 : decode cX9_cell 46 = .ok (.bipush (-2), 2) := by decide +kernel
theorem dX9_cell_48 : decode cX9_cell 48 = .ok (.goto 16, 3) := by decide +kernel
theorem dX9_cell_51 : decode cX9_cell 51 = .ok (.aload_n 0, 1) := by decide +kernel
theorem dX9_cell_52 : decode cX9_cell 52 = .ok (.getfield 18, 3) := by decide +kernel
theorem dX9_cell_55 : decode cX9_cell 55 = .ok (.iload_n 1, 1) := by decide +kernel
theorem dX9_cell_56 : decode cX9_cell 56 = .ok (.aaload, 1) := by decide +kernel
theorem dX9_cell_57 : decode cX9_cell 57 = .ok (.iload 5, 2) := by decide +kernel
theorem dX9_cell_59 : decode cX9_cell 59 = .ok (.iload 4, 2) := by decide +kernel
theorem dX9_cell_61 : decode cX9_cell 61 = .ok (.invokevirtual 121, 3) := by decide +kernel
theorem dX9_cell_64 : decode cX9_cell 64 = .ok (.ireturn, 1) := by decide +kernel
theorem dX9_wood_0 : decode cX9_wood 0 = .ok (.iload_n 1, 1) := by decide +kernel
theorem dX9_wood_1 : decode cX9_wood 1 = .ok (.ifCond .lt 11, 3) := by decide +kernel
theorem dX9_wood_4 : decode cX9_wood 4 = .ok (.iload_n 1, 1) := by decide +kernel
theorem dX9_wood_5 : decode cX9_wood 5 = .ok (.aload_n 0, 1) := by decide +kernel
theorem dX9_wood_6 : decode cX9_wood 6 = .ok (.getfield 93, 3) := by decide +kernel
theorem dX9_wood_9 : decode cX9_wood 9 = .ok (.if_icmp .lt 5, 3) := by decide +kernel
theorem dX9_wood_12 : decode cX9_wood 12 = .ok (.iconst (-1), 1) := by decide +kernel
theorem dX9_wood_13 : decode cX9_wood 13 = .ok (.ireturn, 1) := by decide +kernel
theorem dX9_wood_14 : decode cX9_wood 14 = .ok (.aload_n 0, 1) := by decide +kernel
theorem dX9_wood_15 : decode cX9_wood 15 = .ok (.getfield 18, 3) := by decide +kernel
theorem dX9_wood_18 : decode cX9_wood 18 = .ok (.iload_n 1, 1) := by decide +kernel
theorem dX9_wood_19 : decode cX9_wood 19 = .ok (.aaload, 1) := by decide +kernel
theorem dX9_wood_20 : decode cX9_wood 20 = .ok (.astore_n 3, 1) := by decide +kernel
theorem dX9_wood_21 : decode cX9_wood 21 = .ok (.iload_n 2, 1) := by decide +kernel
theorem dX9_wood_22 : decode cX9_wood 22 = .ok (.tableswitch 65 0 4 #[34, 39, 44, 52, 60], 34) := by decide +kernel
theorem dX9_wood_56 : decode cX9_wood 56 = .ok (.aload_n 3, 1) := by decide +kernel
theorem dX9_wood_57 : decode cX9_wood 57 = .ok (.getfield 124, 3) := by decide +kernel
theorem dX9_wood_60 : decode cX9_wood 60 = .ok (.ireturn, 1) := by decide +kernel
theorem dX9_wood_61 : decode cX9_wood 61 = .ok (.aload_n 3, 1) := by decide +kernel
theorem dX9_wood_62 : decode cX9_wood 62 = .ok (.getfield 127, 3) := by decide +kernel
theorem dX9_wood_65 : decode cX9_wood 65 = .ok (.ireturn, 1) := by decide +kernel
theorem dX9_wood_66 : decode cX9_wood 66 = .ok (.aload_n 3, 1) := by decide +kernel
theorem dX9_wood_67 : decode cX9_wood 67 = .ok (.getfield 129, 3) := by decide +kernel
theorem dX9_wood_70 : decode cX9_wood 70 = .ok (.bipush 12, 2) := by decide +kernel
theorem dX9_wood_72 : decode cX9_wood 72 = .ok (.irem, 1) := by decide +kernel
theorem dX9_wood_73 : decode cX9_wood 73 = .ok (.ireturn, 1) := by decide +kernel
theorem dX9_wood_74 : decode cX9_wood 74 = .ok (.aload_n 3, 1) := by decide +kernel
theorem dX9_wood_75 : decode cX9_wood 75 = .ok (.getfield 129, 3) := by decide +kernel
theorem dX9_wood_78 : decode cX9_wood 78 = .ok (.bipush 12, 2) := by decide +kernel
theorem dX9_wood_80 : decode cX9_wood 80 = .ok (.idiv, 1) := by decide +kernel
theorem dX9_wood_81 : decode cX9_wood 81 = .ok (.ireturn, 1) := by decide +kernel
theorem dX9_wood_82 : decode cX9_wood 82 = .ok (.aload_n 3, 1) := by decide +kernel
theorem dX9_wood_83 : decode cX9_wood 83 = .ok (.getfield 132, 3) := by decide +kernel
theorem dX9_wood_86 : decode cX9_wood 86 = .ok (.ireturn, 1) := by decide +kernel
theorem dX9_wood_87 : decode cX9_wood 87 = .ok (.iconst (-1), 1) := by decide +kernel
theorem dX9_wood_88 : decode cX9_wood 88 = .ok (.ireturn, 1) := by decide +kernel
theorem dX9_walk_0 : decode cX9_walk 0 = .ok (.iload_n 1, 1) := by decide +kernel
theorem dX9_walk_1 : decode cX9_walk 1 = .ok (.ifCond .lt 34, 3) := by decide +kernel
theorem dX9_walk_4 : decode cX9_walk 4 = .ok (.iload_n 1, 1) := by decide +kernel
theorem dX9_walk_5 : decode cX9_walk 5 = .ok (.aload_n 0, 1) := by decide +kernel
theorem dX9_walk_6 : decode cX9_walk 6 = .ok (.getfield 93, 3) := by decide +kernel
theorem dX9_walk_9 : decode cX9_walk 9 = .ok (.if_icmp .ge 26, 3) := by decide +kernel
theorem dX9_walk_12 : decode cX9_walk 12 = .ok (.iload_n 2, 1) := by decide +kernel
theorem dX9_walk_13 : decode cX9_walk 13 = .ok (.ifCond .lt 22, 3) := by decide +kernel
theorem dX9_walk_16 : decode cX9_walk 16 = .ok (.iload_n 2, 1) := by decide +kernel
theorem dX9_walk_17 : decode cX9_walk 17 = .ok (.aload_n 0, 1) := by decide +kernel
theorem dX9_walk_18 : decode cX9_walk 18 = .ok (.getfield 103, 3) := by decide +kernel
theorem dX9_walk_21 : decode cX9_walk 21 = .ok (.if_icmp .ge 14, 3) := by decide +kernel
theorem dX9_walk_24 : decode cX9_walk 24 = .ok (.iload 5, 2) := by decide +kernel
theorem dX9_walk_26 : decode cX9_walk 26 = .ok (.ifCond .lt 9, 3) := by decide +kernel
theorem dX9_walk_29 : decode cX9_walk 29 = .ok (.iload 5, 2) := by decide +kernel
theorem dX9_walk_31 : decode cX9_walk 31 = .ok (.iconst 4, 1) := by decide +kernel
theorem dX9_walk_32 : decode cX9_walk 32 = .ok (.if_icmp .lt 5, 3) := by decide +kernel
theorem dX9_walk_35 : decode cX9_walk 35 = .ok (.iconst 0, 1) := by decide +kernel
theorem dX9_walk_36 : decode cX9_walk 36 = .ok (.ireturn, 1) := by decide +kernel
theorem dX9_walk_37 : decode cX9_walk 37 = .ok (.aload_n 0, 1) := by decide +kernel
theorem dX9_walk_38 : decode cX9_walk 38 = .ok (.getfield 18, 3) := by decide +kernel
theorem dX9_walk_41 : decode cX9_walk 41 = .ok (.iload_n 1, 1) := by decide +kernel
theorem dX9_walk_42 : decode cX9_walk 42 = .ok (.aaload, 1) := by decide +kernel
theorem dX9_walk_43 : decode cX9_walk 43 = .ok (.iload_n 3, 1) := by decide +kernel
theorem dX9_walk_44 : decode cX9_walk 44 = .ok (.iload 4, 2) := by decide +kernel
theorem dX9_walk_46 : decode cX9_walk 46 = .ok (.invokevirtual 135, 3) := by decide +kernel
theorem dX9_walk_49 : decode cX9_walk 49 = .ok (.istore 6, 2) := by decide +kernel
theorem dX9_walk_51 : decode cX9_walk 51 = .ok (.iload 6, 2) := by decide +kernel
theorem dX9_walk_53 : decode cX9_walk 53 = .ok (.iconst (-1), 1) := by decide +kernel
theorem dX9_walk_54 : decode cX9_walk 54 = .ok (.if_icmp .ne 5, 3) := by decide +kernel
theorem dX9_walk_57 : decode cX9_walk 57 = .ok (.iconst 0, 1) := by decide +kernel
theorem dX9_walk_58 : decode cX9_walk 58 = .ok (.ireturn, 1) := by decide +kernel
theorem dX9_walk_59 : decode cX9_walk 59 = .ok (.aload_n 0, 1) := by decide +kernel
theorem dX9_walk_60 : decode cX9_walk 60 = .ok (.getfield 37, 3) := by decide +kernel
theorem dX9_walk_63 : decode cX9_walk 63 = .ok (.iload_n 1, 1) := by decide +kernel
theorem dX9_walk_64 : decode cX9_walk 64 = .ok (.iload_n 2, 1) := by decide +kernel
theorem dX9_walk_65 : decode cX9_walk 65 = .ok (.iload 6, 2) := by decide +kernel
theorem dX9_walk_67 : decode cX9_walk 67 = .ok (.iload 5, 2) := by decide +kernel
theorem dX9_walk_69 : decode cX9_walk 69 = .ok (.invokevirtual 138, 3) := by decide +kernel
theorem dX9_walk_72 : decode cX9_walk 72 = .ok (.aload_n 0, 1) := by decide +kernel
theorem dX9_walk_73 : decode cX9_walk 73 = .ok (.getfield 81, 3) := by decide +kernel
theorem dX9_walk_76 : decode cX9_walk 76 = .ok (.aload_n 0, 1) := by decide +kernel
theorem dX9_walk_77 : decode cX9_walk 77 = .ok (.getfield 18, 3) := by decide +kernel
theorem dX9_walk_80 : decode cX9_walk 80 = .ok (.iload_n 1, 1) := by decide +kernel
theorem dX9_walk_81 : decode cX9_walk 81 = .ok (.aaload, 1) := by decide +kernel
theorem dX9_walk_82 : decode cX9_walk 82 = .ok (.aload_n 0, 1) := by decide +kernel
theorem dX9_walk_83 : decode cX9_walk 83 = .ok (.getfield 24, 3) := by decide +kernel
theorem dX9_walk_86 : decode cX9_walk 86 = .ok (.iload_n 2, 1) := by decide +kernel
theorem dX9_walk_87 : decode cX9_walk 87 = .ok (.aaload, 1) := by decide +kernel
theorem dX9_walk_88 : decode cX9_walk 88 = .ok (.invokevirtual 142, 3) := by decide +kernel
theorem dX9_walk_91 : decode cX9_walk 91 = .ok (.iconst 1, 1) := by decide +kernel
theorem dX9_walk_92 : decode cX9_walk 92 = .ok (.ireturn, 1) := by decide +kernel
theorem dX9_act_0 : decode cX9_act 0 = .ok (.iload_n 1, 1) := by decide +kernel
theorem dX9_act_1 : decode cX9_act 1 = .ok (.ifCond .lt 25, 3) := by decide +kernel
theorem dX9_act_4 : decode cX9_act 4 = .ok (.iload_n 1, 1) := by decide +kernel
theorem dX9_act_5 : decode cX9_act 5 = .ok (.iconst 4, 1) := by decide +kernel
theorem dX9_act_6 : decode cX9_act 6 = .ok (.if_icmp .gt 20, 3) := by decide +kernel
theorem dX9_act_9 : decode cX9_act 9 = .ok (.aload_n 0, 1) := by decide +kernel
theorem dX9_act_10 : decode cX9_act 10 = .ok (.getfield 37, 3) := by decide +kernel
theorem dX9_act_13 : decode cX9_act 13 = .ok (.iload_n 1, 1) := by decide +kernel
theorem dX9_act_14 : decode cX9_act 14 = .ok (.iconst 0, 1) := by decide +kernel
theorem dX9_act_15 : decode cX9_act 15 = .ok (.iconst 0, 1) := by decide +kernel
theorem dX9_act_16 : decode cX9_act 16 = .ok (.aload_n 0, 1) := by decide +kernel
theorem dX9_act_17 : decode cX9_act 17 = .ok (.getfield 81, 3) := by decide +kernel
theorem dX9_act_20 : decode cX9_act 20 = .ok (.invokevirtual 145, 3) := by decide +kernel
theorem dX9_act_23 : decode cX9_act 23 = .ok (.ifCond .ne 5, 3) := by decide +kernel
theorem dX9_act_26 : decode cX9_act 26 = .ok (.iconst (-1), 1) := by decide +kernel
theorem dX9_act_27 : decode cX9_act 27 = .ok (.ireturn, 1) := by decide +kernel
theorem dX9_act_28 : decode cX9_act 28 = .ok (.aload_n 0, 1) := by decide +kernel
theorem dX9_act_29 : decode cX9_act 29 = .ok (.getfield 37, 3) := by decide +kernel
theorem dX9_act_32 : decode cX9_act 32 = .ok (.getfield 149, 3) := by decide +kernel
theorem dX9_act_35 : decode cX9_act 35 = .ok (.getfield 152, 3) := by decide +kernel
theorem dX9_act_38 : decode cX9_act 38 = .ok (.ireturn, 1) := by decide +kernel
theorem dX9_felt_0 : decode cX9_felt 0 = .ok (.iload_n 1, 1) := by decide +kernel
theorem dX9_felt_1 : decode cX9_felt 1 = .ok (.ifCond .lt 27, 3) := by decide +kernel
theorem dX9_felt_4 : decode cX9_felt 4 = .ok (.iload_n 1, 1) := by decide +kernel
theorem dX9_felt_5 : decode cX9_felt 5 = .ok (.bipush 7, 2) := by decide +kernel
theorem dX9_felt_7 : decode cX9_felt 7 = .ok (.if_icmp .gt 21, 3) := by decide +kernel
theorem dX9_felt_10 : decode cX9_felt 10 = .ok (.aload_n 0, 1) := by decide +kernel
theorem dX9_felt_11 : decode cX9_felt 11 = .ok (.getfield 37, 3) := by decide +kernel
theorem dX9_felt_14 : decode cX9_felt 14 = .ok (.bipush 6, 2) := by decide +kernel
theorem dX9_felt_16 : decode cX9_felt 16 = .ok (.iload_n 1, 1) := by decide +kernel
theorem dX9_felt_17 : decode cX9_felt 17 = .ok (.iconst 0, 1) := by decide +kernel
theorem dX9_felt_18 : decode cX9_felt 18 = .ok (.aload_n 0, 1) := by decide +kernel
theorem dX9_felt_19 : decode cX9_felt 19 = .ok (.getfield 81, 3) := by decide +kernel
theorem dX9_felt_22 : decode cX9_felt 22 = .ok (.invokevirtual 145, 3) := by decide +kernel
theorem dX9_felt_25 : decode cX9_felt 25 = .ok (.ifCond .ne 5, 3) := by decide +kernel
theorem dX9_felt_28 : decode cX9_felt 28 = .ok (.iconst (-1), 1) := by decide +kernel
theorem dX9_felt_29 : decode cX9_felt 29 = .ok (.ireturn, 1) := by decide +kernel
theorem dX9_felt_30 : decode cX9_felt 30 = .ok (.aload_n 0, 1) := by decide +kernel
theorem dX9_felt_31 : decode cX9_felt 31 = .ok (.getfield 37, 3) := by decide +kernel
theorem dX9_felt_34 : decode cX9_felt 34 = .ok (.getfield 154, 3) := by decide +kernel
theorem dX9_felt_37 : decode cX9_felt 37 = .ok (.ireturn, 1) := by decide +kernel
theorem dX9_seen_0 : decode cX9_seen 0 = .ok (.iload_n 1, 1) := by decide +kernel
theorem dX9_seen_1 : decode cX9_seen 1 = .ok (.ifCond .lt 27, 3) := by decide +kernel
theorem dX9_seen_4 : decode cX9_seen 4 = .ok (.iload_n 1, 1) := by decide +kernel
theorem dX9_seen_5 : decode cX9_seen 5 = .ok (.bipush 9, 2) := by decide +kernel
theorem dX9_seen_7 : decode cX9_seen 7 = .ok (.if_icmp .gt 21, 3) := by decide +kernel
theorem dX9_seen_10 : decode cX9_seen 10 = .ok (.aload_n 0, 1) := by decide +kernel
theorem dX9_seen_11 : decode cX9_seen 11 = .ok (.getfield 37, 3) := by decide +kernel
theorem dX9_seen_14 : decode cX9_seen 14 = .ok (.bipush 7, 2) := by decide +kernel
theorem dX9_seen_16 : decode cX9_seen 16 = .ok (.iload_n 1, 1) := by decide +kernel
theorem dX9_seen_17 : decode cX9_seen 17 = .ok (.iconst 0, 1) := by decide +kernel
theorem dX9_seen_18 : decode cX9_seen 18 = .ok (.aload_n 0, 1) := by decide +kernel
theorem dX9_seen_19 : decode cX9_seen 19 = .ok (.getfield 81, 3) := by decide +kernel
theorem dX9_seen_22 : decode cX9_seen 22 = .ok (.invokevirtual 145, 3) := by decide +kernel
theorem dX9_seen_25 : decode cX9_seen 25 = .ok (.ifCond .ne 5, 3) := by decide +kernel
theorem dX9_seen_28 : decode cX9_seen 28 = .ok (.iconst (-1), 1) := by decide +kernel
theorem dX9_seen_29 : decode cX9_seen 29 = .ok (.ireturn, 1) := by decide +kernel
theorem dX9_seen_30 : decode cX9_seen 30 = .ok (.aload_n 0, 1) := by decide +kernel
theorem dX9_seen_31 : decode cX9_seen 31 = .ok (.getfield 37, 3) := by decide +kernel
theorem dX9_seen_34 : decode cX9_seen 34 = .ok (.getfield 154, 3) := by decide +kernel
theorem dX9_seen_37 : decode cX9_seen 37 = .ok (.ireturn, 1) := by decide +kernel
theorem dX9_heard_0 : decode cX9_heard 0 = .ok (.iload_n 1, 1) := by decide +kernel
theorem dX9_heard_1 : decode cX9_heard 1 = .ok (.ifCond .lt 45, 3) := by decide +kernel
theorem dX9_heard_4 : decode cX9_heard 4 = .ok (.iload_n 1, 1) := by decide +kernel
theorem dX9_heard_5 : decode cX9_heard 5 = .ok (.aload_n 0, 1) := by decide +kernel
theorem dX9_heard_6 : decode cX9_heard 6 = .ok (.getfield 81, 3) := by decide +kernel
theorem dX9_heard_9 : decode cX9_heard 9 = .ok (.getfield 157, 3) := by decide +kernel
theorem dX9_heard_12 : decode cX9_heard 12 = .ok (.getfield 132, 3) := by decide +kernel
theorem dX9_heard_15 : decode cX9_heard 15 = .ok (.if_icmp .ge 31, 3) := by decide +kernel
theorem dX9_heard_18 : decode cX9_heard 18 = .ok (.iload_n 2, 1) := by decide +kernel
theorem dX9_heard_19 : decode cX9_heard 19 = .ok (.ifCond .lt 27, 3) := by decide +kernel
theorem dX9_heard_22 : decode cX9_heard 22 = .ok (.iload_n 2, 1) := by decide +kernel
theorem dX9_heard_23 : decode cX9_heard 23 = .ok (.bipush 40, 2) := by decide +kernel
theorem dX9_heard_25 : decode cX9_heard 25 = .ok (.if_icmp .gt 21, 3) := by decide +kernel
theorem dX9_heard_28 : decode cX9_heard 28 = .ok (.aload_n 0, 1) := by decide +kernel
theorem dX9_heard_29 : decode cX9_heard 29 = .ok (.getfield 37, 3) := by decide +kernel
theorem dX9_heard_32 : decode cX9_heard 32 = .ok (.bipush 8, 2) := by decide +kernel
theorem dX9_heard_34 : decode cX9_heard 34 = .ok (.iload_n 1, 1) := by decide +kernel
theorem dX9_heard_35 : decode cX9_heard 35 = .ok (.iload_n 2, 1) := by decide +kernel
theorem dX9_heard_36 : decode cX9_heard 36 = .ok (.aload_n 0, 1) := by decide +kernel
theorem dX9_heard_37 : decode cX9_heard 37 = .ok (.getfield 81, 3) := by decide +kernel
theorem dX9_heard_40 : decode cX9_heard 40 = .ok (.invokevirtual 145, 3) := by decide +kernel
theorem dX9_heard_43 : decode cX9_heard 43 = .ok (.ifCond .ne 5, 3) := by decide +kernel
theorem dX9_heard_46 : decode cX9_heard 46 = .ok (.iconst (-1), 1) := by decide +kernel
theorem dX9_heard_47 : decode cX9_heard 47 = .ok (.ireturn, 1) := by decide +kernel
theorem dX9_heard_48 : decode cX9_heard 48 = .ok (.aload_n 0, 1) := by decide +kernel
theorem dX9_heard_49 : decode cX9_heard 49 = .ok (.getfield 37, 3) := by decide +kernel
theorem dX9_heard_52 : decode cX9_heard 52 = .ok (.getfield 154, 3) := by decide +kernel
theorem dX9_heard_55 : decode cX9_heard 55 = .ok (.ireturn, 1) := by decide +kernel
theorem dX9_strike_0 : decode cX9_strike 0 = .ok (.iload_n 1, 1) := by decide +kernel
theorem dX9_strike_1 : decode cX9_strike 1 = .ok (.ifCond .lt 48, 3) := by decide +kernel
theorem dX9_strike_4 : decode cX9_strike 4 = .ok (.iload_n 1, 1) := by decide +kernel
theorem dX9_strike_5 : decode cX9_strike 5 = .ok (.bipush 7, 2) := by decide +kernel
theorem dX9_strike_7 : decode cX9_strike 7 = .ok (.if_icmp .gt 42, 3) := by decide +kernel
theorem dX9_strike_10 : decode cX9_strike 10 = .ok (.aload_n 0, 1) := by decide +kernel
theorem dX9_strike_11 : decode cX9_strike 11 = .ok (.getfield 37, 3) := by decide +kernel
theorem dX9_strike_14 : decode cX9_strike 14 = .ok (.getfield 149, 3) := by decide +kernel
theorem dX9_strike_17 : decode cX9_strike 17 = .ok (.getfield 161, 3) := by decide +kernel
theorem dX9_strike_20 : decode cX9_strike 20 = .ok (.iconst 1, 1) := by decide +kernel
theorem dX9_strike_21 : decode cX9_strike 21 = .ok (.if_icmp .lt 28, 3) := by decide +kernel
theorem dX9_strike_24 : decode cX9_strike 24 = .ok (.aload_n 0, 1) := by decide +kernel
theorem dX9_strike_25 : decode cX9_strike 25 = .ok (.getfield 37, 3) := by decide +kernel
theorem dX9_strike_28 : decode cX9_strike 28 = .ok (.iconst 5, 1) := by decide +kernel
theorem dX9_strike_29 : decode cX9_strike 29 = .ok (.iload_n 1, 1) := by decide +kernel
theorem dX9_strike_30 : decode cX9_strike 30 = .ok (.iload_n 2, 1) := by decide +kernel
theorem dX9_strike_31 : decode cX9_strike 31 = .ok (.ifCond .eq 7, 3) := by decide +kernel
theorem dX9_strike_34 : decode cX9_strike 34 = .ok (.iconst 1, 1) := by decide +kernel
theorem dX9_strike_35 : decode cX9_strike 35 = .ok (.goto 4, 3) := by decide +kernel
theorem dX9_strike_38 : decode cX9_strike 38 = .ok (.iconst 0, 1) := by decide +kernel
theorem dX9_strike_39 : decode cX9_strike 39 = .ok (.aload_n 0, 1) := by decide +kernel
theorem dX9_strike_40 : decode cX9_strike 40 = .ok (.getfield 81, 3) := by decide +kernel
theorem dX9_strike_43 : decode cX9_strike 43 = .ok (.invokevirtual 145, 3) := by decide +kernel
theorem dX9_strike_46 : decode cX9_strike 46 = .ok (.ifCond .ne 5, 3) := by decide +kernel
theorem dX9_strike_49 : decode cX9_strike 49 = .ok (.iconst (-1), 1) := by decide +kernel
theorem dX9_strike_50 : decode cX9_strike 50 = .ok (.ireturn, 1) := by decide +kernel
theorem dX9_strike_51 : decode cX9_strike 51 = .ok (.aload_n 0, 1) := by decide +kernel
theorem dX9_strike_52 : decode cX9_strike 52 = .ok (.getfield 37, 3) := by decide +kernel
theorem dX9_strike_55 : decode cX9_strike 55 = .ok (.getfield 149, 3) := by decide +kernel
theorem dX9_strike_58 : decode cX9_strike 58 = .ok (.getfield 161, 3) := by decide +kernel
theorem dX9_strike_61 : decode cX9_strike 61 = .ok (.ireturn, 1) := by decide +kernel
theorem dX9_odds_0 : decode cX9_odds 0 = .ok (.aload_n 0, 1) := by decide +kernel
theorem dX9_odds_1 : decode cX9_odds 1 = .ok (.getfield 81, 3) := by decide +kernel
theorem dX9_odds_4 : decode cX9_odds 4 = .ok (.getfield 157, 3) := by decide +kernel
theorem dX9_odds_7 : decode cX9_odds 7 = .ok (.iload_n 1, 1) := by decide +kernel
theorem dX9_odds_8 : decode cX9_odds 8 = .ok (.iload_n 2, 1) := by decide +kernel
theorem dX9_odds_9 : decode cX9_odds 9 = .ok (.invokevirtual 117, 3) := by decide +kernel
theorem dX9_odds_12 : decode cX9_odds 12 = .ok (.istore 4, 2) := by decide +kernel
theorem dX9_odds_14 : decode cX9_odds 14 = .ok (.aload_n 0, 1) := by decide +kernel
theorem dX9_odds_15 : decode cX9_odds 15 = .ok (.getfield 37, 3) := by decide +kernel
theorem dX9_odds_18 : decode cX9_odds 18 = .ok (.getfield 164, 3) := by decide +kernel
theorem dX9_odds_21 : decode cX9_odds 21 = .ok (.ifCond .eq 19, 3) := by decide +kernel
theorem dX9_odds_24 : decode cX9_odds 24 = .ok (.iload 4, 2) := by decide +kernel
theorem dX9_odds_26 : decode cX9_odds 26 = .ok (.iconst (-1), 1) := by decide +kernel
theorem dX9_odds_27 : decode cX9_odds 27 = .ok (.if_icmp .eq 13, 3) := by decide +kernel
theorem dX9_odds_30 : decode cX9_odds 30 = .ok (.iload_n 3, 1) := by decide +kernel
theorem dX9_odds_31 : decode cX9_odds 31 = .ok (.iconst (-1), 1) := by decide +kernel
theorem dX9_odds_32 : decode cX9_odds 32 = .ok (.if_icmp .lt 8, 3) := by decide +kernel
theorem dX9_odds_35 : decode cX9_odds 35 = .ok (.iload_n 3, 1) := by decide +kernel
theorem dX9_odds_36 : decode cX9_odds 36 = .ok (.iconst 4, 1) := by decide +kernel
theorem dX9_odds_37 : decode cX9_odds 37 = .ok (.if_icmp .lt 5, 3) := by decide +kernel
theorem dX9_odds_40 : decode cX9_odds 40 = .ok (.iconst (-1), 1) := by decide +kernel
theorem dX9_odds_41 : decode cX9_odds 41 = .ok (.ireturn, 1) := by decide +kernel
theorem dX9_odds_42 : decode cX9_odds 42 = .ok (.aload_n 0, 1) := by decide +kernel
theorem dX9_odds_43 : decode cX9_odds 43 = .ok (.getfield 37, 3) := by decide +kernel
theorem dX9_odds_46 : decode cX9_odds 46 = .ok (.getfield 149, 3) := by decide +kernel
theorem dX9_odds_49 : decode cX9_odds 49 = .ok (.iload 4, 2) := by decide +kernel
theorem dX9_odds_51 : decode cX9_odds 51 = .ok (.iload_n 3, 1) := by decide +kernel
theorem dX9_odds_52 : decode cX9_odds 52 = .ok (.invokevirtual 168, 3) := by decide +kernel
theorem dX9_odds_55 : decode cX9_odds 55 = .ok (.l2i, 1) := by decide +kernel
theorem dX9_odds_56 : decode cX9_odds 56 = .ok (.ireturn, 1) := by decide +kernel
theorem dX9_all_0 : decode cX9_all 0 = .ok (.aload_n 0, 1) := by decide +kernel
theorem dX9_all_1 : decode cX9_all 1 = .ok (.getfield 37, 3) := by decide +kernel
theorem dX9_all_4 : decode cX9_all 4 = .ok (.getfield 164, 3) := by decide +kernel
theorem dX9_all_7 : decode cX9_all 7 = .ok (.ifCond .ne 5, 3) := by decide +kernel
theorem dX9_all_10 : decode cX9_all 10 = .ok (.iconst (-1), 1) := by decide +kernel
theorem dX9_all_11 : decode cX9_all 11 = .ok (.ireturn, 1) := by decide +kernel
theorem dX9_all_12 : decode cX9_all 12 = .ok (.aload_n 0, 1) := by decide +kernel
theorem dX9_all_13 : decode cX9_all 13 = .ok (.getfield 37, 3) := by decide +kernel
theorem dX9_all_16 : decode cX9_all 16 = .ok (.getfield 149, 3) := by decide +kernel
theorem dX9_all_19 : decode cX9_all 19 = .ok (.astore_n 2, 1) := by decide +kernel
theorem dX9_all_20 : decode cX9_all 20 = .ok (.iload_n 1, 1) := by decide +kernel
theorem dX9_all_21 : decode cX9_all 21 = .ok (.tableswitch 175 0 10 #[59, 72, 89, 107, 122, 137, 150, 161, 161, 161, 161], 59) := by decide +kernel
theorem dX9_all_80 : decode cX9_all 80 = .ok (.aload_n 2, 1) := by decide +kernel
theorem dX9_all_81 : decode cX9_all 81 = .ok (.aload_n 0, 1) := by decide +kernel
theorem dX9_all_82 : decode cX9_all 82 = .ok (.getfield 81, 3) := by decide +kernel
theorem dX9_all_85 : decode cX9_all 85 = .ok (.getfield 157, 3) := by decide +kernel
theorem dX9_all_88 : decode cX9_all 88 = .ok (.invokevirtual 172, 3) := by decide +kernel
theorem dX9_all_91 : decode cX9_all 91 = .ok (.l2i, 1) := by decide +kernel
theorem dX9_all_92 : decode cX9_all 92 = .ok (.ireturn, 1) := by decide +kernel
theorem dX9_all_93 : decode cX9_all 93 = .ok (.aload_n 2, 1) := by decide +kernel
theorem dX9_all_94 : decode cX9_all 94 = .ok (.aload_n 0, 1) := by decide +kernel
theorem dX9_all_95 : decode cX9_all 95 = .ok (.getfield 81, 3) := by decide +kernel
theorem dX9_all_98 : decode cX9_all 98 = .ok (.getfield 157, 3) := by decide +kernel
theorem dX9_all_101 : decode cX9_all 101 = .ok (.getfield 129, 3) := by decide +kernel
theorem dX9_all_104 : decode cX9_all 104 = .ok (.iconst (-1), 1) := by decide +kernel
theorem dX9_all_105 : decode cX9_all 105 = .ok (.invokevirtual 168, 3) := by decide +kernel
theorem dX9_all_108 : decode cX9_all 108 = .ok (.l2i, 1) := by decide +kernel
theorem dX9_all_109 : decode cX9_all 109 = .ok (.ireturn, 1) := by decide +kernel
theorem dX9_all_110 : decode cX9_all 110 = .ok (.aload_n 2, 1) := by decide +kernel
theorem dX9_all_111 : decode cX9_all 111 = .ok (.aload_n 2, 1) := by decide +kernel
theorem dX9_all_112 : decode cX9_all 112 = .ok (.aload_n 0, 1) := by decide +kernel
theorem dX9_all_113 : decode cX9_all 113 = .ok (.getfield 81, 3) := by decide +kernel
theorem dX9_all_116 : decode cX9_all 116 = .ok (.getfield 157, 3) := by decide +kernel
theorem dX9_all_119 : decode cX9_all 119 = .ok (.invokevirtual 176, 3) := by decide +kernel
theorem dX9_all_122 : decode cX9_all 122 = .ok (.iconst (-1), 1) := by decide +kernel
theorem dX9_all_123 : decode cX9_all 123 = .ok (.invokevirtual 168, 3) := by decide +kernel
theorem dX9_all_126 : decode cX9_all 126 = .ok (.l2i, 1) := by decide +kernel
theorem dX9_all_127 : decode cX9_all 127 = .ok (.ireturn, 1) := by decide +kernel
theorem dX9_all_128 : decode cX9_all 128 = .ok (.aload_n 2, 1) := by decide +kernel
theorem dX9_all_129 : decode cX9_all 129 = .ok (.aload_n 0, 1) := by decide +kernel
theorem dX9_all_130 : decode cX9_all 130 = .ok (.getfield 81, 3) := by decide +kernel
theorem dX9_all_133 : decode cX9_all 133 = .ok (.getfield 157, 3) := by decide +kernel
theorem dX9_all_136 : decode cX9_all 136 = .ok (.invokevirtual 176, 3) := by decide +kernel
theorem dX9_all_139 : decode cX9_all 139 = .ok (.bipush 12, 2) := by decide +kernel
theorem dX9_all_141 : decode cX9_all 141 = .ok (.irem, 1) := by decide +kernel
theorem dX9_all_142 : decode cX9_all 142 = .ok (.ireturn, 1) := by decide +kernel
theorem dX9_all_143 : decode cX9_all 143 = .ok (.aload_n 2, 1) := by decide +kernel
theorem dX9_all_144 : decode cX9_all 144 = .ok (.aload_n 0, 1) := by decide +kernel
theorem dX9_all_145 : decode cX9_all 145 = .ok (.getfield 81, 3) := by decide +kernel
theorem dX9_all_148 : decode cX9_all 148 = .ok (.getfield 157, 3) := by decide +kernel
theorem dX9_all_151 : decode cX9_all 151 = .ok (.invokevirtual 176, 3) := by decide +kernel
theorem dX9_all_154 : decode cX9_all 154 = .ok (.bipush 12, 2) := by decide +kernel
theorem dX9_all_156 : decode cX9_all 156 = .ok (.idiv, 1) := by decide +kernel
theorem dX9_all_157 : decode cX9_all 157 = .ok (.ireturn, 1) := by decide +kernel
theorem dX9_all_158 : decode cX9_all 158 = .ok (.aload_n 2, 1) := by decide +kernel
theorem dX9_all_159 : decode cX9_all 159 = .ok (.aload_n 0, 1) := by decide +kernel
theorem dX9_all_160 : decode cX9_all 160 = .ok (.getfield 81, 3) := by decide +kernel
theorem dX9_all_163 : decode cX9_all 163 = .ok (.getfield 157, 3) := by decide +kernel
theorem dX9_all_166 : decode cX9_all 166 = .ok (.invokevirtual 180, 3) := by decide +kernel
theorem dX9_all_169 : decode cX9_all 169 = .ok (.l2i, 1) := by decide +kernel
theorem dX9_all_170 : decode cX9_all 170 = .ok (.ireturn, 1) := by decide +kernel
theorem dX9_all_171 : decode cX9_all 171 = .ok (.aload_n 2, 1) := by decide +kernel
theorem dX9_all_172 : decode cX9_all 172 = .ok (.iconst 0, 1) := by decide +kernel
theorem dX9_all_173 : decode cX9_all 173 = .ok (.sipush 143, 3) := by decide +kernel
theorem dX9_all_176 : decode cX9_all 176 = .ok (.iconst (-1), 1) := by decide +kernel
theorem dX9_all_177 : decode cX9_all 177 = .ok (.invokevirtual 183, 3) := by decide +kernel
theorem dX9_all_180 : decode cX9_all 180 = .ok (.l2i, 1) := by decide +kernel
theorem dX9_all_181 : decode cX9_all 181 = .ok (.ireturn, 1) := by decide +kernel
theorem dX9_all_182 : decode cX9_all 182 = .ok (.aload_n 2, 1) := by decide +kernel
theorem dX9_all_183 : decode cX9_all 183 = .ok (.iconst 0, 1) := by decide +kernel
theorem dX9_all_184 : decode cX9_all 184 = .ok (.sipush 143, 3) := by decide +kernel
theorem dX9_all_187 : decode cX9_all 187 = .ok (.iload_n 1, 1) := by decide +kernel
theorem dX9_all_188 : decode cX9_all 188 = .ok (.bipush 7, 2) := by decide +kernel
theorem dX9_all_190 : decode cX9_all 190 = .ok (.isub, 1) := by decide +kernel
theorem dX9_all_191 : decode cX9_all 191 = .ok (.invokevirtual 183, 3) := by decide +kernel
theorem dX9_all_194 : decode cX9_all 194 = .ok (.l2i, 1) := by decide +kernel
theorem dX9_all_195 : decode cX9_all 195 = .ok (.ireturn, 1) := by decide +kernel
theorem dX9_all_196 : decode cX9_all 196 = .ok (.iconst (-1), 1) := by decide +kernel
theorem dX9_all_197 : decode cX9_all 197 = .ok (.ireturn, 1) := by decide +kernel
theorem dX9_row_0 : decode cX9_row 0 = .ok (.aload_n 0, 1) := by decide +kernel
theorem dX9_row_1 : decode cX9_row 1 = .ok (.getfield 37, 3) := by decide +kernel
theorem dX9_row_4 : decode cX9_row 4 = .ok (.getfield 164, 3) := by decide +kernel
theorem dX9_row_7 : decode cX9_row 7 = .ok (.ifCond .eq 36, 3) := by decide +kernel
theorem dX9_row_10 : decode cX9_row 10 = .ok (.iload_n 1, 1) := by decide +kernel
theorem dX9_row_11 : decode cX9_row 11 = .ok (.iconst 1, 1) := by decide +kernel
theorem dX9_row_12 : decode cX9_row 12 = .ok (.if_icmp .lt 31, 3) := by decide +kernel
theorem dX9_row_15 : decode cX9_row 15 = .ok (.iload_n 1, 1) := by decide +kernel
theorem dX9_row_16 : decode cX9_row 16 = .ok (.bipush 6, 2) := by decide +kernel
theorem dX9_row_18 : decode cX9_row 18 = .ok (.if_icmp .gt 25, 3) := by decide +kernel
theorem dX9_row_21 : decode cX9_row 21 = .ok (.iload_n 2, 1) := by decide +kernel
theorem dX9_row_22 : decode cX9_row 22 = .ok (.ifCond .lt 21, 3) := by decide +kernel
theorem dX9_row_25 : decode cX9_row 25 = .ok (.iload_n 2, 1) := by decide +kernel
theorem dX9_row_26 : decode cX9_row 26 = .ok (.iconst 1, 1) := by decide +kernel
theorem dX9_row_27 : decode cX9_row 27 = .ok (.iconst 2, 1) := by decide +kernel
theorem dX9_row_28 : decode cX9_row 28 = .ok (.iload_n 1, 1) := by decide +kernel
theorem dX9_row_29 : decode cX9_row 29 = .ok (.imul, 1) := by decide +kernel
theorem dX9_row_30 : decode cX9_row 30 = .ok (.ishl, 1) := by decide +kernel
theorem dX9_row_31 : decode cX9_row 31 = .ok (.if_icmp .ge 12, 3) := by decide +kernel
theorem dX9_row_34 : decode cX9_row 34 = .ok (.iload_n 3, 1) := by decide +kernel
theorem dX9_row_35 : decode cX9_row 35 = .ok (.ifCond .lt 8, 3) := by decide +kernel
theorem dX9_row_38 : decode cX9_row 38 = .ok (.iload_n 3, 1) := by decide +kernel
theorem dX9_row_39 : decode cX9_row 39 = .ok (.iconst 1, 1) := by decide +kernel
theorem dX9_row_40 : decode cX9_row 40 = .ok (.if_icmp .le 7, 3) := by decide +kernel
theorem dX9_row_43 : decode cX9_row 43 = .ok (.ldc2_w 187, 3) := by decide +kernel
theorem dX9_row_46 : decode cX9_row 46 = .ok (.lreturn, 1) := by decide +kernel
theorem dX9_row_47 : decode cX9_row 47 = .ok (.aload_n 0, 1) := by decide +kernel
theorem dX9_row_48 : decode cX9_row 48 = .ok (.getfield 55, 3) := by decide +kernel
theorem dX9_row_51 : decode cX9_row 51 = .ok (.aload_n 0, 1) := by decide +kernel
theorem dX9_row_52 : decode cX9_row 52 = .ok (.getfield 37, 3) := by decide +kernel
theorem dX9_row_55 : decode cX9_row 55 = .ok (.getfield 149, 3) := by decide +kernel
theorem dX9_row_58 : decode cX9_row 58 = .ok (.aload_n 0, 1) := by decide +kernel
theorem dX9_row_59 : decode cX9_row 59 = .ok (.getfield 81, 3) := by decide +kernel
theorem dX9_row_62 : decode cX9_row 62 = .ok (.getfield 157, 3) := by decide +kernel
theorem dX9_row_65 : decode cX9_row 65 = .ok (.invokevirtual 189, 3) := by decide +kernel
theorem dX9_row_68 : decode cX9_row 68 = .ok (.iconst 0, 1) := by decide +kernel
theorem dX9_row_69 : decode cX9_row 69 = .ok (.istore 4, 2) := by decide +kernel
theorem dX9_row_71 : decode cX9_row 71 = .ok (.iload 4, 2) := by decide +kernel
theorem dX9_row_73 : decode cX9_row 73 = .ok (.iload_n 1, 1) := by decide +kernel
theorem dX9_row_74 : decode cX9_row 74 = .ok (.if_icmp .ge 30, 3) := by decide +kernel
theorem dX9_row_77 : decode cX9_row 77 = .ok (.aload_n 0, 1) := by decide +kernel
theorem dX9_row_78 : decode cX9_row 78 = .ok (.getfield 55, 3) := by decide +kernel
theorem dX9_row_81 : decode cX9_row 81 = .ok (.iload 4, 2) := by decide +kernel
theorem dX9_row_83 : decode cX9_row 83 = .ok (.iload_n 2, 1) := by decide +kernel
theorem dX9_row_84 : decode cX9_row 84 = .ok (.iconst 2, 1) := by decide +kernel
theorem dX9_row_85 : decode cX9_row 85 = .ok (.iload 4, 2) := by decide +kernel
theorem dX9_row_87 : decode cX9_row 87 = .ok (.imul, 1) := by decide +kernel
theorem dX9_row_88 : decode cX9_row 88 = .ok (.ishr, 1) := by decide +kernel
theorem dX9_row_89 : decode cX9_row 89 = .ok (.iconst 3, 1) := by decide +kernel
theorem dX9_row_90 : decode cX9_row 90 = .ok (.iand, 1) := by decide +kernel
theorem dX9_row_91 : decode cX9_row 91 = .ok (.aload_n 0, 1) := by decide +kernel
theorem dX9_row_92 : decode cX9_row 92 = .ok (.getfield 81, 3) := by decide +kernel
theorem dX9_row_95 : decode cX9_row 95 = .ok (.invokevirtual 192, 3) := by decide +kernel
theorem dX9_row_98 : decode cX9_row 98 = .ok (.iinc 4 1, 3) := by decide +kernel
theorem dX9_row_101 : decode cX9_row 101 = .ok (.goto (-30), 3) := by decide +kernel
theorem dX9_row_104 : decode cX9_row 104 = .ok (.iload_n 3, 1) := by decide +kernel
theorem dX9_row_105 : decode cX9_row 105 = .ok (.ifCond .ne 15, 3) := by decide +kernel
theorem dX9_row_108 : decode cX9_row 108 = .ok (.aload_n 0, 1) := by decide +kernel
theorem dX9_row_109 : decode cX9_row 109 = .ok (.getfield 55, 3) := by decide +kernel
theorem dX9_row_112 : decode cX9_row 112 = .ok (.getfield 196, 3) := by decide +kernel
theorem dX9_row_115 : decode cX9_row 115 = .ok (.iload_n 1, 1) := by decide +kernel
theorem dX9_row_116 : decode cX9_row 116 = .ok (.laload, 1) := by decide +kernel
theorem dX9_row_117 : decode cX9_row 117 = .ok (.goto 12, 3) := by decide +kernel
theorem dX9_row_120 : decode cX9_row 120 = .ok (.aload_n 0, 1) := by decide +kernel
theorem dX9_row_121 : decode cX9_row 121 = .ok (.getfield 55, 3) := by decide +kernel
theorem dX9_row_124 : decode cX9_row 124 = .ok (.getfield 200, 3) := by decide +kernel
theorem dX9_row_127 : decode cX9_row 127 = .ok (.iload_n 1, 1) := by decide +kernel
theorem dX9_row_128 : decode cX9_row 128 = .ok (.laload, 1) := by decide +kernel
theorem dX9_row_129 : decode cX9_row 129 = .ok (.lreturn, 1) := by decide +kernel
theorem dX9_soon_0 : decode cX9_soon 0 = .ok (.aload_n 0, 1) := by decide +kernel
theorem dX9_soon_1 : decode cX9_soon 1 = .ok (.getfield 37, 3) := by decide +kernel
theorem dX9_soon_4 : decode cX9_soon 4 = .ok (.getfield 164, 3) := by decide +kernel
theorem dX9_soon_7 : decode cX9_soon 7 = .ok (.ifCond .eq 14, 3) := by decide +kernel
theorem dX9_soon_10 : decode cX9_soon 10 = .ok (.iload_n 1, 1) := by decide +kernel
theorem dX9_soon_11 : decode cX9_soon 11 = .ok (.iconst 1, 1) := by decide +kernel
theorem dX9_soon_12 : decode cX9_soon 12 = .ok (.if_icmp .lt 9, 3) := by decide +kernel
theorem dX9_soon_15 : decode cX9_soon 15 = .ok (.iload_n 1, 1) := by decide +kernel
theorem dX9_soon_16 : decode cX9_soon 16 = .ok (.bipush 6, 2) := by decide +kernel
theorem dX9_soon_18 : decode cX9_soon 18 = .ok (.if_icmp .lt 5, 3) := by decide +kernel
theorem dX9_soon_21 : decode cX9_soon 21 = .ok (.iconst (-1), 1) := by decide +kernel
theorem dX9_soon_22 : decode cX9_soon 22 = .ok (.ireturn, 1) := by decide +kernel
theorem dX9_soon_23 : decode cX9_soon 23 = .ok (.aload_n 0, 1) := by decide +kernel
theorem dX9_soon_24 : decode cX9_soon 24 = .ok (.getfield 55, 3) := by decide +kernel
theorem dX9_soon_27 : decode cX9_soon 27 = .ok (.aload_n 0, 1) := by decide +kernel
theorem dX9_soon_28 : decode cX9_soon 28 = .ok (.getfield 37, 3) := by decide +kernel
theorem dX9_soon_31 : decode cX9_soon 31 = .ok (.getfield 149, 3) := by decide +kernel
theorem dX9_soon_34 : decode cX9_soon 34 = .ok (.iload_n 1, 1) := by decide +kernel
theorem dX9_soon_35 : decode cX9_soon 35 = .ok (.aload_n 0, 1) := by decide +kernel
theorem dX9_soon_36 : decode cX9_soon 36 = .ok (.getfield 81, 3) := by decide +kernel
theorem dX9_soon_39 : decode cX9_soon 39 = .ok (.invokevirtual 203, 3) := by decide +kernel
theorem dX9_soon_42 : decode cX9_soon 42 = .ok (.ireturn, 1) := by decide +kernel
theorem dX9_left_0 : decode cX9_left 0 = .ok (.aload_n 0, 1) := by decide +kernel
theorem dX9_left_1 : decode cX9_left 1 = .ok (.getfield 37, 3) := by decide +kernel
theorem dX9_left_4 : decode cX9_left 4 = .ok (.getfield 164, 3) := by decide +kernel
theorem dX9_left_7 : decode cX9_left 7 = .ok (.ifCond .eq 10, 3) := by decide +kernel
theorem dX9_left_10 : decode cX9_left 10 = .ok (.iload_n 1, 1) := by decide +kernel
theorem dX9_left_11 : decode cX9_left 11 = .ok (.invokestatic 207, 3) := by decide +kernel
theorem dX9_left_14 : decode cX9_left 14 = .ok (.ifCond .ne 5, 3) := by decide +kernel
theorem dX9_left_17 : decode cX9_left 17 = .ok (.iconst (-1), 1) := by decide +kernel
theorem dX9_left_18 : decode cX9_left 18 = .ok (.ireturn, 1) := by decide +kernel
theorem dX9_left_19 : decode cX9_left 19 = .ok (.iconst 0, 1) := by decide +kernel
theorem dX9_left_20 : decode cX9_left 20 = .ok (.istore_n 2, 1) := by decide +kernel
theorem dX9_left_21 : decode cX9_left 21 = .ok (.iload_n 2, 1) := by decide +kernel
theorem dX9_left_22 : decode cX9_left 22 = .ok (.aload_n 0, 1) := by decide +kernel
theorem dX9_left_23 : decode cX9_left 23 = .ok (.getfield 37, 3) := by decide +kernel
theorem dX9_left_26 : decode cX9_left 26 = .ok (.getfield 154, 3) := by decide +kernel
theorem dX9_left_29 : decode cX9_left 29 = .ok (.if_icmp .ge 24, 3) := by decide +kernel
theorem dX9_left_32 : decode cX9_left 32 = .ok (.aload_n 0, 1) := by decide +kernel
theorem dX9_left_33 : decode cX9_left 33 = .ok (.getfield 37, 3) := by decide +kernel
theorem dX9_left_36 : decode cX9_left 36 = .ok (.getfield 211, 3) := by decide +kernel
theorem dX9_left_39 : decode cX9_left 39 = .ok (.iload_n 2, 1) := by decide +kernel
theorem dX9_left_40 : decode cX9_left 40 = .ok (.iaload, 1) := by decide +kernel
theorem dX9_left_41 : decode cX9_left 41 = .ok (.iload_n 1, 1) := by decide +kernel
theorem dX9_left_42 : decode cX9_left 42 = .ok (.if_icmp .ge 5, 3) := by decide +kernel
theorem dX9_left_45 : decode cX9_left 45 = .ok (.iload_n 2, 1) := by decide +kernel
theorem dX9_left_46 : decode cX9_left 46 = .ok (.ireturn, 1) := by decide +kernel
theorem dX9_left_47 : decode cX9_left 47 = .ok (.iinc 2 1, 3) := by decide +kernel
theorem dX9_left_50 : decode cX9_left 50 = .ok (.goto (-29), 3) := by decide +kernel
theorem dX9_left_53 : decode cX9_left 53 = .ok (.bipush (-2), 2) := by decide +kernel
theorem dX9_left_55 : decode cX9_left 55 = .ok (.ireturn, 1) := by decide +kernel
theorem dX9_isBar_0 : decode cX9_isBar 0 = .ok (.iload_n 0, 1) := by decide +kernel
theorem dX9_isBar_1 : decode cX9_isBar 1 = .ok (.iconst 1, 1) := by decide +kernel
theorem dX9_isBar_2 : decode cX9_isBar 2 = .ok (.if_icmp .lt 14, 3) := by decide +kernel
theorem dX9_isBar_5 : decode cX9_isBar 5 = .ok (.iload_n 0, 1) := by decide +kernel
theorem dX9_isBar_6 : decode cX9_isBar 6 = .ok (.sipush 1000, 3) := by decide +kernel
theorem dX9_isBar_9 : decode cX9_isBar 9 = .ok (.if_icmp .gt 7, 3) := by decide +kernel
theorem dX9_isBar_12 : decode cX9_isBar 12 = .ok (.iconst 1, 1) := by decide +kernel
theorem dX9_isBar_13 : decode cX9_isBar 13 = .ok (.goto 4, 3) := by decide +kernel
theorem dX9_isBar_16 : decode cX9_isBar 16 = .ok (.iconst 0, 1) := by decide +kernel
theorem dX9_isBar_17 : decode cX9_isBar 17 = .ok (.ireturn, 1) := by decide +kernel
theorem dX9_fork_0 : decode cX9_fork 0 = .ok (.aload_n 0, 1) := by decide +kernel
theorem dX9_fork_1 : decode cX9_fork 1 = .ok (.getfield 37, 3) := by decide +kernel
theorem dX9_fork_4 : decode cX9_fork 4 = .ok (.getfield 164, 3) := by decide +kernel
theorem dX9_fork_7 : decode cX9_fork 7 = .ok (.ifCond .eq 47, 3) := by decide +kernel
theorem dX9_fork_10 : decode cX9_fork 10 = .ok (.iload_n 1, 1) := by decide +kernel
theorem dX9_fork_11 : decode cX9_fork 11 = .ok (.ifCond .lt 43, 3) := by decide +kernel
theorem dX9_fork_14 : decode cX9_fork 14 = .ok (.iload_n 2, 1) := by decide +kernel
theorem dX9_fork_15 : decode cX9_fork 15 = .ok (.ifCond .lt 39, 3) := by decide +kernel
theorem dX9_fork_18 : decode cX9_fork 18 = .ok (.iload_n 3, 1) := by decide +kernel
theorem dX9_fork_19 : decode cX9_fork 19 = .ok (.iload_n 1, 1) := by decide +kernel
theorem dX9_fork_20 : decode cX9_fork 20 = .ok (.if_icmp .lt 34, 3) := by decide +kernel
theorem dX9_fork_23 : decode cX9_fork 23 = .ok (.iload 4, 2) := by decide +kernel
theorem dX9_fork_25 : decode cX9_fork 25 = .ok (.iload_n 2, 1) := by decide +kernel
theorem dX9_fork_26 : decode cX9_fork 26 = .ok (.if_icmp .lt 28, 3) := by decide +kernel
theorem dX9_fork_29 : decode cX9_fork 29 = .ok (.iload_n 3, 1) := by decide +kernel
theorem dX9_fork_30 : decode cX9_fork 30 = .ok (.bipush 12, 2) := by decide +kernel
theorem dX9_fork_32 : decode cX9_fork 32 = .ok (.if_icmp .ge 22, 3) := by decide +kernel
theorem dX9_fork_35 : decode cX9_fork 35 = .ok (.iload 4, 2) := by decide +kernel
theorem dX9_fork_37 : decode cX9_fork 37 = .ok (.bipush 12, 2) := by decide +kernel
theorem dX9_fork_39 : decode cX9_fork 39 = .ok (.if_icmp .ge 15, 3) := by decide +kernel
theorem dX9_fork_42 : decode cX9_fork 42 = .ok (.iload 5, 2) := by decide +kernel
theorem dX9_fork_44 : decode cX9_fork 44 = .ok (.iconst (-1), 1) := by decide +kernel
theorem dX9_fork_45 : decode cX9_fork 45 = .ok (.if_icmp .lt 9, 3) := by decide +kernel
theorem dX9_fork_48 : decode cX9_fork 48 = .ok (.iload 5, 2) := by decide +kernel
theorem dX9_fork_50 : decode cX9_fork 50 = .ok (.iconst 4, 1) := by decide +kernel
theorem dX9_fork_51 : decode cX9_fork 51 = .ok (.if_icmp .lt 5, 3) := by decide +kernel
theorem dX9_fork_54 : decode cX9_fork 54 = .ok (.iconst (-1), 1) := by decide +kernel
theorem dX9_fork_55 : decode cX9_fork 55 = .ok (.ireturn, 1) := by decide +kernel
theorem dX9_fork_56 : decode cX9_fork 56 = .ok (.aload_n 0, 1) := by decide +kernel
theorem dX9_fork_57 : decode cX9_fork 57 = .ok (.getfield 37, 3) := by decide +kernel
theorem dX9_fork_60 : decode cX9_fork 60 = .ok (.getfield 149, 3) := by decide +kernel
theorem dX9_fork_63 : decode cX9_fork 63 = .ok (.iload_n 2, 1) := by decide +kernel
theorem dX9_fork_64 : decode cX9_fork 64 = .ok (.bipush 12, 2) := by decide +kernel
theorem dX9_fork_66 : decode cX9_fork 66 = .ok (.imul, 1) := by decide +kernel
theorem dX9_fork_67 : decode cX9_fork 67 = .ok (.iload_n 1, 1) := by decide +kernel
theorem dX9_fork_68 : decode cX9_fork 68 = .ok (.iadd, 1) := by decide +kernel
theorem dX9_fork_69 : decode cX9_fork 69 = .ok (.iload 4, 2) := by decide +kernel
theorem dX9_fork_71 : decode cX9_fork 71 = .ok (.bipush 12, 2) := by decide +kernel
theorem dX9_fork_73 : decode cX9_fork 73 = .ok (.imul, 1) := by decide +kernel
theorem dX9_fork_74 : decode cX9_fork 74 = .ok (.iload_n 3, 1) := by decide +kernel
theorem dX9_fork_75 : decode cX9_fork 75 = .ok (.iadd, 1) := by decide +kernel
theorem dX9_fork_76 : decode cX9_fork 76 = .ok (.iload 5, 2) := by decide +kernel
theorem dX9_fork_78 : decode cX9_fork 78 = .ok (.invokevirtual 183, 3) := by decide +kernel
theorem dX9_fork_81 : decode cX9_fork 81 = .ok (.l2i, 1) := by decide +kernel
theorem dX9_fork_82 : decode cX9_fork 82 = .ok (.ireturn, 1) := by decide +kernel
theorem dX9_remember_0 : decode cX9_remember 0 = .ok (.aload_n 0, 1) := by decide +kernel
theorem dX9_remember_1 : decode cX9_remember 1 = .ok (.getfield 81, 3) := by decide +kernel
theorem dX9_remember_4 : decode cX9_remember 4 = .ok (.getfield 157, 3) := by decide +kernel
theorem dX9_remember_7 : decode cX9_remember 7 = .ok (.iload_n 1, 1) := by decide +kernel
theorem dX9_remember_8 : decode cX9_remember 8 = .ok (.iload_n 2, 1) := by decide +kernel
theorem dX9_remember_9 : decode cX9_remember 9 = .ok (.invokevirtual 117, 3) := by decide +kernel
theorem dX9_remember_12 : decode cX9_remember 12 = .ok (.istore 4, 2) := by decide +kernel
theorem dX9_remember_14 : decode cX9_remember 14 = .ok (.aload_n 0, 1) := by decide +kernel
theorem dX9_remember_15 : decode cX9_remember 15 = .ok (.getfield 37, 3) := by decide +kernel
theorem dX9_remember_18 : decode cX9_remember 18 = .ok (.getfield 164, 3) := by decide +kernel
theorem dX9_remember_21 : decode cX9_remember 21 = .ok (.ifCond .eq 16, 3) := by decide +kernel
theorem dX9_remember_24 : decode cX9_remember 24 = .ok (.iload 4, 2) := by decide +kernel
theorem dX9_remember_26 : decode cX9_remember 26 = .ok (.iconst (-1), 1) := by decide +kernel
theorem dX9_remember_27 : decode cX9_remember 27 = .ok (.if_icmp .eq 10, 3) := by decide +kernel
theorem dX9_remember_30 : decode cX9_remember 30 = .ok (.iload_n 3, 1) := by decide +kernel
theorem dX9_remember_31 : decode cX9_remember 31 = .ok (.invokestatic 207, 3) := by decide +kernel
theorem dX9_remember_34 : decode cX9_remember 34 = .ok (.ifCond .ne 5, 3) := by decide +kernel
theorem dX9_remember_37 : decode cX9_remember 37 = .ok (.iconst (-1), 1) := by decide +kernel
theorem dX9_remember_38 : decode cX9_remember 38 = .ok (.ireturn, 1) := by decide +kernel
theorem dX9_remember_39 : decode cX9_remember 39 = .ok (.iconst 0, 1) := by decide +kernel
theorem dX9_remember_40 : decode cX9_remember 40 = .ok (.istore 5, 2) := by decide +kernel
theorem dX9_remember_42 : decode cX9_remember 42 = .ok (.iload 5, 2) := by decide +kernel
theorem dX9_remember_44 : decode cX9_remember 44 = .ok (.iconst 4, 1) := by decide +kernel
theorem dX9_remember_45 : decode cX9_remember 45 = .ok (.if_icmp .gt 75, 3) := by decide +kernel
theorem dX9_remember_48 : decode cX9_remember 48 = .ok (.iconst 0, 1) := by decide +kernel
theorem dX9_remember_49 : decode cX9_remember 49 = .ok (.istore 6, 2) := by decide +kernel
theorem dX9_remember_51 : decode cX9_remember 51 = .ok (.iload 6, 2) := by decide +kernel
theorem dX9_remember_53 : decode cX9_remember 53 = .ok (.bipush 16, 2) := by decide +kernel
theorem dX9_remember_55 : decode cX9_remember 55 = .ok (.if_icmp .ge 59, 3) := by decide +kernel
theorem dX9_remember_58 : decode cX9_remember 58 = .ok (.iload 6, 2) := by decide +kernel
theorem dX9_remember_60 : decode cX9_remember 60 = .ok (.invokestatic 214, 3) := by decide +kernel
theorem dX9_remember_63 : decode cX9_remember 63 = .ok (.iload 5, 2) := by decide +kernel
theorem dX9_remember_65 : decode cX9_remember 65 = .ok (.if_icmp .ne 43, 3) := by decide +kernel
theorem dX9_remember_68 : decode cX9_remember 68 = .ok (.aload_n 0, 1) := by decide +kernel
theorem dX9_remember_69 : decode cX9_remember 69 = .ok (.getfield 37, 3) := by decide +kernel
theorem dX9_remember_72 : decode cX9_remember 72 = .ok (.iload 6, 2) := by decide +kernel
theorem dX9_remember_74 : decode cX9_remember 74 = .ok (.aload_n 0, 1) := by decide +kernel
theorem dX9_remember_75 : decode cX9_remember 75 = .ok (.getfield 48, 3) := by decide +kernel
theorem dX9_remember_78 : decode cX9_remember 78 = .ok (.aload_n 0, 1) := by decide +kernel
theorem dX9_remember_79 : decode cX9_remember 79 = .ok (.getfield 81, 3) := by decide +kernel
theorem dX9_remember_82 : decode cX9_remember 82 = .ok (.invokevirtual 220, 3) := by decide +kernel
theorem dX9_remember_85 : decode cX9_remember 85 = .ok (.aload_n 0, 1) := by decide +kernel
theorem dX9_remember_86 : decode cX9_remember 86 = .ok (.getfield 48, 3) := by decide +kernel
theorem dX9_remember_89 : decode cX9_remember 89 = .ok (.iload 4, 2) := by decide +kernel
theorem dX9_remember_91 : decode cX9_remember 91 = .ok (.iconst (-1), 1) := by decide +kernel
theorem dX9_remember_92 : decode cX9_remember 92 = .ok (.invokevirtual 168, 3) := by decide +kernel
theorem dX9_remember_95 : decode cX9_remember 95 = .ok (.ldc2_w 224, 3) := by decide +kernel
theorem dX9_remember_98 : decode cX9_remember 98 = .ok (.ldiv, 1) := by decide +kernel
theorem dX9_remember_99 : decode cX9_remember 99 = .ok (.iload_n 3, 1) := by decide +kernel
theorem dX9_remember_100 : decode cX9_remember 100 = .ok (.i2l, 1) := by decide +kernel
theorem dX9_remember_101 : decode cX9_remember 101 = .ok (.lcmp, 1) := by decide +kernel
theorem dX9_remember_102 : decode cX9_remember 102 = .ok (.ifCond .lt 6, 3) := by decide +kernel
theorem dX9_remember_105 : decode cX9_remember 105 = .ok (.iload 6, 2) := by decide +kernel
theorem dX9_remember_107 : decode cX9_remember 107 = .ok (.ireturn, 1) := by decide +kernel
theorem dX9_remember_108 : decode cX9_remember 108 = .ok (.iinc 6 1, 3) := by decide +kernel
theorem dX9_remember_111 : decode cX9_remember 111 = .ok (.goto (-60), 3) := by decide +kernel
theorem dX9_remember_114 : decode cX9_remember 114 = .ok (.iinc 5 1, 3) := by decide +kernel
theorem dX9_remember_117 : decode cX9_remember 117 = .ok (.goto (-75), 3) := by decide +kernel
theorem dX9_remember_120 : decode cX9_remember 120 = .ok (.bipush (-2), 2) := by decide +kernel
theorem dX9_remember_122 : decode cX9_remember 122 = .ok (.ireturn, 1) := by decide +kernel
theorem dX9_tells_0 : decode cX9_tells 0 = .ok (.aload_n 0, 1) := by decide +kernel
theorem dX9_tells_1 : decode cX9_tells 1 = .ok (.getfield 37, 3) := by decide +kernel
theorem dX9_tells_4 : decode cX9_tells 4 = .ok (.getfield 164, 3) := by decide +kernel
theorem dX9_tells_7 : decode cX9_tells 7 = .ok (.ifCond .ne 5, 3) := by decide +kernel
theorem dX9_tells_10 : decode cX9_tells 10 = .ok (.iconst (-1), 1) := by decide +kernel
theorem dX9_tells_11 : decode cX9_tells 11 = .ok (.ireturn, 1) := by decide +kernel
theorem dX9_tells_12 : decode cX9_tells 12 = .ok (.lconst 0, 1) := by decide +kernel
theorem dX9_tells_13 : decode cX9_tells 13 = .ok (.lstore_n 1, 1) := by decide +kernel
theorem dX9_tells_14 : decode cX9_tells 14 = .ok (.iconst 0, 1) := by decide +kernel
theorem dX9_tells_15 : decode cX9_tells 15 = .ok (.istore_n 3, 1) := by decide +kernel
theorem dX9_tells_16 : decode cX9_tells 16 = .ok (.iload_n 3, 1) := by decide +kernel
theorem dX9_tells_17 : decode cX9_tells 17 = .ok (.bipush 8, 2) := by decide +kernel
theorem dX9_tells_19 : decode cX9_tells 19 = .ok (.if_icmp .ge 25, 3) := by decide +kernel
theorem dX9_tells_22 : decode cX9_tells 22 = .ok (.lload_n 1, 1) := by decide +kernel
theorem dX9_tells_23 : decode cX9_tells 23 = .ok (.aload_n 0, 1) := by decide +kernel
theorem dX9_tells_24 : decode cX9_tells 24 = .ok (.iload_n 3, 1) := by decide +kernel
theorem dX9_tells_25 : decode cX9_tells 25 = .ok (.iconst 0, 1) := by decide +kernel
theorem dX9_tells_26 : decode cX9_tells 26 = .ok (.invokevirtual 226, 3) := by decide +kernel
theorem dX9_tells_29 : decode cX9_tells 29 = .ok (.aload_n 0, 1) := by decide +kernel
theorem dX9_tells_30 : decode cX9_tells 30 = .ok (.iload_n 3, 1) := by decide +kernel
theorem dX9_tells_31 : decode cX9_tells 31 = .ok (.iconst 1, 1) := by decide +kernel
theorem dX9_tells_32 : decode cX9_tells 32 = .ok (.invokevirtual 226, 3) := by decide +kernel
theorem dX9_tells_35 : decode cX9_tells 35 = .ok (.ladd, 1) := by decide +kernel
theorem dX9_tells_36 : decode cX9_tells 36 = .ok (.ladd, 1) := by decide +kernel
theorem dX9_tells_37 : decode cX9_tells 37 = .ok (.lstore_n 1, 1) := by decide +kernel
theorem dX9_tells_38 : decode cX9_tells 38 = .ok (.iinc 3 1, 3) := by decide +kernel
theorem dX9_tells_41 : decode cX9_tells 41 = .ok (.goto (-25), 3) := by decide +kernel
theorem dX9_tells_44 : decode cX9_tells 44 = .ok (.lload_n 1, 1) := by decide +kernel
theorem dX9_tells_45 : decode cX9_tells 45 = .ok (.l2i, 1) := by decide +kernel
theorem dX9_tells_46 : decode cX9_tells 46 = .ok (.ireturn, 1) := by decide +kernel
theorem dX9_mostShown_0 : decode cX9_mostShown 0 = .ok (.lconst 0, 1) := by decide +kernel
theorem dX9_mostShown_1 : decode cX9_mostShown 1 = .ok (.lstore_n 3, 1) := by decide +kernel
theorem dX9_mostShown_2 : decode cX9_mostShown 2 = .ok (.iconst 0, 1) := by decide +kernel
theorem dX9_mostShown_3 : decode cX9_mostShown 3 = .ok (.istore 5, 2) := by decide +kernel
theorem dX9_mostShown_5 : decode cX9_mostShown 5 = .ok (.iload 5, 2) := by decide +kernel
theorem dX9_mostShown_7 : decode cX9_mostShown 7 = .ok (.sipush 144, 3) := by decide +kernel
theorem dX9_mostShown_10 : decode cX9_mostShown 10 = .ok (.if_icmp .ge 61, 3) := by decide +kernel
theorem dX9_mostShown_13 : decode cX9_mostShown 13 = .ok (.aload_n 0, 1) := by decide +kernel
theorem dX9_mostShown_14 : decode cX9_mostShown 14 = .ok (.getfield 81, 3) := by decide +kernel
theorem dX9_mostShown_17 : decode cX9_mostShown 17 = .ok (.getfield 157, 3) := by decide +kernel
theorem dX9_mostShown_20 : decode cX9_mostShown 20 = .ok (.getfield 229, 3) := by decide +kernel
theorem dX9_mostShown_23 : decode cX9_mostShown 23 = .ok (.iload 5, 2) := by decide +kernel
theorem dX9_mostShown_25 : decode cX9_mostShown 25 = .ok (.iaload, 1) := by decide +kernel
theorem dX9_mostShown_26 : decode cX9_mostShown 26 = .ok (.iload_n 1, 1) := by decide +kernel
theorem dX9_mostShown_27 : decode cX9_mostShown 27 = .ok (.if_icmp .ne 38, 3) := by decide +kernel
theorem dX9_mostShown_30 : decode cX9_mostShown 30 = .ok (.aload_n 0, 1) := by decide +kernel
theorem dX9_mostShown_31 : decode cX9_mostShown 31 = .ok (.getfield 81, 3) := by decide +kernel
theorem dX9_mostShown_34 : decode cX9_mostShown 34 = .ok (.getfield 157, 3) := by decide +kernel
theorem dX9_mostShown_37 : decode cX9_mostShown 37 = .ok (.getfield 232, 3) := by decide +kernel
theorem dX9_mostShown_40 : decode cX9_mostShown 40 = .ok (.iload 5, 2) := by decide +kernel
theorem dX9_mostShown_42 : decode cX9_mostShown 42 = .ok (.iaload, 1) := by decide +kernel
theorem dX9_mostShown_43 : decode cX9_mostShown 43 = .ok (.iload_n 2, 1) := by decide +kernel
theorem dX9_mostShown_44 : decode cX9_mostShown 44 = .ok (.if_icmp .ne 21, 3) := by decide +kernel
theorem dX9_mostShown_47 : decode cX9_mostShown 47 = .ok (.lload_n 3, 1) := by decide +kernel
theorem dX9_mostShown_48 : decode cX9_mostShown 48 = .ok (.aload_n 0, 1) := by decide +kernel
theorem dX9_mostShown_49 : decode cX9_mostShown 49 = .ok (.getfield 37, 3) := by decide +kernel
theorem dX9_mostShown_52 : decode cX9_mostShown 52 = .ok (.getfield 149, 3) := by decide +kernel
theorem dX9_mostShown_55 : decode cX9_mostShown 55 = .ok (.iload 5, 2) := by decide +kernel
theorem dX9_mostShown_57 : decode cX9_mostShown 57 = .ok (.iconst (-1), 1) := by decide +kernel
theorem dX9_mostShown_58 : decode cX9_mostShown 58 = .ok (.invokevirtual 168, 3) := by decide +kernel
theorem dX9_mostShown_61 : decode cX9_mostShown 61 = .ok (.invokestatic 235, 3) := by decide +kernel
theorem dX9_mostShown_64 : decode cX9_mostShown 64 = .ok (.lstore_n 3, 1) := by decide +kernel
theorem dX9_mostShown_65 : decode cX9_mostShown 65 = .ok (.iinc 5 1, 3) := by decide +kernel
theorem dX9_mostShown_68 : decode cX9_mostShown 68 = .ok (.goto (-63), 3) := by decide +kernel
theorem dX9_mostShown_71 : decode cX9_mostShown 71 = .ok (.lload_n 3, 1) := by decide +kernel
theorem dX9_mostShown_72 : decode cX9_mostShown 72 = .ok (.lreturn, 1) := by decide +kernel
theorem dX9_aim_0 : decode cX9_aim 0 = .ok (.aload_n 0, 1) := by decide +kernel
theorem dX9_aim_1 : decode cX9_aim 1 = .ok (.getfield 37, 3) := by decide +kernel
theorem dX9_aim_4 : decode cX9_aim 4 = .ok (.getfield 164, 3) := by decide +kernel
theorem dX9_aim_7 : decode cX9_aim 7 = .ok (.ifCond .eq 29, 3) := by decide +kernel
theorem dX9_aim_10 : decode cX9_aim 10 = .ok (.iload_n 1, 1) := by decide +kernel
theorem dX9_aim_11 : decode cX9_aim 11 = .ok (.ifCond .lt 25, 3) := by decide +kernel
theorem dX9_aim_14 : decode cX9_aim 14 = .ok (.iload_n 1, 1) := by decide +kernel
theorem dX9_aim_15 : decode cX9_aim 15 = .ok (.iconst 1, 1) := by decide +kernel
theorem dX9_aim_16 : decode cX9_aim 16 = .ok (.if_icmp .gt 20, 3) := by decide +kernel
theorem dX9_aim_19 : decode cX9_aim 19 = .ok (.iload_n 2, 1) := by decide +kernel
theorem dX9_aim_20 : decode cX9_aim 20 = .ok (.ifCond .lt 16, 3) := by decide +kernel
theorem dX9_aim_23 : decode cX9_aim 23 = .ok (.iload_n 2, 1) := by decide +kernel
theorem dX9_aim_24 : decode cX9_aim 24 = .ok (.bipush 12, 2) := by decide +kernel
theorem dX9_aim_26 : decode cX9_aim 26 = .ok (.if_icmp .ge 10, 3) := by decide +kernel
theorem dX9_aim_29 : decode cX9_aim 29 = .ok (.iload_n 3, 1) := by decide +kernel
theorem dX9_aim_30 : decode cX9_aim 30 = .ok (.invokestatic 207, 3) := by decide +kernel
theorem dX9_aim_33 : decode cX9_aim 33 = .ok (.ifCond .ne 5, 3) := by decide +kernel
theorem dX9_aim_36 : decode cX9_aim 36 = .ok (.iconst (-1), 1) := by decide +kernel
theorem dX9_aim_37 : decode cX9_aim 37 = .ok (.ireturn, 1) := by decide +kernel
theorem dX9_aim_38 : decode cX9_aim 38 = .ok (.iconst 0, 1) := by decide +kernel
theorem dX9_aim_39 : decode cX9_aim 39 = .ok (.istore 4, 2) := by decide +kernel
theorem dX9_aim_41 : decode cX9_aim 41 = .ok (.iload 4, 2) := by decide +kernel
theorem dX9_aim_43 : decode cX9_aim 43 = .ok (.bipush 12, 2) := by decide +kernel
theorem dX9_aim_45 : decode cX9_aim 45 = .ok (.if_icmp .gt 76, 3) := by decide +kernel
theorem dX9_aim_48 : decode cX9_aim 48 = .ok (.iconst 0, 1) := by decide +kernel
theorem dX9_aim_49 : decode cX9_aim 49 = .ok (.iload_n 2, 1) := by decide +kernel
theorem dX9_aim_50 : decode cX9_aim 50 = .ok (.iconst 1, 1) := by decide +kernel
theorem dX9_aim_51 : decode cX9_aim 51 = .ok (.iadd, 1) := by decide +kernel
theorem dX9_aim_52 : decode cX9_aim 52 = .ok (.iload 4, 2) := by decide +kernel
theorem dX9_aim_54 : decode cX9_aim 54 = .ok (.isub, 1) := by decide +kernel
theorem dX9_aim_55 : decode cX9_aim 55 = .ok (.invokestatic 241, 3) := by decide +kernel
theorem dX9_aim_58 : decode cX9_aim 58 = .ok (.istore 5, 2) := by decide +kernel
theorem dX9_aim_60 : decode cX9_aim 60 = .ok (.lconst 0, 1) := by decide +kernel
theorem dX9_aim_61 : decode cX9_aim 61 = .ok (.lstore 6, 2) := by decide +kernel
theorem dX9_aim_63 : decode cX9_aim 63 = .ok (.iload 5, 2) := by decide +kernel
theorem dX9_aim_65 : decode cX9_aim 65 = .ok (.bipush 12, 2) := by decide +kernel
theorem dX9_aim_67 : decode cX9_aim 67 = .ok (.if_icmp .ge 33, 3) := by decide +kernel
theorem dX9_aim_70 : decode cX9_aim 70 = .ok (.aload_n 0, 1) := by decide +kernel
theorem dX9_aim_71 : decode cX9_aim 71 = .ok (.getfield 37, 3) := by decide +kernel
theorem dX9_aim_74 : decode cX9_aim 74 = .ok (.getfield 149, 3) := by decide +kernel
theorem dX9_aim_77 : decode cX9_aim 77 = .ok (.iload_n 1, 1) := by decide +kernel
theorem dX9_aim_78 : decode cX9_aim 78 = .ok (.ifCond .ne 8, 3) := by decide +kernel
theorem dX9_aim_81 : decode cX9_aim 81 = .ok (.iload 5, 2) := by decide +kernel
theorem dX9_aim_83 : decode cX9_aim 83 = .ok (.goto 8, 3) := by decide +kernel
theorem dX9_aim_86 : decode cX9_aim 86 = .ok (.iload 5, 2) := by decide +kernel
theorem dX9_aim_88 : decode cX9_aim 88 = .ok (.bipush 12, 2) := by decide +kernel
theorem dX9_aim_90 : decode cX9_aim 90 = .ok (.imul, 1) := by decide +kernel
theorem dX9_aim_91 : decode cX9_aim 91 = .ok (.sipush 143, 3) := by decide +kernel
theorem dX9_aim_94 : decode cX9_aim 94 = .ok (.iconst (-1), 1) := by decide +kernel
theorem dX9_aim_95 : decode cX9_aim 95 = .ok (.invokevirtual 183, 3) := by decide +kernel
theorem dX9_aim_98 : decode cX9_aim 98 = .ok (.lstore 6, 2) := by decide +kernel
theorem dX9_aim_100 : decode cX9_aim 100 = .ok (.lload 6, 2) := by decide +kernel
theorem dX9_aim_102 : decode cX9_aim 102 = .ok (.ldc2_w 224, 3) := by decide +kernel
theorem dX9_aim_105 : decode cX9_aim 105 = .ok (.ldiv, 1) := by decide +kernel
theorem dX9_aim_106 : decode cX9_aim 106 = .ok (.iload_n 3, 1) := by decide +kernel
theorem dX9_aim_107 : decode cX9_aim 107 = .ok (.i2l, 1) := by decide +kernel
theorem dX9_aim_108 : decode cX9_aim 108 = .ok (.lcmp, 1) := by decide +kernel
theorem dX9_aim_109 : decode cX9_aim 109 = .ok (.ifCond .lt 6, 3) := by decide +kernel
theorem dX9_aim_112 : decode cX9_aim 112 = .ok (.iload 4, 2) := by decide +kernel
theorem dX9_aim_114 : decode cX9_aim 114 = .ok (.ireturn, 1) := by decide +kernel
theorem dX9_aim_115 : decode cX9_aim 115 = .ok (.iinc 4 1, 3) := by decide +kernel
theorem dX9_aim_118 : decode cX9_aim 118 = .ok (.goto (-77), 3) := by decide +kernel
theorem dX9_aim_121 : decode cX9_aim 121 = .ok (.bipush (-2), 2) := by decide +kernel
theorem dX9_aim_123 : decode cX9_aim 123 = .ok (.ireturn, 1) := by decide +kernel
theorem dX9_look_0 : decode cX9_look 0 = .ok (.aload_n 0, 1) := by decide +kernel
theorem dX9_look_1 : decode cX9_look 1 = .ok (.getfield 37, 3) := by decide +kernel
theorem dX9_look_4 : decode cX9_look 4 = .ok (.getfield 164, 3) := by decide +kernel
theorem dX9_look_7 : decode cX9_look 7 = .ok (.ifCond .eq 13, 3) := by decide +kernel
theorem dX9_look_10 : decode cX9_look 10 = .ok (.iload_n 1, 1) := by decide +kernel
theorem dX9_look_11 : decode cX9_look 11 = .ok (.ifCond .lt 9, 3) := by decide +kernel
theorem dX9_look_14 : decode cX9_look 14 = .ok (.iload_n 1, 1) := by decide +kernel
theorem dX9_look_15 : decode cX9_look 15 = .ok (.bipush 6, 2) := by decide +kernel
theorem dX9_look_17 : decode cX9_look 17 = .ok (.if_icmp .le 5, 3) := by decide +kernel
theorem dX9_look_20 : decode cX9_look 20 = .ok (.iconst (-1), 1) := by decide +kernel
theorem dX9_look_21 : decode cX9_look 21 = .ok (.ireturn, 1) := by decide +kernel
theorem dX9_look_22 : decode cX9_look 22 = .ok (.aload_n 0, 1) := by decide +kernel
theorem dX9_look_23 : decode cX9_look 23 = .ok (.getfield 66, 3) := by decide +kernel
theorem dX9_look_26 : decode cX9_look 26 = .ok (.iconst (-1), 1) := by decide +kernel
theorem dX9_look_27 : decode cX9_look 27 = .ok (.invokestatic 243, 3) := by decide +kernel
theorem dX9_look_30 : decode cX9_look 30 = .ok (.lconst 0, 1) := by decide +kernel
theorem dX9_look_31 : decode cX9_look 31 = .ok (.lstore_n 2, 1) := by decide +kernel
theorem dX9_look_32 : decode cX9_look 32 = .ok (.iconst 0, 1) := by decide +kernel
theorem dX9_look_33 : decode cX9_look 33 = .ok (.istore 4, 2) := by decide +kernel
theorem dX9_look_35 : decode cX9_look 35 = .ok (.iload 4, 2) := by decide +kernel
theorem dX9_look_37 : decode cX9_look 37 = .ok (.iconst 1, 1) := by decide +kernel
theorem dX9_look_38 : decode cX9_look 38 = .ok (.iconst 2, 1) := by decide +kernel
theorem dX9_look_39 : decode cX9_look 39 = .ok (.iload_n 1, 1) := by decide +kernel
theorem dX9_look_40 : decode cX9_look 40 = .ok (.imul, 1) := by decide +kernel
theorem dX9_look_41 : decode cX9_look 41 = .ok (.ishl, 1) := by decide +kernel
theorem dX9_look_42 : decode cX9_look 42 = .ok (.if_icmp .ge 21, 3) := by decide +kernel
theorem dX9_look_45 : decode cX9_look 45 = .ok (.lload_n 2, 1) := by decide +kernel
theorem dX9_look_46 : decode cX9_look 46 = .ok (.aload_n 0, 1) := by decide +kernel
theorem dX9_look_47 : decode cX9_look 47 = .ok (.iload_n 1, 1) := by decide +kernel
theorem dX9_look_48 : decode cX9_look 48 = .ok (.iload 4, 2) := by decide +kernel
theorem dX9_look_50 : decode cX9_look 50 = .ok (.invokevirtual 249, 3) := by decide +kernel
theorem dX9_look_53 : decode cX9_look 53 = .ok (.invokestatic 235, 3) := by decide +kernel
theorem dX9_look_56 : decode cX9_look 56 = .ok (.lstore_n 2, 1) := by decide +kernel
theorem dX9_look_57 : decode cX9_look 57 = .ok (.iinc 4 1, 3) := by decide +kernel
theorem dX9_look_60 : decode cX9_look 60 = .ok (.goto (-25), 3) := by decide +kernel
theorem dX9_look_63 : decode cX9_look 63 = .ok (.lload_n 2, 1) := by decide +kernel
theorem dX9_look_64 : decode cX9_look 64 = .ok (.l2i, 1) := by decide +kernel
theorem dX9_look_65 : decode cX9_look 65 = .ok (.ireturn, 1) := by decide +kernel
theorem dX9_overWay_0 : decode cX9_overWay 0 = .ok (.aload_n 0, 1) := by decide +kernel
theorem dX9_overWay_1 : decode cX9_overWay 1 = .ok (.getfield 81, 3) := by decide +kernel
theorem dX9_overWay_4 : decode cX9_overWay 4 = .ok (.getfield 157, 3) := by decide +kernel
theorem dX9_overWay_7 : decode cX9_overWay 7 = .ok (.getfield 129, 3) := by decide +kernel
theorem dX9_overWay_10 : decode cX9_overWay 10 = .ok (.istore_n 3, 1) := by decide +kernel
theorem dX9_overWay_11 : decode cX9_overWay 11 = .ok (.aload_n 0, 1) := by decide +kernel
theorem dX9_overWay_12 : decode cX9_overWay 12 = .ok (.getfield 66, 3) := by decide +kernel
theorem dX9_overWay_15 : decode cX9_overWay 15 = .ok (.iload_n 3, 1) := by decide +kernel
theorem dX9_overWay_16 : decode cX9_overWay 16 = .ok (.iload_n 2, 1) := by decide +kernel
theorem dX9_overWay_17 : decode cX9_overWay 17 = .ok (.iastore, 1) := by decide +kernel
theorem dX9_overWay_18 : decode cX9_overWay 18 = .ok (.aload_n 0, 1) := by decide +kernel
theorem dX9_overWay_19 : decode cX9_overWay 19 = .ok (.getfield 37, 3) := by decide +kernel
theorem dX9_overWay_22 : decode cX9_overWay 22 = .ok (.getfield 149, 3) := by decide +kernel
theorem dX9_overWay_25 : decode cX9_overWay 25 = .ok (.iload_n 3, 1) := by decide +kernel
theorem dX9_overWay_26 : decode cX9_overWay 26 = .ok (.iconst (-1), 1) := by decide +kernel
theorem dX9_overWay_27 : decode cX9_overWay 27 = .ok (.invokevirtual 168, 3) := by decide +kernel
theorem dX9_overWay_30 : decode cX9_overWay 30 = .ok (.lstore 4, 2) := by decide +kernel
theorem dX9_overWay_32 : decode cX9_overWay 32 = .ok (.iconst 0, 1) := by decide +kernel
theorem dX9_overWay_33 : decode cX9_overWay 33 = .ok (.istore 6, 2) := by decide +kernel
theorem dX9_overWay_35 : decode cX9_overWay 35 = .ok (.iload 6, 2) := by decide +kernel
theorem dX9_overWay_37 : decode cX9_overWay 37 = .ok (.iload_n 1, 1) := by decide +kernel
theorem dX9_overWay_38 : decode cX9_overWay 38 = .ok (.if_icmp .ge 83, 3) := by decide +kernel
theorem dX9_overWay_41 : decode cX9_overWay 41 = .ok (.aload_n 0, 1) := by decide +kernel
theorem dX9_overWay_42 : decode cX9_overWay 42 = .ok (.getfield 81, 3) := by decide +kernel
theorem dX9_overWay_45 : decode cX9_overWay 45 = .ok (.getfield 157, 3) := by decide +kernel
theorem dX9_overWay_48 : decode cX9_overWay 48 = .ok (.getfield 252, 3) := by decide +kernel
theorem dX9_overWay_51 : decode cX9_overWay 51 = .ok (.iload_n 3, 1) := by decide +kernel
theorem dX9_overWay_52 : decode cX9_overWay 52 = .ok (.iconst 4, 1) := by decide +kernel
theorem dX9_overWay_53 : decode cX9_overWay 53 = .ok (.imul, 1) := by decide +kernel
theorem dX9_overWay_54 : decode cX9_overWay 54 = .ok (.iload_n 2, 1) := by decide +kernel
theorem dX9_overWay_55 : decode cX9_overWay 55 = .ok (.iconst 2, 1) := by decide +kernel
theorem dX9_overWay_56 : decode cX9_overWay 56 = .ok (.iload 6, 2) := by decide +kernel
theorem dX9_overWay_58 : decode cX9_overWay 58 = .ok (.imul, 1) := by decide +kernel
theorem dX9_overWay_59 : decode cX9_overWay 59 = .ok (.ishr, 1) := by decide +kernel
theorem dX9_overWay_60 : decode cX9_overWay 60 = .ok (.iconst 3, 1) := by decide +kernel
theorem dX9_overWay_61 : decode cX9_overWay 61 = .ok (.iand, 1) := by decide +kernel
theorem dX9_overWay_62 : decode cX9_overWay 62 = .ok (.iadd, 1) := by decide +kernel
theorem dX9_overWay_63 : decode cX9_overWay 63 = .ok (.iaload, 1) := by decide +kernel
theorem dX9_overWay_64 : decode cX9_overWay 64 = .ok (.istore 7, 2) := by decide +kernel
theorem dX9_overWay_66 : decode cX9_overWay 66 = .ok (.iload 7, 2) := by decide +kernel
theorem dX9_overWay_68 : decode cX9_overWay 68 = .ok (.iconst (-1), 1) := by decide +kernel
theorem dX9_overWay_69 : decode cX9_overWay 69 = .ok (.if_icmp .ne 6, 3) := by decide +kernel
theorem dX9_overWay_72 : decode cX9_overWay 72 = .ok (.goto 49, 3) := by decide +kernel
theorem dX9_overWay_75 : decode cX9_overWay 75 = .ok (.aload_n 0, 1) := by decide +kernel
theorem dX9_overWay_76 : decode cX9_overWay 76 = .ok (.getfield 66, 3) := by decide +kernel
theorem dX9_overWay_79 : decode cX9_overWay 79 = .ok (.iload 7, 2) := by decide +kernel
theorem dX9_overWay_81 : decode cX9_overWay 81 = .ok (.iaload, 1) := by decide +kernel
theorem dX9_overWay_82 : decode cX9_overWay 82 = .ok (.iload_n 2, 1) := by decide +kernel
theorem dX9_overWay_83 : decode cX9_overWay 83 = .ok (.if_icmp .eq 29, 3) := by decide +kernel
theorem dX9_overWay_86 : decode cX9_overWay 86 = .ok (.aload_n 0, 1) := by decide +kernel
theorem dX9_overWay_87 : decode cX9_overWay 87 = .ok (.getfield 66, 3) := by decide +kernel
theorem dX9_overWay_90 : decode cX9_overWay 90 = .ok (.iload 7, 2) := by decide +kernel
theorem dX9_overWay_92 : decode cX9_overWay 92 = .ok (.iload_n 2, 1) := by decide +kernel
theorem dX9_overWay_93 : decode cX9_overWay 93 = .ok (.iastore, 1) := by decide +kernel
theorem dX9_overWay_94 : decode cX9_overWay 94 = .ok (.lload 4, 2) := by decide +kernel
theorem dX9_overWay_96 : decode cX9_overWay 96 = .ok (.aload_n 0, 1) := by decide +kernel
theorem dX9_overWay_97 : decode cX9_overWay 97 = .ok (.getfield 37, 3) := by decide +kernel
theorem dX9_overWay_100 : decode cX9_overWay 100 = .ok (.getfield 149, 3) := by decide +kernel
theorem dX9_overWay_103 : decode cX9_overWay 103 = .ok (.iload 7, 2) := by decide +kernel
theorem dX9_overWay_105 : decode cX9_overWay 105 = .ok (.iconst (-1), 1) := by decide +kernel
theorem dX9_overWay_106 : decode cX9_overWay 106 = .ok (.invokevirtual 168, 3) := by decide +kernel
theorem dX9_overWay_109 : decode cX9_overWay 109 = .ok (.ladd, 1) := by decide +kernel
theorem dX9_overWay_110 : decode cX9_overWay 110 = .ok (.lstore 4, 2) := by decide +kernel
theorem dX9_overWay_112 : decode cX9_overWay 112 = .ok (.iload 7, 2) := by decide +kernel
theorem dX9_overWay_114 : decode cX9_overWay 114 = .ok (.istore_n 3, 1) := by decide +kernel
theorem dX9_overWay_115 : decode cX9_overWay 115 = .ok (.iinc 6 1, 3) := by decide +kernel
theorem dX9_overWay_118 : decode cX9_overWay 118 = .ok (.goto (-83), 3) := by decide +kernel
theorem dX9_overWay_121 : decode cX9_overWay 121 = .ok (.lload 4, 2) := by decide +kernel
theorem dX9_overWay_123 : decode cX9_overWay 123 = .ok (.lreturn, 1) := by decide +kernel
theorem dX9_post_0 : decode cX9_post 0 = .ok (.iload_n 1, 1) := by decide +kernel
theorem dX9_post_1 : decode cX9_post 1 = .ok (.ifCond .lt 29, 3) := by decide +kernel
theorem dX9_post_4 : decode cX9_post 4 = .ok (.iload_n 1, 1) := by decide +kernel
theorem dX9_post_5 : decode cX9_post 5 = .ok (.bipush 8, 2) := by decide +kernel
theorem dX9_post_7 : decode cX9_post 7 = .ok (.if_icmp .ge 23, 3) := by decide +kernel
theorem dX9_post_10 : decode cX9_post 10 = .ok (.iload_n 2, 1) := by decide +kernel
theorem dX9_post_11 : decode cX9_post 11 = .ok (.ifCond .lt 19, 3) := by decide +kernel
theorem dX9_post_14 : decode cX9_post 14 = .ok (.iload_n 2, 1) := by decide +kernel
theorem dX9_post_15 : decode cX9_post 15 = .ok (.bipush 12, 2) := by decide +kernel
theorem dX9_post_17 : decode cX9_post 17 = .ok (.if_icmp .ge 13, 3) := by decide +kernel
theorem dX9_post_20 : decode cX9_post 20 = .ok (.iload_n 3, 1) := by decide +kernel
theorem dX9_post_21 : decode cX9_post 21 = .ok (.ifCond .lt 9, 3) := by decide +kernel
theorem dX9_post_24 : decode cX9_post 24 = .ok (.iload_n 3, 1) := by decide +kernel
theorem dX9_post_25 : decode cX9_post 25 = .ok (.bipush 12, 2) := by decide +kernel
theorem dX9_post_27 : decode cX9_post 27 = .ok (.if_icmp .lt 5, 3) := by decide +kernel
theorem dX9_post_30 : decode cX9_post 30 = .ok (.iconst 0, 1) := by decide +kernel
theorem dX9_post_31 : decode cX9_post 31 = .ok (.ireturn, 1) := by decide +kernel
theorem dX9_post_32 : decode cX9_post 32 = .ok (.aload_n 0, 1) := by decide +kernel
theorem dX9_post_33 : decode cX9_post 33 = .ok (.getfield 37, 3) := by decide +kernel
theorem dX9_post_36 : decode cX9_post 36 = .ok (.getfield 255, 3) := by decide +kernel
theorem dX9_post_39 : decode cX9_post 39 = .ok (.iload_n 1, 1) := by decide +kernel
theorem dX9_post_40 : decode cX9_post 40 = .ok (.iload_n 3, 1) := by decide +kernel
theorem dX9_post_41 : decode cX9_post 41 = .ok (.bipush 12, 2) := by decide +kernel
theorem dX9_post_43 : decode cX9_post 43 = .ok (.imul, 1) := by decide +kernel
theorem dX9_post_44 : decode cX9_post 44 = .ok (.iload_n 2, 1) := by decide +kernel
theorem dX9_post_45 : decode cX9_post 45 = .ok (.iadd, 1) := by decide +kernel
theorem dX9_post_46 : decode cX9_post 46 = .ok (.iastore, 1) := by decide +kernel
theorem dX9_post_47 : decode cX9_post 47 = .ok (.iconst 1, 1) := by decide +kernel
theorem dX9_post_48 : decode cX9_post 48 = .ok (.ireturn, 1) := by decide +kernel
theorem dX9_parish_0 : decode cX9_parish 0 = .ok (.iload_n 1, 1) := by decide +kernel
theorem dX9_parish_1 : decode cX9_parish 1 = .ok (.ifCond .lt 21, 3) := by decide +kernel
theorem dX9_parish_4 : decode cX9_parish 4 = .ok (.iload_n 1, 1) := by decide +kernel
theorem dX9_parish_5 : decode cX9_parish 5 = .ok (.aload_n 0, 1) := by decide +kernel
theorem dX9_parish_6 : decode cX9_parish 6 = .ok (.getfield 93, 3) := by decide +kernel
theorem dX9_parish_9 : decode cX9_parish 9 = .ok (.if_icmp .ge 13, 3) := by decide +kernel
theorem dX9_parish_12 : decode cX9_parish 12 = .ok (.iload_n 2, 1) := by decide +kernel
theorem dX9_parish_13 : decode cX9_parish 13 = .ok (.ifCond .lt 9, 3) := by decide +kernel
theorem dX9_parish_16 : decode cX9_parish 16 = .ok (.iload_n 2, 1) := by decide +kernel
theorem dX9_parish_17 : decode cX9_parish 17 = .ok (.bipush 40, 2) := by decide +kernel
theorem dX9_parish_19 : decode cX9_parish 19 = .ok (.if_icmp .le 5, 3) := by decide +kernel
theorem dX9_parish_22 : decode cX9_parish 22 = .ok (.iconst (-1), 1) := by decide +kernel
theorem dX9_parish_23 : decode cX9_parish 23 = .ok (.ireturn, 1) := by decide +kernel
theorem dX9_parish_24 : decode cX9_parish 24 = .ok (.aload_n 0, 1) := by decide +kernel
theorem dX9_parish_25 : decode cX9_parish 25 = .ok (.getfield 18, 3) := by decide +kernel
theorem dX9_parish_28 : decode cX9_parish 28 = .ok (.iload_n 1, 1) := by decide +kernel
theorem dX9_parish_29 : decode cX9_parish 29 = .ok (.aaload, 1) := by decide +kernel
theorem dX9_parish_30 : decode cX9_parish 30 = .ok (.astore_n 3, 1) := by decide +kernel
theorem dX9_parish_31 : decode cX9_parish 31 = .ok (.aload_n 0, 1) := by decide +kernel
theorem dX9_parish_32 : decode cX9_parish 32 = .ok (.getfield 66, 3) := by decide +kernel
theorem dX9_parish_35 : decode cX9_parish 35 = .ok (.iconst 0, 1) := by decide +kernel
theorem dX9_parish_36 : decode cX9_parish 36 = .ok (.invokestatic 243, 3) := by decide +kernel
theorem dX9_parish_39 : decode cX9_parish 39 = .ok (.iconst 0, 1) := by decide +kernel
theorem dX9_parish_40 : decode cX9_parish 40 = .ok (.istore 4, 2) := by decide +kernel
theorem dX9_parish_42 : decode cX9_parish 42 = .ok (.iload 4, 2) := by decide +kernel
theorem dX9_parish_44 : decode cX9_parish 44 = .ok (.bipush 8, 2) := by decide +kernel
theorem dX9_parish_46 : decode cX9_parish 46 = .ok (.if_icmp .ge 17, 3) := by decide +kernel
theorem dX9_parish_49 : decode cX9_parish 49 = .ok (.aload_n 0, 1) := by decide +kernel
theorem dX9_parish_50 : decode cX9_parish 50 = .ok (.aload_n 3, 1) := by decide +kernel
theorem dX9_parish_51 : decode cX9_parish 51 = .ok (.iload 4, 2) := by decide +kernel
theorem dX9_parish_53 : decode cX9_parish 53 = .ok (.iload_n 2, 1) := by decide +kernel
theorem dX9_parish_54 : decode cX9_parish 54 = .ok (.invokevirtual 258, 3) := by decide +kernel
theorem dX9_parish_57 : decode cX9_parish 57 = .ok (.iinc 4 1, 3) := by decide +kernel
theorem dX9_parish_60 : decode cX9_parish 60 = .ok (.goto (-18), 3) := by decide +kernel
theorem dX9_parish_63 : decode cX9_parish 63 = .ok (.bipush (-2), 2) := by decide +kernel
theorem dX9_parish_65 : decode cX9_parish 65 = .ok (.istore 4, 2) := by decide +kernel
theorem dX9_parish_67 : decode cX9_parish 67 = .ok (.iconst 0, 1) := by decide +kernel
theorem dX9_parish_68 : decode cX9_parish 68 = .ok (.istore 5, 2) := by decide +kernel
theorem dX9_parish_70 : decode cX9_parish 70 = .ok (.iload 5, 2) := by decide +kernel
theorem dX9_parish_72 : decode cX9_parish 72 = .ok (.sipush 256, 3) := by decide +kernel
theorem dX9_parish_75 : decode cX9_parish 75 = .ok (.if_icmp .ge 43, 3) := by decide +kernel
theorem dX9_parish_78 : decode cX9_parish 78 = .ok (.iload 4, 2) := by decide +kernel
theorem dX9_parish_80 : decode cX9_parish 80 = .ok (.bipush (-2), 2) := by decide +kernel
theorem dX9_parish_82 : decode cX9_parish 82 = .ok (.if_icmp .eq 16, 3) := by decide +kernel
theorem dX9_parish_85 : decode cX9_parish 85 = .ok (.iload 5, 2) := by decide +kernel
theorem dX9_parish_87 : decode cX9_parish 87 = .ok (.invokestatic 214, 3) := by decide +kernel
theorem dX9_parish_90 : decode cX9_parish 90 = .ok (.iload 4, 2) := by decide +kernel
theorem dX9_parish_92 : decode cX9_parish 92 = .ok (.invokestatic 214, 3) := by decide +kernel
theorem dX9_parish_95 : decode cX9_parish 95 = .ok (.if_icmp .ge 17, 3) := by decide +kernel
theorem dX9_parish_98 : decode cX9_parish 98 = .ok (.aload_n 0, 1) := by decide +kernel
theorem dX9_parish_99 : decode cX9_parish 99 = .ok (.aload_n 3, 1) := by decide +kernel
theorem dX9_parish_100 : decode cX9_parish 100 = .ok (.iload 5, 2) := by decide +kernel
theorem dX9_parish_102 : decode cX9_parish 102 = .ok (.invokevirtual 262, 3) := by decide +kernel
theorem dX9_parish_105 : decode cX9_parish 105 = .ok (.ifCond .eq 7, 3) := by decide +kernel
theorem dX9_parish_108 : decode cX9_parish 108 = .ok (.iload 5, 2) := by decide +kernel
theorem dX9_parish_110 : decode cX9_parish 110 = .ok (.istore 4, 2) := by decide +kernel
theorem dX9_parish_112 : decode cX9_parish 112 = .ok (.iinc 5 1, 3) := by decide +kernel
theorem dX9_parish_115 : decode cX9_parish 115 = .ok (.goto (-45), 3) := by decide +kernel
theorem dX9_parish_118 : decode cX9_parish 118 = .ok (.iload 4, 2) := by decide +kernel
theorem dX9_parish_120 : decode cX9_parish 120 = .ok (.ireturn, 1) := by decide +kernel
theorem dX9_reach_0 : decode cX9_reach 0 = .ok (.aload_n 0, 1) := by decide +kernel
theorem dX9_reach_1 : decode cX9_reach 1 = .ok (.getfield 37, 3) := by decide +kernel
theorem dX9_reach_4 : decode cX9_reach 4 = .ok (.getfield 255, 3) := by decide +kernel
theorem dX9_reach_7 : decode cX9_reach 7 = .ok (.iload_n 2, 1) := by decide +kernel
theorem dX9_reach_8 : decode cX9_reach 8 = .ok (.iaload, 1) := by decide +kernel
theorem dX9_reach_9 : decode cX9_reach 9 = .ok (.istore 4, 2) := by decide +kernel
theorem dX9_reach_11 : decode cX9_reach 11 = .ok (.iload 4, 2) := by decide +kernel
theorem dX9_reach_13 : decode cX9_reach 13 = .ok (.iconst (-1), 1) := by decide +kernel
theorem dX9_reach_14 : decode cX9_reach 14 = .ok (.if_icmp .eq 21, 3) := by decide +kernel
theorem dX9_reach_17 : decode cX9_reach 17 = .ok (.aload_n 1, 1) := by decide +kernel
theorem dX9_reach_18 : decode cX9_reach 18 = .ok (.iload 4, 2) := by decide +kernel
theorem dX9_reach_20 : decode cX9_reach 20 = .ok (.bipush 12, 2) := by decide +kernel
theorem dX9_reach_22 : decode cX9_reach 22 = .ok (.irem, 1) := by decide +kernel
theorem dX9_reach_23 : decode cX9_reach 23 = .ok (.iload 4, 2) := by decide +kernel
theorem dX9_reach_25 : decode cX9_reach 25 = .ok (.bipush 12, 2) := by decide +kernel
theorem dX9_reach_27 : decode cX9_reach 27 = .ok (.idiv, 1) := by decide +kernel
theorem dX9_reach_28 : decode cX9_reach 28 = .ok (.invokevirtual 135, 3) := by decide +kernel
theorem dX9_reach_31 : decode cX9_reach 31 = .ok (.iconst (-1), 1) := by decide +kernel
theorem dX9_reach_32 : decode cX9_reach 32 = .ok (.if_icmp .ne 4, 3) := by decide +kernel
theorem dX9_reach_35 : decode cX9_reach 35 = .ok (.return_, 1) := by decide +kernel
theorem dX9_reach_36 : decode cX9_reach 36 = .ok (.aload_n 1, 1) := by decide +kernel
theorem dX9_reach_37 : decode cX9_reach 37 = .ok (.iload 4, 2) := by decide +kernel
theorem dX9_reach_39 : decode cX9_reach 39 = .ok (.aload_n 0, 1) := by decide +kernel
theorem dX9_reach_40 : decode cX9_reach 40 = .ok (.getfield 70, 3) := by decide +kernel
theorem dX9_reach_43 : decode cX9_reach 43 = .ok (.invokevirtual 266, 3) := by decide +kernel
theorem dX9_reach_46 : decode cX9_reach 46 = .ok (.iconst 0, 1) := by decide +kernel
theorem dX9_reach_47 : decode cX9_reach 47 = .ok (.istore 5, 2) := by decide +kernel
theorem dX9_reach_49 : decode cX9_reach 49 = .ok (.iload 5, 2) := by decide +kernel
theorem dX9_reach_51 : decode cX9_reach 51 = .ok (.sipush 144, 3) := by decide +kernel
theorem dX9_reach_54 : decode cX9_reach 54 = .ok (.if_icmp .ge 44, 3) := by decide +kernel
theorem dX9_reach_57 : decode cX9_reach 57 = .ok (.aload_n 0, 1) := by decide +kernel
theorem dX9_reach_58 : decode cX9_reach 58 = .ok (.getfield 70, 3) := by decide +kernel
theorem dX9_reach_61 : decode cX9_reach 61 = .ok (.iload 5, 2) := by decide +kernel
theorem dX9_reach_63 : decode cX9_reach 63 = .ok (.iaload, 1) := by decide +kernel
theorem dX9_reach_64 : decode cX9_reach 64 = .ok (.iconst (-1), 1) := by decide +kernel
theorem dX9_reach_65 : decode cX9_reach 65 = .ok (.if_icmp .eq 27, 3) := by decide +kernel
theorem dX9_reach_68 : decode cX9_reach 68 = .ok (.aload_n 0, 1) := by decide +kernel
theorem dX9_reach_69 : decode cX9_reach 69 = .ok (.getfield 70, 3) := by decide +kernel
theorem dX9_reach_72 : decode cX9_reach 72 = .ok (.iload 5, 2) := by decide +kernel
theorem dX9_reach_74 : decode cX9_reach 74 = .ok (.iaload, 1) := by decide +kernel
theorem dX9_reach_75 : decode cX9_reach 75 = .ok (.iload_n 3, 1) := by decide +kernel
theorem dX9_reach_76 : decode cX9_reach 76 = .ok (.if_icmp .gt 16, 3) := by decide +kernel
theorem dX9_reach_79 : decode cX9_reach 79 = .ok (.aload_n 0, 1) := by decide +kernel
theorem dX9_reach_80 : decode cX9_reach 80 = .ok (.getfield 66, 3) := by decide +kernel
theorem dX9_reach_83 : decode cX9_reach 83 = .ok (.iload 5, 2) := by decide +kernel
theorem dX9_reach_85 : decode cX9_reach 85 = .ok (.dup2, 1) := by decide +kernel
theorem dX9_reach_86 : decode cX9_reach 86 = .ok (.iaload, 1) := by decide +kernel
theorem dX9_reach_87 : decode cX9_reach 87 = .ok (.iconst 1, 1) := by decide +kernel
theorem dX9_reach_88 : decode cX9_reach 88 = .ok (.iload_n 2, 1) := by decide +kernel
theorem dX9_reach_89 : decode cX9_reach 89 = .ok (.ishl, 1) := by decide +kernel
theorem dX9_reach_90 : decode cX9_reach 90 = .ok (.ior, 1) := by decide +kernel
theorem dX9_reach_91 : decode cX9_reach 91 = .ok (.iastore, 1) := by decide +kernel
theorem dX9_reach_92 : decode cX9_reach 92 = .ok (.iinc 5 1, 3) := by decide +kernel
theorem dX9_reach_95 : decode cX9_reach 95 = .ok (.goto (-46), 3) := by decide +kernel
theorem dX9_reach_98 : decode cX9_reach 98 = .ok (.return_, 1) := by decide +kernel
theorem dX9_isEnough_0 : decode cX9_isEnough 0 = .ok (.iconst 0, 1) := by decide +kernel
theorem dX9_isEnough_1 : decode cX9_isEnough 1 = .ok (.istore_n 3, 1) := by decide +kernel
theorem dX9_isEnough_2 : decode cX9_isEnough 2 = .ok (.iload_n 3, 1) := by decide +kernel
theorem dX9_isEnough_3 : decode cX9_isEnough 3 = .ok (.sipush 144, 3) := by decide +kernel
theorem dX9_isEnough_6 : decode cX9_isEnough 6 = .ok (.if_icmp .ge 60, 3) := by decide +kernel
theorem dX9_isEnough_9 : decode cX9_isEnough 9 = .ok (.aload_n 1, 1) := by decide +kernel
theorem dX9_isEnough_10 : decode cX9_isEnough 10 = .ok (.getfield 232, 3) := by decide +kernel
theorem dX9_isEnough_13 : decode cX9_isEnough 13 = .ok (.iload_n 3, 1) := by decide +kernel
theorem dX9_isEnough_14 : decode cX9_isEnough 14 = .ok (.iaload, 1) := by decide +kernel
theorem dX9_isEnough_15 : decode cX9_isEnough 15 = .ok (.iconst 1, 1) := by decide +kernel
theorem dX9_isEnough_16 : decode cX9_isEnough 16 = .ok (.if_icmp .ne 23, 3) := by decide +kernel
theorem dX9_isEnough_19 : decode cX9_isEnough 19 = .ok (.aload_n 1, 1) := by decide +kernel
theorem dX9_isEnough_20 : decode cX9_isEnough 20 = .ok (.iload_n 3, 1) := by decide +kernel
theorem dX9_isEnough_21 : decode cX9_isEnough 21 = .ok (.bipush 12, 2) := by decide +kernel
theorem dX9_isEnough_23 : decode cX9_isEnough 23 = .ok (.irem, 1) := by decide +kernel
theorem dX9_isEnough_24 : decode cX9_isEnough 24 = .ok (.iload_n 3, 1) := by decide +kernel
theorem dX9_isEnough_25 : decode cX9_isEnough 25 = .ok (.bipush 12, 2) := by decide +kernel
theorem dX9_isEnough_27 : decode cX9_isEnough 27 = .ok (.idiv, 1) := by decide +kernel
theorem dX9_isEnough_28 : decode cX9_isEnough 28 = .ok (.invokevirtual 135, 3) := by decide +kernel
theorem dX9_isEnough_31 : decode cX9_isEnough 31 = .ok (.iconst (-1), 1) := by decide +kernel
theorem dX9_isEnough_32 : decode cX9_isEnough 32 = .ok (.if_icmp .eq 7, 3) := by decide +kernel
theorem dX9_isEnough_35 : decode cX9_isEnough 35 = .ok (.iconst 1, 1) := by decide +kernel
theorem dX9_isEnough_36 : decode cX9_isEnough 36 = .ok (.goto 4, 3) := by decide +kernel
theorem dX9_isEnough_39 : decode cX9_isEnough 39 = .ok (.iconst 0, 1) := by decide +kernel
theorem dX9_isEnough_40 : decode cX9_isEnough 40 = .ok (.istore 4, 2) := by decide +kernel
theorem dX9_isEnough_42 : decode cX9_isEnough 42 = .ok (.iload 4, 2) := by decide +kernel
theorem dX9_isEnough_44 : decode cX9_isEnough 44 = .ok (.ifCond .eq 16, 3) := by decide +kernel
theorem dX9_isEnough_47 : decode cX9_isEnough 47 = .ok (.aload_n 0, 1) := by decide +kernel
theorem dX9_isEnough_48 : decode cX9_isEnough 48 = .ok (.getfield 66, 3) := by decide +kernel
theorem dX9_isEnough_51 : decode cX9_isEnough 51 = .ok (.iload_n 3, 1) := by decide +kernel
theorem dX9_isEnough_52 : decode cX9_isEnough 52 = .ok (.iaload, 1) := by decide +kernel
theorem dX9_isEnough_53 : decode cX9_isEnough 53 = .ok (.iload_n 2, 1) := by decide +kernel
theorem dX9_isEnough_54 : decode cX9_isEnough 54 = .ok (.iand, 1) := by decide +kernel
theorem dX9_isEnough_55 : decode cX9_isEnough 55 = .ok (.ifCond .ne 5, 3) := by decide +kernel
theorem dX9_isEnough_58 : decode cX9_isEnough 58 = .ok (.iconst 0, 1) := by decide +kernel
theorem dX9_isEnough_59 : decode cX9_isEnough 59 = .ok (.ireturn, 1) := by decide +kernel
theorem dX9_isEnough_60 : decode cX9_isEnough 60 = .ok (.iinc 3 1, 3) := by decide +kernel
theorem dX9_isEnough_63 : decode cX9_isEnough 63 = .ok (.goto (-61), 3) := by decide +kernel
theorem dX9_isEnough_66 : decode cX9_isEnough 66 = .ok (.iconst 1, 1) := by decide +kernel
theorem dX9_isEnough_67 : decode cX9_isEnough 67 = .ok (.ireturn, 1) := by decide +kernel
theorem dX9_night_0 : decode cX9_night 0 = .ok (.aload_n 0, 1) := by decide +kernel
theorem dX9_night_1 : decode cX9_night 1 = .ok (.iload_n 2, 1) := by decide +kernel
theorem dX9_night_2 : decode cX9_night 2 = .ok (.iload_n 3, 1) := by decide +kernel
theorem dX9_night_3 : decode cX9_night 3 = .ok (.iload 4, 2) := by decide +kernel
theorem dX9_night_5 : decode cX9_night 5 = .ok (.iload 5, 2) := by decide +kernel
theorem dX9_night_7 : decode cX9_night 7 = .ok (.iload 6, 2) := by decide +kernel
theorem dX9_night_9 : decode cX9_night 9 = .ok (.invokevirtual 270, 3) := by decide +kernel
theorem dX9_night_12 : decode cX9_night 12 = .ok (.istore 8, 2) := by decide +kernel
theorem dX9_night_14 : decode cX9_night 14 = .ok (.iload_n 1, 1) := by decide +kernel
theorem dX9_night_15 : decode cX9_night 15 = .ok (.ifCond .lt 29, 3) := by decide +kernel
theorem dX9_night_18 : decode cX9_night 18 = .ok (.iload_n 1, 1) := by decide +kernel
theorem dX9_night_19 : decode cX9_night 19 = .ok (.aload_n 0, 1) := by decide +kernel
theorem dX9_night_20 : decode cX9_night 20 = .ok (.getfield 110, 3) := by decide +kernel
theorem dX9_night_23 : decode cX9_night 23 = .ok (.if_icmp .ge 21, 3) := by decide +kernel
theorem dX9_night_26 : decode cX9_night 26 = .ok (.iload 8, 2) := by decide +kernel
theorem dX9_night_28 : decode cX9_night 28 = .ok (.iconst (-1), 1) := by decide +kernel
theorem dX9_night_29 : decode cX9_night 29 = .ok (.if_icmp .eq 15, 3) := by decide +kernel
theorem dX9_night_32 : decode cX9_night 32 = .ok (.iload 7, 2) := by decide +kernel
theorem dX9_night_34 : decode cX9_night 34 = .ok (.ifCond .lt 10, 3) := by decide +kernel
theorem dX9_night_37 : decode cX9_night 37 = .ok (.iload 7, 2) := by decide +kernel
theorem dX9_night_39 : decode cX9_night 39 = .ok (.bipush 6, 2) := by decide +kernel
theorem dX9_night_41 : decode cX9_night 41 = .ok (.if_icmp .le 5, 3) := by decide +kernel
theorem dX9_night_44 : decode cX9_night 44 = .ok (.iconst (-1), 1) := by decide +kernel
theorem dX9_night_45 : decode cX9_night 45 = .ok (.ireturn, 1) := by decide +kernel
theorem dX9_night_46 : decode cX9_night 46 = .ok (.aload_n 0, 1) := by decide +kernel
theorem dX9_night_47 : decode cX9_night 47 = .ok (.getfield 62, 3) := by decide +kernel
theorem dX9_night_50 : decode cX9_night 50 = .ok (.aload_n 0, 1) := by decide +kernel
theorem dX9_night_51 : decode cX9_night 51 = .ok (.getfield 81, 3) := by decide +kernel
theorem dX9_night_54 : decode cX9_night 54 = .ok (.aload_n 0, 1) := by decide +kernel
theorem dX9_night_55 : decode cX9_night 55 = .ok (.getfield 30, 3) := by decide +kernel
theorem dX9_night_58 : decode cX9_night 58 = .ok (.iload_n 1, 1) := by decide +kernel
theorem dX9_night_59 : decode cX9_night 59 = .ok (.aaload, 1) := by decide +kernel
theorem dX9_night_60 : decode cX9_night 60 = .ok (.iload 8, 2) := by decide +kernel
theorem dX9_night_62 : decode cX9_night 62 = .ok (.iload 5, 2) := by decide +kernel
theorem dX9_night_64 : decode cX9_night 64 = .ok (.iload 6, 2) := by decide +kernel
theorem dX9_night_66 : decode cX9_night 66 = .ok (.iconst 1, 1) := by decide +kernel
theorem dX9_night_67 : decode cX9_night 67 = .ok (.invokevirtual 274, 3) := by decide +kernel
theorem dX9_night_70 : decode cX9_night 70 = .ok (.iload 7, 2) := by decide +kernel
theorem dX9_night_72 : decode cX9_night 72 = .ok (.tableswitch 97 0 5 #[40, 48, 56, 67, 78, 86], 40) := by decide +kernel
theorem dX9_night_112 : decode cX9_night 112 = .ok (.aload_n 0, 1) := by decide +kernel
theorem dX9_night_113 : decode cX9_night 113 = .ok (.getfield 62, 3) := by decide +kernel
theorem dX9_night_116 : decode cX9_night 116 = .ok (.getfield 278, 3) := by decide +kernel
theorem dX9_night_119 : decode cX9_night 119 = .ok (.ireturn, 1) := by decide +kernel
theorem dX9_night_120 : decode cX9_night 120 = .ok (.aload_n 0, 1) := by decide +kernel
theorem dX9_night_121 : decode cX9_night 121 = .ok (.getfield 62, 3) := by decide +kernel
theorem dX9_night_124 : decode cX9_night 124 = .ok (.getfield 281, 3) := by decide +kernel
theorem dX9_night_127 : decode cX9_night 127 = .ok (.ireturn, 1) := by decide +kernel
theorem dX9_night_128 : decode cX9_night 128 = .ok (.aload_n 0, 1) := by decide +kernel
theorem dX9_night_129 : decode cX9_night 129 = .ok (.getfield 62, 3) := by decide +kernel
theorem dX9_night_132 : decode cX9_night 132 = .ok (.getfield 284, 3) := by decide +kernel
theorem dX9_night_135 : decode cX9_night 135 = .ok (.bipush 12, 2) := by decide +kernel
theorem dX9_night_137 : decode cX9_night 137 = .ok (.irem, 1) := by decide +kernel
theorem dX9_night_138 : decode cX9_night 138 = .ok (.ireturn, 1) := by decide +kernel
theorem dX9_night_139 : decode cX9_night 139 = .ok (.aload_n 0, 1) := by decide +kernel
theorem dX9_night_140 : decode cX9_night 140 = .ok (.getfield 62, 3) := by decide +kernel
theorem dX9_night_143 : decode cX9_night 143 = .ok (.getfield 284, 3) := by decide +kernel
theorem dX9_night_146 : decode cX9_night 146 = .ok (.bipush 12, 2) := by decide +kernel
theorem dX9_night_148 : decode cX9_night 148 = .ok (.idiv, 1) := by decide +kernel
theorem dX9_night_149 : decode cX9_night 149 = .ok (.ireturn, 1) := by decide +kernel
theorem dX9_night_150 : decode cX9_night 150 = .ok (.aload_n 0, 1) := by decide +kernel
theorem dX9_night_151 : decode cX9_night 151 = .ok (.getfield 62, 3) := by decide +kernel
theorem dX9_night_154 : decode cX9_night 154 = .ok (.getfield 287, 3) := by decide +kernel
theorem dX9_night_157 : decode cX9_night 157 = .ok (.ireturn, 1) := by decide +kernel
theorem dX9_night_158 : decode cX9_night 158 = .ok (.aload_n 0, 1) := by decide +kernel
theorem dX9_night_159 : decode cX9_night 159 = .ok (.getfield 62, 3) := by decide +kernel
theorem dX9_night_162 : decode cX9_night 162 = .ok (.getfield 290, 3) := by decide +kernel
theorem dX9_night_165 : decode cX9_night 165 = .ok (.getfield 161, 3) := by decide +kernel
theorem dX9_night_168 : decode cX9_night 168 = .ok (.ireturn, 1) := by decide +kernel
theorem dX9_night_169 : decode cX9_night 169 = .ok (.aload_n 0, 1) := by decide +kernel
theorem dX9_night_170 : decode cX9_night 170 = .ok (.getfield 62, 3) := by decide +kernel
theorem dX9_night_173 : decode cX9_night 173 = .ok (.getfield 290, 3) := by decide +kernel
theorem dX9_night_176 : decode cX9_night 176 = .ok (.aload_n 0, 1) := by decide +kernel
theorem dX9_night_177 : decode cX9_night 177 = .ok (.getfield 81, 3) := by decide +kernel
theorem dX9_night_180 : decode cX9_night 180 = .ok (.getfield 157, 3) := by decide +kernel
theorem dX9_night_183 : decode cX9_night 183 = .ok (.invokevirtual 291, 3) := by decide +kernel
theorem dX9_night_186 : decode cX9_night 186 = .ok (.ireturn, 1) := by decide +kernel
theorem dX9_startOf_0 : decode cX9_startOf 0 = .ok (.aload_n 0, 1) := by decide +kernel
theorem dX9_startOf_1 : decode cX9_startOf 1 = .ok (.getfield 37, 3) := by decide +kernel
theorem dX9_startOf_4 : decode cX9_startOf 4 = .ok (.getfield 164, 3) := by decide +kernel
theorem dX9_startOf_7 : decode cX9_startOf 7 = .ok (.ifCond .eq 30, 3) := by decide +kernel
theorem dX9_startOf_10 : decode cX9_startOf 10 = .ok (.iload_n 3, 1) := by decide +kernel
theorem dX9_startOf_11 : decode cX9_startOf 11 = .ok (.ifCond .lt 26, 3) := by decide +kernel
theorem dX9_startOf_14 : decode cX9_startOf 14 = .ok (.iload_n 3, 1) := by decide +kernel
theorem dX9_startOf_15 : decode cX9_startOf 15 = .ok (.iconst 4, 1) := by decide +kernel
theorem dX9_startOf_16 : decode cX9_startOf 16 = .ok (.if_icmp .ge 21, 3) := by decide +kernel
theorem dX9_startOf_19 : decode cX9_startOf 19 = .ok (.iload 4, 2) := by decide +kernel
theorem dX9_startOf_21 : decode cX9_startOf 21 = .ok (.ifCond .lt 16, 3) := by decide +kernel
theorem dX9_startOf_24 : decode cX9_startOf 24 = .ok (.iload 5, 2) := by decide +kernel
theorem dX9_startOf_26 : decode cX9_startOf 26 = .ok (.iconst 1, 1) := by decide +kernel
theorem dX9_startOf_27 : decode cX9_startOf 27 = .ok (.if_icmp .lt 10, 3) := by decide +kernel
theorem dX9_startOf_30 : decode cX9_startOf 30 = .ok (.iload 5, 2) := by decide +kernel
theorem dX9_startOf_32 : decode cX9_startOf 32 = .ok (.bipush 99, 2) := by decide +kernel
theorem dX9_startOf_34 : decode cX9_startOf 34 = .ok (.if_icmp .le 5, 3) := by decide +kernel
theorem dX9_startOf_37 : decode cX9_startOf 37 = .ok (.iconst (-1), 1) := by decide +kernel
theorem dX9_startOf_38 : decode cX9_startOf 38 = .ok (.ireturn, 1) := by decide +kernel
theorem dX9_startOf_39 : decode cX9_startOf 39 = .ok (.aload_n 0, 1) := by decide +kernel
theorem dX9_startOf_40 : decode cX9_startOf 40 = .ok (.getfield 81, 3) := by decide +kernel
theorem dX9_startOf_43 : decode cX9_startOf 43 = .ok (.getfield 157, 3) := by decide +kernel
theorem dX9_startOf_46 : decode cX9_startOf 46 = .ok (.iload_n 1, 1) := by decide +kernel
theorem dX9_startOf_47 : decode cX9_startOf 47 = .ok (.iload_n 2, 1) := by decide +kernel
theorem dX9_startOf_48 : decode cX9_startOf 48 = .ok (.invokevirtual 135, 3) := by decide +kernel
theorem dX9_startOf_51 : decode cX9_startOf 51 = .ok (.istore 6, 2) := by decide +kernel
theorem dX9_startOf_53 : decode cX9_startOf 53 = .ok (.iload 6, 2) := by decide +kernel
theorem dX9_startOf_55 : decode cX9_startOf 55 = .ok (.iconst (-1), 1) := by decide +kernel
theorem dX9_startOf_56 : decode cX9_startOf 56 = .ok (.if_icmp .ne 7, 3) := by decide +kernel
theorem dX9_startOf_59 : decode cX9_startOf 59 = .ok (.iconst (-1), 1) := by decide +kernel
theorem dX9_startOf_60 : decode cX9_startOf 60 = .ok (.goto 9, 3) := by decide +kernel
theorem dX9_startOf_63 : decode cX9_startOf 63 = .ok (.iload 6, 2) := by decide +kernel
theorem dX9_startOf_65 : decode cX9_startOf 65 = .ok (.iconst 4, 1) := by decide +kernel
theorem dX9_startOf_66 : decode cX9_startOf 66 = .ok (.imul, 1) := by decide +kernel
theorem dX9_startOf_67 : decode cX9_startOf 67 = .ok (.iload_n 3, 1) := by decide +kernel
theorem dX9_startOf_68 : decode cX9_startOf 68 = .ok (.iadd, 1) := by decide +kernel
theorem dX9_startOf_69 : decode cX9_startOf 69 = .ok (.ireturn, 1) := by decide +kernel
theorem dX9_nights_0 : decode cX9_nights 0 = .ok (.aload_n 0, 1) := by decide +kernel
theorem dX9_nights_1 : decode cX9_nights 1 = .ok (.iload_n 2, 1) := by decide +kernel
theorem dX9_nights_2 : decode cX9_nights 2 = .ok (.iload_n 3, 1) := by decide +kernel
theorem dX9_nights_3 : decode cX9_nights 3 = .ok (.iload 4, 2) := by decide +kernel
theorem dX9_nights_5 : decode cX9_nights 5 = .ok (.iload 5, 2) := by decide +kernel
theorem dX9_nights_7 : decode cX9_nights 7 = .ok (.iload 6, 2) := by decide +kernel
theorem dX9_nights_9 : decode cX9_nights 9 = .ok (.invokevirtual 270, 3) := by decide +kernel
theorem dX9_nights_12 : decode cX9_nights 12 = .ok (.istore 9, 2) := by decide +kernel
theorem dX9_nights_14 : decode cX9_nights 14 = .ok (.iload_n 1, 1) := by decide +kernel
theorem dX9_nights_15 : decode cX9_nights 15 = .ok (.ifCond .lt 41, 3) := by decide +kernel
theorem dX9_nights_18 : decode cX9_nights 18 = .ok (.iload_n 1, 1) := by decide +kernel
theorem dX9_nights_19 : decode cX9_nights 19 = .ok (.aload_n 0, 1) := by decide +kernel
theorem dX9_nights_20 : decode cX9_nights 20 = .ok (.getfield 110, 3) := by decide +kernel
theorem dX9_nights_23 : decode cX9_nights 23 = .ok (.if_icmp .ge 33, 3) := by decide +kernel
theorem dX9_nights_26 : decode cX9_nights 26 = .ok (.iload 9, 2) := by decide +kernel
theorem dX9_nights_28 : decode cX9_nights 28 = .ok (.iconst (-1), 1) := by decide +kernel
theorem dX9_nights_29 : decode cX9_nights 29 = .ok (.if_icmp .eq 27, 3) := by decide +kernel
theorem dX9_nights_32 : decode cX9_nights 32 = .ok (.iload 7, 2) := by decide +kernel
theorem dX9_nights_34 : decode cX9_nights 34 = .ok (.iconst 1, 1) := by decide +kernel
theorem dX9_nights_35 : decode cX9_nights 35 = .ok (.if_icmp .lt 21, 3) := by decide +kernel
theorem dX9_nights_38 : decode cX9_nights 38 = .ok (.iload 7, 2) := by decide +kernel
theorem dX9_nights_40 : decode cX9_nights 40 = .ok (.bipush 9, 2) := by decide +kernel
theorem dX9_nights_42 : decode cX9_nights 42 = .ok (.if_icmp .gt 14, 3) := by decide +kernel
theorem dX9_nights_45 : decode cX9_nights 45 = .ok (.iload 8, 2) := by decide +kernel
theorem dX9_nights_47 : decode cX9_nights 47 = .ok (.ifCond .lt 9, 3) := by decide +kernel
theorem dX9_nights_50 : decode cX9_nights 50 = .ok (.iload 8, 2) := by decide +kernel
theorem dX9_nights_52 : decode cX9_nights 52 = .ok (.iconst 2, 1) := by decide +kernel
theorem dX9_nights_53 : decode cX9_nights 53 = .ok (.if_icmp .le 5, 3) := by decide +kernel
theorem dX9_nights_56 : decode cX9_nights 56 = .ok (.iconst (-1), 1) := by decide +kernel
theorem dX9_nights_57 : decode cX9_nights 57 = .ok (.ireturn, 1) := by decide +kernel
theorem dX9_nights_58 : decode cX9_nights 58 = .ok (.aload_n 0, 1) := by decide +kernel
theorem dX9_nights_59 : decode cX9_nights 59 = .ok (.getfield 62, 3) := by decide +kernel
theorem dX9_nights_62 : decode cX9_nights 62 = .ok (.aload_n 0, 1) := by decide +kernel
theorem dX9_nights_63 : decode cX9_nights 63 = .ok (.getfield 81, 3) := by decide +kernel
theorem dX9_nights_66 : decode cX9_nights 66 = .ok (.aload_n 0, 1) := by decide +kernel
theorem dX9_nights_67 : decode cX9_nights 67 = .ok (.getfield 30, 3) := by decide +kernel
theorem dX9_nights_70 : decode cX9_nights 70 = .ok (.iload_n 1, 1) := by decide +kernel
theorem dX9_nights_71 : decode cX9_nights 71 = .ok (.aaload, 1) := by decide +kernel
theorem dX9_nights_72 : decode cX9_nights 72 = .ok (.iload 9, 2) := by decide +kernel
theorem dX9_nights_74 : decode cX9_nights 74 = .ok (.iload 5, 2) := by decide +kernel
theorem dX9_nights_76 : decode cX9_nights 76 = .ok (.iload 6, 2) := by decide +kernel
theorem dX9_nights_78 : decode cX9_nights 78 = .ok (.iload 7, 2) := by decide +kernel
theorem dX9_nights_80 : decode cX9_nights 80 = .ok (.invokevirtual 274, 3) := by decide +kernel
theorem dX9_nights_83 : decode cX9_nights 83 = .ok (.iload 8, 2) := by decide +kernel
theorem dX9_nights_85 : decode cX9_nights 85 = .ok (.ifCond .ne 11, 3) := by decide +kernel
theorem dX9_nights_88 : decode cX9_nights 88 = .ok (.aload_n 0, 1) := by decide +kernel
theorem dX9_nights_89 : decode cX9_nights 89 = .ok (.getfield 62, 3) := by decide +kernel
theorem dX9_nights_92 : decode cX9_nights 92 = .ok (.getfield 294, 3) := by decide +kernel
theorem dX9_nights_95 : decode cX9_nights 95 = .ok (.ireturn, 1) := by decide +kernel
theorem dX9_nights_96 : decode cX9_nights 96 = .ok (.iload 8, 2) := by decide +kernel
theorem dX9_nights_98 : decode cX9_nights 98 = .ok (.iconst 1, 1) := by decide +kernel
theorem dX9_nights_99 : decode cX9_nights 99 = .ok (.if_icmp .ne 13, 3) := by decide +kernel
theorem dX9_nights_102 : decode cX9_nights 102 = .ok (.aload_n 0, 1) := by decide +kernel
theorem dX9_nights_103 : decode cX9_nights 103 = .ok (.getfield 62, 3) := by decide +kernel
theorem dX9_nights_106 : decode cX9_nights 106 = .ok (.getfield 296, 3) := by decide +kernel
theorem dX9_nights_109 : decode cX9_nights 109 = .ok (.goto 10, 3) := by decide +kernel
theorem dX9_nights_112 : decode cX9_nights 112 = .ok (.aload_n 0, 1) := by decide +kernel
theorem dX9_nights_113 : decode cX9_nights 113 = .ok (.getfield 62, 3) := by decide +kernel
theorem dX9_nights_116 : decode cX9_nights 116 = .ok (.getfield 299, 3) := by decide +kernel
theorem dX9_nights_119 : decode cX9_nights 119 = .ok (.ireturn, 1) := by decide +kernel
theorem dX9_finest_0 : decode cX9_finest 0 = .ok (.aload_n 0, 1) := by decide +kernel
theorem dX9_finest_1 : decode cX9_finest 1 = .ok (.iload_n 1, 1) := by decide +kernel
theorem dX9_finest_2 : decode cX9_finest 2 = .ok (.iload_n 2, 1) := by decide +kernel
theorem dX9_finest_3 : decode cX9_finest 3 = .ok (.iload_n 3, 1) := by decide +kernel
theorem dX9_finest_4 : decode cX9_finest 4 = .ok (.iload 4, 2) := by decide +kernel
theorem dX9_finest_6 : decode cX9_finest 6 = .ok (.iload 5, 2) := by decide +kernel
theorem dX9_finest_8 : decode cX9_finest 8 = .ok (.invokevirtual 270, 3) := by decide +kernel
theorem dX9_finest_11 : decode cX9_finest 11 = .ok (.istore 7, 2) := by decide +kernel
theorem dX9_finest_13 : decode cX9_finest 13 = .ok (.iload 7, 2) := by decide +kernel
theorem dX9_finest_15 : decode cX9_finest 15 = .ok (.iconst (-1), 1) := by decide +kernel
theorem dX9_finest_16 : decode cX9_finest 16 = .ok (.if_icmp .eq 16, 3) := by decide +kernel
theorem dX9_finest_19 : decode cX9_finest 19 = .ok (.iload 6, 2) := by decide +kernel
theorem dX9_finest_21 : decode cX9_finest 21 = .ok (.iconst 1, 1) := by decide +kernel
theorem dX9_finest_22 : decode cX9_finest 22 = .ok (.if_icmp .lt 10, 3) := by decide +kernel
theorem dX9_finest_25 : decode cX9_finest 25 = .ok (.iload 6, 2) := by decide +kernel
theorem dX9_finest_27 : decode cX9_finest 27 = .ok (.bipush 9, 2) := by decide +kernel
theorem dX9_finest_29 : decode cX9_finest 29 = .ok (.if_icmp .le 5, 3) := by decide +kernel
theorem dX9_finest_32 : decode cX9_finest 32 = .ok (.iconst (-1), 1) := by decide +kernel
theorem dX9_finest_33 : decode cX9_finest 33 = .ok (.ireturn, 1) := by decide +kernel
theorem dX9_finest_34 : decode cX9_finest 34 = .ok (.bipush (-2), 2) := by decide +kernel
theorem dX9_finest_36 : decode cX9_finest 36 = .ok (.istore 8, 2) := by decide +kernel
theorem dX9_finest_38 : decode cX9_finest 38 = .ok (.iconst 0, 1) := by decide +kernel
theorem dX9_finest_39 : decode cX9_finest 39 = .ok (.istore 9, 2) := by decide +kernel
theorem dX9_finest_41 : decode cX9_finest 41 = .ok (.iconst 0, 1) := by decide +kernel
theorem dX9_finest_42 : decode cX9_finest 42 = .ok (.istore 10, 2) := by decide +kernel
theorem dX9_finest_44 : decode cX9_finest 44 = .ok (.iconst 0, 1) := by decide +kernel
theorem dX9_finest_45 : decode cX9_finest 45 = .ok (.istore 11, 2) := by decide +kernel
theorem dX9_finest_47 : decode cX9_finest 47 = .ok (.iload 11, 2) := by decide +kernel
theorem dX9_finest_49 : decode cX9_finest 49 = .ok (.aload_n 0, 1) := by decide +kernel
theorem dX9_finest_50 : decode cX9_finest 50 = .ok (.getfield 110, 3) := by decide +kernel
theorem dX9_finest_53 : decode cX9_finest 53 = .ok (.if_icmp .ge 100, 3) := by decide +kernel
theorem dX9_finest_56 : decode cX9_finest 56 = .ok (.aload_n 0, 1) := by decide +kernel
theorem dX9_finest_57 : decode cX9_finest 57 = .ok (.getfield 62, 3) := by decide +kernel
theorem dX9_finest_60 : decode cX9_finest 60 = .ok (.aload_n 0, 1) := by decide +kernel
theorem dX9_finest_61 : decode cX9_finest 61 = .ok (.getfield 81, 3) := by decide +kernel
theorem dX9_finest_64 : decode cX9_finest 64 = .ok (.aload_n 0, 1) := by decide +kernel
theorem dX9_finest_65 : decode cX9_finest 65 = .ok (.getfield 30, 3) := by decide +kernel
theorem dX9_finest_68 : decode cX9_finest 68 = .ok (.iload 11, 2) := by decide +kernel
theorem dX9_finest_70 : decode cX9_finest 70 = .ok (.aaload, 1) := by decide +kernel
theorem dX9_finest_71 : decode cX9_finest 71 = .ok (.iload 7, 2) := by decide +kernel
theorem dX9_finest_73 : decode cX9_finest 73 = .ok (.iload 4, 2) := by decide +kernel
theorem dX9_finest_75 : decode cX9_finest 75 = .ok (.iload 5, 2) := by decide +kernel
theorem dX9_finest_77 : decode cX9_finest 77 = .ok (.iload 6, 2) := by decide +kernel
theorem dX9_finest_79 : decode cX9_finest 79 = .ok (.invokevirtual 274, 3) := by decide +kernel
theorem dX9_finest_82 : decode cX9_finest 82 = .ok (.iload 8, 2) := by decide +kernel
theorem dX9_finest_84 : decode cX9_finest 84 = .ok (.bipush (-2), 2) := by decide +kernel
theorem dX9_finest_86 : decode cX9_finest 86 = .ok (.if_icmp .eq 39, 3) := by decide +kernel
theorem dX9_finest_89 : decode cX9_finest 89 = .ok (.aload_n 0, 1) := by decide +kernel
theorem dX9_finest_90 : decode cX9_finest 90 = .ok (.getfield 62, 3) := by decide +kernel
theorem dX9_finest_93 : decode cX9_finest 93 = .ok (.getfield 294, 3) := by decide +kernel
theorem dX9_finest_96 : decode cX9_finest 96 = .ok (.iload 9, 2) := by decide +kernel
theorem dX9_finest_98 : decode cX9_finest 98 = .ok (.if_icmp .gt 27, 3) := by decide +kernel
theorem dX9_finest_101 : decode cX9_finest 101 = .ok (.aload_n 0, 1) := by decide +kernel
theorem dX9_finest_102 : decode cX9_finest 102 = .ok (.getfield 62, 3) := by decide +kernel
theorem dX9_finest_105 : decode cX9_finest 105 = .ok (.getfield 294, 3) := by decide +kernel
theorem dX9_finest_108 : decode cX9_finest 108 = .ok (.iload 9, 2) := by decide +kernel
theorem dX9_finest_110 : decode cX9_finest 110 = .ok (.if_icmp .ne 37, 3) := by decide +kernel
theorem dX9_finest_113 : decode cX9_finest 113 = .ok (.aload_n 0, 1) := by decide +kernel
theorem dX9_finest_114 : decode cX9_finest 114 = .ok (.getfield 62, 3) := by decide +kernel
theorem dX9_finest_117 : decode cX9_finest 117 = .ok (.getfield 296, 3) := by decide +kernel
theorem dX9_finest_120 : decode cX9_finest 120 = .ok (.iload 10, 2) := by decide +kernel
theorem dX9_finest_122 : decode cX9_finest 122 = .ok (.if_icmp .ge 25, 3) := by decide +kernel
theorem dX9_finest_125 : decode cX9_finest 125 = .ok (.iload 11, 2) := by decide +kernel
theorem dX9_finest_127 : decode cX9_finest 127 = .ok (.istore 8, 2) := by decide +kernel
theorem dX9_finest_129 : decode cX9_finest 129 = .ok (.aload_n 0, 1) := by decide +kernel
theorem dX9_finest_130 : decode cX9_finest 130 = .ok (.getfield 62, 3) := by decide +kernel
theorem dX9_finest_133 : decode cX9_finest 133 = .ok (.getfield 294, 3) := by decide +kernel
theorem dX9_finest_136 : decode cX9_finest 136 = .ok (.istore 9, 2) := by decide +kernel
theorem dX9_finest_138 : decode cX9_finest 138 = .ok (.aload_n 0, 1) := by decide +kernel
theorem dX9_finest_139 : decode cX9_finest 139 = .ok (.getfield 62, 3) := by decide +kernel
theorem dX9_finest_142 : decode cX9_finest 142 = .ok (.getfield 296, 3) := by decide +kernel
theorem dX9_finest_145 : decode cX9_finest 145 = .ok (.istore 10, 2) := by decide +kernel
theorem dX9_finest_147 : decode cX9_finest 147 = .ok (.iinc 11 1, 3) := by decide +kernel
theorem dX9_finest_150 : decode cX9_finest 150 = .ok (.goto (-103), 3) := by decide +kernel
theorem dX9_finest_153 : decode cX9_finest 153 = .ok (.iload 8, 2) := by decide +kernel
theorem dX9_finest_155 : decode cX9_finest 155 = .ok (.ireturn, 1) := by decide +kernel
theorem dX9_count_0 : decode cX9_count 0 = .ok (.iload_n 1, 1) := by decide +kernel
theorem dX9_count_1 : decode cX9_count 1 = .ok (.tableswitch 167 0 7 #[47, 52, 57, 62, 84, 109, 134, 159], 47) := by decide +kernel
theorem dX9_count_48 : decode cX9_count 48 = .ok (.aload_n 0, 1) := by decide +kernel
theorem dX9_count_49 : decode cX9_count 49 = .ok (.getfield 93, 3) := by decide +kernel
theorem dX9_count_52 : decode cX9_count 52 = .ok (.ireturn, 1) := by decide +kernel
theorem dX9_count_53 : decode cX9_count 53 = .ok (.aload_n 0, 1) := by decide +kernel
theorem dX9_count_54 : decode cX9_count 54 = .ok (.getfield 103, 3) := by decide +kernel
theorem dX9_count_57 : decode cX9_count 57 = .ok (.ireturn, 1) := by decide +kernel
theorem dX9_count_58 : decode cX9_count 58 = .ok (.aload_n 0, 1) := by decide +kernel
theorem dX9_count_59 : decode cX9_count 59 = .ok (.getfield 110, 3) := by decide +kernel
theorem dX9_count_62 : decode cX9_count 62 = .ok (.ireturn, 1) := by decide +kernel
theorem dX9_count_63 : decode cX9_count 63 = .ok (.aload_n 0, 1) := by decide +kernel
theorem dX9_count_64 : decode cX9_count 64 = .ok (.getfield 37, 3) := by decide +kernel
theorem dX9_count_67 : decode cX9_count 67 = .ok (.getfield 164, 3) := by decide +kernel
theorem dX9_count_70 : decode cX9_count 70 = .ok (.ifCond .eq 13, 3) := by decide +kernel
theorem dX9_count_73 : decode cX9_count 73 = .ok (.aload_n 0, 1) := by decide +kernel
theorem dX9_count_74 : decode cX9_count 74 = .ok (.getfield 37, 3) := by decide +kernel
theorem dX9_count_77 : decode cX9_count 77 = .ok (.getfield 154, 3) := by decide +kernel
theorem dX9_count_80 : decode cX9_count 80 = .ok (.goto 4, 3) := by decide +kernel
theorem dX9_count_83 : decode cX9_count 83 = .ok (.iconst (-1), 1) := by decide +kernel
theorem dX9_count_84 : decode cX9_count 84 = .ok (.ireturn, 1) := by decide +kernel
theorem dX9_count_85 : decode cX9_count 85 = .ok (.aload_n 0, 1) := by decide +kernel
theorem dX9_count_86 : decode cX9_count 86 = .ok (.getfield 37, 3) := by decide +kernel
theorem dX9_count_89 : decode cX9_count 89 = .ok (.getfield 164, 3) := by decide +kernel
theorem dX9_count_92 : decode cX9_count 92 = .ok (.ifCond .eq 16, 3) := by decide +kernel
theorem dX9_count_95 : decode cX9_count 95 = .ok (.aload_n 0, 1) := by decide +kernel
theorem dX9_count_96 : decode cX9_count 96 = .ok (.getfield 37, 3) := by decide +kernel
theorem dX9_count_99 : decode cX9_count 99 = .ok (.getfield 149, 3) := by decide +kernel
theorem dX9_count_102 : decode cX9_count 102 = .ok (.getfield 152, 3) := by decide +kernel
theorem dX9_count_105 : decode cX9_count 105 = .ok (.goto 4, 3) := by decide +kernel
theorem dX9_count_108 : decode cX9_count 108 = .ok (.iconst (-1), 1) := by decide +kernel
theorem dX9_count_109 : decode cX9_count 109 = .ok (.ireturn, 1) := by decide +kernel
theorem dX9_count_110 : decode cX9_count 110 = .ok (.aload_n 0, 1) := by decide +kernel
theorem dX9_count_111 : decode cX9_count 111 = .ok (.getfield 37, 3) := by decide +kernel
theorem dX9_count_114 : decode cX9_count 114 = .ok (.getfield 164, 3) := by decide +kernel
theorem dX9_count_117 : decode cX9_count 117 = .ok (.ifCond .eq 16, 3) := by decide +kernel
theorem dX9_count_120 : decode cX9_count 120 = .ok (.aload_n 0, 1) := by decide +kernel
theorem dX9_count_121 : decode cX9_count 121 = .ok (.getfield 37, 3) := by decide +kernel
theorem dX9_count_124 : decode cX9_count 124 = .ok (.getfield 149, 3) := by decide +kernel
theorem dX9_count_127 : decode cX9_count 127 = .ok (.getfield 161, 3) := by decide +kernel
theorem dX9_count_130 : decode cX9_count 130 = .ok (.goto 4, 3) := by decide +kernel
theorem dX9_count_133 : decode cX9_count 133 = .ok (.iconst (-1), 1) := by decide +kernel
theorem dX9_count_134 : decode cX9_count 134 = .ok (.ireturn, 1) := by decide +kernel
theorem dX9_count_135 : decode cX9_count 135 = .ok (.aload_n 0, 1) := by decide +kernel
theorem dX9_count_136 : decode cX9_count 136 = .ok (.getfield 37, 3) := by decide +kernel
theorem dX9_count_139 : decode cX9_count 139 = .ok (.getfield 164, 3) := by decide +kernel
theorem dX9_count_142 : decode cX9_count 142 = .ok (.ifCond .eq 16, 3) := by decide +kernel
theorem dX9_count_145 : decode cX9_count 145 = .ok (.aload_n 0, 1) := by decide +kernel
theorem dX9_count_146 : decode cX9_count 146 = .ok (.getfield 37, 3) := by decide +kernel
theorem dX9_count_149 : decode cX9_count 149 = .ok (.getfield 149, 3) := by decide +kernel
theorem dX9_count_152 : decode cX9_count 152 = .ok (.getfield 302, 3) := by decide +kernel
theorem dX9_count_155 : decode cX9_count 155 = .ok (.goto 4, 3) := by decide +kernel
theorem dX9_count_158 : decode cX9_count 158 = .ok (.iconst (-1), 1) := by decide +kernel
theorem dX9_count_159 : decode cX9_count 159 = .ok (.ireturn, 1) := by decide +kernel
theorem dX9_count_160 : decode cX9_count 160 = .ok (.aload_n 0, 1) := by decide +kernel
theorem dX9_count_161 : decode cX9_count 161 = .ok (.getfield 10, 3) := by decide +kernel
theorem dX9_count_164 : decode cX9_count 164 = .ok (.getfield 85, 3) := by decide +kernel
theorem dX9_count_167 : decode cX9_count 167 = .ok (.ireturn, 1) := by decide +kernel
theorem dX9_count_168 : decode cX9_count 168 = .ok (.iconst (-1), 1) := by decide +kernel
theorem dX9_count_169 : decode cX9_count 169 = .ok (.ireturn, 1) := by decide +kernel
theorem dX9_image_0 : decode cX9_image 0 = .ok (.iload_n 1, 1) := by decide +kernel
theorem dX9_image_1 : decode cX9_image 1 = .ok (.ifCond .lt 8, 3) := by decide +kernel
theorem dX9_image_4 : decode cX9_image 4 = .ok (.iload_n 1, 1) := by decide +kernel
theorem dX9_image_5 : decode cX9_image 5 = .ok (.iconst 4, 1) := by decide +kernel
theorem dX9_image_6 : decode cX9_image 6 = .ok (.if_icmp .lt 5, 3) := by decide +kernel
theorem dX9_image_9 : decode cX9_image 9 = .ok (.iconst (-1), 1) := by decide +kernel
theorem dX9_image_10 : decode cX9_image 10 = .ok (.ireturn, 1) := by decide +kernel
theorem dX9_image_11 : decode cX9_image 11 = .ok (.aload_n 0, 1) := by decide +kernel
theorem dX9_image_12 : decode cX9_image 12 = .ok (.getfield 41, 3) := by decide +kernel
theorem dX9_image_15 : decode cX9_image 15 = .ok (.iload_n 1, 1) := by decide +kernel
theorem dX9_image_16 : decode cX9_image 16 = .ok (.aaload, 1) := by decide +kernel
theorem dX9_image_17 : decode cX9_image 17 = .ok (.aload_n 0, 1) := by decide +kernel
theorem dX9_image_18 : decode cX9_image 18 = .ok (.getfield 37, 3) := by decide +kernel
theorem dX9_image_21 : decode cX9_image 21 = .ok (.invokevirtual 305, 3) := by decide +kernel
theorem dX9_image_24 : decode cX9_image 24 = .ok (.aload_n 0, 1) := by decide +kernel
theorem dX9_image_25 : decode cX9_image 25 = .ok (.getfield 41, 3) := by decide +kernel
theorem dX9_image_28 : decode cX9_image 28 = .ok (.iload_n 1, 1) := by decide +kernel
theorem dX9_image_29 : decode cX9_image 29 = .ok (.aaload, 1) := by decide +kernel
theorem dX9_image_30 : decode cX9_image 30 = .ok (.iconst 1, 1) := by decide +kernel
theorem dX9_image_31 : decode cX9_image 31 = .ok (.putfield 309, 3) := by decide +kernel
theorem dX9_image_34 : decode cX9_image 34 = .ok (.aload_n 0, 1) := by decide +kernel
theorem dX9_image_35 : decode cX9_image 35 = .ok (.getfield 37, 3) := by decide +kernel
theorem dX9_image_38 : decode cX9_image 38 = .ok (.getfield 154, 3) := by decide +kernel
theorem dX9_image_41 : decode cX9_image 41 = .ok (.ireturn, 1) := by decide +kernel
theorem dX9_back_0 : decode cX9_back 0 = .ok (.iload_n 1, 1) := by decide +kernel
theorem dX9_back_1 : decode cX9_back 1 = .ok (.ifCond .lt 20, 3) := by decide +kernel
theorem dX9_back_4 : decode cX9_back 4 = .ok (.iload_n 1, 1) := by decide +kernel
theorem dX9_back_5 : decode cX9_back 5 = .ok (.iconst 4, 1) := by decide +kernel
theorem dX9_back_6 : decode cX9_back 6 = .ok (.if_icmp .ge 15, 3) := by decide +kernel
theorem dX9_back_9 : decode cX9_back 9 = .ok (.aload_n 0, 1) := by decide +kernel
theorem dX9_back_10 : decode cX9_back 10 = .ok (.getfield 41, 3) := by decide +kernel
theorem dX9_back_13 : decode cX9_back 13 = .ok (.iload_n 1, 1) := by decide +kernel
theorem dX9_back_14 : decode cX9_back 14 = .ok (.aaload, 1) := by decide +kernel
theorem dX9_back_15 : decode cX9_back 15 = .ok (.getfield 309, 3) := by decide +kernel
theorem dX9_back_18 : decode cX9_back 18 = .ok (.ifCond .ne 5, 3) := by decide +kernel
theorem dX9_back_21 : decode cX9_back 21 = .ok (.iconst (-1), 1) := by decide +kernel
theorem dX9_back_22 : decode cX9_back 22 = .ok (.ireturn, 1) := by decide +kernel
theorem dX9_back_23 : decode cX9_back 23 = .ok (.aload_n 0, 1) := by decide +kernel
theorem dX9_back_24 : decode cX9_back 24 = .ok (.getfield 37, 3) := by decide +kernel
theorem dX9_back_27 : decode cX9_back 27 = .ok (.aload_n 0, 1) := by decide +kernel
theorem dX9_back_28 : decode cX9_back 28 = .ok (.getfield 41, 3) := by decide +kernel
theorem dX9_back_31 : decode cX9_back 31 = .ok (.iload_n 1, 1) := by decide +kernel
theorem dX9_back_32 : decode cX9_back 32 = .ok (.aaload, 1) := by decide +kernel
theorem dX9_back_33 : decode cX9_back 33 = .ok (.invokevirtual 305, 3) := by decide +kernel
theorem dX9_back_36 : decode cX9_back 36 = .ok (.aload_n 0, 1) := by decide +kernel
theorem dX9_back_37 : decode cX9_back 37 = .ok (.getfield 37, 3) := by decide +kernel
theorem dX9_back_40 : decode cX9_back 40 = .ok (.getfield 164, 3) := by decide +kernel
theorem dX9_back_43 : decode cX9_back 43 = .ok (.ifCond .eq 34, 3) := by decide +kernel
theorem dX9_back_46 : decode cX9_back 46 = .ok (.aload_n 0, 1) := by decide +kernel
theorem dX9_back_47 : decode cX9_back 47 = .ok (.getfield 81, 3) := by decide +kernel
theorem dX9_back_50 : decode cX9_back 50 = .ok (.aload_n 0, 1) := by decide +kernel
theorem dX9_back_51 : decode cX9_back 51 = .ok (.getfield 18, 3) := by decide +kernel
theorem dX9_back_54 : decode cX9_back 54 = .ok (.aload_n 0, 1) := by decide +kernel
theorem dX9_back_55 : decode cX9_back 55 = .ok (.getfield 37, 3) := by decide +kernel
theorem dX9_back_58 : decode cX9_back 58 = .ok (.getfield 312, 3) := by decide +kernel
theorem dX9_back_61 : decode cX9_back 61 = .ok (.aaload, 1) := by decide +kernel
theorem dX9_back_62 : decode cX9_back 62 = .ok (.aload_n 0, 1) := by decide +kernel
theorem dX9_back_63 : decode cX9_back 63 = .ok (.getfield 24, 3) := by decide +kernel
theorem dX9_back_66 : decode cX9_back 66 = .ok (.aload_n 0, 1) := by decide +kernel
theorem dX9_back_67 : decode cX9_back 67 = .ok (.getfield 37, 3) := by decide +kernel
theorem dX9_back_70 : decode cX9_back 70 = .ok (.getfield 314, 3) := by decide +kernel
theorem dX9_back_73 : decode cX9_back 73 = .ok (.aaload, 1) := by decide +kernel
theorem dX9_back_74 : decode cX9_back 74 = .ok (.invokevirtual 142, 3) := by decide +kernel
theorem dX9_back_77 : decode cX9_back 77 = .ok (.aload_n 0, 1) := by decide +kernel
theorem dX9_back_78 : decode cX9_back 78 = .ok (.getfield 37, 3) := by decide +kernel
theorem dX9_back_81 : decode cX9_back 81 = .ok (.getfield 154, 3) := by decide +kernel
theorem dX9_back_84 : decode cX9_back 84 = .ok (.ireturn, 1) := by decide +kernel
theorem dX10_init_0 : decode cX10_init 0 = .ok (.aload_n 0, 1) := by decide +kernel
theorem dX10_init_1 : decode cX10_init 1 = .ok (.invokespecial 1, 3) := by decide +kernel
theorem dX10_init_4 : decode cX10_init 4 = .ok (.aload_n 0, 1) := by decide +kernel
theorem dX10_init_5 : decode cX10_init 5 = .ok (.sipush 400, 3) := by decide +kernel
theorem dX10_init_8 : decode cX10_init 8 = .ok (.newarray .byte, 2) := by decide +kernel
theorem dX10_init_10 : decode cX10_init 10 = .ok (.putfield 7, 3) := by decide +kernel
theorem dX10_init_13 : decode cX10_init 13 = .ok (.aload_n 0, 1) := by decide +kernel
theorem dX10_init_14 : decode cX10_init 14 = .ok (.iconst 3, 1) := by decide +kernel
theorem dX10_init_15 : decode cX10_init 15 = .ok (.newarray .int, 2) := by decide +kernel
theorem dX10_init_17 : decode cX10_init 17 = .ok (.putfield 13, 3) := by decide +kernel
theorem dX10_init_20 : decode cX10_init 20 = .ok (.aload_n 0, 1) := by decide +kernel
theorem dX10_init_21 : decode cX10_init 21 = .ok (.sipush 4800, 3) := by decide +kernel
theorem dX10_init_24 : decode cX10_init 24 = .ok (.newarray .int, 2) := by decide +kernel
theorem dX10_init_26 : decode cX10_init 26 = .ok (.putfield 17, 3) := by decide +kernel
theorem dX10_init_29 : decode cX10_init 29 = .ok (.aload_n 0, 1) := by decide +kernel
theorem dX10_init_30 : decode cX10_init 30 = .ok (.bipush 16, 2) := by decide +kernel
theorem dX10_init_32 : decode cX10_init 32 = .ok (.newarray .int, 2) := by decide +kernel
theorem dX10_init_34 : decode cX10_init 34 = .ok (.putfield 20, 3) := by decide +kernel
theorem dX10_init_37 : decode cX10_init 37 = .ok (.aload_n 0, 1) := by decide +kernel
theorem dX10_init_38 : decode cX10_init 38 = .ok (.sipush 720, 3) := by decide +kernel
theorem dX10_init_41 : decode cX10_init 41 = .ok (.newarray .int, 2) := by decide +kernel
theorem dX10_init_43 : decode cX10_init 43 = .ok (.putfield 23, 3) := by decide +kernel
theorem dX10_init_46 : decode cX10_init 46 = .ok (.aload_n 0, 1) := by decide +kernel
theorem dX10_init_47 : decode cX10_init 47 = .ok (.bipush 16, 2) := by decide +kernel
theorem dX10_init_49 : decode cX10_init 49 = .ok (.newarray .int, 2) := by decide +kernel
theorem dX10_init_51 : decode cX10_init 51 = .ok (.putfield 26, 3) := by decide +kernel
theorem dX10_init_54 : decode cX10_init 54 = .ok (.aload_n 0, 1) := by decide +kernel
theorem dX10_init_55 : decode cX10_init 55 = .ok (.bipush 16, 2) := by decide +kernel
theorem dX10_init_57 : decode cX10_init 57 = .ok (.newarray .int, 2) := by decide +kernel
theorem dX10_init_59 : decode cX10_init 59 = .ok (.putfield 29, 3) := by decide +kernel
theorem dX10_init_62 : decode cX10_init 62 = .ok (.aload_n 0, 1) := by decide +kernel
theorem dX10_init_63 : decode cX10_init 63 = .ok (.bipush 16, 2) := by decide +kernel
theorem dX10_init_65 : decode cX10_init 65 = .ok (.newarray .int, 2) := by decide +kernel
theorem dX10_init_67 : decode cX10_init 67 = .ok (.putfield 32, 3) := by decide +kernel
theorem dX10_init_70 : decode cX10_init 70 = .ok (.aload_n 0, 1) := by decide +kernel
theorem dX10_init_71 : decode cX10_init 71 = .ok (.bipush 16, 2) := by decide +kernel
theorem dX10_init_73 : decode cX10_init 73 = .ok (.newarray .int, 2) := by decide +kernel
theorem dX10_init_75 : decode cX10_init 75 = .ok (.putfield 35, 3) := by decide +kernel
theorem dX10_init_78 : decode cX10_init 78 = .ok (.aload_n 0, 1) := by decide +kernel
theorem dX10_init_79 : decode cX10_init 79 = .ok (.bipush 16, 2) := by decide +kernel
theorem dX10_init_81 : decode cX10_init 81 = .ok (.newarray .int, 2) := by decide +kernel
theorem dX10_init_83 : decode cX10_init 83 = .ok (.putfield 38, 3) := by decide +kernel
theorem dX10_init_86 : decode cX10_init 86 = .ok (.aload_n 0, 1) := by decide +kernel
theorem dX10_init_87 : decode cX10_init 87 = .ok (.bipush 16, 2) := by decide +kernel
theorem dX10_init_89 : decode cX10_init 89 = .ok (.newarray .int, 2) := by decide +kernel
theorem dX10_init_91 : decode cX10_init 91 = .ok (.putfield 41, 3) := by decide +kernel
theorem dX10_init_94 : decode cX10_init 94 = .ok (.aload_n 0, 1) := by decide +kernel
theorem dX10_init_95 : decode cX10_init 95 = .ok (.bipush 16, 2) := by decide +kernel
theorem dX10_init_97 : decode cX10_init 97 = .ok (.newarray .int, 2) := by decide +kernel
theorem dX10_init_99 : decode cX10_init 99 = .ok (.putfield 44, 3) := by decide +kernel
theorem dX10_init_102 : decode cX10_init 102 = .ok (.aload_n 0, 1) := by decide +kernel
theorem dX10_init_103 : decode cX10_init 103 = .ok (.bipush 16, 2) := by decide +kernel
theorem dX10_init_105 : decode cX10_init 105 = .ok (.newarray .int, 2) := by decide +kernel
theorem dX10_init_107 : decode cX10_init 107 = .ok (.putfield 47, 3) := by decide +kernel
theorem dX10_init_110 : decode cX10_init 110 = .ok (.aload_n 0, 1) := by decide +kernel
theorem dX10_init_111 : decode cX10_init 111 = .ok (.bipush 16, 2) := by decide +kernel
theorem dX10_init_113 : decode cX10_init 113 = .ok (.newarray .int, 2) := by decide +kernel
theorem dX10_init_115 : decode cX10_init 115 = .ok (.putfield 50, 3) := by decide +kernel
theorem dX10_init_118 : decode cX10_init 118 = .ok (.aload_n 0, 1) := by decide +kernel
theorem dX10_init_119 : decode cX10_init 119 = .ok (.iconst 4, 1) := by decide +kernel
theorem dX10_init_120 : decode cX10_init 120 = .ok (.newarray .int, 2) := by decide +kernel
theorem dX10_init_122 : decode cX10_init 122 = .ok (.putfield 53, 3) := by decide +kernel
theorem dX10_init_125 : decode cX10_init 125 = .ok (.aload_n 0, 1) := by decide +kernel
theorem dX10_init_126 : decode cX10_init 126 = .ok (.bipush 48, 2) := by decide +kernel
theorem dX10_init_128 : decode cX10_init 128 = .ok (.newarray .int, 2) := by decide +kernel
theorem dX10_init_130 : decode cX10_init 130 = .ok (.putfield 56, 3) := by decide +kernel
theorem dX10_init_133 : decode cX10_init 133 = .ok (.aload_n 0, 1) := by decide +kernel
theorem dX10_init_134 : decode cX10_init 134 = .ok (.sipush 3456, 3) := by decide +kernel
theorem dX10_init_137 : decode cX10_init 137 = .ok (.newarray .int, 2) := by decide +kernel
theorem dX10_init_139 : decode cX10_init 139 = .ok (.putfield 59, 3) := by decide +kernel
theorem dX10_init_142 : decode cX10_init 142 = .ok (.aload_n 0, 1) := by decide +kernel
theorem dX10_init_143 : decode cX10_init 143 = .ok (.sipush 400, 3) := by decide +kernel
theorem dX10_init_146 : decode cX10_init 146 = .ok (.newarray .int, 2) := by decide +kernel
theorem dX10_init_148 : decode cX10_init 148 = .ok (.putfield 62, 3) := by decide +kernel
theorem dX10_init_151 : decode cX10_init 151 = .ok (.aload_n 0, 1) := by decide +kernel
theorem dX10_init_152 : decode cX10_init 152 = .ok (.sipush 144, 3) := by decide +kernel
theorem dX10_init_155 : decode cX10_init 155 = .ok (.newarray .int, 2) := by decide +kernel
theorem dX10_init_157 : decode cX10_init 157 = .ok (.putfield 65, 3) := by decide +kernel
theorem dX10_init_160 : decode cX10_init 160 = .ok (.aload_n 0, 1) := by decide +kernel
theorem dX10_init_161 : decode cX10_init 161 = .ok (.sipush 144, 3) := by decide +kernel
theorem dX10_init_164 : decode cX10_init 164 = .ok (.newarray .int, 2) := by decide +kernel
theorem dX10_init_166 : decode cX10_init 166 = .ok (.putfield 68, 3) := by decide +kernel
theorem dX10_init_169 : decode cX10_init 169 = .ok (.aload_n 0, 1) := by decide +kernel
theorem dX10_init_170 : decode cX10_init 170 = .ok (.bipush 64, 2) := by decide +kernel
theorem dX10_init_172 : decode cX10_init 172 = .ok (.newarray .long, 2) := by decide +kernel
theorem dX10_init_174 : decode cX10_init 174 = .ok (.putfield 71, 3) := by decide +kernel
theorem dX10_init_177 : decode cX10_init 177 = .ok (.aload_n 0, 1) := by decide +kernel
theorem dX10_init_178 : decode cX10_init 178 = .ok (.bipush 10, 2) := by decide +kernel
theorem dX10_init_180 : decode cX10_init 180 = .ok (.newarray .long, 2) := by decide +kernel
theorem dX10_init_182 : decode cX10_init 182 = .ok (.putfield 75, 3) := by decide +kernel
theorem dX10_init_185 : decode cX10_init 185 = .ok (.aload_n 0, 1) := by decide +kernel
theorem dX10_init_186 : decode cX10_init 186 = .ok (.sipush 1392, 3) := by decide +kernel
theorem dX10_init_189 : decode cX10_init 189 = .ok (.newarray .int, 2) := by decide +kernel
theorem dX10_init_191 : decode cX10_init 191 = .ok (.putfield 78, 3) := by decide +kernel
theorem dX10_init_194 : decode cX10_init 194 = .ok (.aload_n 0, 1) := by decide +kernel
theorem dX10_init_195 : decode cX10_init 195 = .ok (.sipush 576, 3) := by decide +kernel
theorem dX10_init_198 : decode cX10_init 198 = .ok (.newarray .int, 2) := by decide +kernel
theorem dX10_init_200 : decode cX10_init 200 = .ok (.putfield 81, 3) := by decide +kernel
theorem dX10_init_203 : decode cX10_init 203 = .ok (.aload_n 0, 1) := by decide +kernel
theorem dX10_init_204 : decode cX10_init 204 = .ok (.sipush 576, 3) := by decide +kernel
theorem dX10_init_207 : decode cX10_init 207 = .ok (.newarray .int, 2) := by decide +kernel
theorem dX10_init_209 : decode cX10_init 209 = .ok (.putfield 84, 3) := by decide +kernel
theorem dX10_init_212 : decode cX10_init 212 = .ok (.aload_n 0, 1) := by decide +kernel
theorem dX10_init_213 : decode cX10_init 213 = .ok (.bipush 7, 2) := by decide +kernel
theorem dX10_init_215 : decode cX10_init 215 = .ok (.newarray .int, 2) := by decide +kernel
theorem dX10_init_217 : decode cX10_init 217 = .ok (.putfield 87, 3) := by decide +kernel
theorem dX10_init_220 : decode cX10_init 220 = .ok (.aload_n 0, 1) := by decide +kernel
theorem dX10_init_221 : decode cX10_init 221 = .ok (.bipush 7, 2) := by decide +kernel
theorem dX10_init_223 : decode cX10_init 223 = .ok (.newarray .int, 2) := by decide +kernel
theorem dX10_init_225 : decode cX10_init 225 = .ok (.putfield 90, 3) := by decide +kernel
theorem dX10_init_228 : decode cX10_init 228 = .ok (.aload_n 0, 1) := by decide +kernel
theorem dX10_init_229 : decode cX10_init 229 = .ok (.sipush 144, 3) := by decide +kernel
theorem dX10_init_232 : decode cX10_init 232 = .ok (.newarray .int, 2) := by decide +kernel
theorem dX10_init_234 : decode cX10_init 234 = .ok (.putfield 93, 3) := by decide +kernel
theorem dX10_init_237 : decode cX10_init 237 = .ok (.aload_n 0, 1) := by decide +kernel
theorem dX10_init_238 : decode cX10_init 238 = .ok (.iconst 3, 1) := by decide +kernel
theorem dX10_init_239 : decode cX10_init 239 = .ok (.newarray .int, 2) := by decide +kernel
theorem dX10_init_241 : decode cX10_init 241 = .ok (.putfield 96, 3) := by decide +kernel
theorem dX10_init_244 : decode cX10_init 244 = .ok (.aload_n 0, 1) := by decide +kernel
theorem dX10_init_245 : decode cX10_init 245 = .ok (.sipush 5568, 3) := by decide +kernel
theorem dX10_init_248 : decode cX10_init 248 = .ok (.newarray .int, 2) := by decide +kernel
theorem dX10_init_250 : decode cX10_init 250 = .ok (.putfield 99, 3) := by decide +kernel
theorem dX10_init_253 : decode cX10_init 253 = .ok (.aload_n 0, 1) := by decide +kernel
theorem dX10_init_254 : decode cX10_init 254 = .ok (.iconst 4, 1) := by decide +kernel
theorem dX10_init_255 : decode cX10_init 255 = .ok (.newarray .boolean, 2) := by decide +kernel
theorem dX10_init_257 : decode cX10_init 257 = .ok (.putfield 102, 3) := by decide +kernel
theorem dX10_init_260 : decode cX10_init 260 = .ok (.aload_n 0, 1) := by decide +kernel
theorem dX10_init_261 : decode cX10_init 261 = .ok (.getfield 78, 3) := by decide +kernel
theorem dX10_init_264 : decode cX10_init 264 = .ok (.iconst 0, 1) := by decide +kernel
theorem dX10_init_265 : decode cX10_init 265 = .ok (.iconst (-1), 1) := by decide +kernel
theorem dX10_init_266 : decode cX10_init 266 = .ok (.iastore, 1) := by decide +kernel
theorem dX10_init_267 : decode cX10_init 267 = .ok (.sipush 1382, 3) := by decide +kernel
theorem dX10_init_270 : decode cX10_init 270 = .ok (.istore_n 1, 1) := by decide +kernel
theorem dX10_init_271 : decode cX10_init 271 = .ok (.iload_n 1, 1) := by decide +kernel
theorem dX10_init_272 : decode cX10_init 272 = .ok (.sipush 1390, 3) := by decide +kernel
theorem dX10_init_275 : decode cX10_init 275 = .ok (.if_icmp .ge 16, 3) := by decide +kernel
theorem dX10_init_278 : decode cX10_init 278 = .ok (.aload_n 0, 1) := by decide +kernel
theorem dX10_init_279 : decode cX10_init 279 = .ok (.getfield 78, 3) := by decide +kernel
theorem dX10_init_282 : decode cX10_init 282 = .ok (.iload_n 1, 1) := by decide +kernel
theorem dX10_init_283 : decode cX10_init 283 = .ok (.iconst (-1), 1) := by decide +kernel
theorem dX10_init_284 : decode cX10_init 284 = .ok (.iastore, 1) := by decide +kernel
theorem dX10_init_285 : decode cX10_init 285 = .ok (.iinc 1 1, 3) := by decide +kernel
theorem dX10_init_288 : decode cX10_init 288 = .ok (.goto (-17), 3) := by decide +kernel
theorem dX10_init_291 : decode cX10_init 291 = .ok (.return_, 1) := by decide +kernel
theorem dX10_in_0 : decode cX10_in 0 = .ok (.lload_n 0, 1) := by decide +kernel
theorem dX10_in_1 : decode cX10_in 1 = .ok (.lload_n 2, 1) := by decide +kernel
theorem dX10_in_2 : decode cX10_in 2 = .ok (.lcmp, 1) := by decide +kernel
theorem dX10_in_3 : decode cX10_in 3 = .ok (.ifCond .lt 14, 3) := by decide +kernel
theorem dX10_in_6 : decode cX10_in 6 = .ok (.lload_n 0, 1) := by decide +kernel
theorem dX10_in_7 : decode cX10_in 7 = .ok (.lload 4, 2) := by decide +kernel
theorem dX10_in_9 : decode cX10_in 9 = .ok (.lcmp, 1) := by decide +kernel
theorem dX10_in_10 : decode cX10_in 10 = .ok (.ifCond .gt 7, 3) := by decide +kernel
theorem dX10_in_13 : decode cX10_in 13 = .ok (.iconst 1, 1) := by decide +kernel
theorem dX10_in_14 : decode cX10_in 14 = .ok (.goto 4, 3) := by decide +kernel
theorem dX10_in_17 : decode cX10_in 17 = .ok (.iconst 0, 1) := by decide +kernel
theorem dX10_in_18 : decode cX10_in 18 = .ok (.ireturn, 1) := by decide +kernel
theorem dX10_bounded_0 : decode cX10_bounded 0 = .ok (.lload_n 0, 1) := by decide +kernel
theorem dX10_bounded_1 : decode cX10_bounded 1 = .ok (.lload_n 2, 1) := by decide +kernel
theorem dX10_bounded_2 : decode cX10_bounded 2 = .ok (.lcmp, 1) := by decide +kernel
theorem dX10_bounded_3 : decode cX10_bounded 3 = .ok (.ifCond .ge 7, 3) := by decide +kernel
theorem dX10_bounded_6 : decode cX10_bounded 6 = .ok (.lload_n 2, 1) := by decide +kernel
theorem dX10_bounded_7 : decode cX10_bounded 7 = .ok (.goto 16, 3) := by decide +kernel
theorem dX10_bounded_10 : decode cX10_bounded 10 = .ok (.lload_n 0, 1) := by decide +kernel
theorem dX10_bounded_11 : decode cX10_bounded 11 = .ok (.lload 4, 2) := by decide +kernel
theorem dX10_bounded_13 : decode cX10_bounded 13 = .ok (.lcmp, 1) := by decide +kernel
theorem dX10_bounded_14 : decode cX10_bounded 14 = .ok (.ifCond .le 8, 3) := by decide +kernel
theorem dX10_bounded_17 : decode cX10_bounded 17 = .ok (.lload 4, 2) := by decide +kernel
theorem dX10_bounded_19 : decode cX10_bounded 19 = .ok (.goto 4, 3) := by decide +kernel
theorem dX10_bounded_22 : decode cX10_bounded 22 = .ok (.lload_n 0, 1) := by decide +kernel
theorem dX10_bounded_23 : decode cX10_bounded 23 = .ok (.lreturn, 1) := by decide +kernel
theorem dX10_size_0 : decode cX10_size 0 = .ok (.iload_n 0, 1) := by decide +kernel
theorem dX10_size_1 : decode cX10_size 1 = .ok (.ifCond .ge 8, 3) := by decide +kernel
theorem dX10_size_4 : decode cX10_size 4 = .ok (.iload_n 0, 1) := by decide +kernel
theorem dX10_size_5 : decode cX10_size 5 = .ok (.ineg, 1) := by decide +kernel
theorem dX10_size_6 : decode cX10_size 6 = .ok (.goto 4, 3) := by decide +kernel
theorem dX10_size_9 : decode cX10_size 9 = .ok (.iload_n 0, 1) := by decide +kernel
theorem dX10_size_10 : decode cX10_size 10 = .ok (.ireturn, 1) := by decide +kernel
theorem dX10_four_0 : decode cX10_four 0 = .ok (.bipush 24, 2) := by decide +kernel
theorem dX10_four_2 : decode cX10_four 2 = .ok (.istore_n 2, 1) := by decide +kernel
theorem dX10_four_3 : decode cX10_four 3 = .ok (.iload_n 2, 1) := by decide +kernel
theorem dX10_four_4 : decode cX10_four 4 = .ok (.ifCond .lt 32, 3) := by decide +kernel
theorem dX10_four_7 : decode cX10_four 7 = .ok (.aload_n 0, 1) := by decide +kernel
theorem dX10_four_8 : decode cX10_four 8 = .ok (.getfield 7, 3) := by decide +kernel
theorem dX10_four_11 : decode cX10_four 11 = .ok (.aload_n 0, 1) := by decide +kernel
theorem dX10_four_12 : decode cX10_four 12 = .ok (.getfield 106, 3) := by decide +kernel
theorem dX10_four_15 : decode cX10_four 15 = .ok (.iload_n 1, 1) := by decide +kernel
theorem dX10_four_16 : decode cX10_four 16 = .ok (.iload_n 2, 1) := by decide +kernel
theorem dX10_four_17 : decode cX10_four 17 = .ok (.ishr, 1) := by decide +kernel
theorem dX10_four_18 : decode cX10_four 18 = .ok (.i2b, 1) := by decide +kernel
theorem dX10_four_19 : decode cX10_four 19 = .ok (.bastore, 1) := by decide +kernel
theorem dX10_four_20 : decode cX10_four 20 = .ok (.aload_n 0, 1) := by decide +kernel
theorem dX10_four_21 : decode cX10_four 21 = .ok (.dup, 1) := by decide +kernel
theorem dX10_four_22 : decode cX10_four 22 = .ok (.getfield 106, 3) := by decide +kernel
theorem dX10_four_25 : decode cX10_four 25 = .ok (.iconst 1, 1) := by decide +kernel
theorem dX10_four_26 : decode cX10_four 26 = .ok (.iadd, 1) := by decide +kernel
theorem dX10_four_27 : decode cX10_four 27 = .ok (.putfield 106, 3) := by decide +kernel
theorem dX10_four_30 : decode cX10_four 30 = .ok (.iinc 2 (-8), 3) := by decide +kernel
theorem dX10_four_33 : decode cX10_four 33 = .ok (.goto (-30), 3) := by decide +kernel
theorem dX10_four_36 : decode cX10_four 36 = .ok (.return_, 1) := by decide +kernel
theorem dX10_feed_0 : decode cX10_feed 0 = .ok (.aload_n 0, 1) := by decide +kernel
theorem dX10_feed_1 : decode cX10_feed 1 = .ok (.getfield 106, 3) := by decide +kernel
theorem dX10_feed_4 : decode cX10_feed 4 = .ok (.bipush 20, 2) := by decide +kernel
theorem dX10_feed_6 : decode cX10_feed 6 = .ok (.iadd, 1) := by decide +kernel
theorem dX10_feed_7 : decode cX10_feed 7 = .ok (.sipush 400, 3) := by decide +kernel
theorem dX10_feed_10 : decode cX10_feed 10 = .ok (.if_icmp .le 5, 3) := by decide +kernel
theorem dX10_feed_13 : decode cX10_feed 13 = .ok (.iconst (-1), 1) := by decide +kernel
theorem dX10_feed_14 : decode cX10_feed 14 = .ok (.ireturn, 1) := by decide +kernel
theorem dX10_feed_15 : decode cX10_feed 15 = .ok (.aload_n 0, 1) := by decide +kernel
theorem dX10_feed_16 : decode cX10_feed 16 = .ok (.iload_n 1, 1) := by decide +kernel
theorem dX10_feed_17 : decode cX10_feed 17 = .ok (.invokevirtual 110, 3) := by decide +kernel
theorem dX10_feed_20 : decode cX10_feed 20 = .ok (.aload_n 0, 1) := by decide +kernel
theorem dX10_feed_21 : decode cX10_feed 21 = .ok (.iload_n 2, 1) := by decide +kernel
theorem dX10_feed_22 : decode cX10_feed 22 = .ok (.invokevirtual 110, 3) := by decide +kernel
theorem dX10_feed_25 : decode cX10_feed 25 = .ok (.aload_n 0, 1) := by decide +kernel
theorem dX10_feed_26 : decode cX10_feed 26 = .ok (.iload_n 3, 1) := by decide +kernel
theorem dX10_feed_27 : decode cX10_feed 27 = .ok (.invokevirtual 110, 3) := by decide +kernel
theorem dX10_feed_30 : decode cX10_feed 30 = .ok (.aload_n 0, 1) := by decide +kernel
theorem dX10_feed_31 : decode cX10_feed 31 = .ok (.iload 4, 2) := by decide +kernel
theorem dX10_feed_33 : decode cX10_feed 33 = .ok (.invokevirtual 110, 3) := by decide +kernel
theorem dX10_feed_36 : decode cX10_feed 36 = .ok (.aload_n 0, 1) := by decide +kernel
theorem dX10_feed_37 : decode cX10_feed 37 = .ok (.iload 5, 2) := by decide +kernel
theorem dX10_feed_39 : decode cX10_feed 39 = .ok (.invokevirtual 110, 3) := by decide +kernel
theorem dX10_feed_42 : decode cX10_feed 42 = .ok (.aload_n 0, 1) := by decide +kernel
theorem dX10_feed_43 : decode cX10_feed 43 = .ok (.getfield 106, 3) := by decide +kernel
theorem dX10_feed_46 : decode cX10_feed 46 = .ok (.ireturn, 1) := by decide +kernel
theorem dX10_end_0 : decode cX10_end 0 = .ok (.iload_n 1, 1) := by decide +kernel
theorem dX10_end_1 : decode cX10_end 1 = .ok (.ifCond .lt 11, 3) := by decide +kernel
theorem dX10_end_4 : decode cX10_end 4 = .ok (.iload_n 1, 1) := by decide +kernel
theorem dX10_end_5 : decode cX10_end 5 = .ok (.aload_n 0, 1) := by decide +kernel
theorem dX10_end_6 : decode cX10_end 6 = .ok (.getfield 106, 3) := by decide +kernel
theorem dX10_end_9 : decode cX10_end 9 = .ok (.if_icmp .le 5, 3) := by decide +kernel
theorem dX10_end_12 : decode cX10_end 12 = .ok (.iconst (-1), 1) := by decide +kernel
theorem dX10_end_13 : decode cX10_end 13 = .ok (.ireturn, 1) := by decide +kernel
theorem dX10_end_14 : decode cX10_end 14 = .ok (.aload_n 0, 1) := by decide +kernel
theorem dX10_end_15 : decode cX10_end 15 = .ok (.iload_n 1, 1) := by decide +kernel
theorem dX10_end_16 : decode cX10_end 16 = .ok (.putfield 106, 3) := by decide +kernel
theorem dX10_end_19 : decode cX10_end 19 = .ok (.iload_n 1, 1) := by decide +kernel
theorem dX10_end_20 : decode cX10_end 20 = .ok (.ireturn, 1) := by decide +kernel
theorem dX10_fails_0 : decode cX10_fails 0 = .ok (.aload_n 0, 1) := by decide +kernel
theorem dX10_fails_1 : decode cX10_fails 1 = .ok (.getfield 114, 3) := by decide +kernel
theorem dX10_fails_4 : decode cX10_fails 4 = .ok (.ifCond .ne 15, 3) := by decide +kernel
theorem dX10_fails_7 : decode cX10_fails 7 = .ok (.aload_n 0, 1) := by decide +kernel
theorem dX10_fails_8 : decode cX10_fails 8 = .ok (.iconst 1, 1) := by decide +kernel
theorem dX10_fails_9 : decode cX10_fails 9 = .ok (.bipush 8, 2) := by decide +kernel
theorem dX10_fails_11 : decode cX10_fails 11 = .ok (.iload_n 2, 1) := by decide +kernel
theorem dX10_fails_12 : decode cX10_fails 12 = .ok (.imul, 1) := by decide +kernel
theorem dX10_fails_13 : decode cX10_fails 13 = .ok (.iadd, 1) := by decide +kernel
theorem dX10_fails_14 : decode cX10_fails 14 = .ok (.iload_n 1, 1) := by decide +kernel
theorem dX10_fails_15 : decode cX10_fails 15 = .ok (.iadd, 1) := by decide +kernel
theorem dX10_fails_16 : decode cX10_fails 16 = .ok (.putfield 114, 3) := by decide +kernel
theorem dX10_fails_19 : decode cX10_fails 19 = .ok (.iconst 0, 1) := by decide +kernel
theorem dX10_fails_20 : decode cX10_fails 20 = .ok (.ireturn, 1) := by decide +kernel
theorem dX10_see_0 : decode cX10_see 0 = .ok (.aload_n 0, 1) := by decide +kernel
theorem dX10_see_1 : decode cX10_see 1 = .ok (.getfield 117, 3) := by decide +kernel
theorem dX10_see_4 : decode cX10_see 4 = .ok (.aload_n 0, 1) := by decide +kernel
theorem dX10_see_5 : decode cX10_see 5 = .ok (.getfield 106, 3) := by decide +kernel
theorem dX10_see_8 : decode cX10_see 8 = .ok (.if_icmp .ge 30, 3) := by decide +kernel
theorem dX10_see_11 : decode cX10_see 11 = .ok (.aload_n 0, 1) := by decide +kernel
theorem dX10_see_12 : decode cX10_see 12 = .ok (.getfield 7, 3) := by decide +kernel
theorem dX10_see_15 : decode cX10_see 15 = .ok (.aload_n 0, 1) := by decide +kernel
theorem dX10_see_16 : decode cX10_see 16 = .ok (.getfield 117, 3) := by decide +kernel
theorem dX10_see_19 : decode cX10_see 19 = .ok (.baload, 1) := by decide +kernel
theorem dX10_see_20 : decode cX10_see 20 = .ok (.bipush 32, 2) := by decide +kernel
theorem dX10_see_22 : decode cX10_see 22 = .ok (.if_icmp .ne 16, 3) := by decide +kernel
theorem dX10_see_25 : decode cX10_see 25 = .ok (.aload_n 0, 1) := by decide +kernel
theorem dX10_see_26 : decode cX10_see 26 = .ok (.dup, 1) := by decide +kernel
theorem dX10_see_27 : decode cX10_see 27 = .ok (.getfield 117, 3) := by decide +kernel
theorem dX10_see_30 : decode cX10_see 30 = .ok (.iconst 1, 1) := by decide +kernel
theorem dX10_see_31 : decode cX10_see 31 = .ok (.iadd, 1) := by decide +kernel
theorem dX10_see_32 : decode cX10_see 32 = .ok (.putfield 117, 3) := by decide +kernel
theorem dX10_see_35 : decode cX10_see 35 = .ok (.goto (-35), 3) := by decide +kernel
theorem dX10_see_38 : decode cX10_see 38 = .ok (.aload_n 0, 1) := by decide +kernel
theorem dX10_see_39 : decode cX10_see 39 = .ok (.getfield 117, 3) := by decide +kernel
theorem dX10_see_42 : decode cX10_see 42 = .ok (.aload_n 0, 1) := by decide +kernel
theorem dX10_see_43 : decode cX10_see 43 = .ok (.getfield 106, 3) := by decide +kernel
theorem dX10_see_46 : decode cX10_see 46 = .ok (.if_icmp .ge 19, 3) := by decide +kernel
theorem dX10_see_49 : decode cX10_see 49 = .ok (.aload_n 0, 1) := by decide +kernel
theorem dX10_see_50 : decode cX10_see 50 = .ok (.getfield 7, 3) := by decide +kernel
theorem dX10_see_53 : decode cX10_see 53 = .ok (.aload_n 0, 1) := by decide +kernel
theorem dX10_see_54 : decode cX10_see 54 = .ok (.getfield 117, 3) := by decide +kernel
theorem dX10_see_57 : decode cX10_see 57 = .ok (.baload, 1) := by decide +kernel
theorem dX10_see_58 : decode cX10_see 58 = .ok (.sipush 255, 3) := by decide +kernel
theorem dX10_see_61 : decode cX10_see 61 = .ok (.iand, 1) := by decide +kernel
theorem dX10_see_62 : decode cX10_see 62 = .ok (.goto 4, 3) := by decide +kernel
theorem dX10_see_65 : decode cX10_see 65 = .ok (.iconst (-1), 1) := by decide +kernel
theorem dX10_see_66 : decode cX10_see 66 = .ok (.ireturn, 1) := by decide +kernel
theorem dX10_isDigit_0 : decode cX10_isDigit 0 = .ok (.iload_n 1, 1) := by decide +kernel
theorem dX10_isDigit_1 : decode cX10_isDigit 1 = .ok (.aload_n 0, 1) := by decide +kernel
theorem dX10_isDigit_2 : decode cX10_isDigit 2 = .ok (.getfield 106, 3) := by decide +kernel
theorem dX10_isDigit_5 : decode cX10_isDigit 5 = .ok (.if_icmp .ge 29, 3) := by decide +kernel
theorem dX10_isDigit_8 : decode cX10_isDigit 8 = .ok (.aload_n 0, 1) := by decide +kernel
theorem dX10_isDigit_9 : decode cX10_isDigit 9 = .ok (.getfield 7, 3) := by decide +kernel
theorem dX10_isDigit_12 : decode cX10_isDigit 12 = .ok (.iload_n 1, 1) := by decide +kernel
theorem dX10_isDigit_13 : decode cX10_isDigit 13 = .ok (.baload, 1) := by decide +kernel
theorem dX10_isDigit_14 : decode cX10_isDigit 14 = .ok (.bipush 48, 2) := by decide +kernel
theorem dX10_isDigit_16 : decode cX10_isDigit 16 = .ok (.if_icmp .lt 18, 3) := by decide +kernel
theorem dX10_isDigit_19 : decode cX10_isDigit 19 = .ok (.aload_n 0, 1) := by decide +kernel
theorem dX10_isDigit_20 : decode cX10_isDigit 20 = .ok (.getfield 7, 3) := by decide +kernel
theorem dX10_isDigit_23 : decode cX10_isDigit 23 = .ok (.iload_n 1, 1) := by decide +kernel
theorem dX10_isDigit_24 : decode cX10_isDigit 24 = .ok (.baload, 1) := by decide +kernel
theorem dX10_isDigit_25 : decode cX10_isDigit 25 = .ok (.bipush 57, 2) := by decide +kernel
theorem dX10_isDigit_27 : decode cX10_isDigit 27 = .ok (.if_icmp .gt 7, 3) := by decide +kernel
theorem dX10_isDigit_30 : decode cX10_isDigit 30 = .ok (.iconst 1, 1) := by decide +kernel
theorem dX10_isDigit_31 : decode cX10_isDigit 31 = .ok (.goto 4, 3) := by decide +kernel
theorem dX10_isDigit_34 : decode cX10_isDigit 34 = .ok (.iconst 0, 1) := by decide +kernel
theorem dX10_isDigit_35 : decode cX10_isDigit 35 = .ok (.ireturn, 1) := by decide +kernel
theorem dX10_isLetter_0 : decode cX10_isLetter 0 = .ok (.iload_n 1, 1) := by decide +kernel
theorem dX10_isLetter_1 : decode cX10_isLetter 1 = .ok (.aload_n 0, 1) := by decide +kernel
theorem dX10_isLetter_2 : decode cX10_isLetter 2 = .ok (.getfield 106, 3) := by decide +kernel
theorem dX10_isLetter_5 : decode cX10_isLetter 5 = .ok (.if_icmp .ge 29, 3) := by decide +kernel
theorem dX10_isLetter_8 : decode cX10_isLetter 8 = .ok (.aload_n 0, 1) := by decide +kernel
theorem dX10_isLetter_9 : decode cX10_isLetter 9 = .ok (.getfield 7, 3) := by decide +kernel
theorem dX10_isLetter_12 : decode cX10_isLetter 12 = .ok (.iload_n 1, 1) := by decide +kernel
theorem dX10_isLetter_13 : decode cX10_isLetter 13 = .ok (.baload, 1) := by decide +kernel
theorem dX10_isLetter_14 : decode cX10_isLetter 14 = .ok (.bipush 97, 2) := by decide +kernel
theorem dX10_isLetter_16 : decode cX10_isLetter 16 = .ok (.if_icmp .lt 18, 3) := by decide +kernel
theorem dX10_isLetter_19 : decode cX10_isLetter 19 = .ok (.aload_n 0, 1) := by decide +kernel
theorem dX10_isLetter_20 : decode cX10_isLetter 20 = .ok (.getfield 7, 3) := by decide +kernel
theorem dX10_isLetter_23 : decode cX10_isLetter 23 = .ok (.iload_n 1, 1) := by decide +kernel
theorem dX10_isLetter_24 : decode cX10_isLetter 24 = .ok (.baload, 1) := by decide +kernel
theorem dX10_isLetter_25 : decode cX10_isLetter 25 = .ok (.bipush 122, 2) := by decide +kernel
theorem dX10_isLetter_27 : decode cX10_isLetter 27 = .ok (.if_icmp .gt 7, 3) := by decide +kernel
theorem dX10_isLetter_30 : decode cX10_isLetter 30 = .ok (.iconst 1, 1) := by decide +kernel
theorem dX10_isLetter_31 : decode cX10_isLetter 31 = .ok (.goto 4, 3) := by decide +kernel
theorem dX10_isLetter_34 : decode cX10_isLetter 34 = .ok (.iconst 0, 1) := by decide +kernel
theorem dX10_isLetter_35 : decode cX10_isLetter 35 = .ok (.ireturn, 1) := by decide +kernel
theorem dX10_isWord_0 : decode cX10_isWord 0 = .ok (.aload_n 0, 1) := by decide +kernel
theorem dX10_isWord_1 : decode cX10_isWord 1 = .ok (.invokevirtual 120, 3) := by decide +kernel
theorem dX10_isWord_4 : decode cX10_isWord 4 = .ok (.pop, 1) := by decide +kernel
theorem dX10_isWord_5 : decode cX10_isWord 5 = .ok (.lconst 0, 1) := by decide +kernel
theorem dX10_isWord_6 : decode cX10_isWord 6 = .ok (.lstore_n 3, 1) := by decide +kernel
theorem dX10_isWord_7 : decode cX10_isWord 7 = .ok (.iconst 0, 1) := by decide +kernel
theorem dX10_isWord_8 : decode cX10_isWord 8 = .ok (.istore 5, 2) := by decide +kernel
theorem dX10_isWord_10 : decode cX10_isWord 10 = .ok (.aload_n 0, 1) := by decide +kernel
theorem dX10_isWord_11 : decode cX10_isWord 11 = .ok (.aload_n 0, 1) := by decide +kernel
theorem dX10_isWord_12 : decode cX10_isWord 12 = .ok (.getfield 117, 3) := by decide +kernel
theorem dX10_isWord_15 : decode cX10_isWord 15 = .ok (.iload 5, 2) := by decide +kernel
theorem dX10_isWord_17 : decode cX10_isWord 17 = .ok (.iadd, 1) := by decide +kernel
theorem dX10_isWord_18 : decode cX10_isWord 18 = .ok (.invokevirtual 123, 3) := by decide +kernel
theorem dX10_isWord_21 : decode cX10_isWord 21 = .ok (.ifCond .eq 35, 3) := by decide +kernel
theorem dX10_isWord_24 : decode cX10_isWord 24 = .ok (.iload 5, 2) := by decide +kernel
theorem dX10_isWord_26 : decode cX10_isWord 26 = .ok (.bipush 8, 2) := by decide +kernel
theorem dX10_isWord_28 : decode cX10_isWord 28 = .ok (.if_icmp .ge 22, 3) := by decide +kernel
theorem dX10_isWord_31 : decode cX10_isWord 31 = .ok (.lload_n 3, 1) := by decide +kernel
theorem dX10_isWord_32 : decode cX10_isWord 32 = .ok (.bipush 8, 2) := by decide +kernel
theorem dX10_isWord_34 : decode cX10_isWord 34 = .ok (.lshl, 1) := by decide +kernel
theorem dX10_isWord_35 : decode cX10_isWord 35 = .ok (.aload_n 0, 1) := by decide +kernel
theorem dX10_isWord_36 : decode cX10_isWord 36 = .ok (.getfield 7, 3) := by decide +kernel
theorem dX10_isWord_39 : decode cX10_isWord 39 = .ok (.aload_n 0, 1) := by decide +kernel
theorem dX10_isWord_40 : decode cX10_isWord 40 = .ok (.getfield 117, 3) := by decide +kernel
theorem dX10_isWord_43 : decode cX10_isWord 43 = .ok (.iload 5, 2) := by decide +kernel
theorem dX10_isWord_45 : decode cX10_isWord 45 = .ok (.iadd, 1) := by decide +kernel
theorem dX10_isWord_46 : decode cX10_isWord 46 = .ok (.baload, 1) := by decide +kernel
theorem dX10_isWord_47 : decode cX10_isWord 47 = .ok (.i2l, 1) := by decide +kernel
theorem dX10_isWord_48 : decode cX10_isWord 48 = .ok (.lor, 1) := by decide +kernel
theorem dX10_isWord_49 : decode cX10_isWord 49 = .ok (.lstore_n 3, 1) := by decide +kernel
theorem dX10_isWord_50 : decode cX10_isWord 50 = .ok (.iinc 5 1, 3) := by decide +kernel
theorem dX10_isWord_53 : decode cX10_isWord 53 = .ok (.goto (-43), 3) := by decide +kernel
theorem dX10_isWord_56 : decode cX10_isWord 56 = .ok (.iload 5, 2) := by decide +kernel
theorem dX10_isWord_58 : decode cX10_isWord 58 = .ok (.ifCond .le 20, 3) := by decide +kernel
theorem dX10_isWord_61 : decode cX10_isWord 61 = .ok (.iload 5, 2) := by decide +kernel
theorem dX10_isWord_63 : decode cX10_isWord 63 = .ok (.bipush 8, 2) := by decide +kernel
theorem dX10_isWord_65 : decode cX10_isWord 65 = .ok (.if_icmp .ge 13, 3) := by decide +kernel
theorem dX10_isWord_68 : decode cX10_isWord 68 = .ok (.lload_n 3, 1) := by decide +kernel
theorem dX10_isWord_69 : decode cX10_isWord 69 = .ok (.lload_n 1, 1) := by decide +kernel
theorem dX10_isWord_70 : decode cX10_isWord 70 = .ok (.lcmp, 1) := by decide +kernel
theorem dX10_isWord_71 : decode cX10_isWord 71 = .ok (.ifCond .ne 7, 3) := by decide +kernel
theorem dX10_isWord_74 : decode cX10_isWord 74 = .ok (.iconst 1, 1) := by decide +kernel
theorem dX10_isWord_75 : decode cX10_isWord 75 = .ok (.goto 4, 3) := by decide +kernel
theorem dX10_isWord_78 : decode cX10_isWord 78 = .ok (.iconst 0, 1) := by decide +kernel
theorem dX10_isWord_79 : decode cX10_isWord 79 = .ok (.ireturn, 1) := by decide +kernel
theorem dX10_passWord_0 : decode cX10_passWord 0 = .ok (.aload_n 0, 1) := by decide +kernel
theorem dX10_passWord_1 : decode cX10_passWord 1 = .ok (.aload_n 0, 1) := by decide +kernel
theorem dX10_passWord_2 : decode cX10_passWord 2 = .ok (.getfield 117, 3) := by decide +kernel
theorem dX10_passWord_5 : decode cX10_passWord 5 = .ok (.invokevirtual 123, 3) := by decide +kernel
theorem dX10_passWord_8 : decode cX10_passWord 8 = .ok (.ifCond .eq 16, 3) := by decide +kernel
theorem dX10_passWord_11 : decode cX10_passWord 11 = .ok (.aload_n 0, 1) := by decide +kernel
theorem dX10_passWord_12 : decode cX10_passWord 12 = .ok (.dup, 1) := by decide +kernel
theorem dX10_passWord_13 : decode cX10_passWord 13 = .ok (.getfield 117, 3) := by decide +kernel
theorem dX10_passWord_16 : decode cX10_passWord 16 = .ok (.iconst 1, 1) := by decide +kernel
theorem dX10_passWord_17 : decode cX10_passWord 17 = .ok (.iadd, 1) := by decide +kernel
theorem dX10_passWord_18 : decode cX10_passWord 18 = .ok (.putfield 117, 3) := by decide +kernel
theorem dX10_passWord_21 : decode cX10_passWord 21 = .ok (.goto (-21), 3) := by decide +kernel
theorem dX10_passWord_24 : decode cX10_passWord 24 = .ok (.return_, 1) := by decide +kernel
theorem dX10_takesWord_0 : decode cX10_takesWord 0 = .ok (.aload_n 0, 1) := by decide +kernel
theorem dX10_takesWord_1 : decode cX10_takesWord 1 = .ok (.lload_n 1, 1) := by decide +kernel
theorem dX10_takesWord_2 : decode cX10_takesWord 2 = .ok (.invokevirtual 127, 3) := by decide +kernel
theorem dX10_takesWord_5 : decode cX10_takesWord 5 = .ok (.ifCond .ne 5, 3) := by decide +kernel
theorem dX10_takesWord_8 : decode cX10_takesWord 8 = .ok (.iconst 0, 1) := by decide +kernel
theorem dX10_takesWord_9 : decode cX10_takesWord 9 = .ok (.ireturn, 1) := by decide +kernel
theorem dX10_takesWord_10 : decode cX10_takesWord 10 = .ok (.aload_n 0, 1) := by decide +kernel
theorem dX10_takesWord_11 : decode cX10_takesWord 11 = .ok (.invokevirtual 131, 3) := by decide +kernel
theorem dX10_takesWord_14 : decode cX10_takesWord 14 = .ok (.iconst 1, 1) := by decide +kernel
theorem dX10_takesWord_15 : decode cX10_takesWord 15 = .ok (.ireturn, 1) := by decide +kernel
theorem dX10_numberHere_0 : decode cX10_numberHere 0 = .ok (.aload_n 0, 1) := by decide +kernel
theorem dX10_numberHere_1 : decode cX10_numberHere 1 = .ok (.invokevirtual 120, 3) := by decide +kernel
theorem dX10_numberHere_4 : decode cX10_numberHere 4 = .ok (.pop, 1) := by decide +kernel
theorem dX10_numberHere_5 : decode cX10_numberHere 5 = .ok (.aload_n 0, 1) := by decide +kernel
theorem dX10_numberHere_6 : decode cX10_numberHere 6 = .ok (.aload_n 0, 1) := by decide +kernel
theorem dX10_numberHere_7 : decode cX10_numberHere 7 = .ok (.getfield 117, 3) := by decide +kernel
theorem dX10_numberHere_10 : decode cX10_numberHere 10 = .ok (.invokevirtual 134, 3) := by decide +kernel
theorem dX10_numberHere_13 : decode cX10_numberHere 13 = .ok (.ifCond .ne 13, 3) := by decide +kernel
theorem dX10_numberHere_16 : decode cX10_numberHere 16 = .ok (.aload_n 0, 1) := by decide +kernel
theorem dX10_numberHere_17 : decode cX10_numberHere 17 = .ok (.iconst 0, 1) := by decide +kernel
theorem dX10_numberHere_18 : decode cX10_numberHere 18 = .ok (.aload_n 0, 1) := by decide +kernel
theorem dX10_numberHere_19 : decode cX10_numberHere 19 = .ok (.getfield 117, 3) := by decide +kernel
theorem dX10_numberHere_22 : decode cX10_numberHere 22 = .ok (.invokevirtual 137, 3) := by decide +kernel
theorem dX10_numberHere_25 : decode cX10_numberHere 25 = .ok (.ireturn, 1) := by decide +kernel
theorem dX10_numberHere_26 : decode cX10_numberHere 26 = .ok (.aload_n 0, 1) := by decide +kernel
theorem dX10_numberHere_27 : decode cX10_numberHere 27 = .ok (.getfield 117, 3) := by decide +kernel
theorem dX10_numberHere_30 : decode cX10_numberHere 30 = .ok (.istore_n 3, 1) := by decide +kernel
theorem dX10_numberHere_31 : decode cX10_numberHere 31 = .ok (.iconst 0, 1) := by decide +kernel
theorem dX10_numberHere_32 : decode cX10_numberHere 32 = .ok (.istore 4, 2) := by decide +kernel
theorem dX10_numberHere_34 : decode cX10_numberHere 34 = .ok (.aload_n 0, 1) := by decide +kernel
theorem dX10_numberHere_35 : decode cX10_numberHere 35 = .ok (.aload_n 0, 1) := by decide +kernel
theorem dX10_numberHere_36 : decode cX10_numberHere 36 = .ok (.getfield 117, 3) := by decide +kernel
theorem dX10_numberHere_39 : decode cX10_numberHere 39 = .ok (.invokevirtual 134, 3) := by decide +kernel
theorem dX10_numberHere_42 : decode cX10_numberHere 42 = .ok (.ifCond .eq 46, 3) := by decide +kernel
theorem dX10_numberHere_45 : decode cX10_numberHere 45 = .ok (.aload_n 0, 1) := by decide +kernel
theorem dX10_numberHere_46 : decode cX10_numberHere 46 = .ok (.getfield 117, 3) := by decide +kernel
theorem dX10_numberHere_49 : decode cX10_numberHere 49 = .ok (.iload_n 3, 1) := by decide +kernel
theorem dX10_numberHere_50 : decode cX10_numberHere 50 = .ok (.isub, 1) := by decide +kernel
theorem dX10_numberHere_51 : decode cX10_numberHere 51 = .ok (.iconst 5, 1) := by decide +kernel
theorem dX10_numberHere_52 : decode cX10_numberHere 52 = .ok (.if_icmp .ge 23, 3) := by decide +kernel
theorem dX10_numberHere_55 : decode cX10_numberHere 55 = .ok (.bipush 10, 2) := by decide +kernel
theorem dX10_numberHere_57 : decode cX10_numberHere 57 = .ok (.iload 4, 2) := by decide +kernel
theorem dX10_numberHere_59 : decode cX10_numberHere 59 = .ok (.imul, 1) := by decide +kernel
theorem dX10_numberHere_60 : decode cX10_numberHere 60 = .ok (.aload_n 0, 1) := by decide +kernel
theorem dX10_numberHere_61 : decode cX10_numberHere 61 = .ok (.getfield 7, 3) := by decide +kernel
theorem dX10_numberHere_64 : decode cX10_numberHere 64 = .ok (.aload_n 0, 1) := by decide +kernel
theorem dX10_numberHere_65 : decode cX10_numberHere 65 = .ok (.getfield 117, 3) := by decide +kernel
theorem dX10_numberHere_68 : decode cX10_numberHere 68 = .ok (.baload, 1) := by decide +kernel
theorem dX10_numberHere_69 : decode cX10_numberHere 69 = .ok (.iadd, 1) := by decide +kernel
theorem dX10_numberHere_70 : decode cX10_numberHere 70 = .ok (.bipush 48, 2) := by decide +kernel
theorem dX10_numberHere_72 : decode cX10_numberHere 72 = .ok (.isub, 1) := by decide +kernel
theorem dX10_numberHere_73 : decode cX10_numberHere 73 = .ok (.istore 4, 2) := by decide +kernel
theorem dX10_numberHere_75 : decode cX10_numberHere 75 = .ok (.aload_n 0, 1) := by decide +kernel
theorem dX10_numberHere_76 : decode cX10_numberHere 76 = .ok (.dup, 1) := by decide +kernel
theorem dX10_numberHere_77 : decode cX10_numberHere 77 = .ok (.getfield 117, 3) := by decide +kernel
theorem dX10_numberHere_80 : decode cX10_numberHere 80 = .ok (.iconst 1, 1) := by decide +kernel
theorem dX10_numberHere_81 : decode cX10_numberHere 81 = .ok (.iadd, 1) := by decide +kernel
theorem dX10_numberHere_82 : decode cX10_numberHere 82 = .ok (.putfield 117, 3) := by decide +kernel
theorem dX10_numberHere_85 : decode cX10_numberHere 85 = .ok (.goto (-51), 3) := by decide +kernel
theorem dX10_numberHere_88 : decode cX10_numberHere 88 = .ok (.aload_n 0, 1) := by decide +kernel
theorem dX10_numberHere_89 : decode cX10_numberHere 89 = .ok (.iload 4, 2) := by decide +kernel
theorem dX10_numberHere_91 : decode cX10_numberHere 91 = .ok (.putfield 141, 3) := by decide +kernel
theorem dX10_numberHere_94 : decode cX10_numberHere 94 = .ok (.aload_n 0, 1) := by decide +kernel
theorem dX10_numberHere_95 : decode cX10_numberHere 95 = .ok (.getfield 117, 3) := by decide +kernel
theorem dX10_numberHere_98 : decode cX10_numberHere 98 = .ok (.iload_n 3, 1) := by decide +kernel
theorem dX10_numberHere_99 : decode cX10_numberHere 99 = .ok (.isub, 1) := by decide +kernel
theorem dX10_numberHere_100 : decode cX10_numberHere 100 = .ok (.iconst 5, 1) := by decide +kernel
theorem dX10_numberHere_101 : decode cX10_numberHere 101 = .ok (.if_icmp .gt 16, 3) := by decide +kernel
theorem dX10_numberHere_104 : decode cX10_numberHere 104 = .ok (.iload 4, 2) := by decide +kernel
theorem dX10_numberHere_106 : decode cX10_numberHere 106 = .ok (.i2l, 1) := by decide +kernel
theorem dX10_numberHere_107 : decode cX10_numberHere 107 = .ok (.iload_n 1, 1) := by decide +kernel
theorem dX10_numberHere_108 : decode cX10_numberHere 108 = .ok (.i2l, 1) := by decide +kernel
theorem dX10_numberHere_109 : decode cX10_numberHere 109 = .ok (.iload_n 2, 1) := by decide +kernel
theorem dX10_numberHere_110 : decode cX10_numberHere 110 = .ok (.i2l, 1) := by decide +kernel
theorem dX10_numberHere_111 : decode cX10_numberHere 111 = .ok (.invokestatic 144, 3) := by decide +kernel
theorem dX10_numberHere_114 : decode cX10_numberHere 114 = .ok (.ifCond .ne 12, 3) := by decide +kernel
theorem dX10_numberHere_117 : decode cX10_numberHere 117 = .ok (.aload_n 0, 1) := by decide +kernel
theorem dX10_numberHere_118 : decode cX10_numberHere 118 = .ok (.iconst 1, 1) := by decide +kernel
theorem dX10_numberHere_119 : decode cX10_numberHere 119 = .ok (.iload_n 3, 1) := by decide +kernel
theorem dX10_numberHere_120 : decode cX10_numberHere 120 = .ok (.invokevirtual 137, 3) := by decide +kernel
theorem dX10_numberHere_123 : decode cX10_numberHere 123 = .ok (.ifCond .eq 7, 3) := by decide +kernel
theorem dX10_numberHere_126 : decode cX10_numberHere 126 = .ok (.iconst 1, 1) := by decide +kernel
theorem dX10_numberHere_127 : decode cX10_numberHere 127 = .ok (.goto 4, 3) := by decide +kernel
theorem dX10_numberHere_130 : decode cX10_numberHere 130 = .ok (.iconst 0, 1) := by decide +kernel
theorem dX10_numberHere_131 : decode cX10_numberHere 131 = .ok (.ireturn, 1) := by decide +kernel
theorem dX10_wordHere_0 : decode cX10_wordHere 0 = .ok (.aload_n 0, 1) := by decide +kernel
theorem dX10_wordHere_1 : decode cX10_wordHere 1 = .ok (.getfield 148, 3) := by decide +kernel
theorem dX10_wordHere_4 : decode cX10_wordHere 4 = .ok (.bipush 6, 2) := by decide +kernel
theorem dX10_wordHere_6 : decode cX10_wordHere 6 = .ok (.if_icmp .ge 75, 3) := by decide +kernel
theorem dX10_wordHere_9 : decode cX10_wordHere 9 = .ok (.aload_n 0, 1) := by decide +kernel
theorem dX10_wordHere_10 : decode cX10_wordHere 10 = .ok (.ldc2_w 151, 3) := by decide +kernel
theorem dX10_wordHere_13 : decode cX10_wordHere 13 = .ok (.invokevirtual 127, 3) := by decide +kernel
theorem dX10_wordHere_16 : decode cX10_wordHere 16 = .ok (.ifCond .eq 7, 3) := by decide +kernel
theorem dX10_wordHere_19 : decode cX10_wordHere 19 = .ok (.iconst 0, 1) := by decide +kernel
theorem dX10_wordHere_20 : decode cX10_wordHere 20 = .ok (.goto 60, 3) := by decide +kernel
theorem dX10_wordHere_23 : decode cX10_wordHere 23 = .ok (.aload_n 0, 1) := by decide +kernel
theorem dX10_wordHere_24 : decode cX10_wordHere 24 = .ok (.ldc2_w 153, 3) := by decide +kernel
theorem dX10_wordHere_27 : decode cX10_wordHere 27 = .ok (.invokevirtual 127, 3) := by decide +kernel
theorem dX10_wordHere_30 : decode cX10_wordHere 30 = .ok (.ifCond .eq 7, 3) := by decide +kernel
theorem dX10_wordHere_33 : decode cX10_wordHere 33 = .ok (.iconst 1, 1) := by decide +kernel
theorem dX10_wordHere_34 : decode cX10_wordHere 34 = .ok (.goto 46, 3) := by decide +kernel
theorem dX10_wordHere_37 : decode cX10_wordHere 37 = .ok (.aload_n 0, 1) := by decide +kernel
theorem dX10_wordHere_38 : decode cX10_wordHere 38 = .ok (.ldc2_w 155, 3) := by decide +kernel
theorem dX10_wordHere_41 : decode cX10_wordHere 41 = .ok (.invokevirtual 127, 3) := by decide +kernel
theorem dX10_wordHere_44 : decode cX10_wordHere 44 = .ok (.ifCond .eq 7, 3) := by decide +kernel
theorem dX10_wordHere_47 : decode cX10_wordHere 47 = .ok (.iconst 2, 1) := by decide +kernel
theorem dX10_wordHere_48 : decode cX10_wordHere 48 = .ok (.goto 32, 3) := by decide +kernel
theorem dX10_wordHere_51 : decode cX10_wordHere 51 = .ok (.aload_n 0, 1) := by decide +kernel
theorem dX10_wordHere_52 : decode cX10_wordHere 52 = .ok (.ldc2_w 157, 3) := by decide +kernel
theorem dX10_wordHere_55 : decode cX10_wordHere 55 = .ok (.invokevirtual 127, 3) := by decide +kernel
theorem dX10_wordHere_58 : decode cX10_wordHere 58 = .ok (.ifCond .eq 7, 3) := by decide +kernel
theorem dX10_wordHere_61 : decode cX10_wordHere 61 = .ok (.iconst 3, 1) := by decide +kernel
theorem dX10_wordHere_62 : decode cX10_wordHere 62 = .ok (.goto 18, 3) := by decide +kernel
theorem dX10_wordHere_65 : decode cX10_wordHere 65 = .ok (.aload_n 0, 1) := by decide +kernel
theorem dX10_wordHere_66 : decode cX10_wordHere 66 = .ok (.ldc2_w 159, 3) := by decide +kernel
theorem dX10_wordHere_69 : decode cX10_wordHere 69 = .ok (.invokevirtual 127, 3) := by decide +kernel
theorem dX10_wordHere_72 : decode cX10_wordHere 72 = .ok (.ifCond .eq 7, 3) := by decide +kernel
theorem dX10_wordHere_75 : decode cX10_wordHere 75 = .ok (.iconst 4, 1) := by decide +kernel
theorem dX10_wordHere_76 : decode cX10_wordHere 76 = .ok (.goto 4, 3) := by decide +kernel
theorem dX10_wordHere_79 : decode cX10_wordHere 79 = .ok (.iconst (-1), 1) := by decide +kernel
theorem dX10_wordHere_80 : decode cX10_wordHere 80 = .ok (.ireturn, 1) := by decide +kernel
theorem dX10_wordHere_81 : decode cX10_wordHere 81 = .ok (.aload_n 0, 1) := by decide +kernel
theorem dX10_wordHere_82 : decode cX10_wordHere 82 = .ok (.ldc2_w 161, 3) := by decide +kernel
theorem dX10_wordHere_85 : decode cX10_wordHere 85 = .ok (.invokevirtual 127, 3) := by decide +kernel
theorem dX10_wordHere_88 : decode cX10_wordHere 88 = .ok (.ifCond .eq 5, 3) := by decide +kernel
theorem dX10_wordHere_91 : decode cX10_wordHere 91 = .ok (.iconst 0, 1) := by decide +kernel
theorem dX10_wordHere_92 : decode cX10_wordHere 92 = .ok (.ireturn, 1) := by decide +kernel
theorem dX10_wordHere_93 : decode cX10_wordHere 93 = .ok (.aload_n 0, 1) := by decide +kernel
theorem dX10_wordHere_94 : decode cX10_wordHere 94 = .ok (.ldc2_w 163, 3) := by decide +kernel
theorem dX10_wordHere_97 : decode cX10_wordHere 97 = .ok (.invokevirtual 127, 3) := by decide +kernel
theorem dX10_wordHere_100 : decode cX10_wordHere 100 = .ok (.ifCond .eq 5, 3) := by decide +kernel
theorem dX10_wordHere_103 : decode cX10_wordHere 103 = .ok (.iconst 1, 1) := by decide +kernel
theorem dX10_wordHere_104 : decode cX10_wordHere 104 = .ok (.ireturn, 1) := by decide +kernel
theorem dX10_wordHere_105 : decode cX10_wordHere 105 = .ok (.aload_n 0, 1) := by decide +kernel
theorem dX10_wordHere_106 : decode cX10_wordHere 106 = .ok (.ldc2_w 165, 3) := by decide +kernel
theorem dX10_wordHere_109 : decode cX10_wordHere 109 = .ok (.invokevirtual 127, 3) := by decide +kernel
theorem dX10_wordHere_112 : decode cX10_wordHere 112 = .ok (.ifCond .eq 5, 3) := by decide +kernel
theorem dX10_wordHere_115 : decode cX10_wordHere 115 = .ok (.iconst 2, 1) := by decide +kernel
theorem dX10_wordHere_116 : decode cX10_wordHere 116 = .ok (.ireturn, 1) := by decide +kernel
theorem dX10_wordHere_117 : decode cX10_wordHere 117 = .ok (.aload_n 0, 1) := by decide +kernel
theorem dX10_wordHere_118 : decode cX10_wordHere 118 = .ok (.ldc2_w 153, 3) := by decide +kernel
theorem dX10_wordHere_121 : decode cX10_wordHere 121 = .ok (.invokevirtual 127, 3) := by decide +kernel
theorem dX10_wordHere_124 : decode cX10_wordHere 124 = .ok (.ifCond .eq 5, 3) := by decide +kernel
theorem dX10_wordHere_127 : decode cX10_wordHere 127 = .ok (.iconst 3, 1) := by decide +kernel
theorem dX10_wordHere_128 : decode cX10_wordHere 128 = .ok (.ireturn, 1) := by decide +kernel
theorem dX10_wordHere_129 : decode cX10_wordHere 129 = .ok (.aload_n 0, 1) := by decide +kernel
theorem dX10_wordHere_130 : decode cX10_wordHere 130 = .ok (.ldc2_w 155, 3) := by decide +kernel
theorem dX10_wordHere_133 : decode cX10_wordHere 133 = .ok (.invokevirtual 127, 3) := by decide +kernel
theorem dX10_wordHere_136 : decode cX10_wordHere 136 = .ok (.ifCond .eq 5, 3) := by decide +kernel
theorem dX10_wordHere_139 : decode cX10_wordHere 139 = .ok (.iconst 4, 1) := by decide +kernel
theorem dX10_wordHere_140 : decode cX10_wordHere 140 = .ok (.ireturn, 1) := by decide +kernel
theorem dX10_wordHere_141 : decode cX10_wordHere 141 = .ok (.aload_n 0, 1) := by decide +kernel
theorem dX10_wordHere_142 : decode cX10_wordHere 142 = .ok (.ldc2_w 167, 3) := by decide +kernel
theorem dX10_wordHere_145 : decode cX10_wordHere 145 = .ok (.invokevirtual 127, 3) := by decide +kernel
theorem dX10_wordHere_148 : decode cX10_wordHere 148 = .ok (.ifCond .eq 5, 3) := by decide +kernel
theorem dX10_wordHere_151 : decode cX10_wordHere 151 = .ok (.iconst 5, 1) := by decide +kernel
theorem dX10_wordHere_152 : decode cX10_wordHere 152 = .ok (.ireturn, 1) := by decide +kernel
theorem dX10_wordHere_153 : decode cX10_wordHere 153 = .ok (.aload_n 0, 1) := by decide +kernel
theorem dX10_wordHere_154 : decode cX10_wordHere 154 = .ok (.ldc2_w 169, 3) := by decide +kernel
theorem dX10_wordHere_157 : decode cX10_wordHere 157 = .ok (.invokevirtual 127, 3) := by decide +kernel
theorem dX10_wordHere_160 : decode cX10_wordHere 160 = .ok (.ifCond .eq 6, 3) := by decide +kernel
theorem dX10_wordHere_163 : decode cX10_wordHere 163 = .ok (.bipush 6, 2) := by decide +kernel
theorem dX10_wordHere_165 : decode cX10_wordHere 165 = .ok (.ireturn, 1) := by decide +kernel
theorem dX10_wordHere_166 : decode cX10_wordHere 166 = .ok (.aload_n 0, 1) := by decide +kernel
theorem dX10_wordHere_167 : decode cX10_wordHere 167 = .ok (.ldc2_w 171, 3) := by decide +kernel
theorem dX10_wordHere_170 : decode cX10_wordHere 170 = .ok (.invokevirtual 127, 3) := by decide +kernel
theorem dX10_wordHere_173 : decode cX10_wordHere 173 = .ok (.ifCond .eq 6, 3) := by decide +kernel
theorem dX10_wordHere_176 : decode cX10_wordHere 176 = .ok (.bipush 7, 2) := by decide +kernel
theorem dX10_wordHere_178 : decode cX10_wordHere 178 = .ok (.ireturn, 1) := by decide +kernel
theorem dX10_wordHere_179 : decode cX10_wordHere 179 = .ok (.aload_n 0, 1) := by decide +kernel
theorem dX10_wordHere_180 : decode cX10_wordHere 180 = .ok (.ldc2_w 159, 3) := by decide +kernel
theorem dX10_wordHere_183 : decode cX10_wordHere 183 = .ok (.invokevirtual 127, 3) := by decide +kernel
theorem dX10_wordHere_186 : decode cX10_wordHere 186 = .ok (.ifCond .eq 8, 3) := by decide +kernel
theorem dX10_wordHere_189 : decode cX10_wordHere 189 = .ok (.bipush 8, 2) := by decide +kernel
theorem dX10_wordHere_191 : decode cX10_wordHere 191 = .ok (.goto 19, 3) := by decide +kernel
theorem dX10_wordHere_194 : decode cX10_wordHere 194 = .ok (.aload_n 0, 1) := by decide +kernel
theorem dX10_wordHere_195 : decode cX10_wordHere 195 = .ok (.ldc2_w 151, 3) := by decide +kernel
theorem dX10_wordHere_198 : decode cX10_wordHere 198 = .ok (.invokevirtual 127, 3) := by decide +kernel
theorem dX10_wordHere_201 : decode cX10_wordHere 201 = .ok (.ifCond .eq 8, 3) := by decide +kernel
theorem dX10_wordHere_204 : decode cX10_wordHere 204 = .ok (.bipush 9, 2) := by decide +kernel
theorem dX10_wordHere_206 : decode cX10_wordHere 206 = .ok (.goto 4, 3) := by decide +kernel
theorem dX10_wordHere_209 : decode cX10_wordHere 209 = .ok (.iconst (-1), 1) := by decide +kernel
theorem dX10_wordHere_210 : decode cX10_wordHere 210 = .ok (.ireturn, 1) := by decide +kernel
theorem dX10_puts_0 : decode cX10_puts 0 = .ok (.aload_n 0, 1) := by decide +kernel
theorem dX10_puts_1 : decode cX10_puts 1 = .ok (.getfield 17, 3) := by decide +kernel
theorem dX10_puts_4 : decode cX10_puts 4 = .ok (.sipush 400, 3) := by decide +kernel
theorem dX10_puts_7 : decode cX10_puts 7 = .ok (.aload_n 0, 1) := by decide +kernel
theorem dX10_puts_8 : decode cX10_puts 8 = .ok (.getfield 148, 3) := by decide +kernel
theorem dX10_puts_11 : decode cX10_puts 11 = .ok (.imul, 1) := by decide +kernel
theorem dX10_puts_12 : decode cX10_puts 12 = .ok (.aload_n 0, 1) := by decide +kernel
theorem dX10_puts_13 : decode cX10_puts 13 = .ok (.getfield 20, 3) := by decide +kernel
theorem dX10_puts_16 : decode cX10_puts 16 = .ok (.aload_n 0, 1) := by decide +kernel
theorem dX10_puts_17 : decode cX10_puts 17 = .ok (.getfield 148, 3) := by decide +kernel
theorem dX10_puts_20 : decode cX10_puts 20 = .ok (.iaload, 1) := by decide +kernel
theorem dX10_puts_21 : decode cX10_puts 21 = .ok (.iadd, 1) := by decide +kernel
theorem dX10_puts_22 : decode cX10_puts 22 = .ok (.iload_n 1, 1) := by decide +kernel
theorem dX10_puts_23 : decode cX10_puts 23 = .ok (.bipush 16, 2) := by decide +kernel
theorem dX10_puts_25 : decode cX10_puts 25 = .ok (.iload_n 2, 1) := by decide +kernel
theorem dX10_puts_26 : decode cX10_puts 26 = .ok (.imul, 1) := by decide +kernel
theorem dX10_puts_27 : decode cX10_puts 27 = .ok (.iadd, 1) := by decide +kernel
theorem dX10_puts_28 : decode cX10_puts 28 = .ok (.iastore, 1) := by decide +kernel
theorem dX10_puts_29 : decode cX10_puts 29 = .ok (.aload_n 0, 1) := by decide +kernel
theorem dX10_puts_30 : decode cX10_puts 30 = .ok (.getfield 20, 3) := by decide +kernel
theorem dX10_puts_33 : decode cX10_puts 33 = .ok (.aload_n 0, 1) := by decide +kernel
theorem dX10_puts_34 : decode cX10_puts 34 = .ok (.getfield 148, 3) := by decide +kernel
theorem dX10_puts_37 : decode cX10_puts 37 = .ok (.dup2, 1) := by decide +kernel
theorem dX10_puts_38 : decode cX10_puts 38 = .ok (.iaload, 1) := by decide +kernel
theorem dX10_puts_39 : decode cX10_puts 39 = .ok (.iconst 1, 1) := by decide +kernel
theorem dX10_puts_40 : decode cX10_puts 40 = .ok (.iadd, 1) := by decide +kernel
theorem dX10_puts_41 : decode cX10_puts 41 = .ok (.iastore, 1) := by decide +kernel
theorem dX10_puts_42 : decode cX10_puts 42 = .ok (.return_, 1) := by decide +kernel
theorem dX10_makes_0 : decode cX10_makes 0 = .ok (.aload_n 0, 1) := by decide +kernel
theorem dX10_makes_1 : decode cX10_makes 1 = .ok (.getfield 173, 3) := by decide +kernel
theorem dX10_makes_4 : decode cX10_makes 4 = .ok (.bipush 60, 2) := by decide +kernel
theorem dX10_makes_6 : decode cX10_makes 6 = .ok (.if_icmp .ne 10, 3) := by decide +kernel
theorem dX10_makes_9 : decode cX10_makes 9 = .ok (.aload_n 0, 1) := by decide +kernel
theorem dX10_makes_10 : decode cX10_makes 10 = .ok (.iconst 3, 1) := by decide +kernel
theorem dX10_makes_11 : decode cX10_makes 11 = .ok (.iload_n 1, 1) := by decide +kernel
theorem dX10_makes_12 : decode cX10_makes 12 = .ok (.invokevirtual 137, 3) := by decide +kernel
theorem dX10_makes_15 : decode cX10_makes 15 = .ok (.ireturn, 1) := by decide +kernel
theorem dX10_makes_16 : decode cX10_makes 16 = .ok (.aload_n 0, 1) := by decide +kernel
theorem dX10_makes_17 : decode cX10_makes 17 = .ok (.dup, 1) := by decide +kernel
theorem dX10_makes_18 : decode cX10_makes 18 = .ok (.getfield 173, 3) := by decide +kernel
theorem dX10_makes_21 : decode cX10_makes 21 = .ok (.iconst 1, 1) := by decide +kernel
theorem dX10_makes_22 : decode cX10_makes 22 = .ok (.iadd, 1) := by decide +kernel
theorem dX10_makes_23 : decode cX10_makes 23 = .ok (.putfield 173, 3) := by decide +kernel
theorem dX10_makes_26 : decode cX10_makes 26 = .ok (.iconst 1, 1) := by decide +kernel
theorem dX10_makes_27 : decode cX10_makes 27 = .ok (.ireturn, 1) := by decide +kernel
theorem dX10_opens_0 : decode cX10_opens 0 = .ok (.aload_n 0, 1) := by decide +kernel
theorem dX10_opens_1 : decode cX10_opens 1 = .ok (.getfield 176, 3) := by decide +kernel
theorem dX10_opens_4 : decode cX10_opens 4 = .ok (.bipush 10, 2) := by decide +kernel
theorem dX10_opens_6 : decode cX10_opens 6 = .ok (.if_icmp .ne 13, 3) := by decide +kernel
theorem dX10_opens_9 : decode cX10_opens 9 = .ok (.aload_n 0, 1) := by decide +kernel
theorem dX10_opens_10 : decode cX10_opens 10 = .ok (.iconst 2, 1) := by decide +kernel
theorem dX10_opens_11 : decode cX10_opens 11 = .ok (.aload_n 0, 1) := by decide +kernel
theorem dX10_opens_12 : decode cX10_opens 12 = .ok (.getfield 117, 3) := by decide +kernel
theorem dX10_opens_15 : decode cX10_opens 15 = .ok (.invokevirtual 137, 3) := by decide +kernel
theorem dX10_opens_18 : decode cX10_opens 18 = .ok (.ireturn, 1) := by decide +kernel
theorem dX10_opens_19 : decode cX10_opens 19 = .ok (.aload_n 0, 1) := by decide +kernel
theorem dX10_opens_20 : decode cX10_opens 20 = .ok (.dup, 1) := by decide +kernel
theorem dX10_opens_21 : decode cX10_opens 21 = .ok (.getfield 176, 3) := by decide +kernel
theorem dX10_opens_24 : decode cX10_opens 24 = .ok (.iconst 1, 1) := by decide +kernel
theorem dX10_opens_25 : decode cX10_opens 25 = .ok (.iadd, 1) := by decide +kernel
theorem dX10_opens_26 : decode cX10_opens 26 = .ok (.putfield 176, 3) := by decide +kernel
theorem dX10_opens_29 : decode cX10_opens 29 = .ok (.aload_n 0, 1) := by decide +kernel
theorem dX10_opens_30 : decode cX10_opens 30 = .ok (.getfield 62, 3) := by decide +kernel
theorem dX10_opens_33 : decode cX10_opens 33 = .ok (.aload_n 0, 1) := by decide +kernel
theorem dX10_opens_34 : decode cX10_opens 34 = .ok (.getfield 179, 3) := by decide +kernel
theorem dX10_opens_37 : decode cX10_opens 37 = .ok (.iload_n 1, 1) := by decide +kernel
theorem dX10_opens_38 : decode cX10_opens 38 = .ok (.iastore, 1) := by decide +kernel
theorem dX10_opens_39 : decode cX10_opens 39 = .ok (.aload_n 0, 1) := by decide +kernel
theorem dX10_opens_40 : decode cX10_opens 40 = .ok (.dup, 1) := by decide +kernel
theorem dX10_opens_41 : decode cX10_opens 41 = .ok (.getfield 179, 3) := by decide +kernel
theorem dX10_opens_44 : decode cX10_opens 44 = .ok (.iconst 1, 1) := by decide +kernel
theorem dX10_opens_45 : decode cX10_opens 45 = .ok (.iadd, 1) := by decide +kernel
theorem dX10_opens_46 : decode cX10_opens 46 = .ok (.putfield 179, 3) := by decide +kernel
theorem dX10_opens_49 : decode cX10_opens 49 = .ok (.iconst 1, 1) := by decide +kernel
theorem dX10_opens_50 : decode cX10_opens 50 = .ok (.ireturn, 1) := by decide +kernel
theorem dX10_strength_0 : decode cX10_strength 0 = .ok (.iload_n 0, 1) := by decide +kernel
theorem dX10_strength_1 : decode cX10_strength 1 = .ok (.bipush 13, 2) := by decide +kernel
theorem dX10_strength_3 : decode cX10_strength 3 = .ok (.if_icmp .ne 7, 3) := by decide +kernel
theorem dX10_strength_6 : decode cX10_strength 6 = .ok (.iconst 1, 1) := by decide +kernel
theorem dX10_strength_7 : decode cX10_strength 7 = .ok (.goto 24, 3) := by decide +kernel
theorem dX10_strength_10 : decode cX10_strength 10 = .ok (.iload_n 0, 1) := by decide +kernel
theorem dX10_strength_11 : decode cX10_strength 11 = .ok (.bipush 12, 2) := by decide +kernel
theorem dX10_strength_13 : decode cX10_strength 13 = .ok (.if_icmp .ne 7, 3) := by decide +kernel
theorem dX10_strength_16 : decode cX10_strength 16 = .ok (.iconst 2, 1) := by decide +kernel
theorem dX10_strength_17 : decode cX10_strength 17 = .ok (.goto 14, 3) := by decide +kernel
theorem dX10_strength_20 : decode cX10_strength 20 = .ok (.iload_n 0, 1) := by decide +kernel
theorem dX10_strength_21 : decode cX10_strength 21 = .ok (.bipush 11, 2) := by decide +kernel
theorem dX10_strength_23 : decode cX10_strength 23 = .ok (.if_icmp .ne 7, 3) := by decide +kernel
theorem dX10_strength_26 : decode cX10_strength 26 = .ok (.iconst 3, 1) := by decide +kernel
theorem dX10_strength_27 : decode cX10_strength 27 = .ok (.goto 4, 3) := by decide +kernel
theorem dX10_strength_30 : decode cX10_strength 30 = .ok (.iconst 0, 1) := by decide +kernel
theorem dX10_strength_31 : decode cX10_strength 31 = .ok (.ireturn, 1) := by decide +kernel
theorem dX10_settles_0 : decode cX10_settles 0 = .ok (.aload_n 0, 1) := by decide +kernel
theorem dX10_settles_1 : decode cX10_settles 1 = .ok (.getfield 179, 3) := by decide +kernel
theorem dX10_settles_4 : decode cX10_settles 4 = .ok (.ifCond .le 72, 3) := by decide +kernel
theorem dX10_settles_7 : decode cX10_settles 7 = .ok (.aload_n 0, 1) := by decide +kernel
theorem dX10_settles_8 : decode cX10_settles 8 = .ok (.getfield 62, 3) := by decide +kernel
theorem dX10_settles_11 : decode cX10_settles 11 = .ok (.aload_n 0, 1) := by decide +kernel
theorem dX10_settles_12 : decode cX10_settles 12 = .ok (.getfield 179, 3) := by decide +kernel
theorem dX10_settles_15 : decode cX10_settles 15 = .ok (.iconst 1, 1) := by decide +kernel
theorem dX10_settles_16 : decode cX10_settles 16 = .ok (.isub, 1) := by decide +kernel
theorem dX10_settles_17 : decode cX10_settles 17 = .ok (.iaload, 1) := by decide +kernel
theorem dX10_settles_18 : decode cX10_settles 18 = .ok (.invokestatic 182, 3) := by decide +kernel
theorem dX10_settles_21 : decode cX10_settles 21 = .ok (.iload_n 1, 1) := by decide +kernel
theorem dX10_settles_22 : decode cX10_settles 22 = .ok (.if_icmp .lt 54, 3) := by decide +kernel
theorem dX10_settles_25 : decode cX10_settles 25 = .ok (.aload_n 0, 1) := by decide +kernel
theorem dX10_settles_26 : decode cX10_settles 26 = .ok (.dup, 1) := by decide +kernel
theorem dX10_settles_27 : decode cX10_settles 27 = .ok (.getfield 179, 3) := by decide +kernel
theorem dX10_settles_30 : decode cX10_settles 30 = .ok (.iconst 1, 1) := by decide +kernel
theorem dX10_settles_31 : decode cX10_settles 31 = .ok (.isub, 1) := by decide +kernel
theorem dX10_settles_32 : decode cX10_settles 32 = .ok (.putfield 179, 3) := by decide +kernel
theorem dX10_settles_35 : decode cX10_settles 35 = .ok (.aload_n 0, 1) := by decide +kernel
theorem dX10_settles_36 : decode cX10_settles 36 = .ok (.aload_n 0, 1) := by decide +kernel
theorem dX10_settles_37 : decode cX10_settles 37 = .ok (.getfield 62, 3) := by decide +kernel
theorem dX10_settles_40 : decode cX10_settles 40 = .ok (.aload_n 0, 1) := by decide +kernel
theorem dX10_settles_41 : decode cX10_settles 41 = .ok (.getfield 179, 3) := by decide +kernel
theorem dX10_settles_44 : decode cX10_settles 44 = .ok (.iaload, 1) := by decide +kernel
theorem dX10_settles_45 : decode cX10_settles 45 = .ok (.iconst 0, 1) := by decide +kernel
theorem dX10_settles_46 : decode cX10_settles 46 = .ok (.invokevirtual 186, 3) := by decide +kernel
theorem dX10_settles_49 : decode cX10_settles 49 = .ok (.aload_n 0, 1) := by decide +kernel
theorem dX10_settles_50 : decode cX10_settles 50 = .ok (.getfield 62, 3) := by decide +kernel
theorem dX10_settles_53 : decode cX10_settles 53 = .ok (.aload_n 0, 1) := by decide +kernel
theorem dX10_settles_54 : decode cX10_settles 54 = .ok (.getfield 179, 3) := by decide +kernel
theorem dX10_settles_57 : decode cX10_settles 57 = .ok (.iaload, 1) := by decide +kernel
theorem dX10_settles_58 : decode cX10_settles 58 = .ok (.bipush 11, 2) := by decide +kernel
theorem dX10_settles_60 : decode cX10_settles 60 = .ok (.if_icmp .ne (-60), 3) := by decide +kernel
theorem dX10_settles_63 : decode cX10_settles 63 = .ok (.aload_n 0, 1) := by decide +kernel
theorem dX10_settles_64 : decode cX10_settles 64 = .ok (.dup, 1) := by decide +kernel
theorem dX10_settles_65 : decode cX10_settles 65 = .ok (.getfield 176, 3) := by decide +kernel
theorem dX10_settles_68 : decode cX10_settles 68 = .ok (.iconst 1, 1) := by decide +kernel
theorem dX10_settles_69 : decode cX10_settles 69 = .ok (.isub, 1) := by decide +kernel
theorem dX10_settles_70 : decode cX10_settles 70 = .ok (.putfield 176, 3) := by decide +kernel
theorem dX10_settles_73 : decode cX10_settles 73 = .ok (.goto (-73), 3) := by decide +kernel
theorem dX10_settles_76 : decode cX10_settles 76 = .ok (.return_, 1) := by decide +kernel
theorem dX10_value_0 : decode cX10_value 0 = .ok (.aload_n 0, 1) := by decide +kernel
theorem dX10_value_1 : decode cX10_value 1 = .ok (.invokevirtual 120, 3) := by decide +kernel
theorem dX10_value_4 : decode cX10_value 4 = .ok (.pop, 1) := by decide +kernel
theorem dX10_value_5 : decode cX10_value 5 = .ok (.aload_n 0, 1) := by decide +kernel
theorem dX10_value_6 : decode cX10_value 6 = .ok (.getfield 117, 3) := by decide +kernel
theorem dX10_value_9 : decode cX10_value 9 = .ok (.istore_n 1, 1) := by decide +kernel
theorem dX10_value_10 : decode cX10_value 10 = .ok (.aload_n 0, 1) := by decide +kernel
theorem dX10_value_11 : decode cX10_value 11 = .ok (.aload_n 0, 1) := by decide +kernel
theorem dX10_value_12 : decode cX10_value 12 = .ok (.getfield 117, 3) := by decide +kernel
theorem dX10_value_15 : decode cX10_value 15 = .ok (.invokevirtual 134, 3) := by decide +kernel
theorem dX10_value_18 : decode cX10_value 18 = .ok (.ifCond .eq 34, 3) := by decide +kernel
theorem dX10_value_21 : decode cX10_value 21 = .ok (.aload_n 0, 1) := by decide +kernel
theorem dX10_value_22 : decode cX10_value 22 = .ok (.iconst 0, 1) := by decide +kernel
theorem dX10_value_23 : decode cX10_value 23 = .ok (.ldc 190, 2) := by decide +kernel
theorem dX10_value_25 : decode cX10_value 25 = .ok (.invokevirtual 191, 3) := by decide +kernel
theorem dX10_value_28 : decode cX10_value 28 = .ok (.ifCond .eq 11, 3) := by decide +kernel
theorem dX10_value_31 : decode cX10_value 31 = .ok (.aload_n 0, 1) := by decide +kernel
theorem dX10_value_32 : decode cX10_value 32 = .ok (.iload_n 1, 1) := by decide +kernel
theorem dX10_value_33 : decode cX10_value 33 = .ok (.invokevirtual 194, 3) := by decide +kernel
theorem dX10_value_36 : decode cX10_value 36 = .ok (.ifCond .ne 5, 3) := by decide +kernel
theorem dX10_value_39 : decode cX10_value 39 = .ok (.iconst 0, 1) := by decide +kernel
theorem dX10_value_40 : decode cX10_value 40 = .ok (.ireturn, 1) := by decide +kernel
theorem dX10_value_41 : decode cX10_value 41 = .ok (.aload_n 0, 1) := by decide +kernel
theorem dX10_value_42 : decode cX10_value 42 = .ok (.iconst 0, 1) := by decide +kernel
theorem dX10_value_43 : decode cX10_value 43 = .ok (.aload_n 0, 1) := by decide +kernel
theorem dX10_value_44 : decode cX10_value 44 = .ok (.getfield 141, 3) := by decide +kernel
theorem dX10_value_47 : decode cX10_value 47 = .ok (.invokevirtual 186, 3) := by decide +kernel
theorem dX10_value_50 : decode cX10_value 50 = .ok (.iconst 1, 1) := by decide +kernel
theorem dX10_value_51 : decode cX10_value 51 = .ok (.ireturn, 1) := by decide +kernel
theorem dX10_value_52 : decode cX10_value 52 = .ok (.aload_n 0, 1) := by decide +kernel
theorem dX10_value_53 : decode cX10_value 53 = .ok (.invokevirtual 197, 3) := by decide +kernel
theorem dX10_value_56 : decode cX10_value 56 = .ok (.istore_n 2, 1) := by decide +kernel
theorem dX10_value_57 : decode cX10_value 57 = .ok (.iload_n 2, 1) := by decide +kernel
theorem dX10_value_58 : decode cX10_value 58 = .ok (.ifCond .ge 10, 3) := by decide +kernel
theorem dX10_value_61 : decode cX10_value 61 = .ok (.aload_n 0, 1) := by decide +kernel
theorem dX10_value_62 : decode cX10_value 62 = .ok (.iconst 0, 1) := by decide +kernel
theorem dX10_value_63 : decode cX10_value 63 = .ok (.iload_n 1, 1) := by decide +kernel
theorem dX10_value_64 : decode cX10_value 64 = .ok (.invokevirtual 137, 3) := by decide +kernel
theorem dX10_value_67 : decode cX10_value 67 = .ok (.ireturn, 1) := by decide +kernel
theorem dX10_value_68 : decode cX10_value 68 = .ok (.aload_n 0, 1) := by decide +kernel
theorem dX10_value_69 : decode cX10_value 69 = .ok (.iload_n 1, 1) := by decide +kernel
theorem dX10_value_70 : decode cX10_value 70 = .ok (.invokevirtual 194, 3) := by decide +kernel
theorem dX10_value_73 : decode cX10_value 73 = .ok (.ifCond .ne 5, 3) := by decide +kernel
theorem dX10_value_76 : decode cX10_value 76 = .ok (.iconst 0, 1) := by decide +kernel
theorem dX10_value_77 : decode cX10_value 77 = .ok (.ireturn, 1) := by decide +kernel
theorem dX10_value_78 : decode cX10_value 78 = .ok (.aload_n 0, 1) := by decide +kernel
theorem dX10_value_79 : decode cX10_value 79 = .ok (.invokevirtual 131, 3) := by decide +kernel
theorem dX10_value_82 : decode cX10_value 82 = .ok (.aload_n 0, 1) := by decide +kernel
theorem dX10_value_83 : decode cX10_value 83 = .ok (.iconst 1, 1) := by decide +kernel
theorem dX10_value_84 : decode cX10_value 84 = .ok (.iload_n 2, 1) := by decide +kernel
theorem dX10_value_85 : decode cX10_value 85 = .ok (.invokevirtual 186, 3) := by decide +kernel
theorem dX10_value_88 : decode cX10_value 88 = .ok (.iconst 1, 1) := by decide +kernel
theorem dX10_value_89 : decode cX10_value 89 = .ok (.ireturn, 1) := by decide +kernel
theorem dX10_term_0 : decode cX10_term 0 = .ok (.aload_n 0, 1) := by decide +kernel
theorem dX10_term_1 : decode cX10_term 1 = .ok (.invokevirtual 200, 3) := by decide +kernel
theorem dX10_term_4 : decode cX10_term 4 = .ok (.ifCond .ne 5, 3) := by decide +kernel
theorem dX10_term_7 : decode cX10_term 7 = .ok (.iconst 0, 1) := by decide +kernel
theorem dX10_term_8 : decode cX10_term 8 = .ok (.ireturn, 1) := by decide +kernel
theorem dX10_term_9 : decode cX10_term 9 = .ok (.aload_n 0, 1) := by decide +kernel
theorem dX10_term_10 : decode cX10_term 10 = .ok (.invokevirtual 120, 3) := by decide +kernel
theorem dX10_term_13 : decode cX10_term 13 = .ok (.bipush 42, 2) := by decide +kernel
theorem dX10_term_15 : decode cX10_term 15 = .ok (.if_icmp .eq 12, 3) := by decide +kernel
theorem dX10_term_18 : decode cX10_term 18 = .ok (.aload_n 0, 1) := by decide +kernel
theorem dX10_term_19 : decode cX10_term 19 = .ok (.invokevirtual 120, 3) := by decide +kernel
theorem dX10_term_22 : decode cX10_term 22 = .ok (.bipush 47, 2) := by decide +kernel
theorem dX10_term_24 : decode cX10_term 24 = .ok (.if_icmp .ne 51, 3) := by decide +kernel
theorem dX10_term_27 : decode cX10_term 27 = .ok (.aload_n 0, 1) := by decide +kernel
theorem dX10_term_28 : decode cX10_term 28 = .ok (.getfield 7, 3) := by decide +kernel
theorem dX10_term_31 : decode cX10_term 31 = .ok (.aload_n 0, 1) := by decide +kernel
theorem dX10_term_32 : decode cX10_term 32 = .ok (.getfield 117, 3) := by decide +kernel
theorem dX10_term_35 : decode cX10_term 35 = .ok (.baload, 1) := by decide +kernel
theorem dX10_term_36 : decode cX10_term 36 = .ok (.bipush 42, 2) := by decide +kernel
theorem dX10_term_38 : decode cX10_term 38 = .ok (.if_icmp .ne 7, 3) := by decide +kernel
theorem dX10_term_41 : decode cX10_term 41 = .ok (.iconst 4, 1) := by decide +kernel
theorem dX10_term_42 : decode cX10_term 42 = .ok (.goto 4, 3) := by decide +kernel
theorem dX10_term_45 : decode cX10_term 45 = .ok (.iconst 5, 1) := by decide +kernel
theorem dX10_term_46 : decode cX10_term 46 = .ok (.istore_n 1, 1) := by decide +kernel
theorem dX10_term_47 : decode cX10_term 47 = .ok (.aload_n 0, 1) := by decide +kernel
theorem dX10_term_48 : decode cX10_term 48 = .ok (.dup, 1) := by decide +kernel
theorem dX10_term_49 : decode cX10_term 49 = .ok (.getfield 117, 3) := by decide +kernel
theorem dX10_term_52 : decode cX10_term 52 = .ok (.iconst 1, 1) := by decide +kernel
theorem dX10_term_53 : decode cX10_term 53 = .ok (.iadd, 1) := by decide +kernel
theorem dX10_term_54 : decode cX10_term 54 = .ok (.putfield 117, 3) := by decide +kernel
theorem dX10_term_57 : decode cX10_term 57 = .ok (.aload_n 0, 1) := by decide +kernel
theorem dX10_term_58 : decode cX10_term 58 = .ok (.invokevirtual 200, 3) := by decide +kernel
theorem dX10_term_61 : decode cX10_term 61 = .ok (.ifCond .ne 5, 3) := by decide +kernel
theorem dX10_term_64 : decode cX10_term 64 = .ok (.iconst 0, 1) := by decide +kernel
theorem dX10_term_65 : decode cX10_term 65 = .ok (.ireturn, 1) := by decide +kernel
theorem dX10_term_66 : decode cX10_term 66 = .ok (.aload_n 0, 1) := by decide +kernel
theorem dX10_term_67 : decode cX10_term 67 = .ok (.iload_n 1, 1) := by decide +kernel
theorem dX10_term_68 : decode cX10_term 68 = .ok (.iconst 0, 1) := by decide +kernel
theorem dX10_term_69 : decode cX10_term 69 = .ok (.invokevirtual 186, 3) := by decide +kernel
theorem dX10_term_72 : decode cX10_term 72 = .ok (.goto (-63), 3) := by decide +kernel
theorem dX10_term_75 : decode cX10_term 75 = .ok (.iconst 1, 1) := by decide +kernel
theorem dX10_term_76 : decode cX10_term 76 = .ok (.ireturn, 1) := by decide +kernel
theorem dX10_sum_0 : decode cX10_sum 0 = .ok (.aload_n 0, 1) := by decide +kernel
theorem dX10_sum_1 : decode cX10_sum 1 = .ok (.invokevirtual 204, 3) := by decide +kernel
theorem dX10_sum_4 : decode cX10_sum 4 = .ok (.ifCond .ne 5, 3) := by decide +kernel
theorem dX10_sum_7 : decode cX10_sum 7 = .ok (.iconst 0, 1) := by decide +kernel
theorem dX10_sum_8 : decode cX10_sum 8 = .ok (.ireturn, 1) := by decide +kernel
theorem dX10_sum_9 : decode cX10_sum 9 = .ok (.aload_n 0, 1) := by decide +kernel
theorem dX10_sum_10 : decode cX10_sum 10 = .ok (.invokevirtual 120, 3) := by decide +kernel
theorem dX10_sum_13 : decode cX10_sum 13 = .ok (.bipush 43, 2) := by decide +kernel
theorem dX10_sum_15 : decode cX10_sum 15 = .ok (.if_icmp .eq 12, 3) := by decide +kernel
theorem dX10_sum_18 : decode cX10_sum 18 = .ok (.aload_n 0, 1) := by decide +kernel
theorem dX10_sum_19 : decode cX10_sum 19 = .ok (.invokevirtual 120, 3) := by decide +kernel
theorem dX10_sum_22 : decode cX10_sum 22 = .ok (.bipush 45, 2) := by decide +kernel
theorem dX10_sum_24 : decode cX10_sum 24 = .ok (.if_icmp .ne 51, 3) := by decide +kernel
theorem dX10_sum_27 : decode cX10_sum 27 = .ok (.aload_n 0, 1) := by decide +kernel
theorem dX10_sum_28 : decode cX10_sum 28 = .ok (.getfield 7, 3) := by decide +kernel
theorem dX10_sum_31 : decode cX10_sum 31 = .ok (.aload_n 0, 1) := by decide +kernel
theorem dX10_sum_32 : decode cX10_sum 32 = .ok (.getfield 117, 3) := by decide +kernel
theorem dX10_sum_35 : decode cX10_sum 35 = .ok (.baload, 1) := by decide +kernel
theorem dX10_sum_36 : decode cX10_sum 36 = .ok (.bipush 43, 2) := by decide +kernel
theorem dX10_sum_38 : decode cX10_sum 38 = .ok (.if_icmp .ne 7, 3) := by decide +kernel
theorem dX10_sum_41 : decode cX10_sum 41 = .ok (.iconst 2, 1) := by decide +kernel
theorem dX10_sum_42 : decode cX10_sum 42 = .ok (.goto 4, 3) := by decide +kernel
theorem dX10_sum_45 : decode cX10_sum 45 = .ok (.iconst 3, 1) := by decide +kernel
theorem dX10_sum_46 : decode cX10_sum 46 = .ok (.istore_n 1, 1) := by decide +kernel
theorem dX10_sum_47 : decode cX10_sum 47 = .ok (.aload_n 0, 1) := by decide +kernel
theorem dX10_sum_48 : decode cX10_sum 48 = .ok (.dup, 1) := by decide +kernel
theorem dX10_sum_49 : decode cX10_sum 49 = .ok (.getfield 117, 3) := by decide +kernel
