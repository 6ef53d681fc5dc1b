theorem dX10_sum_52 : decode cX10_sum 52 = .ok (.iconst 1, 1) := by decide +kernel
theorem dX10_sum_53 : decode cX10_sum 53 = .ok (.iadd, 1) := by decide +kernel
theorem dX10_sum_54 : decode cX10_sum 54 = .ok (.putfield 117, 3) := by decide +kernel
theorem dX10_sum_57 : decode cX10_sum 57 = .ok (.aload_n 0, 1) := by decide +kernel
theorem dX10_sum_58 : decode cX10_sum 58 = .ok (.invokevirtual 204, 3) := by decide +kernel
theorem dX10_sum_61 : decode cX10_sum 61 = .ok (.ifCond .ne 5, 3) := by decide +kernel
theorem dX10_sum_64 : decode cX10_sum 64 = .ok (.iconst 0, 1) := by decide +kernel
theorem dX10_sum_65 : decode cX10_sum 65 = .ok (.ireturn, 1) := by decide +kernel
theorem dX10_sum_66 : decode cX10_sum 66 = .ok (.aload_n 0, 1) := by decide +kernel
theorem dX10_sum_67 : decode cX10_sum 67 = .ok (.iload_n 1, 1) := by decide +kernel
theorem dX10_sum_68 : decode cX10_sum 68 = .ok (.iconst 0, 1) := by decide +kernel
theorem dX10_sum_69 : decode cX10_sum 69 = .ok (.invokevirtual 186, 3) := by decide +kernel
theorem dX10_sum_72 : decode cX10_sum 72 = .ok (.goto (-63), 3) := by decide +kernel
theorem dX10_sum_75 : decode cX10_sum 75 = .ok (.iconst 1, 1) := by decide +kernel
theorem dX10_sum_76 : decode cX10_sum 76 = .ok (.ireturn, 1) := by decide +kernel
theorem dX10_compare_0 : decode cX10_compare 0 = .ok (.aload_n 0, 1) := by decide +kernel
theorem dX10_compare_1 : decode cX10_compare 1 = .ok (.invokevirtual 207, 3) := by decide +kernel
theorem dX10_compare_4 : decode cX10_compare 4 = .ok (.ifCond .ne 5, 3) := by decide +kernel
theorem dX10_compare_7 : decode cX10_compare 7 = .ok (.iconst 0, 1) := by decide +kernel
theorem dX10_compare_8 : decode cX10_compare 8 = .ok (.ireturn, 1) := by decide +kernel
theorem dX10_compare_9 : decode cX10_compare 9 = .ok (.aload_n 0, 1) := by decide +kernel
theorem dX10_compare_10 : decode cX10_compare 10 = .ok (.invokevirtual 120, 3) := by decide +kernel
theorem dX10_compare_13 : decode cX10_compare 13 = .ok (.istore_n 1, 1) := by decide +kernel
theorem dX10_compare_14 : decode cX10_compare 14 = .ok (.aload_n 0, 1) := by decide +kernel
theorem dX10_compare_15 : decode cX10_compare 15 = .ok (.getfield 117, 3) := by decide +kernel
theorem dX10_compare_18 : decode cX10_compare 18 = .ok (.istore_n 2, 1) := by decide +kernel
theorem dX10_compare_19 : decode cX10_compare 19 = .ok (.iload_n 1, 1) := by decide +kernel
theorem dX10_compare_20 : decode cX10_compare 20 = .ok (.bipush 60, 2) := by decide +kernel
theorem dX10_compare_22 : decode cX10_compare 22 = .ok (.if_icmp .eq 22, 3) := by decide +kernel
theorem dX10_compare_25 : decode cX10_compare 25 = .ok (.iload_n 1, 1) := by decide +kernel
theorem dX10_compare_26 : decode cX10_compare 26 = .ok (.bipush 61, 2) := by decide +kernel
theorem dX10_compare_28 : decode cX10_compare 28 = .ok (.if_icmp .eq 16, 3) := by decide +kernel
theorem dX10_compare_31 : decode cX10_compare 31 = .ok (.iload_n 1, 1) := by decide +kernel
theorem dX10_compare_32 : decode cX10_compare 32 = .ok (.bipush 62, 2) := by decide +kernel
theorem dX10_compare_34 : decode cX10_compare 34 = .ok (.if_icmp .eq 10, 3) := by decide +kernel
theorem dX10_compare_37 : decode cX10_compare 37 = .ok (.aload_n 0, 1) := by decide +kernel
theorem dX10_compare_38 : decode cX10_compare 38 = .ok (.iconst 0, 1) := by decide +kernel
theorem dX10_compare_39 : decode cX10_compare 39 = .ok (.iload_n 2, 1) := by decide +kernel
theorem dX10_compare_40 : decode cX10_compare 40 = .ok (.invokevirtual 137, 3) := by decide +kernel
theorem dX10_compare_43 : decode cX10_compare 43 = .ok (.ireturn, 1) := by decide +kernel
theorem dX10_compare_44 : decode cX10_compare 44 = .ok (.aload_n 0, 1) := by decide +kernel
theorem dX10_compare_45 : decode cX10_compare 45 = .ok (.dup, 1) := by decide +kernel
theorem dX10_compare_46 : decode cX10_compare 46 = .ok (.getfield 117, 3) := by decide +kernel
theorem dX10_compare_49 : decode cX10_compare 49 = .ok (.iconst 1, 1) := by decide +kernel
theorem dX10_compare_50 : decode cX10_compare 50 = .ok (.iadd, 1) := by decide +kernel
theorem dX10_compare_51 : decode cX10_compare 51 = .ok (.putfield 117, 3) := by decide +kernel
theorem dX10_compare_54 : decode cX10_compare 54 = .ok (.iload_n 1, 1) := by decide +kernel
theorem dX10_compare_55 : decode cX10_compare 55 = .ok (.bipush 61, 2) := by decide +kernel
theorem dX10_compare_57 : decode cX10_compare 57 = .ok (.if_icmp .eq 32, 3) := by decide +kernel
theorem dX10_compare_60 : decode cX10_compare 60 = .ok (.aload_n 0, 1) := by decide +kernel
theorem dX10_compare_61 : decode cX10_compare 61 = .ok (.getfield 117, 3) := by decide +kernel
theorem dX10_compare_64 : decode cX10_compare 64 = .ok (.aload_n 0, 1) := by decide +kernel
theorem dX10_compare_65 : decode cX10_compare 65 = .ok (.getfield 106, 3) := by decide +kernel
theorem dX10_compare_68 : decode cX10_compare 68 = .ok (.if_icmp .ge 21, 3) := by decide +kernel
theorem dX10_compare_71 : decode cX10_compare 71 = .ok (.aload_n 0, 1) := by decide +kernel
theorem dX10_compare_72 : decode cX10_compare 72 = .ok (.getfield 7, 3) := by decide +kernel
theorem dX10_compare_75 : decode cX10_compare 75 = .ok (.aload_n 0, 1) := by decide +kernel
theorem dX10_compare_76 : decode cX10_compare 76 = .ok (.getfield 117, 3) := by decide +kernel
theorem dX10_compare_79 : decode cX10_compare 79 = .ok (.baload, 1) := by decide +kernel
theorem dX10_compare_80 : decode cX10_compare 80 = .ok (.bipush 61, 2) := by decide +kernel
theorem dX10_compare_82 : decode cX10_compare 82 = .ok (.if_icmp .ne 7, 3) := by decide +kernel
theorem dX10_compare_85 : decode cX10_compare 85 = .ok (.iconst 1, 1) := by decide +kernel
theorem dX10_compare_86 : decode cX10_compare 86 = .ok (.goto 4, 3) := by decide +kernel
theorem dX10_compare_89 : decode cX10_compare 89 = .ok (.iconst 0, 1) := by decide +kernel
theorem dX10_compare_90 : decode cX10_compare 90 = .ok (.istore_n 3, 1) := by decide +kernel
theorem dX10_compare_91 : decode cX10_compare 91 = .ok (.iload_n 3, 1) := by decide +kernel
theorem dX10_compare_92 : decode cX10_compare 92 = .ok (.ifCond .eq 13, 3) := by decide +kernel
theorem dX10_compare_95 : decode cX10_compare 95 = .ok (.aload_n 0, 1) := by decide +kernel
theorem dX10_compare_96 : decode cX10_compare 96 = .ok (.dup, 1) := by decide +kernel
theorem dX10_compare_97 : decode cX10_compare 97 = .ok (.getfield 117, 3) := by decide +kernel
theorem dX10_compare_100 : decode cX10_compare 100 = .ok (.iconst 1, 1) := by decide +kernel
theorem dX10_compare_101 : decode cX10_compare 101 = .ok (.iadd, 1) := by decide +kernel
theorem dX10_compare_102 : decode cX10_compare 102 = .ok (.putfield 117, 3) := by decide +kernel
theorem dX10_compare_105 : decode cX10_compare 105 = .ok (.aload_n 0, 1) := by decide +kernel
theorem dX10_compare_106 : decode cX10_compare 106 = .ok (.iload_n 2, 1) := by decide +kernel
theorem dX10_compare_107 : decode cX10_compare 107 = .ok (.invokevirtual 194, 3) := by decide +kernel
theorem dX10_compare_110 : decode cX10_compare 110 = .ok (.ifCond .ne 5, 3) := by decide +kernel
theorem dX10_compare_113 : decode cX10_compare 113 = .ok (.iconst 0, 1) := by decide +kernel
theorem dX10_compare_114 : decode cX10_compare 114 = .ok (.ireturn, 1) := by decide +kernel
theorem dX10_compare_115 : decode cX10_compare 115 = .ok (.iload_n 1, 1) := by decide +kernel
theorem dX10_compare_116 : decode cX10_compare 116 = .ok (.bipush 60, 2) := by decide +kernel
theorem dX10_compare_118 : decode cX10_compare 118 = .ok (.if_icmp .ne 15, 3) := by decide +kernel
theorem dX10_compare_121 : decode cX10_compare 121 = .ok (.iload_n 3, 1) := by decide +kernel
theorem dX10_compare_122 : decode cX10_compare 122 = .ok (.ifCond .eq 7, 3) := by decide +kernel
theorem dX10_compare_125 : decode cX10_compare 125 = .ok (.iconst 1, 1) := by decide +kernel
theorem dX10_compare_126 : decode cX10_compare 126 = .ok (.goto 26, 3) := by decide +kernel
theorem dX10_compare_129 : decode cX10_compare 129 = .ok (.iconst 0, 1) := by decide +kernel
theorem dX10_compare_130 : decode cX10_compare 130 = .ok (.goto 22, 3) := by decide +kernel
theorem dX10_compare_133 : decode cX10_compare 133 = .ok (.iload_n 1, 1) := by decide +kernel
theorem dX10_compare_134 : decode cX10_compare 134 = .ok (.bipush 61, 2) := by decide +kernel
theorem dX10_compare_136 : decode cX10_compare 136 = .ok (.if_icmp .ne 7, 3) := by decide +kernel
theorem dX10_compare_139 : decode cX10_compare 139 = .ok (.iconst 2, 1) := by decide +kernel
theorem dX10_compare_140 : decode cX10_compare 140 = .ok (.goto 12, 3) := by decide +kernel
theorem dX10_compare_143 : decode cX10_compare 143 = .ok (.iload_n 3, 1) := by decide +kernel
theorem dX10_compare_144 : decode cX10_compare 144 = .ok (.ifCond .eq 7, 3) := by decide +kernel
theorem dX10_compare_147 : decode cX10_compare 147 = .ok (.iconst 3, 1) := by decide +kernel
theorem dX10_compare_148 : decode cX10_compare 148 = .ok (.goto 4, 3) := by decide +kernel
theorem dX10_compare_151 : decode cX10_compare 151 = .ok (.iconst 4, 1) := by decide +kernel
theorem dX10_compare_152 : decode cX10_compare 152 = .ok (.istore 4, 2) := by decide +kernel
theorem dX10_compare_154 : decode cX10_compare 154 = .ok (.aload_n 0, 1) := by decide +kernel
theorem dX10_compare_155 : decode cX10_compare 155 = .ok (.invokevirtual 207, 3) := by decide +kernel
theorem dX10_compare_158 : decode cX10_compare 158 = .ok (.ifCond .ne 5, 3) := by decide +kernel
theorem dX10_compare_161 : decode cX10_compare 161 = .ok (.iconst 0, 1) := by decide +kernel
theorem dX10_compare_162 : decode cX10_compare 162 = .ok (.ireturn, 1) := by decide +kernel
theorem dX10_compare_163 : decode cX10_compare 163 = .ok (.aload_n 0, 1) := by decide +kernel
theorem dX10_compare_164 : decode cX10_compare 164 = .ok (.bipush 6, 2) := by decide +kernel
theorem dX10_compare_166 : decode cX10_compare 166 = .ok (.iload 4, 2) := by decide +kernel
theorem dX10_compare_168 : decode cX10_compare 168 = .ok (.iadd, 1) := by decide +kernel
theorem dX10_compare_169 : decode cX10_compare 169 = .ok (.iconst 0, 1) := by decide +kernel
theorem dX10_compare_170 : decode cX10_compare 170 = .ok (.invokevirtual 186, 3) := by decide +kernel
theorem dX10_compare_173 : decode cX10_compare 173 = .ok (.iconst 1, 1) := by decide +kernel
theorem dX10_compare_174 : decode cX10_compare 174 = .ok (.ireturn, 1) := by decide +kernel
theorem dX10_fact_0 : decode cX10_fact 0 = .ok (.iconst 1, 1) := by decide +kernel
theorem dX10_fact_1 : decode cX10_fact 1 = .ok (.istore_n 1, 1) := by decide +kernel
theorem dX10_fact_2 : decode cX10_fact 2 = .ok (.iload_n 1, 1) := by decide +kernel
theorem dX10_fact_3 : decode cX10_fact 3 = .ok (.ifCond .eq 72, 3) := by decide +kernel
theorem dX10_fact_6 : decode cX10_fact 6 = .ok (.iconst 0, 1) := by decide +kernel
theorem dX10_fact_7 : decode cX10_fact 7 = .ok (.istore_n 1, 1) := by decide +kernel
theorem dX10_fact_8 : decode cX10_fact 8 = .ok (.aload_n 0, 1) := by decide +kernel
theorem dX10_fact_9 : decode cX10_fact 9 = .ok (.invokevirtual 120, 3) := by decide +kernel
theorem dX10_fact_12 : decode cX10_fact 12 = .ok (.istore_n 2, 1) := by decide +kernel
theorem dX10_fact_13 : decode cX10_fact 13 = .ok (.aload_n 0, 1) := by decide +kernel
theorem dX10_fact_14 : decode cX10_fact 14 = .ok (.ldc2_w 210, 3) := by decide +kernel
theorem dX10_fact_17 : decode cX10_fact 17 = .ok (.invokevirtual 127, 3) := by decide +kernel
theorem dX10_fact_20 : decode cX10_fact 20 = .ok (.ifCond .eq 23, 3) := by decide +kernel
theorem dX10_fact_23 : decode cX10_fact 23 = .ok (.aload_n 0, 1) := by decide +kernel
theorem dX10_fact_24 : decode cX10_fact 24 = .ok (.bipush 11, 2) := by decide +kernel
theorem dX10_fact_26 : decode cX10_fact 26 = .ok (.invokevirtual 212, 3) := by decide +kernel
theorem dX10_fact_29 : decode cX10_fact 29 = .ok (.ifCond .ne 5, 3) := by decide +kernel
theorem dX10_fact_32 : decode cX10_fact 32 = .ok (.iconst 0, 1) := by decide +kernel
theorem dX10_fact_33 : decode cX10_fact 33 = .ok (.ireturn, 1) := by decide +kernel
theorem dX10_fact_34 : decode cX10_fact 34 = .ok (.aload_n 0, 1) := by decide +kernel
theorem dX10_fact_35 : decode cX10_fact 35 = .ok (.invokevirtual 131, 3) := by decide +kernel
theorem dX10_fact_38 : decode cX10_fact 38 = .ok (.iconst 1, 1) := by decide +kernel
theorem dX10_fact_39 : decode cX10_fact 39 = .ok (.istore_n 1, 1) := by decide +kernel
theorem dX10_fact_40 : decode cX10_fact 40 = .ok (.goto 32, 3) := by decide +kernel
theorem dX10_fact_43 : decode cX10_fact 43 = .ok (.iload_n 2, 1) := by decide +kernel
theorem dX10_fact_44 : decode cX10_fact 44 = .ok (.bipush 91, 2) := by decide +kernel
theorem dX10_fact_46 : decode cX10_fact 46 = .ok (.if_icmp .ne 26, 3) := by decide +kernel
theorem dX10_fact_49 : decode cX10_fact 49 = .ok (.aload_n 0, 1) := by decide +kernel
theorem dX10_fact_50 : decode cX10_fact 50 = .ok (.bipush 91, 2) := by decide +kernel
theorem dX10_fact_52 : decode cX10_fact 52 = .ok (.invokevirtual 212, 3) := by decide +kernel
theorem dX10_fact_55 : decode cX10_fact 55 = .ok (.ifCond .ne 5, 3) := by decide +kernel
theorem dX10_fact_58 : decode cX10_fact 58 = .ok (.iconst 0, 1) := by decide +kernel
theorem dX10_fact_59 : decode cX10_fact 59 = .ok (.ireturn, 1) := by decide +kernel
theorem dX10_fact_60 : decode cX10_fact 60 = .ok (.aload_n 0, 1) := by decide +kernel
theorem dX10_fact_61 : decode cX10_fact 61 = .ok (.dup, 1) := by decide +kernel
theorem dX10_fact_62 : decode cX10_fact 62 = .ok (.getfield 117, 3) := by decide +kernel
theorem dX10_fact_65 : decode cX10_fact 65 = .ok (.iconst 1, 1) := by decide +kernel
theorem dX10_fact_66 : decode cX10_fact 66 = .ok (.iadd, 1) := by decide +kernel
theorem dX10_fact_67 : decode cX10_fact 67 = .ok (.putfield 117, 3) := by decide +kernel
theorem dX10_fact_70 : decode cX10_fact 70 = .ok (.iconst 1, 1) := by decide +kernel
theorem dX10_fact_71 : decode cX10_fact 71 = .ok (.istore_n 1, 1) := by decide +kernel
theorem dX10_fact_72 : decode cX10_fact 72 = .ok (.goto (-70), 3) := by decide +kernel
theorem dX10_fact_75 : decode cX10_fact 75 = .ok (.aload_n 0, 1) := by decide +kernel
theorem dX10_fact_76 : decode cX10_fact 76 = .ok (.invokevirtual 215, 3) := by decide +kernel
theorem dX10_fact_79 : decode cX10_fact 79 = .ok (.ireturn, 1) := by decide +kernel
theorem dX10_isInside_0 : decode cX10_isInside 0 = .ok (.iconst 0, 1) := by decide +kernel
theorem dX10_isInside_1 : decode cX10_isInside 1 = .ok (.istore_n 1, 1) := by decide +kernel
theorem dX10_isInside_2 : decode cX10_isInside 2 = .ok (.iload_n 1, 1) := by decide +kernel
theorem dX10_isInside_3 : decode cX10_isInside 3 = .ok (.aload_n 0, 1) := by decide +kernel
theorem dX10_isInside_4 : decode cX10_isInside 4 = .ok (.getfield 179, 3) := by decide +kernel
theorem dX10_isInside_7 : decode cX10_isInside 7 = .ok (.if_icmp .ge 22, 3) := by decide +kernel
theorem dX10_isInside_10 : decode cX10_isInside 10 = .ok (.aload_n 0, 1) := by decide +kernel
theorem dX10_isInside_11 : decode cX10_isInside 11 = .ok (.getfield 62, 3) := by decide +kernel
theorem dX10_isInside_14 : decode cX10_isInside 14 = .ok (.iload_n 1, 1) := by decide +kernel
theorem dX10_isInside_15 : decode cX10_isInside 15 = .ok (.iaload, 1) := by decide +kernel
theorem dX10_isInside_16 : decode cX10_isInside 16 = .ok (.bipush 91, 2) := by decide +kernel
theorem dX10_isInside_18 : decode cX10_isInside 18 = .ok (.if_icmp .ne 5, 3) := by decide +kernel
theorem dX10_isInside_21 : decode cX10_isInside 21 = .ok (.iconst 1, 1) := by decide +kernel
theorem dX10_isInside_22 : decode cX10_isInside 22 = .ok (.ireturn, 1) := by decide +kernel
theorem dX10_isInside_23 : decode cX10_isInside 23 = .ok (.iinc 1 1, 3) := by decide +kernel
theorem dX10_isInside_26 : decode cX10_isInside 26 = .ok (.goto (-24), 3) := by decide +kernel
theorem dX10_isInside_29 : decode cX10_isInside 29 = .ok (.iconst 0, 1) := by decide +kernel
theorem dX10_isInside_30 : decode cX10_isInside 30 = .ok (.ireturn, 1) := by decide +kernel
theorem dX10_closes_0 : decode cX10_closes 0 = .ok (.aload_n 0, 1) := by decide +kernel
theorem dX10_closes_1 : decode cX10_closes 1 = .ok (.iconst 3, 1) := by decide +kernel
theorem dX10_closes_2 : decode cX10_closes 2 = .ok (.invokevirtual 218, 3) := by decide +kernel
theorem dX10_closes_5 : decode cX10_closes 5 = .ok (.aload_n 0, 1) := by decide +kernel
theorem dX10_closes_6 : decode cX10_closes 6 = .ok (.invokevirtual 120, 3) := by decide +kernel
theorem dX10_closes_9 : decode cX10_closes 9 = .ok (.bipush 93, 2) := by decide +kernel
theorem dX10_closes_11 : decode cX10_closes 11 = .ok (.if_icmp .ne 53, 3) := by decide +kernel
theorem dX10_closes_14 : decode cX10_closes 14 = .ok (.aload_n 0, 1) := by decide +kernel
theorem dX10_closes_15 : decode cX10_closes 15 = .ok (.invokevirtual 221, 3) := by decide +kernel
theorem dX10_closes_18 : decode cX10_closes 18 = .ok (.ifCond .eq 46, 3) := by decide +kernel
theorem dX10_closes_21 : decode cX10_closes 21 = .ok (.aload_n 0, 1) := by decide +kernel
theorem dX10_closes_22 : decode cX10_closes 22 = .ok (.iconst 1, 1) := by decide +kernel
theorem dX10_closes_23 : decode cX10_closes 23 = .ok (.invokevirtual 218, 3) := by decide +kernel
theorem dX10_closes_26 : decode cX10_closes 26 = .ok (.aload_n 0, 1) := by decide +kernel
theorem dX10_closes_27 : decode cX10_closes 27 = .ok (.dup, 1) := by decide +kernel
theorem dX10_closes_28 : decode cX10_closes 28 = .ok (.getfield 179, 3) := by decide +kernel
theorem dX10_closes_31 : decode cX10_closes 31 = .ok (.iconst 1, 1) := by decide +kernel
theorem dX10_closes_32 : decode cX10_closes 32 = .ok (.isub, 1) := by decide +kernel
theorem dX10_closes_33 : decode cX10_closes 33 = .ok (.putfield 179, 3) := by decide +kernel
theorem dX10_closes_36 : decode cX10_closes 36 = .ok (.aload_n 0, 1) := by decide +kernel
theorem dX10_closes_37 : decode cX10_closes 37 = .ok (.dup, 1) := by decide +kernel
theorem dX10_closes_38 : decode cX10_closes 38 = .ok (.getfield 176, 3) := by decide +kernel
theorem dX10_closes_41 : decode cX10_closes 41 = .ok (.iconst 1, 1) := by decide +kernel
theorem dX10_closes_42 : decode cX10_closes 42 = .ok (.isub, 1) := by decide +kernel
theorem dX10_closes_43 : decode cX10_closes 43 = .ok (.putfield 176, 3) := by decide +kernel
theorem dX10_closes_46 : decode cX10_closes 46 = .ok (.aload_n 0, 1) := by decide +kernel
theorem dX10_closes_47 : decode cX10_closes 47 = .ok (.dup, 1) := by decide +kernel
theorem dX10_closes_48 : decode cX10_closes 48 = .ok (.getfield 117, 3) := by decide +kernel
theorem dX10_closes_51 : decode cX10_closes 51 = .ok (.iconst 1, 1) := by decide +kernel
theorem dX10_closes_52 : decode cX10_closes 52 = .ok (.iadd, 1) := by decide +kernel
theorem dX10_closes_53 : decode cX10_closes 53 = .ok (.putfield 117, 3) := by decide +kernel
theorem dX10_closes_56 : decode cX10_closes 56 = .ok (.aload_n 0, 1) := by decide +kernel
theorem dX10_closes_57 : decode cX10_closes 57 = .ok (.iconst 3, 1) := by decide +kernel
theorem dX10_closes_58 : decode cX10_closes 58 = .ok (.invokevirtual 218, 3) := by decide +kernel
theorem dX10_closes_61 : decode cX10_closes 61 = .ok (.goto (-56), 3) := by decide +kernel
theorem dX10_closes_64 : decode cX10_closes 64 = .ok (.return_, 1) := by decide +kernel
theorem dX10_tested_0 : decode cX10_tested 0 = .ok (.aload_n 0, 1) := by decide +kernel
theorem dX10_tested_1 : decode cX10_tested 1 = .ok (.iconst 0, 1) := by decide +kernel
theorem dX10_tested_2 : decode cX10_tested 2 = .ok (.putfield 179, 3) := by decide +kernel
theorem dX10_tested_5 : decode cX10_tested 5 = .ok (.aload_n 0, 1) := by decide +kernel
theorem dX10_tested_6 : decode cX10_tested 6 = .ok (.iconst 0, 1) := by decide +kernel
theorem dX10_tested_7 : decode cX10_tested 7 = .ok (.putfield 176, 3) := by decide +kernel
theorem dX10_tested_10 : decode cX10_tested 10 = .ok (.iconst 1, 1) := by decide +kernel
theorem dX10_tested_11 : decode cX10_tested 11 = .ok (.istore_n 1, 1) := by decide +kernel
theorem dX10_tested_12 : decode cX10_tested 12 = .ok (.iload_n 1, 1) := by decide +kernel
theorem dX10_tested_13 : decode cX10_tested 13 = .ok (.ifCond .eq 99, 3) := by decide +kernel
theorem dX10_tested_16 : decode cX10_tested 16 = .ok (.aload_n 0, 1) := by decide +kernel
theorem dX10_tested_17 : decode cX10_tested 17 = .ok (.invokevirtual 224, 3) := by decide +kernel
theorem dX10_tested_20 : decode cX10_tested 20 = .ok (.ifCond .ne 5, 3) := by decide +kernel
theorem dX10_tested_23 : decode cX10_tested 23 = .ok (.iconst 0, 1) := by decide +kernel
theorem dX10_tested_24 : decode cX10_tested 24 = .ok (.ireturn, 1) := by decide +kernel
theorem dX10_tested_25 : decode cX10_tested 25 = .ok (.aload_n 0, 1) := by decide +kernel
theorem dX10_tested_26 : decode cX10_tested 26 = .ok (.invokevirtual 227, 3) := by decide +kernel
theorem dX10_tested_29 : decode cX10_tested 29 = .ok (.aload_n 0, 1) := by decide +kernel
theorem dX10_tested_30 : decode cX10_tested 30 = .ok (.ldc2_w 230, 3) := by decide +kernel
theorem dX10_tested_33 : decode cX10_tested 33 = .ok (.invokevirtual 127, 3) := by decide +kernel
theorem dX10_tested_36 : decode cX10_tested 36 = .ok (.ifCond .ne 13, 3) := by decide +kernel
theorem dX10_tested_39 : decode cX10_tested 39 = .ok (.aload_n 0, 1) := by decide +kernel
theorem dX10_tested_40 : decode cX10_tested 40 = .ok (.ldc2_w 232, 3) := by decide +kernel
theorem dX10_tested_43 : decode cX10_tested 43 = .ok (.invokevirtual 127, 3) := by decide +kernel
theorem dX10_tested_46 : decode cX10_tested 46 = .ok (.ifCond .eq 7, 3) := by decide +kernel
theorem dX10_tested_49 : decode cX10_tested 49 = .ok (.iconst 1, 1) := by decide +kernel
theorem dX10_tested_50 : decode cX10_tested 50 = .ok (.goto 4, 3) := by decide +kernel
theorem dX10_tested_53 : decode cX10_tested 53 = .ok (.iconst 0, 1) := by decide +kernel
theorem dX10_tested_54 : decode cX10_tested 54 = .ok (.istore_n 1, 1) := by decide +kernel
theorem dX10_tested_55 : decode cX10_tested 55 = .ok (.iload_n 1, 1) := by decide +kernel
theorem dX10_tested_56 : decode cX10_tested 56 = .ok (.ifCond .eq (-44), 3) := by decide +kernel
theorem dX10_tested_59 : decode cX10_tested 59 = .ok (.aload_n 0, 1) := by decide +kernel
theorem dX10_tested_60 : decode cX10_tested 60 = .ok (.ldc2_w 230, 3) := by decide +kernel
theorem dX10_tested_63 : decode cX10_tested 63 = .ok (.invokevirtual 127, 3) := by decide +kernel
theorem dX10_tested_66 : decode cX10_tested 66 = .ok (.ifCond .eq 8, 3) := by decide +kernel
theorem dX10_tested_69 : decode cX10_tested 69 = .ok (.bipush 12, 2) := by decide +kernel
theorem dX10_tested_71 : decode cX10_tested 71 = .ok (.goto 5, 3) := by decide +kernel
theorem dX10_tested_74 : decode cX10_tested 74 = .ok (.bipush 13, 2) := by decide +kernel
theorem dX10_tested_76 : decode cX10_tested 76 = .ok (.istore_n 2, 1) := by decide +kernel
theorem dX10_tested_77 : decode cX10_tested 77 = .ok (.aload_n 0, 1) := by decide +kernel
theorem dX10_tested_78 : decode cX10_tested 78 = .ok (.invokevirtual 131, 3) := by decide +kernel
theorem dX10_tested_81 : decode cX10_tested 81 = .ok (.aload_n 0, 1) := by decide +kernel
theorem dX10_tested_82 : decode cX10_tested 82 = .ok (.iload_n 2, 1) := by decide +kernel
theorem dX10_tested_83 : decode cX10_tested 83 = .ok (.invokestatic 182, 3) := by decide +kernel
theorem dX10_tested_86 : decode cX10_tested 86 = .ok (.invokevirtual 218, 3) := by decide +kernel
theorem dX10_tested_89 : decode cX10_tested 89 = .ok (.aload_n 0, 1) := by decide +kernel
theorem dX10_tested_90 : decode cX10_tested 90 = .ok (.getfield 62, 3) := by decide +kernel
theorem dX10_tested_93 : decode cX10_tested 93 = .ok (.aload_n 0, 1) := by decide +kernel
theorem dX10_tested_94 : decode cX10_tested 94 = .ok (.getfield 179, 3) := by decide +kernel
theorem dX10_tested_97 : decode cX10_tested 97 = .ok (.iload_n 2, 1) := by decide +kernel
theorem dX10_tested_98 : decode cX10_tested 98 = .ok (.iastore, 1) := by decide +kernel
theorem dX10_tested_99 : decode cX10_tested 99 = .ok (.aload_n 0, 1) := by decide +kernel
theorem dX10_tested_100 : decode cX10_tested 100 = .ok (.dup, 1) := by decide +kernel
theorem dX10_tested_101 : decode cX10_tested 101 = .ok (.getfield 179, 3) := by decide +kernel
theorem dX10_tested_104 : decode cX10_tested 104 = .ok (.iconst 1, 1) := by decide +kernel
theorem dX10_tested_105 : decode cX10_tested 105 = .ok (.iadd, 1) := by decide +kernel
theorem dX10_tested_106 : decode cX10_tested 106 = .ok (.putfield 179, 3) := by decide +kernel
theorem dX10_tested_109 : decode cX10_tested 109 = .ok (.goto (-97), 3) := by decide +kernel
theorem dX10_tested_112 : decode cX10_tested 112 = .ok (.aload_n 0, 1) := by decide +kernel
theorem dX10_tested_113 : decode cX10_tested 113 = .ok (.invokevirtual 221, 3) := by decide +kernel
theorem dX10_tested_116 : decode cX10_tested 116 = .ok (.ifCond .eq 18, 3) := by decide +kernel
theorem dX10_tested_119 : decode cX10_tested 119 = .ok (.aload_n 0, 1) := by decide +kernel
theorem dX10_tested_120 : decode cX10_tested 120 = .ok (.invokevirtual 120, 3) := by decide +kernel
theorem dX10_tested_123 : decode cX10_tested 123 = .ok (.pop, 1) := by decide +kernel
theorem dX10_tested_124 : decode cX10_tested 124 = .ok (.aload_n 0, 1) := by decide +kernel
theorem dX10_tested_125 : decode cX10_tested 125 = .ok (.iconst 0, 1) := by decide +kernel
theorem dX10_tested_126 : decode cX10_tested 126 = .ok (.aload_n 0, 1) := by decide +kernel
theorem dX10_tested_127 : decode cX10_tested 127 = .ok (.getfield 117, 3) := by decide +kernel
theorem dX10_tested_130 : decode cX10_tested 130 = .ok (.invokevirtual 137, 3) := by decide +kernel
theorem dX10_tested_133 : decode cX10_tested 133 = .ok (.ireturn, 1) := by decide +kernel
theorem dX10_tested_134 : decode cX10_tested 134 = .ok (.aload_n 0, 1) := by decide +kernel
theorem dX10_tested_135 : decode cX10_tested 135 = .ok (.iconst 1, 1) := by decide +kernel
theorem dX10_tested_136 : decode cX10_tested 136 = .ok (.invokevirtual 218, 3) := by decide +kernel
theorem dX10_tested_139 : decode cX10_tested 139 = .ok (.iconst 1, 1) := by decide +kernel
theorem dX10_tested_140 : decode cX10_tested 140 = .ok (.ireturn, 1) := by decide +kernel
theorem dX10_clauseOf_0 : decode cX10_clauseOf 0 = .ok (.aload_n 0, 1) := by decide +kernel
theorem dX10_clauseOf_1 : decode cX10_clauseOf 1 = .ok (.invokevirtual 131, 3) := by decide +kernel
theorem dX10_clauseOf_4 : decode cX10_clauseOf 4 = .ok (.bipush 60, 2) := by decide +kernel
theorem dX10_clauseOf_6 : decode cX10_clauseOf 6 = .ok (.aload_n 0, 1) := by decide +kernel
theorem dX10_clauseOf_7 : decode cX10_clauseOf 7 = .ok (.getfield 148, 3) := by decide +kernel
theorem dX10_clauseOf_10 : decode cX10_clauseOf 10 = .ok (.imul, 1) := by decide +kernel
theorem dX10_clauseOf_11 : decode cX10_clauseOf 11 = .ok (.iconst 5, 1) := by decide +kernel
theorem dX10_clauseOf_12 : decode cX10_clauseOf 12 = .ok (.aload_n 0, 1) := by decide +kernel
theorem dX10_clauseOf_13 : decode cX10_clauseOf 13 = .ok (.getfield 26, 3) := by decide +kernel
theorem dX10_clauseOf_16 : decode cX10_clauseOf 16 = .ok (.aload_n 0, 1) := by decide +kernel
theorem dX10_clauseOf_17 : decode cX10_clauseOf 17 = .ok (.getfield 148, 3) := by decide +kernel
theorem dX10_clauseOf_20 : decode cX10_clauseOf 20 = .ok (.iaload, 1) := by decide +kernel
theorem dX10_clauseOf_21 : decode cX10_clauseOf 21 = .ok (.imul, 1) := by decide +kernel
theorem dX10_clauseOf_22 : decode cX10_clauseOf 22 = .ok (.iadd, 1) := by decide +kernel
theorem dX10_clauseOf_23 : decode cX10_clauseOf 23 = .ok (.istore_n 3, 1) := by decide +kernel
theorem dX10_clauseOf_24 : decode cX10_clauseOf 24 = .ok (.aload_n 0, 1) := by decide +kernel
theorem dX10_clauseOf_25 : decode cX10_clauseOf 25 = .ok (.getfield 23, 3) := by decide +kernel
theorem dX10_clauseOf_28 : decode cX10_clauseOf 28 = .ok (.iload_n 3, 1) := by decide +kernel
theorem dX10_clauseOf_29 : decode cX10_clauseOf 29 = .ok (.iload_n 1, 1) := by decide +kernel
theorem dX10_clauseOf_30 : decode cX10_clauseOf 30 = .ok (.iastore, 1) := by decide +kernel
theorem dX10_clauseOf_31 : decode cX10_clauseOf 31 = .ok (.aload_n 0, 1) := by decide +kernel
theorem dX10_clauseOf_32 : decode cX10_clauseOf 32 = .ok (.getfield 23, 3) := by decide +kernel
theorem dX10_clauseOf_35 : decode cX10_clauseOf 35 = .ok (.iload_n 3, 1) := by decide +kernel
theorem dX10_clauseOf_36 : decode cX10_clauseOf 36 = .ok (.iconst 1, 1) := by decide +kernel
theorem dX10_clauseOf_37 : decode cX10_clauseOf 37 = .ok (.iadd, 1) := by decide +kernel
theorem dX10_clauseOf_38 : decode cX10_clauseOf 38 = .ok (.aload_n 0, 1) := by decide +kernel
theorem dX10_clauseOf_39 : decode cX10_clauseOf 39 = .ok (.getfield 20, 3) := by decide +kernel
theorem dX10_clauseOf_42 : decode cX10_clauseOf 42 = .ok (.aload_n 0, 1) := by decide +kernel
theorem dX10_clauseOf_43 : decode cX10_clauseOf 43 = .ok (.getfield 148, 3) := by decide +kernel
theorem dX10_clauseOf_46 : decode cX10_clauseOf 46 = .ok (.iaload, 1) := by decide +kernel
theorem dX10_clauseOf_47 : decode cX10_clauseOf 47 = .ok (.iastore, 1) := by decide +kernel
theorem dX10_clauseOf_48 : decode cX10_clauseOf 48 = .ok (.iload_n 2, 1) := by decide +kernel
theorem dX10_clauseOf_49 : decode cX10_clauseOf 49 = .ok (.ifCond .eq 12, 3) := by decide +kernel
theorem dX10_clauseOf_52 : decode cX10_clauseOf 52 = .ok (.aload_n 0, 1) := by decide +kernel
theorem dX10_clauseOf_53 : decode cX10_clauseOf 53 = .ok (.invokevirtual 207, 3) := by decide +kernel
theorem dX10_clauseOf_56 : decode cX10_clauseOf 56 = .ok (.ifCond .ne 5, 3) := by decide +kernel
theorem dX10_clauseOf_59 : decode cX10_clauseOf 59 = .ok (.iconst 0, 1) := by decide +kernel
theorem dX10_clauseOf_60 : decode cX10_clauseOf 60 = .ok (.ireturn, 1) := by decide +kernel
theorem dX10_clauseOf_61 : decode cX10_clauseOf 61 = .ok (.aload_n 0, 1) := by decide +kernel
theorem dX10_clauseOf_62 : decode cX10_clauseOf 62 = .ok (.getfield 23, 3) := by decide +kernel
theorem dX10_clauseOf_65 : decode cX10_clauseOf 65 = .ok (.iload_n 3, 1) := by decide +kernel
theorem dX10_clauseOf_66 : decode cX10_clauseOf 66 = .ok (.iconst 2, 1) := by decide +kernel
theorem dX10_clauseOf_67 : decode cX10_clauseOf 67 = .ok (.iadd, 1) := by decide +kernel
theorem dX10_clauseOf_68 : decode cX10_clauseOf 68 = .ok (.aload_n 0, 1) := by decide +kernel
theorem dX10_clauseOf_69 : decode cX10_clauseOf 69 = .ok (.getfield 20, 3) := by decide +kernel
theorem dX10_clauseOf_72 : decode cX10_clauseOf 72 = .ok (.aload_n 0, 1) := by decide +kernel
theorem dX10_clauseOf_73 : decode cX10_clauseOf 73 = .ok (.getfield 148, 3) := by decide +kernel
theorem dX10_clauseOf_76 : decode cX10_clauseOf 76 = .ok (.iaload, 1) := by decide +kernel
theorem dX10_clauseOf_77 : decode cX10_clauseOf 77 = .ok (.iastore, 1) := by decide +kernel
theorem dX10_clauseOf_78 : decode cX10_clauseOf 78 = .ok (.aload_n 0, 1) := by decide +kernel
theorem dX10_clauseOf_79 : decode cX10_clauseOf 79 = .ok (.getfield 23, 3) := by decide +kernel
theorem dX10_clauseOf_82 : decode cX10_clauseOf 82 = .ok (.iload_n 3, 1) := by decide +kernel
theorem dX10_clauseOf_83 : decode cX10_clauseOf 83 = .ok (.iconst 3, 1) := by decide +kernel
theorem dX10_clauseOf_84 : decode cX10_clauseOf 84 = .ok (.iadd, 1) := by decide +kernel
theorem dX10_clauseOf_85 : decode cX10_clauseOf 85 = .ok (.iconst (-1), 1) := by decide +kernel
theorem dX10_clauseOf_86 : decode cX10_clauseOf 86 = .ok (.iastore, 1) := by decide +kernel
theorem dX10_clauseOf_87 : decode cX10_clauseOf 87 = .ok (.aload_n 0, 1) := by decide +kernel
theorem dX10_clauseOf_88 : decode cX10_clauseOf 88 = .ok (.ldc2_w 234, 3) := by decide +kernel
theorem dX10_clauseOf_91 : decode cX10_clauseOf 91 = .ok (.invokevirtual 236, 3) := by decide +kernel
theorem dX10_clauseOf_94 : decode cX10_clauseOf 94 = .ok (.ifCond .eq 29, 3) := by decide +kernel
theorem dX10_clauseOf_97 : decode cX10_clauseOf 97 = .ok (.aload_n 0, 1) := by decide +kernel
theorem dX10_clauseOf_98 : decode cX10_clauseOf 98 = .ok (.getfield 23, 3) := by decide +kernel
theorem dX10_clauseOf_101 : decode cX10_clauseOf 101 = .ok (.iload_n 3, 1) := by decide +kernel
theorem dX10_clauseOf_102 : decode cX10_clauseOf 102 = .ok (.iconst 3, 1) := by decide +kernel
theorem dX10_clauseOf_103 : decode cX10_clauseOf 103 = .ok (.iadd, 1) := by decide +kernel
theorem dX10_clauseOf_104 : decode cX10_clauseOf 104 = .ok (.aload_n 0, 1) := by decide +kernel
theorem dX10_clauseOf_105 : decode cX10_clauseOf 105 = .ok (.getfield 20, 3) := by decide +kernel
theorem dX10_clauseOf_108 : decode cX10_clauseOf 108 = .ok (.aload_n 0, 1) := by decide +kernel
theorem dX10_clauseOf_109 : decode cX10_clauseOf 109 = .ok (.getfield 148, 3) := by decide +kernel
theorem dX10_clauseOf_112 : decode cX10_clauseOf 112 = .ok (.iaload, 1) := by decide +kernel
theorem dX10_clauseOf_113 : decode cX10_clauseOf 113 = .ok (.iastore, 1) := by decide +kernel
theorem dX10_clauseOf_114 : decode cX10_clauseOf 114 = .ok (.aload_n 0, 1) := by decide +kernel
theorem dX10_clauseOf_115 : decode cX10_clauseOf 115 = .ok (.invokevirtual 239, 3) := by decide +kernel
theorem dX10_clauseOf_118 : decode cX10_clauseOf 118 = .ok (.ifCond .ne 5, 3) := by decide +kernel
theorem dX10_clauseOf_121 : decode cX10_clauseOf 121 = .ok (.iconst 0, 1) := by decide +kernel
theorem dX10_clauseOf_122 : decode cX10_clauseOf 122 = .ok (.ireturn, 1) := by decide +kernel
theorem dX10_clauseOf_123 : decode cX10_clauseOf 123 = .ok (.aload_n 0, 1) := by decide +kernel
theorem dX10_clauseOf_124 : decode cX10_clauseOf 124 = .ok (.getfield 23, 3) := by decide +kernel
theorem dX10_clauseOf_127 : decode cX10_clauseOf 127 = .ok (.iload_n 3, 1) := by decide +kernel
theorem dX10_clauseOf_128 : decode cX10_clauseOf 128 = .ok (.iconst 4, 1) := by decide +kernel
theorem dX10_clauseOf_129 : decode cX10_clauseOf 129 = .ok (.iadd, 1) := by decide +kernel
theorem dX10_clauseOf_130 : decode cX10_clauseOf 130 = .ok (.aload_n 0, 1) := by decide +kernel
theorem dX10_clauseOf_131 : decode cX10_clauseOf 131 = .ok (.getfield 20, 3) := by decide +kernel
theorem dX10_clauseOf_134 : decode cX10_clauseOf 134 = .ok (.aload_n 0, 1) := by decide +kernel
theorem dX10_clauseOf_135 : decode cX10_clauseOf 135 = .ok (.getfield 148, 3) := by decide +kernel
theorem dX10_clauseOf_138 : decode cX10_clauseOf 138 = .ok (.iaload, 1) := by decide +kernel
theorem dX10_clauseOf_139 : decode cX10_clauseOf 139 = .ok (.iastore, 1) := by decide +kernel
theorem dX10_clauseOf_140 : decode cX10_clauseOf 140 = .ok (.aload_n 0, 1) := by decide +kernel
theorem dX10_clauseOf_141 : decode cX10_clauseOf 141 = .ok (.getfield 26, 3) := by decide +kernel
theorem dX10_clauseOf_144 : decode cX10_clauseOf 144 = .ok (.aload_n 0, 1) := by decide +kernel
theorem dX10_clauseOf_145 : decode cX10_clauseOf 145 = .ok (.getfield 148, 3) := by decide +kernel
theorem dX10_clauseOf_148 : decode cX10_clauseOf 148 = .ok (.dup2, 1) := by decide +kernel
theorem dX10_clauseOf_149 : decode cX10_clauseOf 149 = .ok (.iaload, 1) := by decide +kernel
theorem dX10_clauseOf_150 : decode cX10_clauseOf 150 = .ok (.iconst 1, 1) := by decide +kernel
theorem dX10_clauseOf_151 : decode cX10_clauseOf 151 = .ok (.iadd, 1) := by decide +kernel
theorem dX10_clauseOf_152 : decode cX10_clauseOf 152 = .ok (.iastore, 1) := by decide +kernel
theorem dX10_clauseOf_153 : decode cX10_clauseOf 153 = .ok (.iconst 1, 1) := by decide +kernel
theorem dX10_clauseOf_154 : decode cX10_clauseOf 154 = .ok (.ireturn, 1) := by decide +kernel
theorem dX10_sets_0 : decode cX10_sets 0 = .ok (.aload_n 1, 1) := by decide +kernel
theorem dX10_sets_1 : decode cX10_sets 1 = .ok (.aload_n 0, 1) := by decide +kernel
theorem dX10_sets_2 : decode cX10_sets 2 = .ok (.getfield 148, 3) := by decide +kernel
theorem dX10_sets_5 : decode cX10_sets 5 = .ok (.iaload, 1) := by decide +kernel
theorem dX10_sets_6 : decode cX10_sets 6 = .ok (.ifCond .lt 10, 3) := by decide +kernel
theorem dX10_sets_9 : decode cX10_sets 9 = .ok (.aload_n 0, 1) := by decide +kernel
theorem dX10_sets_10 : decode cX10_sets 10 = .ok (.iconst 4, 1) := by decide +kernel
theorem dX10_sets_11 : decode cX10_sets 11 = .ok (.iload_n 3, 1) := by decide +kernel
theorem dX10_sets_12 : decode cX10_sets 12 = .ok (.invokevirtual 137, 3) := by decide +kernel
theorem dX10_sets_15 : decode cX10_sets 15 = .ok (.ireturn, 1) := by decide +kernel
theorem dX10_sets_16 : decode cX10_sets 16 = .ok (.aload_n 0, 1) := by decide +kernel
theorem dX10_sets_17 : decode cX10_sets 17 = .ok (.invokevirtual 131, 3) := by decide +kernel
theorem dX10_sets_20 : decode cX10_sets 20 = .ok (.aload_n 0, 1) := by decide +kernel
theorem dX10_sets_21 : decode cX10_sets 21 = .ok (.iconst 0, 1) := by decide +kernel
theorem dX10_sets_22 : decode cX10_sets 22 = .ok (.iload_n 2, 1) := by decide +kernel
theorem dX10_sets_23 : decode cX10_sets 23 = .ok (.invokevirtual 191, 3) := by decide +kernel
theorem dX10_sets_26 : decode cX10_sets 26 = .ok (.ifCond .ne 5, 3) := by decide +kernel
theorem dX10_sets_29 : decode cX10_sets 29 = .ok (.iconst 0, 1) := by decide +kernel
theorem dX10_sets_30 : decode cX10_sets 30 = .ok (.ireturn, 1) := by decide +kernel
theorem dX10_sets_31 : decode cX10_sets 31 = .ok (.aload_n 1, 1) := by decide +kernel
theorem dX10_sets_32 : decode cX10_sets 32 = .ok (.aload_n 0, 1) := by decide +kernel
theorem dX10_sets_33 : decode cX10_sets 33 = .ok (.getfield 148, 3) := by decide +kernel
theorem dX10_sets_36 : decode cX10_sets 36 = .ok (.aload_n 0, 1) := by decide +kernel
theorem dX10_sets_37 : decode cX10_sets 37 = .ok (.getfield 141, 3) := by decide +kernel
theorem dX10_sets_40 : decode cX10_sets 40 = .ok (.iastore, 1) := by decide +kernel
theorem dX10_sets_41 : decode cX10_sets 41 = .ok (.iconst 1, 1) := by decide +kernel
theorem dX10_sets_42 : decode cX10_sets 42 = .ok (.ireturn, 1) := by decide +kernel
theorem dX10_setsTwo_0 : decode cX10_setsTwo 0 = .ok (.aload_n 1, 1) := by decide +kernel
theorem dX10_setsTwo_1 : decode cX10_setsTwo 1 = .ok (.aload_n 0, 1) := by decide +kernel
theorem dX10_setsTwo_2 : decode cX10_setsTwo 2 = .ok (.getfield 148, 3) := by decide +kernel
theorem dX10_setsTwo_5 : decode cX10_setsTwo 5 = .ok (.iaload, 1) := by decide +kernel
theorem dX10_setsTwo_6 : decode cX10_setsTwo 6 = .ok (.ifCond .lt 11, 3) := by decide +kernel
theorem dX10_setsTwo_9 : decode cX10_setsTwo 9 = .ok (.aload_n 0, 1) := by decide +kernel
theorem dX10_setsTwo_10 : decode cX10_setsTwo 10 = .ok (.iconst 4, 1) := by decide +kernel
theorem dX10_setsTwo_11 : decode cX10_setsTwo 11 = .ok (.iload 5, 2) := by decide +kernel
theorem dX10_setsTwo_13 : decode cX10_setsTwo 13 = .ok (.invokevirtual 137, 3) := by decide +kernel
theorem dX10_setsTwo_16 : decode cX10_setsTwo 16 = .ok (.ireturn, 1) := by decide +kernel
theorem dX10_setsTwo_17 : decode cX10_setsTwo 17 = .ok (.aload_n 0, 1) := by decide +kernel
theorem dX10_setsTwo_18 : decode cX10_setsTwo 18 = .ok (.invokevirtual 131, 3) := by decide +kernel
theorem dX10_setsTwo_21 : decode cX10_setsTwo 21 = .ok (.aload_n 0, 1) := by decide +kernel
theorem dX10_setsTwo_22 : decode cX10_setsTwo 22 = .ok (.iload_n 3, 1) := by decide +kernel
theorem dX10_setsTwo_23 : decode cX10_setsTwo 23 = .ok (.iload 4, 2) := by decide +kernel
theorem dX10_setsTwo_25 : decode cX10_setsTwo 25 = .ok (.invokevirtual 191, 3) := by decide +kernel
theorem dX10_setsTwo_28 : decode cX10_setsTwo 28 = .ok (.ifCond .ne 5, 3) := by decide +kernel
theorem dX10_setsTwo_31 : decode cX10_setsTwo 31 = .ok (.iconst 0, 1) := by decide +kernel
theorem dX10_setsTwo_32 : decode cX10_setsTwo 32 = .ok (.ireturn, 1) := by decide +kernel
theorem dX10_setsTwo_33 : decode cX10_setsTwo 33 = .ok (.aload_n 1, 1) := by decide +kernel
theorem dX10_setsTwo_34 : decode cX10_setsTwo 34 = .ok (.aload_n 0, 1) := by decide +kernel
theorem dX10_setsTwo_35 : decode cX10_setsTwo 35 = .ok (.getfield 148, 3) := by decide +kernel
theorem dX10_setsTwo_38 : decode cX10_setsTwo 38 = .ok (.aload_n 0, 1) := by decide +kernel
theorem dX10_setsTwo_39 : decode cX10_setsTwo 39 = .ok (.getfield 141, 3) := by decide +kernel
theorem dX10_setsTwo_42 : decode cX10_setsTwo 42 = .ok (.iastore, 1) := by decide +kernel
theorem dX10_setsTwo_43 : decode cX10_setsTwo 43 = .ok (.aload_n 0, 1) := by decide +kernel
theorem dX10_setsTwo_44 : decode cX10_setsTwo 44 = .ok (.iload_n 3, 1) := by decide +kernel
theorem dX10_setsTwo_45 : decode cX10_setsTwo 45 = .ok (.iload 4, 2) := by decide +kernel
theorem dX10_setsTwo_47 : decode cX10_setsTwo 47 = .ok (.invokevirtual 191, 3) := by decide +kernel
theorem dX10_setsTwo_50 : decode cX10_setsTwo 50 = .ok (.ifCond .ne 5, 3) := by decide +kernel
theorem dX10_setsTwo_53 : decode cX10_setsTwo 53 = .ok (.iconst 0, 1) := by decide +kernel
theorem dX10_setsTwo_54 : decode cX10_setsTwo 54 = .ok (.ireturn, 1) := by decide +kernel
theorem dX10_setsTwo_55 : decode cX10_setsTwo 55 = .ok (.aload_n 2, 1) := by decide +kernel
theorem dX10_setsTwo_56 : decode cX10_setsTwo 56 = .ok (.aload_n 0, 1) := by decide +kernel
theorem dX10_setsTwo_57 : decode cX10_setsTwo 57 = .ok (.getfield 148, 3) := by decide +kernel
theorem dX10_setsTwo_60 : decode cX10_setsTwo 60 = .ok (.aload_n 0, 1) := by decide +kernel
theorem dX10_setsTwo_61 : decode cX10_setsTwo 61 = .ok (.getfield 141, 3) := by decide +kernel
theorem dX10_setsTwo_64 : decode cX10_setsTwo 64 = .ok (.iastore, 1) := by decide +kernel
theorem dX10_setsTwo_65 : decode cX10_setsTwo 65 = .ok (.iconst 1, 1) := by decide +kernel
theorem dX10_setsTwo_66 : decode cX10_setsTwo 66 = .ok (.ireturn, 1) := by decide +kernel
theorem dX10_area_0 : decode cX10_area 0 = .ok (.aload_n 0, 1) := by decide +kernel
theorem dX10_area_1 : decode cX10_area 1 = .ok (.invokevirtual 131, 3) := by decide +kernel
theorem dX10_area_4 : decode cX10_area 4 = .ok (.iconst 1, 1) := by decide +kernel
theorem dX10_area_5 : decode cX10_area 5 = .ok (.istore_n 3, 1) := by decide +kernel
theorem dX10_area_6 : decode cX10_area 6 = .ok (.iload_n 2, 1) := by decide +kernel
theorem dX10_area_7 : decode cX10_area 7 = .ok (.ifCond .le 19, 3) := by decide +kernel
theorem dX10_area_10 : decode cX10_area 10 = .ok (.aload_n 0, 1) := by decide +kernel
theorem dX10_area_11 : decode cX10_area 11 = .ok (.iconst 0, 1) := by decide +kernel
theorem dX10_area_12 : decode cX10_area 12 = .ok (.iload_n 2, 1) := by decide +kernel
theorem dX10_area_13 : decode cX10_area 13 = .ok (.invokevirtual 191, 3) := by decide +kernel
theorem dX10_area_16 : decode cX10_area 16 = .ok (.ifCond .ne 5, 3) := by decide +kernel
theorem dX10_area_19 : decode cX10_area 19 = .ok (.iconst 0, 1) := by decide +kernel
theorem dX10_area_20 : decode cX10_area 20 = .ok (.ireturn, 1) := by decide +kernel
theorem dX10_area_21 : decode cX10_area 21 = .ok (.aload_n 0, 1) := by decide +kernel
theorem dX10_area_22 : decode cX10_area 22 = .ok (.getfield 141, 3) := by decide +kernel
theorem dX10_area_25 : decode cX10_area 25 = .ok (.istore_n 3, 1) := by decide +kernel
theorem dX10_area_26 : decode cX10_area 26 = .ok (.aload_n 0, 1) := by decide +kernel
theorem dX10_area_27 : decode cX10_area 27 = .ok (.iconst 0, 1) := by decide +kernel
theorem dX10_area_28 : decode cX10_area 28 = .ok (.bipush 11, 2) := by decide +kernel
theorem dX10_area_30 : decode cX10_area 30 = .ok (.invokevirtual 191, 3) := by decide +kernel
theorem dX10_area_33 : decode cX10_area 33 = .ok (.ifCond .ne 5, 3) := by decide +kernel
theorem dX10_area_36 : decode cX10_area 36 = .ok (.iconst 0, 1) := by decide +kernel
theorem dX10_area_37 : decode cX10_area 37 = .ok (.ireturn, 1) := by decide +kernel
theorem dX10_area_38 : decode cX10_area 38 = .ok (.aload_n 0, 1) := by decide +kernel
theorem dX10_area_39 : decode cX10_area 39 = .ok (.getfield 141, 3) := by decide +kernel
theorem dX10_area_42 : decode cX10_area 42 = .ok (.istore 4, 2) := by decide +kernel
theorem dX10_area_44 : decode cX10_area 44 = .ok (.aload_n 0, 1) := by decide +kernel
theorem dX10_area_45 : decode cX10_area 45 = .ok (.iconst 0, 1) := by decide +kernel
theorem dX10_area_46 : decode cX10_area 46 = .ok (.bipush 11, 2) := by decide +kernel
theorem dX10_area_48 : decode cX10_area 48 = .ok (.invokevirtual 191, 3) := by decide +kernel
theorem dX10_area_51 : decode cX10_area 51 = .ok (.ifCond .ne 5, 3) := by decide +kernel
theorem dX10_area_54 : decode cX10_area 54 = .ok (.iconst 0, 1) := by decide +kernel
theorem dX10_area_55 : decode cX10_area 55 = .ok (.ireturn, 1) := by decide +kernel
theorem dX10_area_56 : decode cX10_area 56 = .ok (.aload_n 0, 1) := by decide +kernel
theorem dX10_area_57 : decode cX10_area 57 = .ok (.getfield 141, 3) := by decide +kernel
theorem dX10_area_60 : decode cX10_area 60 = .ok (.istore 5, 2) := by decide +kernel
theorem dX10_area_62 : decode cX10_area 62 = .ok (.aload_n 0, 1) := by decide +kernel
theorem dX10_area_63 : decode cX10_area 63 = .ok (.iload 4, 2) := by decide +kernel
theorem dX10_area_65 : decode cX10_area 65 = .ok (.bipush 11, 2) := by decide +kernel
theorem dX10_area_67 : decode cX10_area 67 = .ok (.invokevirtual 191, 3) := by decide +kernel
theorem dX10_area_70 : decode cX10_area 70 = .ok (.ifCond .ne 5, 3) := by decide +kernel
theorem dX10_area_73 : decode cX10_area 73 = .ok (.iconst 0, 1) := by decide +kernel
theorem dX10_area_74 : decode cX10_area 74 = .ok (.ireturn, 1) := by decide +kernel
theorem dX10_area_75 : decode cX10_area 75 = .ok (.aload_n 0, 1) := by decide +kernel
theorem dX10_area_76 : decode cX10_area 76 = .ok (.getfield 141, 3) := by decide +kernel
theorem dX10_area_79 : decode cX10_area 79 = .ok (.istore 6, 2) := by decide +kernel
theorem dX10_area_81 : decode cX10_area 81 = .ok (.aload_n 0, 1) := by decide +kernel
theorem dX10_area_82 : decode cX10_area 82 = .ok (.iload 5, 2) := by decide +kernel
theorem dX10_area_84 : decode cX10_area 84 = .ok (.bipush 11, 2) := by decide +kernel
theorem dX10_area_86 : decode cX10_area 86 = .ok (.invokevirtual 191, 3) := by decide +kernel
theorem dX10_area_89 : decode cX10_area 89 = .ok (.ifCond .ne 5, 3) := by decide +kernel
theorem dX10_area_92 : decode cX10_area 92 = .ok (.iconst 0, 1) := by decide +kernel
theorem dX10_area_93 : decode cX10_area 93 = .ok (.ireturn, 1) := by decide +kernel
theorem dX10_area_94 : decode cX10_area 94 = .ok (.iload 5, 2) := by decide +kernel
theorem dX10_area_96 : decode cX10_area 96 = .ok (.istore 7, 2) := by decide +kernel
theorem dX10_area_98 : decode cX10_area 98 = .ok (.iload 7, 2) := by decide +kernel
theorem dX10_area_100 : decode cX10_area 100 = .ok (.aload_n 0, 1) := by decide +kernel
theorem dX10_area_101 : decode cX10_area 101 = .ok (.getfield 141, 3) := by decide +kernel
theorem dX10_area_104 : decode cX10_area 104 = .ok (.if_icmp .gt 52, 3) := by decide +kernel
theorem dX10_area_107 : decode cX10_area 107 = .ok (.iload 4, 2) := by decide +kernel
theorem dX10_area_109 : decode cX10_area 109 = .ok (.istore 8, 2) := by decide +kernel
theorem dX10_area_111 : decode cX10_area 111 = .ok (.iload 8, 2) := by decide +kernel
theorem dX10_area_113 : decode cX10_area 113 = .ok (.iload 6, 2) := by decide +kernel
theorem dX10_area_115 : decode cX10_area 115 = .ok (.if_icmp .gt 35, 3) := by decide +kernel
theorem dX10_area_118 : decode cX10_area 118 = .ok (.aload_n 0, 1) := by decide +kernel
theorem dX10_area_119 : decode cX10_area 119 = .ok (.getfield 59, 3) := by decide +kernel
theorem dX10_area_122 : decode cX10_area 122 = .ok (.aload_n 0, 1) := by decide +kernel
theorem dX10_area_123 : decode cX10_area 123 = .ok (.getfield 148, 3) := by decide +kernel
theorem dX10_area_126 : decode cX10_area 126 = .ok (.bipush 12, 2) := by decide +kernel
theorem dX10_area_128 : decode cX10_area 128 = .ok (.isub, 1) := by decide +kernel
theorem dX10_area_129 : decode cX10_area 129 = .ok (.iload_n 1, 1) := by decide +kernel
theorem dX10_area_130 : decode cX10_area 130 = .ok (.invokestatic 242, 3) := by decide +kernel
theorem dX10_area_133 : decode cX10_area 133 = .ok (.bipush 12, 2) := by decide +kernel
theorem dX10_area_135 : decode cX10_area 135 = .ok (.iload 7, 2) := by decide +kernel
theorem dX10_area_137 : decode cX10_area 137 = .ok (.imul, 1) := by decide +kernel
theorem dX10_area_138 : decode cX10_area 138 = .ok (.iadd, 1) := by decide +kernel
theorem dX10_area_139 : decode cX10_area 139 = .ok (.iload 8, 2) := by decide +kernel
theorem dX10_area_141 : decode cX10_area 141 = .ok (.iadd, 1) := by decide +kernel
theorem dX10_area_142 : decode cX10_area 142 = .ok (.iload_n 3, 1) := by decide +kernel
theorem dX10_area_143 : decode cX10_area 143 = .ok (.iastore, 1) := by decide +kernel
theorem dX10_area_144 : decode cX10_area 144 = .ok (.iinc 8 1, 3) := by decide +kernel
theorem dX10_area_147 : decode cX10_area 147 = .ok (.goto (-36), 3) := by decide +kernel
theorem dX10_area_150 : decode cX10_area 150 = .ok (.iinc 7 1, 3) := by decide +kernel
theorem dX10_area_153 : decode cX10_area 153 = .ok (.goto (-55), 3) := by decide +kernel
theorem dX10_area_156 : decode cX10_area 156 = .ok (.iconst 1, 1) := by decide +kernel
theorem dX10_area_157 : decode cX10_area 157 = .ok (.ireturn, 1) := by decide +kernel
theorem dX10_laidAt_0 : decode cX10_laidAt 0 = .ok (.sipush 144, 3) := by decide +kernel
theorem dX10_laidAt_3 : decode cX10_laidAt 3 = .ok (.bipush 6, 2) := by decide +kernel
theorem dX10_laidAt_5 : decode cX10_laidAt 5 = .ok (.iload_n 0, 1) := by decide +kernel
theorem dX10_laidAt_6 : decode cX10_laidAt 6 = .ok (.imul, 1) := by decide +kernel
theorem dX10_laidAt_7 : decode cX10_laidAt 7 = .ok (.iload_n 1, 1) := by decide +kernel
theorem dX10_laidAt_8 : decode cX10_laidAt 8 = .ok (.iadd, 1) := by decide +kernel
theorem dX10_laidAt_9 : decode cX10_laidAt 9 = .ok (.imul, 1) := by decide +kernel
theorem dX10_laidAt_10 : decode cX10_laidAt 10 = .ok (.ireturn, 1) := by decide +kernel
theorem dX10_sounds_0 : decode cX10_sounds 0 = .ok (.aload_n 0, 1) := by decide +kernel
theorem dX10_sounds_1 : decode cX10_sounds 1 = .ok (.getfield 148, 3) := by decide +kernel
theorem dX10_sounds_4 : decode cX10_sounds 4 = .ok (.bipush 12, 2) := by decide +kernel
theorem dX10_sounds_6 : decode cX10_sounds 6 = .ok (.isub, 1) := by decide +kernel
theorem dX10_sounds_7 : decode cX10_sounds 7 = .ok (.istore_n 2, 1) := by decide +kernel
theorem dX10_sounds_8 : decode cX10_sounds 8 = .ok (.aload_n 0, 1) := by decide +kernel
theorem dX10_sounds_9 : decode cX10_sounds 9 = .ok (.getfield 53, 3) := by decide +kernel
theorem dX10_sounds_12 : decode cX10_sounds 12 = .ok (.iload_n 2, 1) := by decide +kernel
theorem dX10_sounds_13 : decode cX10_sounds 13 = .ok (.iaload, 1) := by decide +kernel
theorem dX10_sounds_14 : decode cX10_sounds 14 = .ok (.iconst 4, 1) := by decide +kernel
theorem dX10_sounds_15 : decode cX10_sounds 15 = .ok (.if_icmp .ne 10, 3) := by decide +kernel
theorem dX10_sounds_18 : decode cX10_sounds 18 = .ok (.aload_n 0, 1) := by decide +kernel
theorem dX10_sounds_19 : decode cX10_sounds 19 = .ok (.iconst 4, 1) := by decide +kernel
theorem dX10_sounds_20 : decode cX10_sounds 20 = .ok (.iload_n 1, 1) := by decide +kernel
theorem dX10_sounds_21 : decode cX10_sounds 21 = .ok (.invokevirtual 137, 3) := by decide +kernel
theorem dX10_sounds_24 : decode cX10_sounds 24 = .ok (.ireturn, 1) := by decide +kernel
theorem dX10_sounds_25 : decode cX10_sounds 25 = .ok (.aload_n 0, 1) := by decide +kernel
theorem dX10_sounds_26 : decode cX10_sounds 26 = .ok (.invokevirtual 131, 3) := by decide +kernel
theorem dX10_sounds_29 : decode cX10_sounds 29 = .ok (.bipush 12, 2) := by decide +kernel
theorem dX10_sounds_31 : decode cX10_sounds 31 = .ok (.iload_n 2, 1) := by decide +kernel
theorem dX10_sounds_32 : decode cX10_sounds 32 = .ok (.imul, 1) := by decide +kernel
theorem dX10_sounds_33 : decode cX10_sounds 33 = .ok (.iconst 3, 1) := by decide +kernel
theorem dX10_sounds_34 : decode cX10_sounds 34 = .ok (.aload_n 0, 1) := by decide +kernel
theorem dX10_sounds_35 : decode cX10_sounds 35 = .ok (.getfield 53, 3) := by decide +kernel
theorem dX10_sounds_38 : decode cX10_sounds 38 = .ok (.iload_n 2, 1) := by decide +kernel
theorem dX10_sounds_39 : decode cX10_sounds 39 = .ok (.iaload, 1) := by decide +kernel
theorem dX10_sounds_40 : decode cX10_sounds 40 = .ok (.imul, 1) := by decide +kernel
theorem dX10_sounds_41 : decode cX10_sounds 41 = .ok (.iadd, 1) := by decide +kernel
theorem dX10_sounds_42 : decode cX10_sounds 42 = .ok (.istore_n 3, 1) := by decide +kernel
theorem dX10_sounds_43 : decode cX10_sounds 43 = .ok (.aload_n 0, 1) := by decide +kernel
theorem dX10_sounds_44 : decode cX10_sounds 44 = .ok (.iconst 1, 1) := by decide +kernel
theorem dX10_sounds_45 : decode cX10_sounds 45 = .ok (.bipush 40, 2) := by decide +kernel
theorem dX10_sounds_47 : decode cX10_sounds 47 = .ok (.invokevirtual 191, 3) := by decide +kernel
theorem dX10_sounds_50 : decode cX10_sounds 50 = .ok (.ifCond .ne 5, 3) := by decide +kernel
theorem dX10_sounds_53 : decode cX10_sounds 53 = .ok (.iconst 0, 1) := by decide +kernel
theorem dX10_sounds_54 : decode cX10_sounds 54 = .ok (.ireturn, 1) := by decide +kernel
theorem dX10_sounds_55 : decode cX10_sounds 55 = .ok (.aload_n 0, 1) := by decide +kernel
theorem dX10_sounds_56 : decode cX10_sounds 56 = .ok (.getfield 56, 3) := by decide +kernel
theorem dX10_sounds_59 : decode cX10_sounds 59 = .ok (.iload_n 3, 1) := by decide +kernel
theorem dX10_sounds_60 : decode cX10_sounds 60 = .ok (.aload_n 0, 1) := by decide +kernel
theorem dX10_sounds_61 : decode cX10_sounds 61 = .ok (.getfield 141, 3) := by decide +kernel
theorem dX10_sounds_64 : decode cX10_sounds 64 = .ok (.iastore, 1) := by decide +kernel
theorem dX10_sounds_65 : decode cX10_sounds 65 = .ok (.aload_n 0, 1) := by decide +kernel
theorem dX10_sounds_66 : decode cX10_sounds 66 = .ok (.iconst 0, 1) := by decide +kernel
theorem dX10_sounds_67 : decode cX10_sounds 67 = .ok (.bipush 11, 2) := by decide +kernel
theorem dX10_sounds_69 : decode cX10_sounds 69 = .ok (.invokevirtual 191, 3) := by decide +kernel
theorem dX10_sounds_72 : decode cX10_sounds 72 = .ok (.ifCond .ne 5, 3) := by decide +kernel
theorem dX10_sounds_75 : decode cX10_sounds 75 = .ok (.iconst 0, 1) := by decide +kernel
theorem dX10_sounds_76 : decode cX10_sounds 76 = .ok (.ireturn, 1) := by decide +kernel
theorem dX10_sounds_77 : decode cX10_sounds 77 = .ok (.aload_n 0, 1) := by decide +kernel
theorem dX10_sounds_78 : decode cX10_sounds 78 = .ok (.getfield 56, 3) := by decide +kernel
theorem dX10_sounds_81 : decode cX10_sounds 81 = .ok (.iload_n 3, 1) := by decide +kernel
theorem dX10_sounds_82 : decode cX10_sounds 82 = .ok (.iconst 1, 1) := by decide +kernel
theorem dX10_sounds_83 : decode cX10_sounds 83 = .ok (.iadd, 1) := by decide +kernel
theorem dX10_sounds_84 : decode cX10_sounds 84 = .ok (.aload_n 0, 1) := by decide +kernel
theorem dX10_sounds_85 : decode cX10_sounds 85 = .ok (.getfield 141, 3) := by decide +kernel
theorem dX10_sounds_88 : decode cX10_sounds 88 = .ok (.iastore, 1) := by decide +kernel
theorem dX10_sounds_89 : decode cX10_sounds 89 = .ok (.aload_n 0, 1) := by decide +kernel
theorem dX10_sounds_90 : decode cX10_sounds 90 = .ok (.iconst 0, 1) := by decide +kernel
theorem dX10_sounds_91 : decode cX10_sounds 91 = .ok (.bipush 11, 2) := by decide +kernel
theorem dX10_sounds_93 : decode cX10_sounds 93 = .ok (.invokevirtual 191, 3) := by decide +kernel
theorem dX10_sounds_96 : decode cX10_sounds 96 = .ok (.ifCond .ne 5, 3) := by decide +kernel
theorem dX10_sounds_99 : decode cX10_sounds 99 = .ok (.iconst 0, 1) := by decide +kernel
theorem dX10_sounds_100 : decode cX10_sounds 100 = .ok (.ireturn, 1) := by decide +kernel
theorem dX10_sounds_101 : decode cX10_sounds 101 = .ok (.aload_n 0, 1) := by decide +kernel
theorem dX10_sounds_102 : decode cX10_sounds 102 = .ok (.getfield 56, 3) := by decide +kernel
theorem dX10_sounds_105 : decode cX10_sounds 105 = .ok (.iload_n 3, 1) := by decide +kernel
theorem dX10_sounds_106 : decode cX10_sounds 106 = .ok (.iconst 2, 1) := by decide +kernel
theorem dX10_sounds_107 : decode cX10_sounds 107 = .ok (.iadd, 1) := by decide +kernel
theorem dX10_sounds_108 : decode cX10_sounds 108 = .ok (.aload_n 0, 1) := by decide +kernel
theorem dX10_sounds_109 : decode cX10_sounds 109 = .ok (.getfield 141, 3) := by decide +kernel
theorem dX10_sounds_112 : decode cX10_sounds 112 = .ok (.iastore, 1) := by decide +kernel
theorem dX10_sounds_113 : decode cX10_sounds 113 = .ok (.aload_n 0, 1) := by decide +kernel
theorem dX10_sounds_114 : decode cX10_sounds 114 = .ok (.getfield 53, 3) := by decide +kernel
theorem dX10_sounds_117 : decode cX10_sounds 117 = .ok (.iload_n 2, 1) := by decide +kernel
theorem dX10_sounds_118 : decode cX10_sounds 118 = .ok (.dup2, 1) := by decide +kernel
theorem dX10_sounds_119 : decode cX10_sounds 119 = .ok (.iaload, 1) := by decide +kernel
theorem dX10_sounds_120 : decode cX10_sounds 120 = .ok (.iconst 1, 1) := by decide +kernel
theorem dX10_sounds_121 : decode cX10_sounds 121 = .ok (.iadd, 1) := by decide +kernel
theorem dX10_sounds_122 : decode cX10_sounds 122 = .ok (.iastore, 1) := by decide +kernel
theorem dX10_sounds_123 : decode cX10_sounds 123 = .ok (.iconst 1, 1) := by decide +kernel
theorem dX10_sounds_124 : decode cX10_sounds 124 = .ok (.ireturn, 1) := by decide +kernel
theorem dX10_woodClause_0 : decode cX10_woodClause 0 = .ok (.aload_n 0, 1) := by decide +kernel
theorem dX10_woodClause_1 : decode cX10_woodClause 1 = .ok (.ldc2_w 246, 3) := by decide +kernel
theorem dX10_woodClause_4 : decode cX10_woodClause 4 = .ok (.invokevirtual 127, 3) := by decide +kernel
theorem dX10_woodClause_7 : decode cX10_woodClause 7 = .ok (.ifCond .eq 20, 3) := by decide +kernel
theorem dX10_woodClause_10 : decode cX10_woodClause 10 = .ok (.aload_n 0, 1) := by decide +kernel
theorem dX10_woodClause_11 : decode cX10_woodClause 11 = .ok (.aload_n 0, 1) := by decide +kernel
theorem dX10_woodClause_12 : decode cX10_woodClause 12 = .ok (.getfield 41, 3) := by decide +kernel
theorem dX10_woodClause_15 : decode cX10_woodClause 15 = .ok (.aload_n 0, 1) := by decide +kernel
theorem dX10_woodClause_16 : decode cX10_woodClause 16 = .ok (.getfield 44, 3) := by decide +kernel
theorem dX10_woodClause_19 : decode cX10_woodClause 19 = .ok (.iconst 2, 1) := by decide +kernel
theorem dX10_woodClause_20 : decode cX10_woodClause 20 = .ok (.bipush 12, 2) := by decide +kernel
theorem dX10_woodClause_22 : decode cX10_woodClause 22 = .ok (.iload_n 1, 1) := by decide +kernel
theorem dX10_woodClause_23 : decode cX10_woodClause 23 = .ok (.invokevirtual 248, 3) := by decide +kernel
theorem dX10_woodClause_26 : decode cX10_woodClause 26 = .ok (.ireturn, 1) := by decide +kernel
theorem dX10_woodClause_27 : decode cX10_woodClause 27 = .ok (.aload_n 0, 1) := by decide +kernel
theorem dX10_woodClause_28 : decode cX10_woodClause 28 = .ok (.ldc2_w 252, 3) := by decide +kernel
theorem dX10_woodClause_31 : decode cX10_woodClause 31 = .ok (.invokevirtual 127, 3) := by decide +kernel
theorem dX10_woodClause_34 : decode cX10_woodClause 34 = .ok (.ifCond .eq 20, 3) := by decide +kernel
theorem dX10_woodClause_37 : decode cX10_woodClause 37 = .ok (.aload_n 0, 1) := by decide +kernel
theorem dX10_woodClause_38 : decode cX10_woodClause 38 = .ok (.aload_n 0, 1) := by decide +kernel
theorem dX10_woodClause_39 : decode cX10_woodClause 39 = .ok (.getfield 47, 3) := by decide +kernel
theorem dX10_woodClause_42 : decode cX10_woodClause 42 = .ok (.aload_n 0, 1) := by decide +kernel
theorem dX10_woodClause_43 : decode cX10_woodClause 43 = .ok (.getfield 50, 3) := by decide +kernel
theorem dX10_woodClause_46 : decode cX10_woodClause 46 = .ok (.iconst 0, 1) := by decide +kernel
theorem dX10_woodClause_47 : decode cX10_woodClause 47 = .ok (.bipush 11, 2) := by decide +kernel
theorem dX10_woodClause_49 : decode cX10_woodClause 49 = .ok (.iload_n 1, 1) := by decide +kernel
theorem dX10_woodClause_50 : decode cX10_woodClause 50 = .ok (.invokevirtual 248, 3) := by decide +kernel
theorem dX10_woodClause_53 : decode cX10_woodClause 53 = .ok (.ireturn, 1) := by decide +kernel
theorem dX10_woodClause_54 : decode cX10_woodClause 54 = .ok (.aload_n 0, 1) := by decide +kernel
theorem dX10_woodClause_55 : decode cX10_woodClause 55 = .ok (.ldc2_w 254, 3) := by decide +kernel
theorem dX10_woodClause_58 : decode cX10_woodClause 58 = .ok (.invokevirtual 127, 3) := by decide +kernel
theorem dX10_woodClause_61 : decode cX10_woodClause 61 = .ok (.ifCond .eq 9, 3) := by decide +kernel
theorem dX10_woodClause_64 : decode cX10_woodClause 64 = .ok (.aload_n 0, 1) := by decide +kernel
theorem dX10_woodClause_65 : decode cX10_woodClause 65 = .ok (.iload_n 1, 1) := by decide +kernel
theorem dX10_woodClause_66 : decode cX10_woodClause 66 = .ok (.invokevirtual 256, 3) := by decide +kernel
theorem dX10_woodClause_69 : decode cX10_woodClause 69 = .ok (.ireturn, 1) := by decide +kernel
theorem dX10_woodClause_70 : decode cX10_woodClause 70 = .ok (.aload_n 0, 1) := by decide +kernel
theorem dX10_woodClause_71 : decode cX10_woodClause 71 = .ok (.ldc2_w 151, 3) := by decide +kernel
theorem dX10_woodClause_74 : decode cX10_woodClause 74 = .ok (.invokevirtual 127, 3) := by decide +kernel
theorem dX10_woodClause_77 : decode cX10_woodClause 77 = .ok (.ifCond .eq 10, 3) := by decide +kernel
theorem dX10_woodClause_80 : decode cX10_woodClause 80 = .ok (.aload_n 0, 1) := by decide +kernel
theorem dX10_woodClause_81 : decode cX10_woodClause 81 = .ok (.iconst 0, 1) := by decide +kernel
theorem dX10_woodClause_82 : decode cX10_woodClause 82 = .ok (.iconst 0, 1) := by decide +kernel
theorem dX10_woodClause_83 : decode cX10_woodClause 83 = .ok (.invokevirtual 259, 3) := by decide +kernel
theorem dX10_woodClause_86 : decode cX10_woodClause 86 = .ok (.ireturn, 1) := by decide +kernel
theorem dX10_woodClause_87 : decode cX10_woodClause 87 = .ok (.aload_n 0, 1) := by decide +kernel
theorem dX10_woodClause_88 : decode cX10_woodClause 88 = .ok (.ldc2_w 262, 3) := by decide +kernel
theorem dX10_woodClause_91 : decode cX10_woodClause 91 = .ok (.invokevirtual 127, 3) := by decide +kernel
theorem dX10_woodClause_94 : decode cX10_woodClause 94 = .ok (.ifCond .eq 10, 3) := by decide +kernel
theorem dX10_woodClause_97 : decode cX10_woodClause 97 = .ok (.aload_n 0, 1) := by decide +kernel
theorem dX10_woodClause_98 : decode cX10_woodClause 98 = .ok (.iconst 1, 1) := by decide +kernel
theorem dX10_woodClause_99 : decode cX10_woodClause 99 = .ok (.iconst 0, 1) := by decide +kernel
theorem dX10_woodClause_100 : decode cX10_woodClause 100 = .ok (.invokevirtual 259, 3) := by decide +kernel
theorem dX10_woodClause_103 : decode cX10_woodClause 103 = .ok (.ireturn, 1) := by decide +kernel
theorem dX10_woodClause_104 : decode cX10_woodClause 104 = .ok (.aload_n 0, 1) := by decide +kernel
theorem dX10_woodClause_105 : decode cX10_woodClause 105 = .ok (.ldc2_w 153, 3) := by decide +kernel
theorem dX10_woodClause_108 : decode cX10_woodClause 108 = .ok (.invokevirtual 127, 3) := by decide +kernel
theorem dX10_woodClause_111 : decode cX10_woodClause 111 = .ok (.ifCond .eq 13, 3) := by decide +kernel
theorem dX10_woodClause_114 : decode cX10_woodClause 114 = .ok (.aload_n 0, 1) := by decide +kernel
theorem dX10_woodClause_115 : decode cX10_woodClause 115 = .ok (.iconst 2, 1) := by decide +kernel
theorem dX10_woodClause_116 : decode cX10_woodClause 116 = .ok (.bipush 7, 2) := by decide +kernel
theorem dX10_woodClause_118 : decode cX10_woodClause 118 = .ok (.invokevirtual 259, 3) := by decide +kernel
theorem dX10_woodClause_121 : decode cX10_woodClause 121 = .ok (.goto 31, 3) := by decide +kernel
theorem dX10_woodClause_124 : decode cX10_woodClause 124 = .ok (.aload_n 0, 1) := by decide +kernel
theorem dX10_woodClause_125 : decode cX10_woodClause 125 = .ok (.ldc2_w 155, 3) := by decide +kernel
theorem dX10_woodClause_128 : decode cX10_woodClause 128 = .ok (.invokevirtual 127, 3) := by decide +kernel
theorem dX10_woodClause_131 : decode cX10_woodClause 131 = .ok (.ifCond .eq 13, 3) := by decide +kernel
theorem dX10_woodClause_134 : decode cX10_woodClause 134 = .ok (.aload_n 0, 1) := by decide +kernel
theorem dX10_woodClause_135 : decode cX10_woodClause 135 = .ok (.iconst 3, 1) := by decide +kernel
theorem dX10_woodClause_136 : decode cX10_woodClause 136 = .ok (.bipush 9, 2) := by decide +kernel
theorem dX10_woodClause_138 : decode cX10_woodClause 138 = .ok (.invokevirtual 259, 3) := by decide +kernel
theorem dX10_woodClause_141 : decode cX10_woodClause 141 = .ok (.goto 11, 3) := by decide +kernel
theorem dX10_woodClause_144 : decode cX10_woodClause 144 = .ok (.aload_n 0, 1) := by decide +kernel
theorem dX10_woodClause_145 : decode cX10_woodClause 145 = .ok (.iconst 4, 1) := by decide +kernel
theorem dX10_woodClause_146 : decode cX10_woodClause 146 = .ok (.sipush 1000, 3) := by decide +kernel
theorem dX10_woodClause_149 : decode cX10_woodClause 149 = .ok (.invokevirtual 259, 3) := by decide +kernel
theorem dX10_woodClause_152 : decode cX10_woodClause 152 = .ok (.ireturn, 1) := by decide +kernel
theorem dX10_lawClause_0 : decode cX10_lawClause 0 = .ok (.aload_n 0, 1) := by decide +kernel
theorem dX10_lawClause_1 : decode cX10_lawClause 1 = .ok (.ldc2_w 264, 3) := by decide +kernel
theorem dX10_lawClause_4 : decode cX10_lawClause 4 = .ok (.invokevirtual 127, 3) := by decide +kernel
theorem dX10_lawClause_7 : decode cX10_lawClause 7 = .ok (.ifCond .eq 10, 3) := by decide +kernel
theorem dX10_lawClause_10 : decode cX10_lawClause 10 = .ok (.aload_n 0, 1) := by decide +kernel
theorem dX10_lawClause_11 : decode cX10_lawClause 11 = .ok (.iconst 0, 1) := by decide +kernel
theorem dX10_lawClause_12 : decode cX10_lawClause 12 = .ok (.iconst 1, 1) := by decide +kernel
theorem dX10_lawClause_13 : decode cX10_lawClause 13 = .ok (.invokevirtual 266, 3) := by decide +kernel
theorem dX10_lawClause_16 : decode cX10_lawClause 16 = .ok (.ireturn, 1) := by decide +kernel
theorem dX10_lawClause_17 : decode cX10_lawClause 17 = .ok (.aload_n 0, 1) := by decide +kernel
theorem dX10_lawClause_18 : decode cX10_lawClause 18 = .ok (.ldc2_w 270, 3) := by decide +kernel
theorem dX10_lawClause_21 : decode cX10_lawClause 21 = .ok (.invokevirtual 127, 3) := by decide +kernel
theorem dX10_lawClause_24 : decode cX10_lawClause 24 = .ok (.ifCond .eq 18, 3) := by decide +kernel
theorem dX10_lawClause_27 : decode cX10_lawClause 27 = .ok (.aload_n 0, 1) := by decide +kernel
theorem dX10_lawClause_28 : decode cX10_lawClause 28 = .ok (.aload_n 0, 1) := by decide +kernel
theorem dX10_lawClause_29 : decode cX10_lawClause 29 = .ok (.getfield 29, 3) := by decide +kernel
theorem dX10_lawClause_32 : decode cX10_lawClause 32 = .ok (.sipush 500, 3) := by decide +kernel
theorem dX10_lawClause_35 : decode cX10_lawClause 35 = .ok (.iload_n 1, 1) := by decide +kernel
theorem dX10_lawClause_36 : decode cX10_lawClause 36 = .ok (.invokevirtual 272, 3) := by decide +kernel
theorem dX10_lawClause_39 : decode cX10_lawClause 39 = .ok (.goto 65, 3) := by decide +kernel
theorem dX10_lawClause_42 : decode cX10_lawClause 42 = .ok (.aload_n 0, 1) := by decide +kernel
theorem dX10_lawClause_43 : decode cX10_lawClause 43 = .ok (.ldc2_w 276, 3) := by decide +kernel
theorem dX10_lawClause_46 : decode cX10_lawClause 46 = .ok (.invokevirtual 127, 3) := by decide +kernel
theorem dX10_lawClause_49 : decode cX10_lawClause 49 = .ok (.ifCond .eq 18, 3) := by decide +kernel
theorem dX10_lawClause_52 : decode cX10_lawClause 52 = .ok (.aload_n 0, 1) := by decide +kernel
theorem dX10_lawClause_53 : decode cX10_lawClause 53 = .ok (.aload_n 0, 1) := by decide +kernel
theorem dX10_lawClause_54 : decode cX10_lawClause 54 = .ok (.getfield 32, 3) := by decide +kernel
theorem dX10_lawClause_57 : decode cX10_lawClause 57 = .ok (.sipush 1000, 3) := by decide +kernel
theorem dX10_lawClause_60 : decode cX10_lawClause 60 = .ok (.iload_n 1, 1) := by decide +kernel
theorem dX10_lawClause_61 : decode cX10_lawClause 61 = .ok (.invokevirtual 272, 3) := by decide +kernel
theorem dX10_lawClause_64 : decode cX10_lawClause 64 = .ok (.goto 40, 3) := by decide +kernel
theorem dX10_lawClause_67 : decode cX10_lawClause 67 = .ok (.aload_n 0, 1) := by decide +kernel
theorem dX10_lawClause_68 : decode cX10_lawClause 68 = .ok (.ldc2_w 278, 3) := by decide +kernel
theorem dX10_lawClause_71 : decode cX10_lawClause 71 = .ok (.invokevirtual 127, 3) := by decide +kernel
theorem dX10_lawClause_74 : decode cX10_lawClause 74 = .ok (.ifCond .eq 18, 3) := by decide +kernel
theorem dX10_lawClause_77 : decode cX10_lawClause 77 = .ok (.aload_n 0, 1) := by decide +kernel
theorem dX10_lawClause_78 : decode cX10_lawClause 78 = .ok (.aload_n 0, 1) := by decide +kernel
theorem dX10_lawClause_79 : decode cX10_lawClause 79 = .ok (.getfield 35, 3) := by decide +kernel
theorem dX10_lawClause_82 : decode cX10_lawClause 82 = .ok (.sipush 1000, 3) := by decide +kernel
theorem dX10_lawClause_85 : decode cX10_lawClause 85 = .ok (.iload_n 1, 1) := by decide +kernel
theorem dX10_lawClause_86 : decode cX10_lawClause 86 = .ok (.invokevirtual 272, 3) := by decide +kernel
theorem dX10_lawClause_89 : decode cX10_lawClause 89 = .ok (.goto 15, 3) := by decide +kernel
theorem dX10_lawClause_92 : decode cX10_lawClause 92 = .ok (.aload_n 0, 1) := by decide +kernel
theorem dX10_lawClause_93 : decode cX10_lawClause 93 = .ok (.aload_n 0, 1) := by decide +kernel
theorem dX10_lawClause_94 : decode cX10_lawClause 94 = .ok (.getfield 38, 3) := by decide +kernel
theorem dX10_lawClause_97 : decode cX10_lawClause 97 = .ok (.sipush 1000, 3) := by decide +kernel
theorem dX10_lawClause_100 : decode cX10_lawClause 100 = .ok (.iload_n 1, 1) := by decide +kernel
theorem dX10_lawClause_101 : decode cX10_lawClause 101 = .ok (.invokevirtual 272, 3) := by decide +kernel
theorem dX10_lawClause_104 : decode cX10_lawClause 104 = .ok (.ireturn, 1) := by decide +kernel
theorem dX10_actHere_0 : decode cX10_actHere 0 = .ok (.aload_n 0, 1) := by decide +kernel
theorem dX10_actHere_1 : decode cX10_actHere 1 = .ok (.ldc2_w 280, 3) := by decide +kernel
theorem dX10_actHere_4 : decode cX10_actHere 4 = .ok (.invokevirtual 127, 3) := by decide +kernel
theorem dX10_actHere_7 : decode cX10_actHere 7 = .ok (.ifCond .eq 7, 3) := by decide +kernel
theorem dX10_actHere_10 : decode cX10_actHere 10 = .ok (.iconst 0, 1) := by decide +kernel
theorem dX10_actHere_11 : decode cX10_actHere 11 = .ok (.goto 74, 3) := by decide +kernel
theorem dX10_actHere_14 : decode cX10_actHere 14 = .ok (.aload_n 0, 1) := by decide +kernel
theorem dX10_actHere_15 : decode cX10_actHere 15 = .ok (.ldc2_w 282, 3) := by decide +kernel
theorem dX10_actHere_18 : decode cX10_actHere 18 = .ok (.invokevirtual 127, 3) := by decide +kernel
theorem dX10_actHere_21 : decode cX10_actHere 21 = .ok (.ifCond .eq 7, 3) := by decide +kernel
theorem dX10_actHere_24 : decode cX10_actHere 24 = .ok (.iconst 1, 1) := by decide +kernel
theorem dX10_actHere_25 : decode cX10_actHere 25 = .ok (.goto 60, 3) := by decide +kernel
theorem dX10_actHere_28 : decode cX10_actHere 28 = .ok (.aload_n 0, 1) := by decide +kernel
theorem dX10_actHere_29 : decode cX10_actHere 29 = .ok (.ldc2_w 284, 3) := by decide +kernel
theorem dX10_actHere_32 : decode cX10_actHere 32 = .ok (.invokevirtual 127, 3) := by decide +kernel
theorem dX10_actHere_35 : decode cX10_actHere 35 = .ok (.ifCond .eq 7, 3) := by decide +kernel
theorem dX10_actHere_38 : decode cX10_actHere 38 = .ok (.iconst 2, 1) := by decide +kernel
theorem dX10_actHere_39 : decode cX10_actHere 39 = .ok (.goto 46, 3) := by decide +kernel
theorem dX10_actHere_42 : decode cX10_actHere 42 = .ok (.aload_n 0, 1) := by decide +kernel
theorem dX10_actHere_43 : decode cX10_actHere 43 = .ok (.ldc2_w 286, 3) := by decide +kernel
theorem dX10_actHere_46 : decode cX10_actHere 46 = .ok (.invokevirtual 127, 3) := by decide +kernel
theorem dX10_actHere_49 : decode cX10_actHere 49 = .ok (.ifCond .eq 7, 3) := by decide +kernel
theorem dX10_actHere_52 : decode cX10_actHere 52 = .ok (.iconst 3, 1) := by decide +kernel
theorem dX10_actHere_53 : decode cX10_actHere 53 = .ok (.goto 32, 3) := by decide +kernel
theorem dX10_actHere_56 : decode cX10_actHere 56 = .ok (.aload_n 0, 1) := by decide +kernel
theorem dX10_actHere_57 : decode cX10_actHere 57 = .ok (.ldc2_w 288, 3) := by decide +kernel
theorem dX10_actHere_60 : decode cX10_actHere 60 = .ok (.invokevirtual 127, 3) := by decide +kernel
theorem dX10_actHere_63 : decode cX10_actHere 63 = .ok (.ifCond .eq 7, 3) := by decide +kernel
theorem dX10_actHere_66 : decode cX10_actHere 66 = .ok (.iconst 4, 1) := by decide +kernel
theorem dX10_actHere_67 : decode cX10_actHere 67 = .ok (.goto 18, 3) := by decide +kernel
theorem dX10_actHere_70 : decode cX10_actHere 70 = .ok (.aload_n 0, 1) := by decide +kernel
theorem dX10_actHere_71 : decode cX10_actHere 71 = .ok (.ldc2_w 290, 3) := by decide +kernel
theorem dX10_actHere_74 : decode cX10_actHere 74 = .ok (.invokevirtual 127, 3) := by decide +kernel
theorem dX10_actHere_77 : decode cX10_actHere 77 = .ok (.ifCond .eq 7, 3) := by decide +kernel
theorem dX10_actHere_80 : decode cX10_actHere 80 = .ok (.iconst 5, 1) := by decide +kernel
theorem dX10_actHere_81 : decode cX10_actHere 81 = .ok (.goto 4, 3) := by decide +kernel
theorem dX10_actHere_84 : decode cX10_actHere 84 = .ok (.iconst (-1), 1) := by decide +kernel
theorem dX10_actHere_85 : decode cX10_actHere 85 = .ok (.ireturn, 1) := by decide +kernel
theorem dX10_clauseHere_0 : decode cX10_clauseHere 0 = .ok (.aload_n 0, 1) := by decide +kernel
theorem dX10_clauseHere_1 : decode cX10_clauseHere 1 = .ok (.invokevirtual 120, 3) := by decide +kernel
theorem dX10_clauseHere_4 : decode cX10_clauseHere 4 = .ok (.pop, 1) := by decide +kernel
theorem dX10_clauseHere_5 : decode cX10_clauseHere 5 = .ok (.aload_n 0, 1) := by decide +kernel
theorem dX10_clauseHere_6 : decode cX10_clauseHere 6 = .ok (.getfield 117, 3) := by decide +kernel
theorem dX10_clauseHere_9 : decode cX10_clauseHere 9 = .ok (.istore_n 1, 1) := by decide +kernel
theorem dX10_clauseHere_10 : decode cX10_clauseHere 10 = .ok (.aload_n 0, 1) := by decide +kernel
theorem dX10_clauseHere_11 : decode cX10_clauseHere 11 = .ok (.ldc2_w 264, 3) := by decide +kernel
theorem dX10_clauseHere_14 : decode cX10_clauseHere 14 = .ok (.invokevirtual 127, 3) := by decide +kernel
theorem dX10_clauseHere_17 : decode cX10_clauseHere 17 = .ok (.ifCond .ne 43, 3) := by decide +kernel
theorem dX10_clauseHere_20 : decode cX10_clauseHere 20 = .ok (.aload_n 0, 1) := by decide +kernel
theorem dX10_clauseHere_21 : decode cX10_clauseHere 21 = .ok (.ldc2_w 270, 3) := by decide +kernel
theorem dX10_clauseHere_24 : decode cX10_clauseHere 24 = .ok (.invokevirtual 127, 3) := by decide +kernel
theorem dX10_clauseHere_27 : decode cX10_clauseHere 27 = .ok (.ifCond .ne 33, 3) := by decide +kernel
theorem dX10_clauseHere_30 : decode cX10_clauseHere 30 = .ok (.aload_n 0, 1) := by decide +kernel
theorem dX10_clauseHere_31 : decode cX10_clauseHere 31 = .ok (.ldc2_w 276, 3) := by decide +kernel
theorem dX10_clauseHere_34 : decode cX10_clauseHere 34 = .ok (.invokevirtual 127, 3) := by decide +kernel
theorem dX10_clauseHere_37 : decode cX10_clauseHere 37 = .ok (.ifCond .ne 23, 3) := by decide +kernel
theorem dX10_clauseHere_40 : decode cX10_clauseHere 40 = .ok (.aload_n 0, 1) := by decide +kernel
theorem dX10_clauseHere_41 : decode cX10_clauseHere 41 = .ok (.ldc2_w 278, 3) := by decide +kernel
theorem dX10_clauseHere_44 : decode cX10_clauseHere 44 = .ok (.invokevirtual 127, 3) := by decide +kernel
theorem dX10_clauseHere_47 : decode cX10_clauseHere 47 = .ok (.ifCond .ne 13, 3) := by decide +kernel
theorem dX10_clauseHere_50 : decode cX10_clauseHere 50 = .ok (.aload_n 0, 1) := by decide +kernel
theorem dX10_clauseHere_51 : decode cX10_clauseHere 51 = .ok (.ldc2_w 292, 3) := by decide +kernel
theorem dX10_clauseHere_54 : decode cX10_clauseHere 54 = .ok (.invokevirtual 127, 3) := by decide +kernel
theorem dX10_clauseHere_57 : decode cX10_clauseHere 57 = .ok (.ifCond .eq 7, 3) := by decide +kernel
theorem dX10_clauseHere_60 : decode cX10_clauseHere 60 = .ok (.iconst 1, 1) := by decide +kernel
theorem dX10_clauseHere_61 : decode cX10_clauseHere 61 = .ok (.goto 4, 3) := by decide +kernel
theorem dX10_clauseHere_64 : decode cX10_clauseHere 64 = .ok (.iconst 0, 1) := by decide +kernel
theorem dX10_clauseHere_65 : decode cX10_clauseHere 65 = .ok (.istore_n 2, 1) := by decide +kernel
theorem dX10_clauseHere_66 : decode cX10_clauseHere 66 = .ok (.aload_n 0, 1) := by decide +kernel
theorem dX10_clauseHere_67 : decode cX10_clauseHere 67 = .ok (.ldc2_w 246, 3) := by decide +kernel
theorem dX10_clauseHere_70 : decode cX10_clauseHere 70 = .ok (.invokevirtual 127, 3) := by decide +kernel
theorem dX10_clauseHere_73 : decode cX10_clauseHere 73 = .ok (.ifCond .ne 73, 3) := by decide +kernel
theorem dX10_clauseHere_76 : decode cX10_clauseHere 76 = .ok (.aload_n 0, 1) := by decide +kernel
theorem dX10_clauseHere_77 : decode cX10_clauseHere 77 = .ok (.ldc2_w 151, 3) := by decide +kernel
theorem dX10_clauseHere_80 : decode cX10_clauseHere 80 = .ok (.invokevirtual 127, 3) := by decide +kernel
theorem dX10_clauseHere_83 : decode cX10_clauseHere 83 = .ok (.ifCond .ne 63, 3) := by decide +kernel
theorem dX10_clauseHere_86 : decode cX10_clauseHere 86 = .ok (.aload_n 0, 1) := by decide +kernel
theorem dX10_clauseHere_87 : decode cX10_clauseHere 87 = .ok (.ldc2_w 262, 3) := by decide +kernel
theorem dX10_clauseHere_90 : decode cX10_clauseHere 90 = .ok (.invokevirtual 127, 3) := by decide +kernel
theorem dX10_clauseHere_93 : decode cX10_clauseHere 93 = .ok (.ifCond .ne 53, 3) := by decide +kernel
theorem dX10_clauseHere_96 : decode cX10_clauseHere 96 = .ok (.aload_n 0, 1) := by decide +kernel
theorem dX10_clauseHere_97 : decode cX10_clauseHere 97 = .ok (.ldc2_w 153, 3) := by decide +kernel
theorem dX10_clauseHere_100 : decode cX10_clauseHere 100 = .ok (.invokevirtual 127, 3) := by decide +kernel
theorem dX10_clauseHere_103 : decode cX10_clauseHere 103 = .ok (.ifCond .ne 43, 3) := by decide +kernel
theorem dX10_clauseHere_106 : decode cX10_clauseHere 106 = .ok (.aload_n 0, 1) := by decide +kernel
theorem dX10_clauseHere_107 : decode cX10_clauseHere 107 = .ok (.ldc2_w 155, 3) := by decide +kernel
theorem dX10_clauseHere_110 : decode cX10_clauseHere 110 = .ok (.invokevirtual 127, 3) := by decide +kernel
theorem dX10_clauseHere_113 : decode cX10_clauseHere 113 = .ok (.ifCond .ne 33, 3) := by decide +kernel
theorem dX10_clauseHere_116 : decode cX10_clauseHere 116 = .ok (.aload_n 0, 1) := by decide +kernel
theorem dX10_clauseHere_117 : decode cX10_clauseHere 117 = .ok (.ldc2_w 157, 3) := by decide +kernel
theorem dX10_clauseHere_120 : decode cX10_clauseHere 120 = .ok (.invokevirtual 127, 3) := by decide +kernel
theorem dX10_clauseHere_123 : decode cX10_clauseHere 123 = .ok (.ifCond .ne 23, 3) := by decide +kernel
theorem dX10_clauseHere_126 : decode cX10_clauseHere 126 = .ok (.aload_n 0, 1) := by decide +kernel
theorem dX10_clauseHere_127 : decode cX10_clauseHere 127 = .ok (.ldc2_w 254, 3) := by decide +kernel
theorem dX10_clauseHere_130 : decode cX10_clauseHere 130 = .ok (.invokevirtual 127, 3) := by decide +kernel
theorem dX10_clauseHere_133 : decode cX10_clauseHere 133 = .ok (.ifCond .ne 13, 3) := by decide +kernel
theorem dX10_clauseHere_136 : decode cX10_clauseHere 136 = .ok (.aload_n 0, 1) := by decide +kernel
theorem dX10_clauseHere_137 : decode cX10_clauseHere 137 = .ok (.ldc2_w 252, 3) := by decide +kernel
theorem dX10_clauseHere_140 : decode cX10_clauseHere 140 = .ok (.invokevirtual 127, 3) := by decide +kernel
theorem dX10_clauseHere_143 : decode cX10_clauseHere 143 = .ok (.ifCond .eq 7, 3) := by decide +kernel
theorem dX10_clauseHere_146 : decode cX10_clauseHere 146 = .ok (.iconst 1, 1) := by decide +kernel
theorem dX10_clauseHere_147 : decode cX10_clauseHere 147 = .ok (.goto 4, 3) := by decide +kernel
theorem dX10_clauseHere_150 : decode cX10_clauseHere 150 = .ok (.iconst 0, 1) := by decide +kernel
theorem dX10_clauseHere_151 : decode cX10_clauseHere 151 = .ok (.istore_n 3, 1) := by decide +kernel
theorem dX10_clauseHere_152 : decode cX10_clauseHere 152 = .ok (.aload_n 0, 1) := by decide +kernel
theorem dX10_clauseHere_153 : decode cX10_clauseHere 153 = .ok (.getfield 148, 3) := by decide +kernel
theorem dX10_clauseHere_156 : decode cX10_clauseHere 156 = .ok (.bipush 6, 2) := by decide +kernel
theorem dX10_clauseHere_158 : decode cX10_clauseHere 158 = .ok (.if_icmp .ge 7, 3) := by decide +kernel
theorem dX10_clauseHere_161 : decode cX10_clauseHere 161 = .ok (.iload_n 2, 1) := by decide +kernel
theorem dX10_clauseHere_162 : decode cX10_clauseHere 162 = .ok (.goto 28, 3) := by decide +kernel
theorem dX10_clauseHere_165 : decode cX10_clauseHere 165 = .ok (.aload_n 0, 1) := by decide +kernel
theorem dX10_clauseHere_166 : decode cX10_clauseHere 166 = .ok (.getfield 148, 3) := by decide +kernel
theorem dX10_clauseHere_169 : decode cX10_clauseHere 169 = .ok (.bipush 12, 2) := by decide +kernel
theorem dX10_clauseHere_171 : decode cX10_clauseHere 171 = .ok (.if_icmp .ge 18, 3) := by decide +kernel
theorem dX10_clauseHere_174 : decode cX10_clauseHere 174 = .ok (.aload_n 0, 1) := by decide +kernel
theorem dX10_clauseHere_175 : decode cX10_clauseHere 175 = .ok (.invokevirtual 294, 3) := by decide +kernel
theorem dX10_clauseHere_178 : decode cX10_clauseHere 178 = .ok (.ifCond .lt 7, 3) := by decide +kernel
theorem dX10_clauseHere_181 : decode cX10_clauseHere 181 = .ok (.iconst 1, 1) := by decide +kernel
theorem dX10_clauseHere_182 : decode cX10_clauseHere 182 = .ok (.goto 8, 3) := by decide +kernel
theorem dX10_clauseHere_185 : decode cX10_clauseHere 185 = .ok (.iconst 0, 1) := by decide +kernel
theorem dX10_clauseHere_186 : decode cX10_clauseHere 186 = .ok (.goto 4, 3) := by decide +kernel
theorem dX10_clauseHere_189 : decode cX10_clauseHere 189 = .ok (.iload_n 3, 1) := by decide +kernel
theorem dX10_clauseHere_190 : decode cX10_clauseHere 190 = .ok (.istore 4, 2) := by decide +kernel
theorem dX10_clauseHere_192 : decode cX10_clauseHere 192 = .ok (.iload 4, 2) := by decide +kernel
theorem dX10_clauseHere_194 : decode cX10_clauseHere 194 = .ok (.ifCond .ne 10, 3) := by decide +kernel
theorem dX10_clauseHere_197 : decode cX10_clauseHere 197 = .ok (.aload_n 0, 1) := by decide +kernel
theorem dX10_clauseHere_198 : decode cX10_clauseHere 198 = .ok (.iconst 0, 1) := by decide +kernel
theorem dX10_clauseHere_199 : decode cX10_clauseHere 199 = .ok (.iload_n 1, 1) := by decide +kernel
theorem dX10_clauseHere_200 : decode cX10_clauseHere 200 = .ok (.invokevirtual 137, 3) := by decide +kernel
theorem dX10_clauseHere_203 : decode cX10_clauseHere 203 = .ok (.ireturn, 1) := by decide +kernel
theorem dX10_clauseHere_204 : decode cX10_clauseHere 204 = .ok (.aload_n 0, 1) := by decide +kernel
theorem dX10_clauseHere_205 : decode cX10_clauseHere 205 = .ok (.getfield 297, 3) := by decide +kernel
theorem dX10_clauseHere_208 : decode cX10_clauseHere 208 = .ok (.aload_n 0, 1) := by decide +kernel
theorem dX10_clauseHere_209 : decode cX10_clauseHere 209 = .ok (.getfield 148, 3) := by decide +kernel
theorem dX10_clauseHere_212 : decode cX10_clauseHere 212 = .ok (.bipush 12, 2) := by decide +kernel
theorem dX10_clauseHere_214 : decode cX10_clauseHere 214 = .ok (.if_icmp .ge 8, 3) := by decide +kernel
theorem dX10_clauseHere_217 : decode cX10_clauseHere 217 = .ok (.bipush 12, 2) := by decide +kernel
theorem dX10_clauseHere_219 : decode cX10_clauseHere 219 = .ok (.goto 5, 3) := by decide +kernel
theorem dX10_clauseHere_222 : decode cX10_clauseHere 222 = .ok (.bipush 24, 2) := by decide +kernel
theorem dX10_clauseHere_224 : decode cX10_clauseHere 224 = .ok (.if_icmp .ne 10, 3) := by decide +kernel
theorem dX10_clauseHere_227 : decode cX10_clauseHere 227 = .ok (.aload_n 0, 1) := by decide +kernel
theorem dX10_clauseHere_228 : decode cX10_clauseHere 228 = .ok (.iconst 4, 1) := by decide +kernel
theorem dX10_clauseHere_229 : decode cX10_clauseHere 229 = .ok (.iload_n 1, 1) := by decide +kernel
theorem dX10_clauseHere_230 : decode cX10_clauseHere 230 = .ok (.invokevirtual 137, 3) := by decide +kernel
theorem dX10_clauseHere_233 : decode cX10_clauseHere 233 = .ok (.ireturn, 1) := by decide +kernel
theorem dX10_clauseHere_234 : decode cX10_clauseHere 234 = .ok (.aload_n 0, 1) := by decide +kernel
theorem dX10_clauseHere_235 : decode cX10_clauseHere 235 = .ok (.dup, 1) := by decide +kernel
theorem dX10_clauseHere_236 : decode cX10_clauseHere 236 = .ok (.getfield 297, 3) := by decide +kernel
theorem dX10_clauseHere_239 : decode cX10_clauseHere 239 = .ok (.iconst 1, 1) := by decide +kernel
theorem dX10_clauseHere_240 : decode cX10_clauseHere 240 = .ok (.iadd, 1) := by decide +kernel
theorem dX10_clauseHere_241 : decode cX10_clauseHere 241 = .ok (.putfield 297, 3) := by decide +kernel
theorem dX10_clauseHere_244 : decode cX10_clauseHere 244 = .ok (.aload_n 0, 1) := by decide +kernel
theorem dX10_clauseHere_245 : decode cX10_clauseHere 245 = .ok (.getfield 148, 3) := by decide +kernel
theorem dX10_clauseHere_248 : decode cX10_clauseHere 248 = .ok (.bipush 6, 2) := by decide +kernel
theorem dX10_clauseHere_250 : decode cX10_clauseHere 250 = .ok (.if_icmp .ge 11, 3) := by decide +kernel
theorem dX10_clauseHere_253 : decode cX10_clauseHere 253 = .ok (.aload_n 0, 1) := by decide +kernel
theorem dX10_clauseHere_254 : decode cX10_clauseHere 254 = .ok (.iload_n 1, 1) := by decide +kernel
theorem dX10_clauseHere_255 : decode cX10_clauseHere 255 = .ok (.invokevirtual 300, 3) := by decide +kernel
theorem dX10_clauseHere_258 : decode cX10_clauseHere 258 = .ok (.goto 29, 3) := by decide +kernel
theorem dX10_clauseHere_261 : decode cX10_clauseHere 261 = .ok (.aload_n 0, 1) := by decide +kernel
theorem dX10_clauseHere_262 : decode cX10_clauseHere 262 = .ok (.getfield 148, 3) := by decide +kernel
theorem dX10_clauseHere_265 : decode cX10_clauseHere 265 = .ok (.bipush 12, 2) := by decide +kernel
theorem dX10_clauseHere_267 : decode cX10_clauseHere 267 = .ok (.if_icmp .ge 15, 3) := by decide +kernel
theorem dX10_clauseHere_270 : decode cX10_clauseHere 270 = .ok (.aload_n 0, 1) := by decide +kernel
theorem dX10_clauseHere_271 : decode cX10_clauseHere 271 = .ok (.aload_n 0, 1) := by decide +kernel
theorem dX10_clauseHere_272 : decode cX10_clauseHere 272 = .ok (.invokevirtual 294, 3) := by decide +kernel
theorem dX10_clauseHere_275 : decode cX10_clauseHere 275 = .ok (.iconst 0, 1) := by decide +kernel
theorem dX10_clauseHere_276 : decode cX10_clauseHere 276 = .ok (.invokevirtual 266, 3) := by decide +kernel
theorem dX10_clauseHere_279 : decode cX10_clauseHere 279 = .ok (.goto 8, 3) := by decide +kernel
theorem dX10_clauseHere_282 : decode cX10_clauseHere 282 = .ok (.aload_n 0, 1) := by decide +kernel
theorem dX10_clauseHere_283 : decode cX10_clauseHere 283 = .ok (.iload_n 1, 1) := by decide +kernel
theorem dX10_clauseHere_284 : decode cX10_clauseHere 284 = .ok (.invokevirtual 303, 3) := by decide +kernel
theorem dX10_clauseHere_287 : decode cX10_clauseHere 287 = .ok (.ireturn, 1) := by decide +kernel
theorem dX10_firstOf_0 : decode cX10_firstOf 0 = .ok (.iload_n 0, 1) := by decide +kernel
theorem dX10_firstOf_1 : decode cX10_firstOf 1 = .ok (.ifCond .ne 8, 3) := by decide +kernel
theorem dX10_firstOf_4 : decode cX10_firstOf 4 = .ok (.bipush 12, 2) := by decide +kernel
theorem dX10_firstOf_6 : decode cX10_firstOf 6 = .ok (.goto 14, 3) := by decide +kernel
theorem dX10_firstOf_9 : decode cX10_firstOf 9 = .ok (.iload_n 0, 1) := by decide +kernel
theorem dX10_firstOf_10 : decode cX10_firstOf 10 = .ok (.iconst 1, 1) := by decide +kernel
theorem dX10_firstOf_11 : decode cX10_firstOf 11 = .ok (.if_icmp .ne 7, 3) := by decide +kernel
theorem dX10_firstOf_14 : decode cX10_firstOf 14 = .ok (.iconst 0, 1) := by decide +kernel
theorem dX10_firstOf_15 : decode cX10_firstOf 15 = .ok (.goto 5, 3) := by decide +kernel
theorem dX10_firstOf_18 : decode cX10_firstOf 18 = .ok (.bipush 6, 2) := by decide +kernel
theorem dX10_firstOf_20 : decode cX10_firstOf 20 = .ok (.ireturn, 1) := by decide +kernel
theorem dX10_text_0 : decode cX10_text 0 = .ok (.iload_n 1, 1) := by decide +kernel
theorem dX10_text_1 : decode cX10_text 1 = .ok (.i2l, 1) := by decide +kernel
theorem dX10_text_2 : decode cX10_text 2 = .ok (.lconst 0, 1) := by decide +kernel
theorem dX10_text_3 : decode cX10_text 3 = .ok (.ldc2_w 306, 3) := by decide +kernel
theorem dX10_text_6 : decode cX10_text 6 = .ok (.invokestatic 144, 3) := by decide +kernel
theorem dX10_text_9 : decode cX10_text 9 = .ok (.ifCond .eq 22, 3) := by decide +kernel
theorem dX10_text_12 : decode cX10_text 12 = .ok (.aload_n 0, 1) := by decide +kernel
theorem dX10_text_13 : decode cX10_text 13 = .ok (.getfield 13, 3) := by decide +kernel
theorem dX10_text_16 : decode cX10_text 16 = .ok (.iload_n 1, 1) := by decide +kernel
theorem dX10_text_17 : decode cX10_text 17 = .ok (.iaload, 1) := by decide +kernel
theorem dX10_text_18 : decode cX10_text 18 = .ok (.iload_n 1, 1) := by decide +kernel
theorem dX10_text_19 : decode cX10_text 19 = .ok (.ifCond .ne 7, 3) := by decide +kernel
theorem dX10_text_22 : decode cX10_text 22 = .ok (.iconst 4, 1) := by decide +kernel
theorem dX10_text_23 : decode cX10_text 23 = .ok (.goto 5, 3) := by decide +kernel
theorem dX10_text_26 : decode cX10_text 26 = .ok (.bipush 6, 2) := by decide +kernel
theorem dX10_text_28 : decode cX10_text 28 = .ok (.if_icmp .ne 5, 3) := by decide +kernel
theorem dX10_text_31 : decode cX10_text 31 = .ok (.iconst (-1), 1) := by decide +kernel
theorem dX10_text_32 : decode cX10_text 32 = .ok (.ireturn, 1) := by decide +kernel
theorem dX10_text_33 : decode cX10_text 33 = .ok (.aload_n 0, 1) := by decide +kernel
theorem dX10_text_34 : decode cX10_text 34 = .ok (.iload_n 1, 1) := by decide +kernel
theorem dX10_text_35 : decode cX10_text 35 = .ok (.invokestatic 308, 3) := by decide +kernel
theorem dX10_text_38 : decode cX10_text 38 = .ok (.aload_n 0, 1) := by decide +kernel
theorem dX10_text_39 : decode cX10_text 39 = .ok (.getfield 13, 3) := by decide +kernel
theorem dX10_text_42 : decode cX10_text 42 = .ok (.iload_n 1, 1) := by decide +kernel
theorem dX10_text_43 : decode cX10_text 43 = .ok (.iaload, 1) := by decide +kernel
theorem dX10_text_44 : decode cX10_text 44 = .ok (.iadd, 1) := by decide +kernel
theorem dX10_text_45 : decode cX10_text 45 = .ok (.putfield 148, 3) := by decide +kernel
theorem dX10_text_48 : decode cX10_text 48 = .ok (.aload_n 0, 1) := by decide +kernel
theorem dX10_text_49 : decode cX10_text 49 = .ok (.getfield 20, 3) := by decide +kernel
theorem dX10_text_52 : decode cX10_text 52 = .ok (.aload_n 0, 1) := by decide +kernel
theorem dX10_text_53 : decode cX10_text 53 = .ok (.getfield 148, 3) := by decide +kernel
theorem dX10_text_56 : decode cX10_text 56 = .ok (.iconst 0, 1) := by decide +kernel
theorem dX10_text_57 : decode cX10_text 57 = .ok (.iastore, 1) := by decide +kernel
theorem dX10_text_58 : decode cX10_text 58 = .ok (.aload_n 0, 1) := by decide +kernel
theorem dX10_text_59 : decode cX10_text 59 = .ok (.getfield 26, 3) := by decide +kernel
theorem dX10_text_62 : decode cX10_text 62 = .ok (.aload_n 0, 1) := by decide +kernel
theorem dX10_text_63 : decode cX10_text 63 = .ok (.getfield 148, 3) := by decide +kernel
theorem dX10_text_66 : decode cX10_text 66 = .ok (.iconst 0, 1) := by decide +kernel
theorem dX10_text_67 : decode cX10_text 67 = .ok (.iastore, 1) := by decide +kernel
theorem dX10_text_68 : decode cX10_text 68 = .ok (.aload_n 0, 1) := by decide +kernel
theorem dX10_text_69 : decode cX10_text 69 = .ok (.getfield 29, 3) := by decide +kernel
theorem dX10_text_72 : decode cX10_text 72 = .ok (.aload_n 0, 1) := by decide +kernel
theorem dX10_text_73 : decode cX10_text 73 = .ok (.getfield 148, 3) := by decide +kernel
theorem dX10_text_76 : decode cX10_text 76 = .ok (.iconst (-1), 1) := by decide +kernel
theorem dX10_text_77 : decode cX10_text 77 = .ok (.iastore, 1) := by decide +kernel
theorem dX10_text_78 : decode cX10_text 78 = .ok (.aload_n 0, 1) := by decide +kernel
theorem dX10_text_79 : decode cX10_text 79 = .ok (.getfield 32, 3) := by decide +kernel
theorem dX10_text_82 : decode cX10_text 82 = .ok (.aload_n 0, 1) := by decide +kernel
theorem dX10_text_83 : decode cX10_text 83 = .ok (.getfield 148, 3) := by decide +kernel
theorem dX10_text_86 : decode cX10_text 86 = .ok (.iconst (-1), 1) := by decide +kernel
theorem dX10_text_87 : decode cX10_text 87 = .ok (.iastore, 1) := by decide +kernel
theorem dX10_text_88 : decode cX10_text 88 = .ok (.aload_n 0, 1) := by decide +kernel
theorem dX10_text_89 : decode cX10_text 89 = .ok (.getfield 35, 3) := by decide +kernel
theorem dX10_text_92 : decode cX10_text 92 = .ok (.aload_n 0, 1) := by decide +kernel
theorem dX10_text_93 : decode cX10_text 93 = .ok (.getfield 148, 3) := by decide +kernel
theorem dX10_text_96 : decode cX10_text 96 = .ok (.iconst (-1), 1) := by decide +kernel
theorem dX10_text_97 : decode cX10_text 97 = .ok (.iastore, 1) := by decide +kernel
theorem dX10_text_98 : decode cX10_text 98 = .ok (.aload_n 0, 1) := by decide +kernel
theorem dX10_text_99 : decode cX10_text 99 = .ok (.getfield 38, 3) := by decide +kernel
theorem dX10_text_102 : decode cX10_text 102 = .ok (.aload_n 0, 1) := by decide +kernel
theorem dX10_text_103 : decode cX10_text 103 = .ok (.getfield 148, 3) := by decide +kernel
theorem dX10_text_106 : decode cX10_text 106 = .ok (.iconst (-1), 1) := by decide +kernel
theorem dX10_text_107 : decode cX10_text 107 = .ok (.iastore, 1) := by decide +kernel
theorem dX10_text_108 : decode cX10_text 108 = .ok (.aload_n 0, 1) := by decide +kernel
theorem dX10_text_109 : decode cX10_text 109 = .ok (.getfield 41, 3) := by decide +kernel
theorem dX10_text_112 : decode cX10_text 112 = .ok (.aload_n 0, 1) := by decide +kernel
theorem dX10_text_113 : decode cX10_text 113 = .ok (.getfield 148, 3) := by decide +kernel
theorem dX10_text_116 : decode cX10_text 116 = .ok (.iconst (-1), 1) := by decide +kernel
theorem dX10_text_117 : decode cX10_text 117 = .ok (.iastore, 1) := by decide +kernel
theorem dX10_text_118 : decode cX10_text 118 = .ok (.aload_n 0, 1) := by decide +kernel
theorem dX10_text_119 : decode cX10_text 119 = .ok (.getfield 47, 3) := by decide +kernel
theorem dX10_text_122 : decode cX10_text 122 = .ok (.aload_n 0, 1) := by decide +kernel
theorem dX10_text_123 : decode cX10_text 123 = .ok (.getfield 148, 3) := by decide +kernel
theorem dX10_text_126 : decode cX10_text 126 = .ok (.iconst (-1), 1) := by decide +kernel
theorem dX10_text_127 : decode cX10_text 127 = .ok (.iastore, 1) := by decide +kernel
theorem dX10_text_128 : decode cX10_text 128 = .ok (.iload_n 1, 1) := by decide +kernel
theorem dX10_text_129 : decode cX10_text 129 = .ok (.ifCond .ne 48, 3) := by decide +kernel
theorem dX10_text_132 : decode cX10_text 132 = .ok (.aload_n 0, 1) := by decide +kernel
theorem dX10_text_133 : decode cX10_text 133 = .ok (.getfield 53, 3) := by decide +kernel
theorem dX10_text_136 : decode cX10_text 136 = .ok (.aload_n 0, 1) := by decide +kernel
theorem dX10_text_137 : decode cX10_text 137 = .ok (.getfield 13, 3) := by decide +kernel
theorem dX10_text_140 : decode cX10_text 140 = .ok (.iconst 0, 1) := by decide +kernel
theorem dX10_text_141 : decode cX10_text 141 = .ok (.iaload, 1) := by decide +kernel
theorem dX10_text_142 : decode cX10_text 142 = .ok (.iconst 0, 1) := by decide +kernel
theorem dX10_text_143 : decode cX10_text 143 = .ok (.iastore, 1) := by decide +kernel
theorem dX10_text_144 : decode cX10_text 144 = .ok (.iconst 0, 1) := by decide +kernel
theorem dX10_text_145 : decode cX10_text 145 = .ok (.istore_n 2, 1) := by decide +kernel
theorem dX10_text_146 : decode cX10_text 146 = .ok (.iload_n 2, 1) := by decide +kernel
theorem dX10_text_147 : decode cX10_text 147 = .ok (.sipush 864, 3) := by decide +kernel
theorem dX10_text_150 : decode cX10_text 150 = .ok (.if_icmp .ge 27, 3) := by decide +kernel
theorem dX10_text_153 : decode cX10_text 153 = .ok (.aload_n 0, 1) := by decide +kernel
theorem dX10_text_154 : decode cX10_text 154 = .ok (.getfield 59, 3) := by decide +kernel
theorem dX10_text_157 : decode cX10_text 157 = .ok (.aload_n 0, 1) := by decide +kernel
theorem dX10_text_158 : decode cX10_text 158 = .ok (.getfield 13, 3) := by decide +kernel
theorem dX10_text_161 : decode cX10_text 161 = .ok (.iconst 0, 1) := by decide +kernel
theorem dX10_text_162 : decode cX10_text 162 = .ok (.iaload, 1) := by decide +kernel
theorem dX10_text_163 : decode cX10_text 163 = .ok (.iconst 0, 1) := by decide +kernel
theorem dX10_text_164 : decode cX10_text 164 = .ok (.invokestatic 242, 3) := by decide +kernel
theorem dX10_text_167 : decode cX10_text 167 = .ok (.iload_n 2, 1) := by decide +kernel
theorem dX10_text_168 : decode cX10_text 168 = .ok (.iadd, 1) := by decide +kernel
theorem dX10_text_169 : decode cX10_text 169 = .ok (.iconst 0, 1) := by decide +kernel
theorem dX10_text_170 : decode cX10_text 170 = .ok (.iastore, 1) := by decide +kernel
theorem dX10_text_171 : decode cX10_text 171 = .ok (.iinc 2 1, 3) := by decide +kernel
theorem dX10_text_174 : decode cX10_text 174 = .ok (.goto (-28), 3) := by decide +kernel
theorem dX10_text_177 : decode cX10_text 177 = .ok (.aload_n 0, 1) := by decide +kernel
theorem dX10_text_178 : decode cX10_text 178 = .ok (.iconst 0, 1) := by decide +kernel
theorem dX10_text_179 : decode cX10_text 179 = .ok (.putfield 297, 3) := by decide +kernel
theorem dX10_text_182 : decode cX10_text 182 = .ok (.aload_n 0, 1) := by decide +kernel
theorem dX10_text_183 : decode cX10_text 183 = .ok (.iconst 0, 1) := by decide +kernel
theorem dX10_text_184 : decode cX10_text 184 = .ok (.putfield 117, 3) := by decide +kernel
theorem dX10_text_187 : decode cX10_text 187 = .ok (.aload_n 0, 1) := by decide +kernel
theorem dX10_text_188 : decode cX10_text 188 = .ok (.iconst 0, 1) := by decide +kernel
theorem dX10_text_189 : decode cX10_text 189 = .ok (.putfield 114, 3) := by decide +kernel
theorem dX10_text_192 : decode cX10_text 192 = .ok (.aload_n 0, 1) := by decide +kernel
theorem dX10_text_193 : decode cX10_text 193 = .ok (.iconst 0, 1) := by decide +kernel
theorem dX10_text_194 : decode cX10_text 194 = .ok (.putfield 173, 3) := by decide +kernel
theorem dX10_text_197 : decode cX10_text 197 = .ok (.aload_n 0, 1) := by decide +kernel
theorem dX10_text_198 : decode cX10_text 198 = .ok (.invokevirtual 311, 3) := by decide +kernel
theorem dX10_text_201 : decode cX10_text 201 = .ok (.istore_n 2, 1) := by decide +kernel
theorem dX10_text_202 : decode cX10_text 202 = .ok (.iload_n 2, 1) := by decide +kernel
theorem dX10_text_203 : decode cX10_text 203 = .ok (.ifCond .eq 30, 3) := by decide +kernel
theorem dX10_text_206 : decode cX10_text 206 = .ok (.aload_n 0, 1) := by decide +kernel
theorem dX10_text_207 : decode cX10_text 207 = .ok (.invokevirtual 120, 3) := by decide +kernel
theorem dX10_text_210 : decode cX10_text 210 = .ok (.bipush 59, 2) := by decide +kernel
theorem dX10_text_212 : decode cX10_text 212 = .ok (.if_icmp .ne 21, 3) := by decide +kernel
theorem dX10_text_215 : decode cX10_text 215 = .ok (.aload_n 0, 1) := by decide +kernel
theorem dX10_text_216 : decode cX10_text 216 = .ok (.dup, 1) := by decide +kernel
theorem dX10_text_217 : decode cX10_text 217 = .ok (.getfield 117, 3) := by decide +kernel
theorem dX10_text_220 : decode cX10_text 220 = .ok (.iconst 1, 1) := by decide +kernel
theorem dX10_text_221 : decode cX10_text 221 = .ok (.iadd, 1) := by decide +kernel
theorem dX10_text_222 : decode cX10_text 222 = .ok (.putfield 117, 3) := by decide +kernel
theorem dX10_text_225 : decode cX10_text 225 = .ok (.aload_n 0, 1) := by decide +kernel
theorem dX10_text_226 : decode cX10_text 226 = .ok (.invokevirtual 311, 3) := by decide +kernel
theorem dX10_text_229 : decode cX10_text 229 = .ok (.istore_n 2, 1) := by decide +kernel
theorem dX10_text_230 : decode cX10_text 230 = .ok (.goto (-28), 3) := by decide +kernel
theorem dX10_text_233 : decode cX10_text 233 = .ok (.iload_n 2, 1) := by decide +kernel
theorem dX10_text_234 : decode cX10_text 234 = .ok (.ifCond .eq 21, 3) := by decide +kernel
theorem dX10_text_237 : decode cX10_text 237 = .ok (.aload_n 0, 1) := by decide +kernel
theorem dX10_text_238 : decode cX10_text 238 = .ok (.invokevirtual 120, 3) := by decide +kernel
theorem dX10_text_241 : decode cX10_text 241 = .ok (.iconst (-1), 1) := by decide +kernel
theorem dX10_text_242 : decode cX10_text 242 = .ok (.if_icmp .eq 13, 3) := by decide +kernel
theorem dX10_text_245 : decode cX10_text 245 = .ok (.aload_n 0, 1) := by decide +kernel
theorem dX10_text_246 : decode cX10_text 246 = .ok (.iconst 0, 1) := by decide +kernel
theorem dX10_text_247 : decode cX10_text 247 = .ok (.aload_n 0, 1) := by decide +kernel
theorem dX10_text_248 : decode cX10_text 248 = .ok (.getfield 117, 3) := by decide +kernel
theorem dX10_text_251 : decode cX10_text 251 = .ok (.invokevirtual 137, 3) := by decide +kernel
theorem dX10_text_254 : decode cX10_text 254 = .ok (.pop, 1) := by decide +kernel
theorem dX10_text_255 : decode cX10_text 255 = .ok (.aload_n 0, 1) := by decide +kernel
theorem dX10_text_256 : decode cX10_text 256 = .ok (.iconst 0, 1) := by decide +kernel
theorem dX10_text_257 : decode cX10_text 257 = .ok (.putfield 106, 3) := by decide +kernel
theorem dX10_text_260 : decode cX10_text 260 = .ok (.aload_n 0, 1) := by decide +kernel
theorem dX10_text_261 : decode cX10_text 261 = .ok (.getfield 114, 3) := by decide +kernel
theorem dX10_text_264 : decode cX10_text 264 = .ok (.ifCond .le 11, 3) := by decide +kernel
theorem dX10_text_267 : decode cX10_text 267 = .ok (.bipush (-2), 2) := by decide +kernel
theorem dX10_text_269 : decode cX10_text 269 = .ok (.aload_n 0, 1) := by decide +kernel
theorem dX10_text_270 : decode cX10_text 270 = .ok (.getfield 114, 3) := by decide +kernel
theorem dX10_text_273 : decode cX10_text 273 = .ok (.isub, 1) := by decide +kernel
theorem dX10_text_274 : decode cX10_text 274 = .ok (.ireturn, 1) := by decide +kernel
theorem dX10_text_275 : decode cX10_text 275 = .ok (.iload_n 1, 1) := by decide +kernel
theorem dX10_text_276 : decode cX10_text 276 = .ok (.ifCond .ne 13, 3) := by decide +kernel
theorem dX10_text_279 : decode cX10_text 279 = .ok (.aload_n 0, 1) := by decide +kernel
theorem dX10_text_280 : decode cX10_text 280 = .ok (.aload_n 0, 1) := by decide +kernel
theorem dX10_text_281 : decode cX10_text 281 = .ok (.getfield 13, 3) := by decide +kernel
theorem dX10_text_284 : decode cX10_text 284 = .ok (.iconst 0, 1) := by decide +kernel
theorem dX10_text_285 : decode cX10_text 285 = .ok (.iaload, 1) := by decide +kernel
theorem dX10_text_286 : decode cX10_text 286 = .ok (.invokevirtual 314, 3) := by decide +kernel
theorem dX10_text_289 : decode cX10_text 289 = .ok (.aload_n 0, 1) := by decide +kernel
theorem dX10_text_290 : decode cX10_text 290 = .ok (.getfield 29, 3) := by decide +kernel
theorem dX10_text_293 : decode cX10_text 293 = .ok (.aload_n 0, 1) := by decide +kernel
theorem dX10_text_294 : decode cX10_text 294 = .ok (.getfield 148, 3) := by decide +kernel
theorem dX10_text_297 : decode cX10_text 297 = .ok (.iaload, 1) := by decide +kernel
theorem dX10_text_298 : decode cX10_text 298 = .ok (.ifCond .ge 14, 3) := by decide +kernel
theorem dX10_text_301 : decode cX10_text 301 = .ok (.aload_n 0, 1) := by decide +kernel
theorem dX10_text_302 : decode cX10_text 302 = .ok (.getfield 29, 3) := by decide +kernel
theorem dX10_text_305 : decode cX10_text 305 = .ok (.aload_n 0, 1) := by decide +kernel
theorem dX10_text_306 : decode cX10_text 306 = .ok (.getfield 148, 3) := by decide +kernel
theorem dX10_text_309 : decode cX10_text 309 = .ok (.bipush 20, 2) := by decide +kernel
theorem dX10_text_311 : decode cX10_text 311 = .ok (.iastore, 1) := by decide +kernel
theorem dX10_text_312 : decode cX10_text 312 = .ok (.aload_n 0, 1) := by decide +kernel
theorem dX10_text_313 : decode cX10_text 313 = .ok (.getfield 32, 3) := by decide +kernel
theorem dX10_text_316 : decode cX10_text 316 = .ok (.aload_n 0, 1) := by decide +kernel
theorem dX10_text_317 : decode cX10_text 317 = .ok (.getfield 148, 3) := by decide +kernel
theorem dX10_text_320 : decode cX10_text 320 = .ok (.iaload, 1) := by decide +kernel
theorem dX10_text_321 : decode cX10_text 321 = .ok (.ifCond .ge 15, 3) := by decide +kernel
theorem dX10_text_324 : decode cX10_text 324 = .ok (.aload_n 0, 1) := by decide +kernel
theorem dX10_text_325 : decode cX10_text 325 = .ok (.getfield 32, 3) := by decide +kernel
theorem dX10_text_328 : decode cX10_text 328 = .ok (.aload_n 0, 1) := by decide +kernel
theorem dX10_text_329 : decode cX10_text 329 = .ok (.getfield 148, 3) := by decide +kernel
theorem dX10_text_332 : decode cX10_text 332 = .ok (.sipush 800, 3) := by decide +kernel
theorem dX10_text_335 : decode cX10_text 335 = .ok (.iastore, 1) := by decide +kernel
theorem dX10_text_336 : decode cX10_text 336 = .ok (.aload_n 0, 1) := by decide +kernel
theorem dX10_text_337 : decode cX10_text 337 = .ok (.getfield 35, 3) := by decide +kernel
theorem dX10_text_340 : decode cX10_text 340 = .ok (.aload_n 0, 1) := by decide +kernel
theorem dX10_text_341 : decode cX10_text 341 = .ok (.getfield 148, 3) := by decide +kernel
theorem dX10_text_344 : decode cX10_text 344 = .ok (.iaload, 1) := by decide +kernel
theorem dX10_text_345 : decode cX10_text 345 = .ok (.ifCond .ge 15, 3) := by decide +kernel
theorem dX10_text_348 : decode cX10_text 348 = .ok (.aload_n 0, 1) := by decide +kernel
theorem dX10_text_349 : decode cX10_text 349 = .ok (.getfield 35, 3) := by decide +kernel
theorem dX10_text_352 : decode cX10_text 352 = .ok (.aload_n 0, 1) := by decide +kernel
theorem dX10_text_353 : decode cX10_text 353 = .ok (.getfield 148, 3) := by decide +kernel
theorem dX10_text_356 : decode cX10_text 356 = .ok (.sipush 800, 3) := by decide +kernel
theorem dX10_text_359 : decode cX10_text 359 = .ok (.iastore, 1) := by decide +kernel
theorem dX10_text_360 : decode cX10_text 360 = .ok (.aload_n 0, 1) := by decide +kernel
theorem dX10_text_361 : decode cX10_text 361 = .ok (.getfield 38, 3) := by decide +kernel
theorem dX10_text_364 : decode cX10_text 364 = .ok (.aload_n 0, 1) := by decide +kernel
theorem dX10_text_365 : decode cX10_text 365 = .ok (.getfield 148, 3) := by decide +kernel
theorem dX10_text_368 : decode cX10_text 368 = .ok (.iaload, 1) := by decide +kernel
theorem dX10_text_369 : decode cX10_text 369 = .ok (.ifCond .ge 15, 3) := by decide +kernel
theorem dX10_text_372 : decode cX10_text 372 = .ok (.aload_n 0, 1) := by decide +kernel
theorem dX10_text_373 : decode cX10_text 373 = .ok (.getfield 38, 3) := by decide +kernel
theorem dX10_text_376 : decode cX10_text 376 = .ok (.aload_n 0, 1) := by decide +kernel
theorem dX10_text_377 : decode cX10_text 377 = .ok (.getfield 148, 3) := by decide +kernel
theorem dX10_text_380 : decode cX10_text 380 = .ok (.sipush 800, 3) := by decide +kernel
theorem dX10_text_383 : decode cX10_text 383 = .ok (.iastore, 1) := by decide +kernel
theorem dX10_text_384 : decode cX10_text 384 = .ok (.aload_n 0, 1) := by decide +kernel
theorem dX10_text_385 : decode cX10_text 385 = .ok (.getfield 13, 3) := by decide +kernel
theorem dX10_text_388 : decode cX10_text 388 = .ok (.iload_n 1, 1) := by decide +kernel
theorem dX10_text_389 : decode cX10_text 389 = .ok (.dup2, 1) := by decide +kernel
theorem dX10_text_390 : decode cX10_text 390 = .ok (.iaload, 1) := by decide +kernel
theorem dX10_text_391 : decode cX10_text 391 = .ok (.iconst 1, 1) := by decide +kernel
theorem dX10_text_392 : decode cX10_text 392 = .ok (.iadd, 1) := by decide +kernel
theorem dX10_text_393 : decode cX10_text 393 = .ok (.iastore, 1) := by decide +kernel
theorem dX10_text_394 : decode cX10_text 394 = .ok (.aload_n 0, 1) := by decide +kernel
theorem dX10_text_395 : decode cX10_text 395 = .ok (.getfield 13, 3) := by decide +kernel
theorem dX10_text_398 : decode cX10_text 398 = .ok (.iload_n 1, 1) := by decide +kernel
theorem dX10_text_399 : decode cX10_text 399 = .ok (.iaload, 1) := by decide +kernel
theorem dX10_text_400 : decode cX10_text 400 = .ok (.iconst 1, 1) := by decide +kernel
theorem dX10_text_401 : decode cX10_text 401 = .ok (.isub, 1) := by decide +kernel
theorem dX10_text_402 : decode cX10_text 402 = .ok (.ireturn, 1) := by decide +kernel
theorem dX10_lays_0 : decode cX10_lays 0 = .ok (.aload_n 0, 1) := by decide +kernel
theorem dX10_lays_1 : decode cX10_lays 1 = .ok (.getfield 41, 3) := by decide +kernel
theorem dX10_lays_4 : decode cX10_lays 4 = .ok (.aload_n 0, 1) := by decide +kernel
theorem dX10_lays_5 : decode cX10_lays 5 = .ok (.getfield 148, 3) := by decide +kernel
theorem dX10_lays_8 : decode cX10_lays 8 = .ok (.iaload, 1) := by decide +kernel
theorem dX10_lays_9 : decode cX10_lays 9 = .ok (.ifCond .ge 25, 3) := by decide +kernel
theorem dX10_lays_12 : decode cX10_lays 12 = .ok (.aload_n 0, 1) := by decide +kernel
theorem dX10_lays_13 : decode cX10_lays 13 = .ok (.getfield 41, 3) := by decide +kernel
theorem dX10_lays_16 : decode cX10_lays 16 = .ok (.aload_n 0, 1) := by decide +kernel
theorem dX10_lays_17 : decode cX10_lays 17 = .ok (.getfield 148, 3) := by decide +kernel
theorem dX10_lays_20 : decode cX10_lays 20 = .ok (.bipush 12, 2) := by decide +kernel
theorem dX10_lays_22 : decode cX10_lays 22 = .ok (.iastore, 1) := by decide +kernel
theorem dX10_lays_23 : decode cX10_lays 23 = .ok (.aload_n 0, 1) := by decide +kernel
theorem dX10_lays_24 : decode cX10_lays 24 = .ok (.getfield 44, 3) := by decide +kernel
theorem dX10_lays_27 : decode cX10_lays 27 = .ok (.aload_n 0, 1) := by decide +kernel
theorem dX10_lays_28 : decode cX10_lays 28 = .ok (.getfield 148, 3) := by decide +kernel
theorem dX10_lays_31 : decode cX10_lays 31 = .ok (.bipush 12, 2) := by decide +kernel
theorem dX10_lays_33 : decode cX10_lays 33 = .ok (.iastore, 1) := by decide +kernel
theorem dX10_lays_34 : decode cX10_lays 34 = .ok (.aload_n 0, 1) := by decide +kernel
theorem dX10_lays_35 : decode cX10_lays 35 = .ok (.getfield 47, 3) := by decide +kernel
theorem dX10_lays_38 : decode cX10_lays 38 = .ok (.aload_n 0, 1) := by decide +kernel
theorem dX10_lays_39 : decode cX10_lays 39 = .ok (.getfield 148, 3) := by decide +kernel
theorem dX10_lays_42 : decode cX10_lays 42 = .ok (.iaload, 1) := by decide +kernel
theorem dX10_lays_43 : decode cX10_lays 43 = .ok (.ifCond .ge 23, 3) := by decide +kernel
theorem dX10_lays_46 : decode cX10_lays 46 = .ok (.aload_n 0, 1) := by decide +kernel
theorem dX10_lays_47 : decode cX10_lays 47 = .ok (.getfield 47, 3) := by decide +kernel
theorem dX10_lays_50 : decode cX10_lays 50 = .ok (.aload_n 0, 1) := by decide +kernel
theorem dX10_lays_51 : decode cX10_lays 51 = .ok (.getfield 148, 3) := by decide +kernel
theorem dX10_lays_54 : decode cX10_lays 54 = .ok (.iconst 0, 1) := by decide +kernel
theorem dX10_lays_55 : decode cX10_lays 55 = .ok (.iastore, 1) := by decide +kernel
theorem dX10_lays_56 : decode cX10_lays 56 = .ok (.aload_n 0, 1) := by decide +kernel
theorem dX10_lays_57 : decode cX10_lays 57 = .ok (.getfield 50, 3) := by decide +kernel
theorem dX10_lays_60 : decode cX10_lays 60 = .ok (.aload_n 0, 1) := by decide +kernel
theorem dX10_lays_61 : decode cX10_lays 61 = .ok (.getfield 148, 3) := by decide +kernel
theorem dX10_lays_64 : decode cX10_lays 64 = .ok (.iconst 0, 1) := by decide +kernel
theorem dX10_lays_65 : decode cX10_lays 65 = .ok (.iastore, 1) := by decide +kernel
theorem dX10_lays_66 : decode cX10_lays 66 = .ok (.aload_n 0, 1) := by decide +kernel
theorem dX10_lays_67 : decode cX10_lays 67 = .ok (.getfield 47, 3) := by decide +kernel
theorem dX10_lays_70 : decode cX10_lays 70 = .ok (.aload_n 0, 1) := by decide +kernel
theorem dX10_lays_71 : decode cX10_lays 71 = .ok (.getfield 148, 3) := by decide +kernel
theorem dX10_lays_74 : decode cX10_lays 74 = .ok (.iaload, 1) := by decide +kernel
theorem dX10_lays_75 : decode cX10_lays 75 = .ok (.aload_n 0, 1) := by decide +kernel
theorem dX10_lays_76 : decode cX10_lays 76 = .ok (.getfield 41, 3) := by decide +kernel
theorem dX10_lays_79 : decode cX10_lays 79 = .ok (.aload_n 0, 1) := by decide +kernel
theorem dX10_lays_80 : decode cX10_lays 80 = .ok (.getfield 148, 3) := by decide +kernel
theorem dX10_lays_83 : decode cX10_lays 83 = .ok (.iaload, 1) := by decide +kernel
theorem dX10_lays_84 : decode cX10_lays 84 = .ok (.if_icmp .lt 23, 3) := by decide +kernel
theorem dX10_lays_87 : decode cX10_lays 87 = .ok (.aload_n 0, 1) := by decide +kernel
theorem dX10_lays_88 : decode cX10_lays 88 = .ok (.getfield 47, 3) := by decide +kernel
theorem dX10_lays_91 : decode cX10_lays 91 = .ok (.aload_n 0, 1) := by decide +kernel
theorem dX10_lays_92 : decode cX10_lays 92 = .ok (.getfield 148, 3) := by decide +kernel
theorem dX10_lays_95 : decode cX10_lays 95 = .ok (.aload_n 0, 1) := by decide +kernel
theorem dX10_lays_96 : decode cX10_lays 96 = .ok (.getfield 41, 3) := by decide +kernel
theorem dX10_lays_99 : decode cX10_lays 99 = .ok (.aload_n 0, 1) := by decide +kernel
theorem dX10_lays_100 : decode cX10_lays 100 = .ok (.getfield 148, 3) := by decide +kernel
theorem dX10_lays_103 : decode cX10_lays 103 = .ok (.iaload, 1) := by decide +kernel
theorem dX10_lays_104 : decode cX10_lays 104 = .ok (.iconst 1, 1) := by decide +kernel
theorem dX10_lays_105 : decode cX10_lays 105 = .ok (.isub, 1) := by decide +kernel
theorem dX10_lays_106 : decode cX10_lays 106 = .ok (.iastore, 1) := by decide +kernel
theorem dX10_lays_107 : decode cX10_lays 107 = .ok (.aload_n 0, 1) := by decide +kernel
theorem dX10_lays_108 : decode cX10_lays 108 = .ok (.getfield 50, 3) := by decide +kernel
theorem dX10_lays_111 : decode cX10_lays 111 = .ok (.aload_n 0, 1) := by decide +kernel
theorem dX10_lays_112 : decode cX10_lays 112 = .ok (.getfield 148, 3) := by decide +kernel
theorem dX10_lays_115 : decode cX10_lays 115 = .ok (.iaload, 1) := by decide +kernel
theorem dX10_lays_116 : decode cX10_lays 116 = .ok (.aload_n 0, 1) := by decide +kernel
theorem dX10_lays_117 : decode cX10_lays 117 = .ok (.getfield 44, 3) := by decide +kernel
theorem dX10_lays_120 : decode cX10_lays 120 = .ok (.aload_n 0, 1) := by decide +kernel
theorem dX10_lays_121 : decode cX10_lays 121 = .ok (.getfield 148, 3) := by decide +kernel
theorem dX10_lays_124 : decode cX10_lays 124 = .ok (.iaload, 1) := by decide +kernel
theorem dX10_lays_125 : decode cX10_lays 125 = .ok (.if_icmp .lt 23, 3) := by decide +kernel
theorem dX10_lays_128 : decode cX10_lays 128 = .ok (.aload_n 0, 1) := by decide +kernel
theorem dX10_lays_129 : decode cX10_lays 129 = .ok (.getfield 50, 3) := by decide +kernel
theorem dX10_lays_132 : decode cX10_lays 132 = .ok (.aload_n 0, 1) := by decide +kernel
theorem dX10_lays_133 : decode cX10_lays 133 = .ok (.getfield 148, 3) := by decide +kernel
theorem dX10_lays_136 : decode cX10_lays 136 = .ok (.aload_n 0, 1) := by decide +kernel
theorem dX10_lays_137 : decode cX10_lays 137 = .ok (.getfield 44, 3) := by decide +kernel
theorem dX10_lays_140 : decode cX10_lays 140 = .ok (.aload_n 0, 1) := by decide +kernel
theorem dX10_lays_141 : decode cX10_lays 141 = .ok (.getfield 148, 3) := by decide +kernel
theorem dX10_lays_144 : decode cX10_lays 144 = .ok (.iaload, 1) := by decide +kernel
theorem dX10_lays_145 : decode cX10_lays 145 = .ok (.iconst 1, 1) := by decide +kernel
theorem dX10_lays_146 : decode cX10_lays 146 = .ok (.isub, 1) := by decide +kernel
theorem dX10_lays_147 : decode cX10_lays 147 = .ok (.iastore, 1) := by decide +kernel
theorem dX10_lays_148 : decode cX10_lays 148 = .ok (.aload_n 0, 1) := by decide +kernel
theorem dX10_lays_149 : decode cX10_lays 149 = .ok (.getfield 59, 3) := by decide +kernel
theorem dX10_lays_152 : decode cX10_lays 152 = .ok (.iload_n 1, 1) := by decide +kernel
theorem dX10_lays_153 : decode cX10_lays 153 = .ok (.iconst 1, 1) := by decide +kernel
theorem dX10_lays_154 : decode cX10_lays 154 = .ok (.invokestatic 242, 3) := by decide +kernel
theorem dX10_lays_157 : decode cX10_lays 157 = .ok (.aload_n 0, 1) := by decide +kernel
theorem dX10_lays_158 : decode cX10_lays 158 = .ok (.iload_n 1, 1) := by decide +kernel
theorem dX10_lays_159 : decode cX10_lays 159 = .ok (.invokevirtual 317, 3) := by decide +kernel
theorem dX10_lays_162 : decode cX10_lays 162 = .ok (.iadd, 1) := by decide +kernel
theorem dX10_lays_163 : decode cX10_lays 163 = .ok (.iconst 0, 1) := by decide +kernel
theorem dX10_lays_164 : decode cX10_lays 164 = .ok (.iastore, 1) := by decide +kernel
theorem dX10_lays_165 : decode cX10_lays 165 = .ok (.aload_n 0, 1) := by decide +kernel
theorem dX10_lays_166 : decode cX10_lays 166 = .ok (.iload_n 1, 1) := by decide +kernel
theorem dX10_lays_167 : decode cX10_lays 167 = .ok (.aload_n 0, 1) := by decide +kernel
theorem dX10_lays_168 : decode cX10_lays 168 = .ok (.iload_n 1, 1) := by decide +kernel
theorem dX10_lays_169 : decode cX10_lays 169 = .ok (.invokevirtual 317, 3) := by decide +kernel
theorem dX10_lays_172 : decode cX10_lays 172 = .ok (.invokevirtual 320, 3) := by decide +kernel
theorem dX10_lays_175 : decode cX10_lays 175 = .ok (.iconst 0, 1) := by decide +kernel
theorem dX10_lays_176 : decode cX10_lays 176 = .ok (.istore_n 2, 1) := by decide +kernel
theorem dX10_lays_177 : decode cX10_lays 177 = .ok (.iload_n 2, 1) := by decide +kernel
theorem dX10_lays_178 : decode cX10_lays 178 = .ok (.sipush 144, 3) := by decide +kernel
theorem dX10_lays_181 : decode cX10_lays 181 = .ok (.if_icmp .ge 27, 3) := by decide +kernel
theorem dX10_lays_184 : decode cX10_lays 184 = .ok (.aload_n 0, 1) := by decide +kernel
theorem dX10_lays_185 : decode cX10_lays 185 = .ok (.getfield 59, 3) := by decide +kernel
theorem dX10_lays_188 : decode cX10_lays 188 = .ok (.iload_n 1, 1) := by decide +kernel
theorem dX10_lays_189 : decode cX10_lays 189 = .ok (.iconst 5, 1) := by decide +kernel
theorem dX10_lays_190 : decode cX10_lays 190 = .ok (.invokestatic 242, 3) := by decide +kernel
theorem dX10_lays_193 : decode cX10_lays 193 = .ok (.iload_n 2, 1) := by decide +kernel
theorem dX10_lays_194 : decode cX10_lays 194 = .ok (.iadd, 1) := by decide +kernel
theorem dX10_lays_195 : decode cX10_lays 195 = .ok (.aload_n 0, 1) := by decide +kernel
theorem dX10_lays_196 : decode cX10_lays 196 = .ok (.getfield 68, 3) := by decide +kernel
theorem dX10_lays_199 : decode cX10_lays 199 = .ok (.iload_n 2, 1) := by decide +kernel
theorem dX10_lays_200 : decode cX10_lays 200 = .ok (.iaload, 1) := by decide +kernel
theorem dX10_lays_201 : decode cX10_lays 201 = .ok (.iastore, 1) := by decide +kernel
theorem dX10_lays_202 : decode cX10_lays 202 = .ok (.iinc 2 1, 3) := by decide +kernel
theorem dX10_lays_205 : decode cX10_lays 205 = .ok (.goto (-28), 3) := by decide +kernel
theorem dX10_lays_208 : decode cX10_lays 208 = .ok (.return_, 1) := by decide +kernel
theorem dX10_homeOf_0 : decode cX10_homeOf 0 = .ok (.bipush 12, 2) := by decide +kernel
theorem dX10_homeOf_2 : decode cX10_homeOf 2 = .ok (.aload_n 0, 1) := by decide +kernel
theorem dX10_homeOf_3 : decode cX10_homeOf 3 = .ok (.getfield 50, 3) := by decide +kernel
theorem dX10_homeOf_6 : decode cX10_homeOf 6 = .ok (.bipush 12, 2) := by decide +kernel
theorem dX10_homeOf_8 : decode cX10_homeOf 8 = .ok (.iload_n 1, 1) := by decide +kernel
theorem dX10_homeOf_9 : decode cX10_homeOf 9 = .ok (.iadd, 1) := by decide +kernel
theorem dX10_homeOf_10 : decode cX10_homeOf 10 = .ok (.iaload, 1) := by decide +kernel
theorem dX10_homeOf_11 : decode cX10_homeOf 11 = .ok (.imul, 1) := by decide +kernel
theorem dX10_homeOf_12 : decode cX10_homeOf 12 = .ok (.aload_n 0, 1) := by decide +kernel
theorem dX10_homeOf_13 : decode cX10_homeOf 13 = .ok (.getfield 47, 3) := by decide +kernel
theorem dX10_homeOf_16 : decode cX10_homeOf 16 = .ok (.bipush 12, 2) := by decide +kernel
theorem dX10_homeOf_18 : decode cX10_homeOf 18 = .ok (.iload_n 1, 1) := by decide +kernel
theorem dX10_homeOf_19 : decode cX10_homeOf 19 = .ok (.iadd, 1) := by decide +kernel
theorem dX10_homeOf_20 : decode cX10_homeOf 20 = .ok (.iaload, 1) := by decide +kernel
theorem dX10_homeOf_21 : decode cX10_homeOf 21 = .ok (.iadd, 1) := by decide +kernel
theorem dX10_homeOf_22 : decode cX10_homeOf 22 = .ok (.ireturn, 1) := by decide +kernel
theorem dX10_isInWood_0 : decode cX10_isInWood 0 = .ok (.iload_n 2, 1) := by decide +kernel
theorem dX10_isInWood_1 : decode cX10_isInWood 1 = .ok (.i2l, 1) := by decide +kernel
theorem dX10_isInWood_2 : decode cX10_isInWood 2 = .ok (.lconst 0, 1) := by decide +kernel
theorem dX10_isInWood_3 : decode cX10_isInWood 3 = .ok (.aload_n 0, 1) := by decide +kernel
theorem dX10_isInWood_4 : decode cX10_isInWood 4 = .ok (.getfield 41, 3) := by decide +kernel
theorem dX10_isInWood_7 : decode cX10_isInWood 7 = .ok (.bipush 12, 2) := by decide +kernel
theorem dX10_isInWood_9 : decode cX10_isInWood 9 = .ok (.iload_n 1, 1) := by decide +kernel
theorem dX10_isInWood_10 : decode cX10_isInWood 10 = .ok (.iadd, 1) := by decide +kernel
theorem dX10_isInWood_11 : decode cX10_isInWood 11 = .ok (.iaload, 1) := by decide +kernel
theorem dX10_isInWood_12 : decode cX10_isInWood 12 = .ok (.iconst 1, 1) := by decide +kernel
theorem dX10_isInWood_13 : decode cX10_isInWood 13 = .ok (.isub, 1) := by decide +kernel
theorem dX10_isInWood_14 : decode cX10_isInWood 14 = .ok (.i2l, 1) := by decide +kernel
theorem dX10_isInWood_15 : decode cX10_isInWood 15 = .ok (.invokestatic 144, 3) := by decide +kernel
theorem dX10_isInWood_18 : decode cX10_isInWood 18 = .ok (.ifCond .eq 28, 3) := by decide +kernel
theorem dX10_isInWood_21 : decode cX10_isInWood 21 = .ok (.iload_n 3, 1) := by decide +kernel
theorem dX10_isInWood_22 : decode cX10_isInWood 22 = .ok (.i2l, 1) := by decide +kernel
theorem dX10_isInWood_23 : decode cX10_isInWood 23 = .ok (.lconst 0, 1) := by decide +kernel
theorem dX10_isInWood_24 : decode cX10_isInWood 24 = .ok (.aload_n 0, 1) := by decide +kernel
theorem dX10_isInWood_25 : decode cX10_isInWood 25 = .ok (.getfield 44, 3) := by decide +kernel
theorem dX10_isInWood_28 : decode cX10_isInWood 28 = .ok (.bipush 12, 2) := by decide +kernel
theorem dX10_isInWood_30 : decode cX10_isInWood 30 = .ok (.iload_n 1, 1) := by decide +kernel
theorem dX10_isInWood_31 : decode cX10_isInWood 31 = .ok (.iadd, 1) := by decide +kernel
theorem dX10_isInWood_32 : decode cX10_isInWood 32 = .ok (.iaload, 1) := by decide +kernel
theorem dX10_isInWood_33 : decode cX10_isInWood 33 = .ok (.iconst 1, 1) := by decide +kernel
theorem dX10_isInWood_34 : decode cX10_isInWood 34 = .ok (.isub, 1) := by decide +kernel
theorem dX10_isInWood_35 : decode cX10_isInWood 35 = .ok (.i2l, 1) := by decide +kernel
theorem dX10_isInWood_36 : decode cX10_isInWood 36 = .ok (.invokestatic 144, 3) := by decide +kernel
theorem dX10_isInWood_39 : decode cX10_isInWood 39 = .ok (.ifCond .eq 7, 3) := by decide +kernel
theorem dX10_isInWood_42 : decode cX10_isInWood 42 = .ok (.iconst 1, 1) := by decide +kernel
theorem dX10_isInWood_43 : decode cX10_isInWood 43 = .ok (.goto 4, 3) := by decide +kernel
theorem dX10_isInWood_46 : decode cX10_isInWood 46 = .ok (.iconst 0, 1) := by decide +kernel
theorem dX10_isInWood_47 : decode cX10_isInWood 47 = .ok (.ireturn, 1) := by decide +kernel
theorem dX10_at_0 : decode cX10_at 0 = .ok (.aload_n 0, 1) := by decide +kernel
theorem dX10_at_1 : decode cX10_at 1 = .ok (.getfield 59, 3) := by decide +kernel
theorem dX10_at_4 : decode cX10_at 4 = .ok (.iload_n 1, 1) := by decide +kernel
theorem dX10_at_5 : decode cX10_at 5 = .ok (.iload_n 2, 1) := by decide +kernel
theorem dX10_at_6 : decode cX10_at 6 = .ok (.invokestatic 242, 3) := by decide +kernel
theorem dX10_at_9 : decode cX10_at 9 = .ok (.iload_n 3, 1) := by decide +kernel
theorem dX10_at_10 : decode cX10_at 10 = .ok (.iadd, 1) := by decide +kernel
theorem dX10_at_11 : decode cX10_at 11 = .ok (.iaload, 1) := by decide +kernel
theorem dX10_at_12 : decode cX10_at 12 = .ok (.ireturn, 1) := by decide +kernel
theorem dX10_beside_0 : decode cX10_beside 0 = .ok (.iload_n 2, 1) := by decide +kernel
theorem dX10_beside_1 : decode cX10_beside 1 = .ok (.bipush 12, 2) := by decide +kernel
theorem dX10_beside_3 : decode cX10_beside 3 = .ok (.irem, 1) := by decide +kernel
theorem dX10_beside_4 : decode cX10_beside 4 = .ok (.iload_n 3, 1) := by decide +kernel
theorem dX10_beside_5 : decode cX10_beside 5 = .ok (.iconst 1, 1) := by decide +kernel
theorem dX10_beside_6 : decode cX10_beside 6 = .ok (.if_icmp .ne 7, 3) := by decide +kernel
theorem dX10_beside_9 : decode cX10_beside 9 = .ok (.iconst 1, 1) := by decide +kernel
theorem dX10_beside_10 : decode cX10_beside 10 = .ok (.goto 13, 3) := by decide +kernel
theorem dX10_beside_13 : decode cX10_beside 13 = .ok (.iload_n 3, 1) := by decide +kernel
theorem dX10_beside_14 : decode cX10_beside 14 = .ok (.iconst 3, 1) := by decide +kernel
theorem dX10_beside_15 : decode cX10_beside 15 = .ok (.if_icmp .ne 7, 3) := by decide +kernel
theorem dX10_beside_18 : decode cX10_beside 18 = .ok (.iconst (-1), 1) := by decide +kernel
theorem dX10_beside_19 : decode cX10_beside 19 = .ok (.goto 4, 3) := by decide +kernel
theorem dX10_beside_22 : decode cX10_beside 22 = .ok (.iconst 0, 1) := by decide +kernel
theorem dX10_beside_23 : decode cX10_beside 23 = .ok (.iadd, 1) := by decide +kernel
theorem dX10_beside_24 : decode cX10_beside 24 = .ok (.istore 4, 2) := by decide +kernel
theorem dX10_beside_26 : decode cX10_beside 26 = .ok (.iload_n 2, 1) := by decide +kernel
theorem dX10_beside_27 : decode cX10_beside 27 = .ok (.bipush 12, 2) := by decide +kernel
theorem dX10_beside_29 : decode cX10_beside 29 = .ok (.idiv, 1) := by decide +kernel
theorem dX10_beside_30 : decode cX10_beside 30 = .ok (.iload_n 3, 1) := by decide +kernel
theorem dX10_beside_31 : decode cX10_beside 31 = .ok (.iconst 2, 1) := by decide +kernel
theorem dX10_beside_32 : decode cX10_beside 32 = .ok (.if_icmp .ne 7, 3) := by decide +kernel
theorem dX10_beside_35 : decode cX10_beside 35 = .ok (.iconst 1, 1) := by decide +kernel
theorem dX10_beside_36 : decode cX10_beside 36 = .ok (.goto 12, 3) := by decide +kernel
theorem dX10_beside_39 : decode cX10_beside 39 = .ok (.iload_n 3, 1) := by decide +kernel
theorem dX10_beside_40 : decode cX10_beside 40 = .ok (.ifCond .ne 7, 3) := by decide +kernel
theorem dX10_beside_43 : decode cX10_beside 43 = .ok (.iconst (-1), 1) := by decide +kernel
theorem dX10_beside_44 : decode cX10_beside 44 = .ok (.goto 4, 3) := by decide +kernel
theorem dX10_beside_47 : decode cX10_beside 47 = .ok (.iconst 0, 1) := by decide +kernel
theorem dX10_beside_48 : decode cX10_beside 48 = .ok (.iadd, 1) := by decide +kernel
theorem dX10_beside_49 : decode cX10_beside 49 = .ok (.istore 5, 2) := by decide +kernel
theorem dX10_beside_51 : decode cX10_beside 51 = .ok (.aload_n 0, 1) := by decide +kernel
theorem dX10_beside_52 : decode cX10_beside 52 = .ok (.iload_n 1, 1) := by decide +kernel
theorem dX10_beside_53 : decode cX10_beside 53 = .ok (.iload 4, 2) := by decide +kernel
theorem dX10_beside_55 : decode cX10_beside 55 = .ok (.iload 5, 2) := by decide +kernel
theorem dX10_beside_57 : decode cX10_beside 57 = .ok (.invokevirtual 323, 3) := by decide +kernel
theorem dX10_beside_60 : decode cX10_beside 60 = .ok (.ifCond .eq 21, 3) := by decide +kernel
theorem dX10_beside_63 : decode cX10_beside 63 = .ok (.aload_n 0, 1) := by decide +kernel
theorem dX10_beside_64 : decode cX10_beside 64 = .ok (.iload_n 1, 1) := by decide +kernel
theorem dX10_beside_65 : decode cX10_beside 65 = .ok (.iconst 1, 1) := by decide +kernel
theorem dX10_beside_66 : decode cX10_beside 66 = .ok (.bipush 12, 2) := by decide +kernel
theorem dX10_beside_68 : decode cX10_beside 68 = .ok (.iload 5, 2) := by decide +kernel
theorem dX10_beside_70 : decode cX10_beside 70 = .ok (.imul, 1) := by decide +kernel
theorem dX10_beside_71 : decode cX10_beside 71 = .ok (.iload 4, 2) := by decide +kernel
theorem dX10_beside_73 : decode cX10_beside 73 = .ok (.iadd, 1) := by decide +kernel
theorem dX10_beside_74 : decode cX10_beside 74 = .ok (.invokevirtual 327, 3) := by decide +kernel
theorem dX10_beside_77 : decode cX10_beside 77 = .ok (.iconst 1, 1) := by decide +kernel
theorem dX10_beside_78 : decode cX10_beside 78 = .ok (.if_icmp .ne 7, 3) := by decide +kernel
theorem dX10_beside_81 : decode cX10_beside 81 = .ok (.iconst (-1), 1) := by decide +kernel
theorem dX10_beside_82 : decode cX10_beside 82 = .ok (.goto 11, 3) := by decide +kernel
theorem dX10_beside_85 : decode cX10_beside 85 = .ok (.bipush 12, 2) := by decide +kernel
theorem dX10_beside_87 : decode cX10_beside 87 = .ok (.iload 5, 2) := by decide +kernel
theorem dX10_beside_89 : decode cX10_beside 89 = .ok (.imul, 1) := by decide +kernel
theorem dX10_beside_90 : decode cX10_beside 90 = .ok (.iload 4, 2) := by decide +kernel
theorem dX10_beside_92 : decode cX10_beside 92 = .ok (.iadd, 1) := by decide +kernel
theorem dX10_beside_93 : decode cX10_beside 93 = .ok (.ireturn, 1) := by decide +kernel
theorem dX10_spreads_0 : decode cX10_spreads 0 = .ok (.iconst 0, 1) := by decide +kernel
theorem dX10_spreads_1 : decode cX10_spreads 1 = .ok (.istore_n 3, 1) := by decide +kernel
theorem dX10_spreads_2 : decode cX10_spreads 2 = .ok (.iload_n 3, 1) := by decide +kernel
theorem dX10_spreads_3 : decode cX10_spreads 3 = .ok (.sipush 144, 3) := by decide +kernel
theorem dX10_spreads_6 : decode cX10_spreads 6 = .ok (.if_icmp .ge 16, 3) := by decide +kernel
theorem dX10_spreads_9 : decode cX10_spreads 9 = .ok (.aload_n 0, 1) := by decide +kernel
theorem dX10_spreads_10 : decode cX10_spreads 10 = .ok (.getfield 68, 3) := by decide +kernel
theorem dX10_spreads_13 : decode cX10_spreads 13 = .ok (.iload_n 3, 1) := by decide +kernel
theorem dX10_spreads_14 : decode cX10_spreads 14 = .ok (.iconst (-1), 1) := by decide +kernel
theorem dX10_spreads_15 : decode cX10_spreads 15 = .ok (.iastore, 1) := by decide +kernel
theorem dX10_spreads_16 : decode cX10_spreads 16 = .ok (.iinc 3 1, 3) := by decide +kernel
theorem dX10_spreads_19 : decode cX10_spreads 19 = .ok (.goto (-17), 3) := by decide +kernel
theorem dX10_spreads_22 : decode cX10_spreads 22 = .ok (.aload_n 0, 1) := by decide +kernel
theorem dX10_spreads_23 : decode cX10_spreads 23 = .ok (.getfield 68, 3) := by decide +kernel
theorem dX10_spreads_26 : decode cX10_spreads 26 = .ok (.iload_n 2, 1) := by decide +kernel
theorem dX10_spreads_27 : decode cX10_spreads 27 = .ok (.iconst 0, 1) := by decide +kernel
theorem dX10_spreads_28 : decode cX10_spreads 28 = .ok (.iastore, 1) := by decide +kernel
theorem dX10_spreads_29 : decode cX10_spreads 29 = .ok (.aload_n 0, 1) := by decide +kernel
theorem dX10_spreads_30 : decode cX10_spreads 30 = .ok (.getfield 65, 3) := by decide +kernel
theorem dX10_spreads_33 : decode cX10_spreads 33 = .ok (.iconst 0, 1) := by decide +kernel
theorem dX10_spreads_34 : decode cX10_spreads 34 = .ok (.iload_n 2, 1) := by decide +kernel
theorem dX10_spreads_35 : decode cX10_spreads 35 = .ok (.iastore, 1) := by decide +kernel
theorem dX10_spreads_36 : decode cX10_spreads 36 = .ok (.iconst 1, 1) := by decide +kernel
theorem dX10_spreads_37 : decode cX10_spreads 37 = .ok (.istore_n 3, 1) := by decide +kernel
theorem dX10_spreads_38 : decode cX10_spreads 38 = .ok (.iconst 0, 1) := by decide +kernel
theorem dX10_spreads_39 : decode cX10_spreads 39 = .ok (.istore 4, 2) := by decide +kernel
theorem dX10_spreads_41 : decode cX10_spreads 41 = .ok (.iload 4, 2) := by decide +kernel
theorem dX10_spreads_43 : decode cX10_spreads 43 = .ok (.iload_n 3, 1) := by decide +kernel
theorem dX10_spreads_44 : decode cX10_spreads 44 = .ok (.if_icmp .ge 90, 3) := by decide +kernel
theorem dX10_spreads_47 : decode cX10_spreads 47 = .ok (.iconst 0, 1) := by decide +kernel
theorem dX10_spreads_48 : decode cX10_spreads 48 = .ok (.istore 5, 2) := by decide +kernel
theorem dX10_spreads_50 : decode cX10_spreads 50 = .ok (.iload 5, 2) := by decide +kernel
theorem dX10_spreads_52 : decode cX10_spreads 52 = .ok (.iconst 4, 1) := by decide +kernel
theorem dX10_spreads_53 : decode cX10_spreads 53 = .ok (.if_icmp .ge 75, 3) := by decide +kernel
theorem dX10_spreads_56 : decode cX10_spreads 56 = .ok (.aload_n 0, 1) := by decide +kernel
theorem dX10_spreads_57 : decode cX10_spreads 57 = .ok (.iload_n 1, 1) := by decide +kernel
theorem dX10_spreads_58 : decode cX10_spreads 58 = .ok (.aload_n 0, 1) := by decide +kernel
theorem dX10_spreads_59 : decode cX10_spreads 59 = .ok (.getfield 65, 3) := by decide +kernel
theorem dX10_spreads_62 : decode cX10_spreads 62 = .ok (.iload 4, 2) := by decide +kernel
theorem dX10_spreads_64 : decode cX10_spreads 64 = .ok (.iaload, 1) := by decide +kernel
theorem dX10_spreads_65 : decode cX10_spreads 65 = .ok (.iload 5, 2) := by decide +kernel
theorem dX10_spreads_67 : decode cX10_spreads 67 = .ok (.invokevirtual 331, 3) := by decide +kernel
theorem dX10_spreads_70 : decode cX10_spreads 70 = .ok (.istore 6, 2) := by decide +kernel
theorem dX10_spreads_72 : decode cX10_spreads 72 = .ok (.iload 6, 2) := by decide +kernel
theorem dX10_spreads_74 : decode cX10_spreads 74 = .ok (.ifCond .lt 48, 3) := by decide +kernel
theorem dX10_spreads_77 : decode cX10_spreads 77 = .ok (.aload_n 0, 1) := by decide +kernel
theorem dX10_spreads_78 : decode cX10_spreads 78 = .ok (.getfield 68, 3) := by decide +kernel
theorem dX10_spreads_81 : decode cX10_spreads 81 = .ok (.iload 6, 2) := by decide +kernel
theorem dX10_spreads_83 : decode cX10_spreads 83 = .ok (.iaload, 1) := by decide +kernel
theorem dX10_spreads_84 : decode cX10_spreads 84 = .ok (.ifCond .lt 6, 3) := by decide +kernel
theorem dX10_spreads_87 : decode cX10_spreads 87 = .ok (.goto 35, 3) := by decide +kernel
theorem dX10_spreads_90 : decode cX10_spreads 90 = .ok (.aload_n 0, 1) := by decide +kernel
theorem dX10_spreads_91 : decode cX10_spreads 91 = .ok (.getfield 68, 3) := by decide +kernel
theorem dX10_spreads_94 : decode cX10_spreads 94 = .ok (.iload 6, 2) := by decide +kernel
theorem dX10_spreads_96 : decode cX10_spreads 96 = .ok (.aload_n 0, 1) := by decide +kernel
theorem dX10_spreads_97 : decode cX10_spreads 97 = .ok (.getfield 68, 3) := by decide +kernel
theorem dX10_spreads_100 : decode cX10_spreads 100 = .ok (.aload_n 0, 1) := by decide +kernel
theorem dX10_spreads_101 : decode cX10_spreads 101 = .ok (.getfield 65, 3) := by decide +kernel
theorem dX10_spreads_104 : decode cX10_spreads 104 = .ok (.iload 4, 2) := by decide +kernel
theorem dX10_spreads_106 : decode cX10_spreads 106 = .ok (.iaload, 1) := by decide +kernel
theorem dX10_spreads_107 : decode cX10_spreads 107 = .ok (.iaload, 1) := by decide +kernel
theorem dX10_spreads_108 : decode cX10_spreads 108 = .ok (.iconst 1, 1) := by decide +kernel
theorem dX10_spreads_109 : decode cX10_spreads 109 = .ok (.iadd, 1) := by decide +kernel
theorem dX10_spreads_110 : decode cX10_spreads 110 = .ok (.iastore, 1) := by decide +kernel
theorem dX10_spreads_111 : decode cX10_spreads 111 = .ok (.aload_n 0, 1) := by decide +kernel
theorem dX10_spreads_112 : decode cX10_spreads 112 = .ok (.getfield 65, 3) := by decide +kernel
theorem dX10_spreads_115 : decode cX10_spreads 115 = .ok (.iload_n 3, 1) := by decide +kernel
theorem dX10_spreads_116 : decode cX10_spreads 116 = .ok (.iload 6, 2) := by decide +kernel
theorem dX10_spreads_118 : decode cX10_spreads 118 = .ok (.iastore, 1) := by decide +kernel
theorem dX10_spreads_119 : decode cX10_spreads 119 = .ok (.iinc 3 1, 3) := by decide +kernel
theorem dX10_spreads_122 : decode cX10_spreads 122 = .ok (.iinc 5 1, 3) := by decide +kernel
theorem dX10_spreads_125 : decode cX10_spreads 125 = .ok (.goto (-75), 3) := by decide +kernel
theorem dX10_spreads_128 : decode cX10_spreads 128 = .ok (.iinc 4 1, 3) := by decide +kernel
theorem dX10_spreads_131 : decode cX10_spreads 131 = .ok (.goto (-90), 3) := by decide +kernel
theorem dX10_spreads_134 : decode cX10_spreads 134 = .ok (.return_, 1) := by decide +kernel
theorem dX10_isText_0 : decode cX10_isText 0 = .ok (.iload_n 2, 1) := by decide +kernel
theorem dX10_isText_1 : decode cX10_isText 1 = .ok (.ifCond .lt 17, 3) := by decide +kernel
theorem dX10_isText_4 : decode cX10_isText 4 = .ok (.iload_n 2, 1) := by decide +kernel
theorem dX10_isText_5 : decode cX10_isText 5 = .ok (.aload_n 0, 1) := by decide +kernel
theorem dX10_isText_6 : decode cX10_isText 6 = .ok (.getfield 13, 3) := by decide +kernel
theorem dX10_isText_9 : decode cX10_isText 9 = .ok (.iload_n 1, 1) := by decide +kernel
theorem dX10_isText_10 : decode cX10_isText 10 = .ok (.iaload, 1) := by decide +kernel
theorem dX10_isText_11 : decode cX10_isText 11 = .ok (.if_icmp .ge 7, 3) := by decide +kernel
theorem dX10_isText_14 : decode cX10_isText 14 = .ok (.iconst 1, 1) := by decide +kernel
theorem dX10_isText_15 : decode cX10_isText 15 = .ok (.goto 4, 3) := by decide +kernel
theorem dX10_isText_18 : decode cX10_isText 18 = .ok (.iconst 0, 1) := by decide +kernel
theorem dX10_isText_19 : decode cX10_isText 19 = .ok (.ireturn, 1) := by decide +kernel
theorem dX10_loudAt_0 : decode cX10_loudAt 0 = .ok (.bipush 12, 2) := by decide +kernel
theorem dX10_loudAt_2 : decode cX10_loudAt 2 = .ok (.iload_n 1, 1) := by decide +kernel
theorem dX10_loudAt_3 : decode cX10_loudAt 3 = .ok (.imul, 1) := by decide +kernel
theorem dX10_loudAt_4 : decode cX10_loudAt 4 = .ok (.iconst 3, 1) := by decide +kernel
theorem dX10_loudAt_5 : decode cX10_loudAt 5 = .ok (.iload_n 2, 1) := by decide +kernel
theorem dX10_loudAt_6 : decode cX10_loudAt 6 = .ok (.imul, 1) := by decide +kernel
theorem dX10_loudAt_7 : decode cX10_loudAt 7 = .ok (.iadd, 1) := by decide +kernel
theorem dX10_loudAt_8 : decode cX10_loudAt 8 = .ok (.istore 4, 2) := by decide +kernel
theorem dX10_loudAt_10 : decode cX10_loudAt 10 = .ok (.aload_n 0, 1) := by decide +kernel
theorem dX10_loudAt_11 : decode cX10_loudAt 11 = .ok (.getfield 56, 3) := by decide +kernel
theorem dX10_loudAt_14 : decode cX10_loudAt 14 = .ok (.iload 4, 2) := by decide +kernel
theorem dX10_loudAt_16 : decode cX10_loudAt 16 = .ok (.iaload, 1) := by decide +kernel
theorem dX10_loudAt_17 : decode cX10_loudAt 17 = .ok (.iload_n 3, 1) := by decide +kernel
theorem dX10_loudAt_18 : decode cX10_loudAt 18 = .ok (.bipush 12, 2) := by decide +kernel
theorem dX10_loudAt_20 : decode cX10_loudAt 20 = .ok (.irem, 1) := by decide +kernel
theorem dX10_loudAt_21 : decode cX10_loudAt 21 = .ok (.aload_n 0, 1) := by decide +kernel
theorem dX10_loudAt_22 : decode cX10_loudAt 22 = .ok (.getfield 56, 3) := by decide +kernel
theorem dX10_loudAt_25 : decode cX10_loudAt 25 = .ok (.iload 4, 2) := by decide +kernel
theorem dX10_loudAt_27 : decode cX10_loudAt 27 = .ok (.iconst 1, 1) := by decide +kernel
theorem dX10_loudAt_28 : decode cX10_loudAt 28 = .ok (.iadd, 1) := by decide +kernel
theorem dX10_loudAt_29 : decode cX10_loudAt 29 = .ok (.iaload, 1) := by decide +kernel
theorem dX10_loudAt_30 : decode cX10_loudAt 30 = .ok (.isub, 1) := by decide +kernel
theorem dX10_loudAt_31 : decode cX10_loudAt 31 = .ok (.invokestatic 334, 3) := by decide +kernel
theorem dX10_loudAt_34 : decode cX10_loudAt 34 = .ok (.isub, 1) := by decide +kernel
theorem dX10_loudAt_35 : decode cX10_loudAt 35 = .ok (.iload_n 3, 1) := by decide +kernel
theorem dX10_loudAt_36 : decode cX10_loudAt 36 = .ok (.bipush 12, 2) := by decide +kernel
theorem dX10_loudAt_38 : decode cX10_loudAt 38 = .ok (.idiv, 1) := by decide +kernel
theorem dX10_loudAt_39 : decode cX10_loudAt 39 = .ok (.aload_n 0, 1) := by decide +kernel
theorem dX10_loudAt_40 : decode cX10_loudAt 40 = .ok (.getfield 56, 3) := by decide +kernel
theorem dX10_loudAt_43 : decode cX10_loudAt 43 = .ok (.iload 4, 2) := by decide +kernel
theorem dX10_loudAt_45 : decode cX10_loudAt 45 = .ok (.iconst 2, 1) := by decide +kernel
theorem dX10_loudAt_46 : decode cX10_loudAt 46 = .ok (.iadd, 1) := by decide +kernel
theorem dX10_loudAt_47 : decode cX10_loudAt 47 = .ok (.iaload, 1) := by decide +kernel
theorem dX10_loudAt_48 : decode cX10_loudAt 48 = .ok (.isub, 1) := by decide +kernel
theorem dX10_loudAt_49 : decode cX10_loudAt 49 = .ok (.invokestatic 334, 3) := by decide +kernel
theorem dX10_loudAt_52 : decode cX10_loudAt 52 = .ok (.isub, 1) := by decide +kernel
theorem dX10_loudAt_53 : decode cX10_loudAt 53 = .ok (.istore 5, 2) := by decide +kernel
theorem dX10_loudAt_55 : decode cX10_loudAt 55 = .ok (.iload 5, 2) := by decide +kernel
theorem dX10_loudAt_57 : decode cX10_loudAt 57 = .ok (.ifCond .ge 7, 3) := by decide +kernel
theorem dX10_loudAt_60 : decode cX10_loudAt 60 = .ok (.iconst 0, 1) := by decide +kernel
theorem dX10_loudAt_61 : decode cX10_loudAt 61 = .ok (.goto 5, 3) := by decide +kernel
theorem dX10_loudAt_64 : decode cX10_loudAt 64 = .ok (.iload 5, 2) := by decide +kernel
theorem dX10_loudAt_66 : decode cX10_loudAt 66 = .ok (.ireturn, 1) := by decide +kernel
theorem dX10_cell_0 : decode cX10_cell 0 = .ok (.aload_n 0, 1) := by decide +kernel
theorem dX10_cell_1 : decode cX10_cell 1 = .ok (.iconst 0, 1) := by decide +kernel
theorem dX10_cell_2 : decode cX10_cell 2 = .ok (.iload_n 1, 1) := by decide +kernel
theorem dX10_cell_3 : decode cX10_cell 3 = .ok (.invokevirtual 337, 3) := by decide +kernel
theorem dX10_cell_6 : decode cX10_cell 6 = .ok (.ifCond .eq 26, 3) := by decide +kernel
theorem dX10_cell_9 : decode cX10_cell 9 = .ok (.aload_n 0, 1) := by decide +kernel
theorem dX10_cell_10 : decode cX10_cell 10 = .ok (.iload_n 1, 1) := by decide +kernel
theorem dX10_cell_11 : decode cX10_cell 11 = .ok (.iload_n 2, 1) := by decide +kernel
theorem dX10_cell_12 : decode cX10_cell 12 = .ok (.iload_n 3, 1) := by decide +kernel
theorem dX10_cell_13 : decode cX10_cell 13 = .ok (.invokevirtual 323, 3) := by decide +kernel
theorem dX10_cell_16 : decode cX10_cell 16 = .ok (.ifCond .eq 16, 3) := by decide +kernel
theorem dX10_cell_19 : decode cX10_cell 19 = .ok (.iload 4, 2) := by decide +kernel
theorem dX10_cell_21 : decode cX10_cell 21 = .ok (.i2l, 1) := by decide +kernel
theorem dX10_cell_22 : decode cX10_cell 22 = .ok (.lconst 0, 1) := by decide +kernel
theorem dX10_cell_23 : decode cX10_cell 23 = .ok (.ldc2_w 340, 3) := by decide +kernel
theorem dX10_cell_26 : decode cX10_cell 26 = .ok (.invokestatic 144, 3) := by decide +kernel
theorem dX10_cell_29 : decode cX10_cell 29 = .ok (.ifCond .ne 6, 3) := by decide +kernel
theorem dX10_cell_32 : decode cX10_cell 32 = .ok (.bipush (-2), 2) := by decide +kernel
theorem dX10_cell_34 : decode cX10_cell 34 = .ok (.ireturn, 1) := by decide +kernel
theorem dX10_cell_35 : decode cX10_cell 35 = .ok (.bipush 12, 2) := by decide +kernel
theorem dX10_cell_37 : decode cX10_cell 37 = .ok (.iload_n 3, 1) := by decide +kernel
theorem dX10_cell_38 : decode cX10_cell 38 = .ok (.imul, 1) := by decide +kernel
theorem dX10_cell_39 : decode cX10_cell 39 = .ok (.iload_n 2, 1) := by decide +kernel
theorem dX10_cell_40 : decode cX10_cell 40 = .ok (.iadd, 1) := by decide +kernel
theorem dX10_cell_41 : decode cX10_cell 41 = .ok (.istore 5, 2) := by decide +kernel
theorem dX10_cell_43 : decode cX10_cell 43 = .ok (.iload 4, 2) := by decide +kernel
theorem dX10_cell_45 : decode cX10_cell 45 = .ok (.iconst 4, 1) := by decide +kernel
theorem dX10_cell_46 : decode cX10_cell 46 = .ok (.if_icmp .le 39, 3) := by decide +kernel
theorem dX10_cell_49 : decode cX10_cell 49 = .ok (.iload 4, 2) := by decide +kernel
theorem dX10_cell_51 : decode cX10_cell 51 = .ok (.bipush 9, 2) := by decide +kernel
theorem dX10_cell_53 : decode cX10_cell 53 = .ok (.if_icmp .ge 32, 3) := by decide +kernel
theorem dX10_cell_56 : decode cX10_cell 56 = .ok (.iload 4, 2) := by decide +kernel
theorem dX10_cell_58 : decode cX10_cell 58 = .ok (.iconst 5, 1) := by decide +kernel
theorem dX10_cell_59 : decode cX10_cell 59 = .ok (.isub, 1) := by decide +kernel
theorem dX10_cell_60 : decode cX10_cell 60 = .ok (.aload_n 0, 1) := by decide +kernel
theorem dX10_cell_61 : decode cX10_cell 61 = .ok (.getfield 53, 3) := by decide +kernel
theorem dX10_cell_64 : decode cX10_cell 64 = .ok (.iload_n 1, 1) := by decide +kernel
theorem dX10_cell_65 : decode cX10_cell 65 = .ok (.iaload, 1) := by decide +kernel
theorem dX10_cell_66 : decode cX10_cell 66 = .ok (.if_icmp .ge 17, 3) := by decide +kernel
theorem dX10_cell_69 : decode cX10_cell 69 = .ok (.aload_n 0, 1) := by decide +kernel
theorem dX10_cell_70 : decode cX10_cell 70 = .ok (.iload_n 1, 1) := by decide +kernel
theorem dX10_cell_71 : decode cX10_cell 71 = .ok (.iload 4, 2) := by decide +kernel
theorem dX10_cell_73 : decode cX10_cell 73 = .ok (.iconst 5, 1) := by decide +kernel
theorem dX10_cell_74 : decode cX10_cell 74 = .ok (.isub, 1) := by decide +kernel
theorem dX10_cell_75 : decode cX10_cell 75 = .ok (.iload 5, 2) := by decide +kernel
theorem dX10_cell_77 : decode cX10_cell 77 = .ok (.invokevirtual 342, 3) := by decide +kernel
theorem dX10_cell_80 : decode cX10_cell 80 = .ok (.goto 4, 3) := by decide +kernel
theorem dX10_cell_83 : decode cX10_cell 83 = .ok (.iconst (-1), 1) := by decide +kernel
theorem dX10_cell_84 : decode cX10_cell 84 = .ok (.ireturn, 1) := by decide +kernel
theorem dX10_cell_85 : decode cX10_cell 85 = .ok (.aload_n 0, 1) := by decide +kernel
theorem dX10_cell_86 : decode cX10_cell 86 = .ok (.iload_n 1, 1) := by decide +kernel
theorem dX10_cell_87 : decode cX10_cell 87 = .ok (.iload 4, 2) := by decide +kernel
theorem dX10_cell_89 : decode cX10_cell 89 = .ok (.bipush 9, 2) := by decide +kernel
theorem dX10_cell_91 : decode cX10_cell 91 = .ok (.if_icmp .ne 7, 3) := by decide +kernel
theorem dX10_cell_94 : decode cX10_cell 94 = .ok (.iconst 5, 1) := by decide +kernel
theorem dX10_cell_95 : decode cX10_cell 95 = .ok (.goto 5, 3) := by decide +kernel
theorem dX10_cell_98 : decode cX10_cell 98 = .ok (.iload 4, 2) := by decide +kernel
theorem dX10_cell_100 : decode cX10_cell 100 = .ok (.iload 5, 2) := by decide +kernel
theorem dX10_cell_102 : decode cX10_cell 102 = .ok (.invokevirtual 327, 3) := by decide +kernel
theorem dX10_cell_105 : decode cX10_cell 105 = .ok (.ireturn, 1) := by decide +kernel
theorem dX10_wood_0 : decode cX10_wood 0 = .ok (.aload_n 0, 1) := by decide +kernel
theorem dX10_wood_1 : decode cX10_wood 1 = .ok (.iconst 0, 1) := by decide +kernel
theorem dX10_wood_2 : decode cX10_wood 2 = .ok (.iload_n 1, 1) := by decide +kernel
theorem dX10_wood_3 : decode cX10_wood 3 = .ok (.invokevirtual 337, 3) := by decide +kernel
theorem dX10_wood_6 : decode cX10_wood 6 = .ok (.ifCond .eq 15, 3) := by decide +kernel
theorem dX10_wood_9 : decode cX10_wood 9 = .ok (.iload_n 2, 1) := by decide +kernel
theorem dX10_wood_10 : decode cX10_wood 10 = .ok (.i2l, 1) := by decide +kernel
theorem dX10_wood_11 : decode cX10_wood 11 = .ok (.lconst 0, 1) := by decide +kernel
theorem dX10_wood_12 : decode cX10_wood 12 = .ok (.ldc2_w 345, 3) := by decide +kernel
theorem dX10_wood_15 : decode cX10_wood 15 = .ok (.invokestatic 144, 3) := by decide +kernel
theorem dX10_wood_18 : decode cX10_wood 18 = .ok (.ifCond .ne 5, 3) := by decide +kernel
theorem dX10_wood_21 : decode cX10_wood 21 = .ok (.iconst (-1), 1) := by decide +kernel
theorem dX10_wood_22 : decode cX10_wood 22 = .ok (.ireturn, 1) := by decide +kernel
theorem dX10_wood_23 : decode cX10_wood 23 = .ok (.bipush 12, 2) := by decide +kernel
theorem dX10_wood_25 : decode cX10_wood 25 = .ok (.iload_n 1, 1) := by decide +kernel
theorem dX10_wood_26 : decode cX10_wood 26 = .ok (.iadd, 1) := by decide +kernel
theorem dX10_wood_27 : decode cX10_wood 27 = .ok (.istore_n 3, 1) := by decide +kernel
theorem dX10_wood_28 : decode cX10_wood 28 = .ok (.iload_n 2, 1) := by decide +kernel
theorem dX10_wood_29 : decode cX10_wood 29 = .ok (.ifCond .ne 12, 3) := by decide +kernel
theorem dX10_wood_32 : decode cX10_wood 32 = .ok (.aload_n 0, 1) := by decide +kernel
theorem dX10_wood_33 : decode cX10_wood 33 = .ok (.getfield 41, 3) := by decide +kernel
theorem dX10_wood_36 : decode cX10_wood 36 = .ok (.iload_n 3, 1) := by decide +kernel
theorem dX10_wood_37 : decode cX10_wood 37 = .ok (.iaload, 1) := by decide +kernel
theorem dX10_wood_38 : decode cX10_wood 38 = .ok (.goto 51, 3) := by decide +kernel
theorem dX10_wood_41 : decode cX10_wood 41 = .ok (.iload_n 2, 1) := by decide +kernel
theorem dX10_wood_42 : decode cX10_wood 42 = .ok (.iconst 1, 1) := by decide +kernel
theorem dX10_wood_43 : decode cX10_wood 43 = .ok (.if_icmp .ne 12, 3) := by decide +kernel
theorem dX10_wood_46 : decode cX10_wood 46 = .ok (.aload_n 0, 1) := by decide +kernel
theorem dX10_wood_47 : decode cX10_wood 47 = .ok (.getfield 44, 3) := by decide +kernel
theorem dX10_wood_50 : decode cX10_wood 50 = .ok (.iload_n 3, 1) := by decide +kernel
theorem dX10_wood_51 : decode cX10_wood 51 = .ok (.iaload, 1) := by decide +kernel
theorem dX10_wood_52 : decode cX10_wood 52 = .ok (.goto 37, 3) := by decide +kernel
theorem dX10_wood_55 : decode cX10_wood 55 = .ok (.iload_n 2, 1) := by decide +kernel
theorem dX10_wood_56 : decode cX10_wood 56 = .ok (.iconst 2, 1) := by decide +kernel
theorem dX10_wood_57 : decode cX10_wood 57 = .ok (.if_icmp .ne 12, 3) := by decide +kernel
theorem dX10_wood_60 : decode cX10_wood 60 = .ok (.aload_n 0, 1) := by decide +kernel
theorem dX10_wood_61 : decode cX10_wood 61 = .ok (.getfield 47, 3) := by decide +kernel
theorem dX10_wood_64 : decode cX10_wood 64 = .ok (.iload_n 3, 1) := by decide +kernel
theorem dX10_wood_65 : decode cX10_wood 65 = .ok (.iaload, 1) := by decide +kernel
theorem dX10_wood_66 : decode cX10_wood 66 = .ok (.goto 23, 3) := by decide +kernel
theorem dX10_wood_69 : decode cX10_wood 69 = .ok (.iload_n 2, 1) := by decide +kernel
theorem dX10_wood_70 : decode cX10_wood 70 = .ok (.iconst 3, 1) := by decide +kernel
theorem dX10_wood_71 : decode cX10_wood 71 = .ok (.if_icmp .ne 12, 3) := by decide +kernel
theorem dX10_wood_74 : decode cX10_wood 74 = .ok (.aload_n 0, 1) := by decide +kernel
theorem dX10_wood_75 : decode cX10_wood 75 = .ok (.getfield 50, 3) := by decide +kernel
theorem dX10_wood_78 : decode cX10_wood 78 = .ok (.iload_n 3, 1) := by decide +kernel
theorem dX10_wood_79 : decode cX10_wood 79 = .ok (.iaload, 1) := by decide +kernel
theorem dX10_wood_80 : decode cX10_wood 80 = .ok (.goto 9, 3) := by decide +kernel
theorem dX10_wood_83 : decode cX10_wood 83 = .ok (.aload_n 0, 1) := by decide +kernel
theorem dX10_wood_84 : decode cX10_wood 84 = .ok (.getfield 53, 3) := by decide +kernel
theorem dX10_wood_87 : decode cX10_wood 87 = .ok (.iload_n 1, 1) := by decide +kernel
theorem dX10_wood_88 : decode cX10_wood 88 = .ok (.iaload, 1) := by decide +kernel
theorem dX10_wood_89 : decode cX10_wood 89 = .ok (.ireturn, 1) := by decide +kernel
theorem dX10_push_0 : decode cX10_push 0 = .ok (.aload_n 0, 1) := by decide +kernel
theorem dX10_push_1 : decode cX10_push 1 = .ok (.getfield 71, 3) := by decide +kernel
theorem dX10_push_4 : decode cX10_push 4 = .ok (.aload_n 0, 1) := by decide +kernel
theorem dX10_push_5 : decode cX10_push 5 = .ok (.getfield 347, 3) := by decide +kernel
theorem dX10_push_8 : decode cX10_push 8 = .ok (.lload_n 1, 1) := by decide +kernel
theorem dX10_push_9 : decode cX10_push 9 = .ok (.lastore, 1) := by decide +kernel
theorem dX10_push_10 : decode cX10_push 10 = .ok (.aload_n 0, 1) := by decide +kernel
theorem dX10_push_11 : decode cX10_push 11 = .ok (.dup, 1) := by decide +kernel
theorem dX10_push_12 : decode cX10_push 12 = .ok (.getfield 347, 3) := by decide +kernel
theorem dX10_push_15 : decode cX10_push 15 = .ok (.iconst 1, 1) := by decide +kernel
theorem dX10_push_16 : decode cX10_push 16 = .ok (.iadd, 1) := by decide +kernel
theorem dX10_push_17 : decode cX10_push 17 = .ok (.putfield 347, 3) := by decide +kernel
theorem dX10_push_20 : decode cX10_push 20 = .ok (.return_, 1) := by decide +kernel
theorem dX10_pop_0 : decode cX10_pop 0 = .ok (.aload_n 0, 1) := by decide +kernel
theorem dX10_pop_1 : decode cX10_pop 1 = .ok (.dup, 1) := by decide +kernel
theorem dX10_pop_2 : decode cX10_pop 2 = .ok (.getfield 347, 3) := by decide +kernel
theorem dX10_pop_5 : decode cX10_pop 5 = .ok (.iconst 1, 1) := by decide +kernel
theorem dX10_pop_6 : decode cX10_pop 6 = .ok (.isub, 1) := by decide +kernel
theorem dX10_pop_7 : decode cX10_pop 7 = .ok (.putfield 347, 3) := by decide +kernel
theorem dX10_pop_10 : decode cX10_pop 10 = .ok (.aload_n 0, 1) := by decide +kernel
theorem dX10_pop_11 : decode cX10_pop 11 = .ok (.getfield 71, 3) := by decide +kernel
theorem dX10_pop_14 : decode cX10_pop 14 = .ok (.aload_n 0, 1) := by decide +kernel
theorem dX10_pop_15 : decode cX10_pop 15 = .ok (.getfield 347, 3) := by decide +kernel
theorem dX10_pop_18 : decode cX10_pop 18 = .ok (.laload, 1) := by decide +kernel
theorem dX10_pop_19 : decode cX10_pop 19 = .ok (.lreturn, 1) := by decide +kernel
theorem dX10_one_0 : decode cX10_one 0 = .ok (.iload_n 0, 1) := by decide +kernel
theorem dX10_one_1 : decode cX10_one 1 = .ok (.tableswitch 149 2 12 #[59, 63, 67, 71, 85, 97, 109, 121, 133, 149, 145], 59) := by decide +kernel
theorem dX10_one_60 : decode cX10_one 60 = .ok (.lload_n 1, 1) := by decide +kernel
theorem dX10_one_61 : decode cX10_one 61 = .ok (.lload_n 3, 1) := by decide +kernel
theorem dX10_one_62 : decode cX10_one 62 = .ok (.ladd, 1) := by decide +kernel
theorem dX10_one_63 : decode cX10_one 63 = .ok (.lreturn, 1) := by decide +kernel
theorem dX10_one_64 : decode cX10_one 64 = .ok (.lload_n 1, 1) := by decide +kernel
theorem dX10_one_65 : decode cX10_one 65 = .ok (.lload_n 3, 1) := by decide +kernel
theorem dX10_one_66 : decode cX10_one 66 = .ok (.lsub, 1) := by decide +kernel
theorem dX10_one_67 : decode cX10_one 67 = .ok (.lreturn, 1) := by decide +kernel
theorem dX10_one_68 : decode cX10_one 68 = .ok (.lload_n 1, 1) := by decide +kernel
theorem dX10_one_69 : decode cX10_one 69 = .ok (.lload_n 3, 1) := by decide +kernel
theorem dX10_one_70 : decode cX10_one 70 = .ok (.lmul, 1) := by decide +kernel
theorem dX10_one_71 : decode cX10_one 71 = .ok (.lreturn, 1) := by decide +kernel
theorem dX10_one_72 : decode cX10_one 72 = .ok (.lload_n 3, 1) := by decide +kernel
theorem dX10_one_73 : decode cX10_one 73 = .ok (.lconst 0, 1) := by decide +kernel
theorem dX10_one_74 : decode cX10_one 74 = .ok (.lcmp, 1) := by decide +kernel
theorem dX10_one_75 : decode cX10_one 75 = .ok (.ifCond .ne 7, 3) := by decide +kernel
theorem dX10_one_78 : decode cX10_one 78 = .ok (.lconst 0, 1) := by decide +kernel
theorem dX10_one_79 : decode cX10_one 79 = .ok (.goto 6, 3) := by decide +kernel
theorem dX10_one_82 : decode cX10_one 82 = .ok (.lload_n 1, 1) := by decide +kernel
theorem dX10_one_83 : decode cX10_one 83 = .ok (.lload_n 3, 1) := by decide +kernel
theorem dX10_one_84 : decode cX10_one 84 = .ok (.ldiv, 1) := by decide +kernel
theorem dX10_one_85 : decode cX10_one 85 = .ok (.lreturn, 1) := by decide +kernel
theorem dX10_one_86 : decode cX10_one 86 = .ok (.lload_n 1, 1) := by decide +kernel
theorem dX10_one_87 : decode cX10_one 87 = .ok (.lload_n 3, 1) := by decide +kernel
theorem dX10_one_88 : decode cX10_one 88 = .ok (.lcmp, 1) := by decide +kernel
theorem dX10_one_89 : decode cX10_one 89 = .ok (.ifCond .ge 7, 3) := by decide +kernel
theorem dX10_one_92 : decode cX10_one 92 = .ok (.lconst 1, 1) := by decide +kernel
theorem dX10_one_93 : decode cX10_one 93 = .ok (.goto 4, 3) := by decide +kernel
theorem dX10_one_96 : decode cX10_one 96 = .ok (.lconst 0, 1) := by decide +kernel
theorem dX10_one_97 : decode cX10_one 97 = .ok (.lreturn, 1) := by decide +kernel
theorem dX10_one_98 : decode cX10_one 98 = .ok (.lload_n 1, 1) := by decide +kernel
theorem dX10_one_99 : decode cX10_one 99 = .ok (.lload_n 3, 1) := by decide +kernel
theorem dX10_one_100 : decode cX10_one 100 = .ok (.lcmp, 1) := by decide +kernel
theorem dX10_one_101 : decode cX10_one 101 = .ok (.ifCond .gt 7, 3) := by decide +kernel
theorem dX10_one_104 : decode cX10_one 104 = .ok (.lconst 1, 1) := by decide +kernel
theorem dX10_one_105 : decode cX10_one 105 = .ok (.goto 4, 3) := by decide +kernel
theorem dX10_one_108 : decode cX10_one 108 = .ok (.lconst 0, 1) := by decide +kernel
theorem dX10_one_109 : decode cX10_one 109 = .ok (.lreturn, 1) := by decide +kernel
theorem dX10_one_110 : decode cX10_one 110 = .ok (.lload_n 1, 1) := by decide +kernel
theorem dX10_one_111 : decode cX10_one 111 = .ok (.lload_n 3, 1) := by decide +kernel
theorem dX10_one_112 : decode cX10_one 112 = .ok (.lcmp, 1) := by decide +kernel
theorem dX10_one_113 : decode cX10_one 113 = .ok (.ifCond .ne 7, 3) := by decide +kernel
theorem dX10_one_116 : decode cX10_one 116 = .ok (.lconst 1, 1) := by decide +kernel
theorem dX10_one_117 : decode cX10_one 117 = .ok (.goto 4, 3) := by decide +kernel
theorem dX10_one_120 : decode cX10_one 120 = .ok (.lconst 0, 1) := by decide +kernel
theorem dX10_one_121 : decode cX10_one 121 = .ok (.lreturn, 1) := by decide +kernel
theorem dX10_one_122 : decode cX10_one 122 = .ok (.lload_n 1, 1) := by decide +kernel
theorem dX10_one_123 : decode cX10_one 123 = .ok (.lload_n 3, 1) := by decide +kernel
theorem dX10_one_124 : decode cX10_one 124 = .ok (.lcmp, 1) := by decide +kernel
theorem dX10_one_125 : decode cX10_one 125 = .ok (.ifCond .lt 7, 3) := by decide +kernel
theorem dX10_one_128 : decode cX10_one 128 = .ok (.lconst 1, 1) := by decide +kernel
theorem dX10_one_129 : decode cX10_one 129 = .ok (.goto 4, 3) := by decide +kernel
theorem dX10_one_132 : decode cX10_one 132 = .ok (.lconst 0, 1) := by decide +kernel
theorem dX10_one_133 : decode cX10_one 133 = .ok (.lreturn, 1) := by decide +kernel
theorem dX10_one_134 : decode cX10_one 134 = .ok (.lload_n 1, 1) := by decide +kernel
theorem dX10_one_135 : decode cX10_one 135 = .ok (.lload_n 3, 1) := by decide +kernel
theorem dX10_one_136 : decode cX10_one 136 = .ok (.lcmp, 1) := by decide +kernel
theorem dX10_one_137 : decode cX10_one 137 = .ok (.ifCond .le 7, 3) := by decide +kernel
theorem dX10_one_140 : decode cX10_one 140 = .ok (.lconst 1, 1) := by decide +kernel
theorem dX10_one_141 : decode cX10_one 141 = .ok (.goto 4, 3) := by decide +kernel
theorem dX10_one_144 : decode cX10_one 144 = .ok (.lconst 0, 1) := by decide +kernel
theorem dX10_one_145 : decode cX10_one 145 = .ok (.lreturn, 1) := by decide +kernel
theorem dX10_one_146 : decode cX10_one 146 = .ok (.lload_n 1, 1) := by decide +kernel
theorem dX10_one_147 : decode cX10_one 147 = .ok (.lload_n 3, 1) := by decide +kernel
theorem dX10_one_148 : decode cX10_one 148 = .ok (.land, 1) := by decide +kernel
theorem dX10_one_149 : decode cX10_one 149 = .ok (.lreturn, 1) := by decide +kernel
theorem dX10_one_150 : decode cX10_one 150 = .ok (.lload_n 1, 1) := by decide +kernel
theorem dX10_one_151 : decode cX10_one 151 = .ok (.lload_n 3, 1) := by decide +kernel
theorem dX10_one_152 : decode cX10_one 152 = .ok (.lor, 1) := by decide +kernel
theorem dX10_one_153 : decode cX10_one 153 = .ok (.lreturn, 1) := by decide +kernel
theorem dX10_reckons_0 : decode cX10_reckons 0 = .ok (.aload_n 0, 1) := by decide +kernel
theorem dX10_reckons_1 : decode cX10_reckons 1 = .ok (.iconst 0, 1) := by decide +kernel
theorem dX10_reckons_2 : decode cX10_reckons 2 = .ok (.putfield 347, 3) := by decide +kernel
theorem dX10_reckons_5 : decode cX10_reckons 5 = .ok (.iload_n 2, 1) := by decide +kernel
theorem dX10_reckons_6 : decode cX10_reckons 6 = .ok (.istore 4, 2) := by decide +kernel
theorem dX10_reckons_8 : decode cX10_reckons 8 = .ok (.iload 4, 2) := by decide +kernel
theorem dX10_reckons_10 : decode cX10_reckons 10 = .ok (.iload_n 3, 1) := by decide +kernel
theorem dX10_reckons_11 : decode cX10_reckons 11 = .ok (.if_icmp .ge 124, 3) := by decide +kernel
theorem dX10_reckons_14 : decode cX10_reckons 14 = .ok (.aload_n 0, 1) := by decide +kernel
theorem dX10_reckons_15 : decode cX10_reckons 15 = .ok (.getfield 17, 3) := by decide +kernel
theorem dX10_reckons_18 : decode cX10_reckons 18 = .ok (.sipush 400, 3) := by decide +kernel
theorem dX10_reckons_21 : decode cX10_reckons 21 = .ok (.iload_n 1, 1) := by decide +kernel
theorem dX10_reckons_22 : decode cX10_reckons 22 = .ok (.imul, 1) := by decide +kernel
theorem dX10_reckons_23 : decode cX10_reckons 23 = .ok (.iload 4, 2) := by decide +kernel
theorem dX10_reckons_25 : decode cX10_reckons 25 = .ok (.iadd, 1) := by decide +kernel
theorem dX10_reckons_26 : decode cX10_reckons 26 = .ok (.iaload, 1) := by decide +kernel
theorem dX10_reckons_27 : decode cX10_reckons 27 = .ok (.bipush 15, 2) := by decide +kernel
theorem dX10_reckons_29 : decode cX10_reckons 29 = .ok (.iand, 1) := by decide +kernel
theorem dX10_reckons_30 : decode cX10_reckons 30 = .ok (.istore 5, 2) := by decide +kernel
theorem dX10_reckons_32 : decode cX10_reckons 32 = .ok (.aload_n 0, 1) := by decide +kernel
theorem dX10_reckons_33 : decode cX10_reckons 33 = .ok (.getfield 17, 3) := by decide +kernel
theorem dX10_reckons_36 : decode cX10_reckons 36 = .ok (.sipush 400, 3) := by decide +kernel
theorem dX10_reckons_39 : decode cX10_reckons 39 = .ok (.iload_n 1, 1) := by decide +kernel
theorem dX10_reckons_40 : decode cX10_reckons 40 = .ok (.imul, 1) := by decide +kernel
theorem dX10_reckons_41 : decode cX10_reckons 41 = .ok (.iload 4, 2) := by decide +kernel
theorem dX10_reckons_43 : decode cX10_reckons 43 = .ok (.iadd, 1) := by decide +kernel
theorem dX10_reckons_44 : decode cX10_reckons 44 = .ok (.iaload, 1) := by decide +kernel
theorem dX10_reckons_45 : decode cX10_reckons 45 = .ok (.iconst 4, 1) := by decide +kernel
theorem dX10_reckons_46 : decode cX10_reckons 46 = .ok (.ishr, 1) := by decide +kernel
theorem dX10_reckons_47 : decode cX10_reckons 47 = .ok (.istore 6, 2) := by decide +kernel
theorem dX10_reckons_49 : decode cX10_reckons 49 = .ok (.iload 5, 2) := by decide +kernel
theorem dX10_reckons_51 : decode cX10_reckons 51 = .ok (.ifCond .ne 13, 3) := by decide +kernel
theorem dX10_reckons_54 : decode cX10_reckons 54 = .ok (.aload_n 0, 1) := by decide +kernel
theorem dX10_reckons_55 : decode cX10_reckons 55 = .ok (.iload 6, 2) := by decide +kernel
theorem dX10_reckons_57 : decode cX10_reckons 57 = .ok (.i2l, 1) := by decide +kernel
theorem dX10_reckons_58 : decode cX10_reckons 58 = .ok (.invokevirtual 350, 3) := by decide +kernel
theorem dX10_reckons_61 : decode cX10_reckons 61 = .ok (.goto 68, 3) := by decide +kernel
theorem dX10_reckons_64 : decode cX10_reckons 64 = .ok (.iload 5, 2) := by decide +kernel
theorem dX10_reckons_66 : decode cX10_reckons 66 = .ok (.iconst 1, 1) := by decide +kernel
theorem dX10_reckons_67 : decode cX10_reckons 67 = .ok (.if_icmp .ne 17, 3) := by decide +kernel
theorem dX10_reckons_70 : decode cX10_reckons 70 = .ok (.aload_n 0, 1) := by decide +kernel
theorem dX10_reckons_71 : decode cX10_reckons 71 = .ok (.aload_n 0, 1) := by decide +kernel
theorem dX10_reckons_72 : decode cX10_reckons 72 = .ok (.getfield 75, 3) := by decide +kernel
theorem dX10_reckons_75 : decode cX10_reckons 75 = .ok (.iload 6, 2) := by decide +kernel
theorem dX10_reckons_77 : decode cX10_reckons 77 = .ok (.laload, 1) := by decide +kernel
theorem dX10_reckons_78 : decode cX10_reckons 78 = .ok (.invokevirtual 350, 3) := by decide +kernel
theorem dX10_reckons_81 : decode cX10_reckons 81 = .ok (.goto 48, 3) := by decide +kernel
theorem dX10_reckons_84 : decode cX10_reckons 84 = .ok (.iload 5, 2) := by decide +kernel
theorem dX10_reckons_86 : decode cX10_reckons 86 = .ok (.bipush 11, 2) := by decide +kernel
theorem dX10_reckons_88 : decode cX10_reckons 88 = .ok (.if_icmp .ne 16, 3) := by decide +kernel
theorem dX10_reckons_91 : decode cX10_reckons 91 = .ok (.aload_n 0, 1) := by decide +kernel
theorem dX10_reckons_92 : decode cX10_reckons 92 = .ok (.lconst 1, 1) := by decide +kernel
theorem dX10_reckons_93 : decode cX10_reckons 93 = .ok (.aload_n 0, 1) := by decide +kernel
theorem dX10_reckons_94 : decode cX10_reckons 94 = .ok (.invokevirtual 354, 3) := by decide +kernel
theorem dX10_reckons_97 : decode cX10_reckons 97 = .ok (.lsub, 1) := by decide +kernel
theorem dX10_reckons_98 : decode cX10_reckons 98 = .ok (.invokevirtual 350, 3) := by decide +kernel
theorem dX10_reckons_101 : decode cX10_reckons 101 = .ok (.goto 28, 3) := by decide +kernel
theorem dX10_reckons_104 : decode cX10_reckons 104 = .ok (.aload_n 0, 1) := by decide +kernel
theorem dX10_reckons_105 : decode cX10_reckons 105 = .ok (.invokevirtual 354, 3) := by decide +kernel
theorem dX10_reckons_108 : decode cX10_reckons 108 = .ok (.lstore 7, 2) := by decide +kernel
theorem dX10_reckons_110 : decode cX10_reckons 110 = .ok (.aload_n 0, 1) := by decide +kernel
theorem dX10_reckons_111 : decode cX10_reckons 111 = .ok (.invokevirtual 354, 3) := by decide +kernel
theorem dX10_reckons_114 : decode cX10_reckons 114 = .ok (.lstore 9, 2) := by decide +kernel
theorem dX10_reckons_116 : decode cX10_reckons 116 = .ok (.aload_n 0, 1) := by decide +kernel
theorem dX10_reckons_117 : decode cX10_reckons 117 = .ok (.iload 5, 2) := by decide +kernel
theorem dX10_reckons_119 : decode cX10_reckons 119 = .ok (.lload 9, 2) := by decide +kernel
theorem dX10_reckons_121 : decode cX10_reckons 121 = .ok (.lload 7, 2) := by decide +kernel
theorem dX10_reckons_123 : decode cX10_reckons 123 = .ok (.invokestatic 358, 3) := by decide +kernel
theorem dX10_reckons_126 : decode cX10_reckons 126 = .ok (.invokevirtual 350, 3) := by decide +kernel
theorem dX10_reckons_129 : decode cX10_reckons 129 = .ok (.iinc 4 1, 3) := by decide +kernel
theorem dX10_reckons_132 : decode cX10_reckons 132 = .ok (.goto (-124), 3) := by decide +kernel
theorem dX10_reckons_135 : decode cX10_reckons 135 = .ok (.aload_n 0, 1) := by decide +kernel
theorem dX10_reckons_136 : decode cX10_reckons 136 = .ok (.invokevirtual 354, 3) := by decide +kernel
theorem dX10_reckons_139 : decode cX10_reckons 139 = .ok (.lreturn, 1) := by decide +kernel
theorem dX10_clauseThat_0 : decode cX10_clauseThat 0 = .ok (.iconst 0, 1) := by decide +kernel
theorem dX10_clauseThat_1 : decode cX10_clauseThat 1 = .ok (.istore_n 2, 1) := by decide +kernel
theorem dX10_clauseThat_2 : decode cX10_clauseThat 2 = .ok (.iload_n 2, 1) := by decide +kernel
theorem dX10_clauseThat_3 : decode cX10_clauseThat 3 = .ok (.aload_n 0, 1) := by decide +kernel
theorem dX10_clauseThat_4 : decode cX10_clauseThat 4 = .ok (.getfield 26, 3) := by decide +kernel
theorem dX10_clauseThat_7 : decode cX10_clauseThat 7 = .ok (.iload_n 1, 1) := by decide +kernel
theorem dX10_clauseThat_8 : decode cX10_clauseThat 8 = .ok (.iaload, 1) := by decide +kernel
theorem dX10_clauseThat_9 : decode cX10_clauseThat 9 = .ok (.if_icmp .ge 57, 3) := by decide +kernel
theorem dX10_clauseThat_12 : decode cX10_clauseThat 12 = .ok (.bipush 60, 2) := by decide +kernel
theorem dX10_clauseThat_14 : decode cX10_clauseThat 14 = .ok (.iload_n 1, 1) := by decide +kernel
theorem dX10_clauseThat_15 : decode cX10_clauseThat 15 = .ok (.imul, 1) := by decide +kernel
theorem dX10_clauseThat_16 : decode cX10_clauseThat 16 = .ok (.iconst 5, 1) := by decide +kernel
theorem dX10_clauseThat_17 : decode cX10_clauseThat 17 = .ok (.iload_n 2, 1) := by decide +kernel
theorem dX10_clauseThat_18 : decode cX10_clauseThat 18 = .ok (.imul, 1) := by decide +kernel
theorem dX10_clauseThat_19 : decode cX10_clauseThat 19 = .ok (.iadd, 1) := by decide +kernel
theorem dX10_clauseThat_20 : decode cX10_clauseThat 20 = .ok (.istore_n 3, 1) := by decide +kernel
theorem dX10_clauseThat_21 : decode cX10_clauseThat 21 = .ok (.aload_n 0, 1) := by decide +kernel
theorem dX10_clauseThat_22 : decode cX10_clauseThat 22 = .ok (.getfield 23, 3) := by decide +kernel
theorem dX10_clauseThat_25 : decode cX10_clauseThat 25 = .ok (.iload_n 3, 1) := by decide +kernel
theorem dX10_clauseThat_26 : decode cX10_clauseThat 26 = .ok (.iconst 3, 1) := by decide +kernel
theorem dX10_clauseThat_27 : decode cX10_clauseThat 27 = .ok (.iadd, 1) := by decide +kernel
theorem dX10_clauseThat_28 : decode cX10_clauseThat 28 = .ok (.iaload, 1) := by decide +kernel
theorem dX10_clauseThat_29 : decode cX10_clauseThat 29 = .ok (.ifCond .lt 29, 3) := by decide +kernel
theorem dX10_clauseThat_32 : decode cX10_clauseThat 32 = .ok (.aload_n 0, 1) := by decide +kernel
theorem dX10_clauseThat_33 : decode cX10_clauseThat 33 = .ok (.iload_n 1, 1) := by decide +kernel
theorem dX10_clauseThat_34 : decode cX10_clauseThat 34 = .ok (.aload_n 0, 1) := by decide +kernel
theorem dX10_clauseThat_35 : decode cX10_clauseThat 35 = .ok (.getfield 23, 3) := by decide +kernel
theorem dX10_clauseThat_38 : decode cX10_clauseThat 38 = .ok (.iload_n 3, 1) := by decide +kernel
theorem dX10_clauseThat_39 : decode cX10_clauseThat 39 = .ok (.iconst 3, 1) := by decide +kernel
theorem dX10_clauseThat_40 : decode cX10_clauseThat 40 = .ok (.iadd, 1) := by decide +kernel
theorem dX10_clauseThat_41 : decode cX10_clauseThat 41 = .ok (.iaload, 1) := by decide +kernel
theorem dX10_clauseThat_42 : decode cX10_clauseThat 42 = .ok (.aload_n 0, 1) := by decide +kernel
theorem dX10_clauseThat_43 : decode cX10_clauseThat 43 = .ok (.getfield 23, 3) := by decide +kernel
theorem dX10_clauseThat_46 : decode cX10_clauseThat 46 = .ok (.iload_n 3, 1) := by decide +kernel
theorem dX10_clauseThat_47 : decode cX10_clauseThat 47 = .ok (.iconst 4, 1) := by decide +kernel
theorem dX10_clauseThat_48 : decode cX10_clauseThat 48 = .ok (.iadd, 1) := by decide +kernel
theorem dX10_clauseThat_49 : decode cX10_clauseThat 49 = .ok (.iaload, 1) := by decide +kernel
theorem dX10_clauseThat_50 : decode cX10_clauseThat 50 = .ok (.invokevirtual 362, 3) := by decide +kernel
theorem dX10_clauseThat_53 : decode cX10_clauseThat 53 = .ok (.lconst 1, 1) := by decide +kernel
theorem dX10_clauseThat_54 : decode cX10_clauseThat 54 = .ok (.lcmp, 1) := by decide +kernel
theorem dX10_clauseThat_55 : decode cX10_clauseThat 55 = .ok (.ifCond .ne 5, 3) := by decide +kernel
theorem dX10_clauseThat_58 : decode cX10_clauseThat 58 = .ok (.iload_n 2, 1) := by decide +kernel
theorem dX10_clauseThat_59 : decode cX10_clauseThat 59 = .ok (.ireturn, 1) := by decide +kernel
theorem dX10_clauseThat_60 : decode cX10_clauseThat 60 = .ok (.iinc 2 1, 3) := by decide +kernel
theorem dX10_clauseThat_63 : decode cX10_clauseThat 63 = .ok (.goto (-61), 3) := by decide +kernel
theorem dX10_clauseThat_66 : decode cX10_clauseThat 66 = .ok (.iconst (-1), 1) := by decide +kernel
theorem dX10_clauseThat_67 : decode cX10_clauseThat 67 = .ok (.ireturn, 1) := by decide +kernel
theorem dX10_woodNow_0 : decode cX10_woodNow 0 = .ok (.aload_n 0, 1) := by decide +kernel
theorem dX10_woodNow_1 : decode cX10_woodNow 1 = .ok (.getfield 78, 3) := by decide +kernel
theorem dX10_woodNow_4 : decode cX10_woodNow 4 = .ok (.iconst 0, 1) := by decide +kernel
theorem dX10_woodNow_5 : decode cX10_woodNow 5 = .ok (.iaload, 1) := by decide +kernel
theorem dX10_woodNow_6 : decode cX10_woodNow 6 = .ok (.ireturn, 1) := by decide +kernel
theorem dX10_lawNow_0 : decode cX10_lawNow 0 = .ok (.aload_n 0, 1) := by decide +kernel
theorem dX10_lawNow_1 : decode cX10_lawNow 1 = .ok (.getfield 78, 3) := by decide +kernel
theorem dX10_lawNow_4 : decode cX10_lawNow 4 = .ok (.iconst 1, 1) := by decide +kernel
theorem dX10_lawNow_5 : decode cX10_lawNow 5 = .ok (.iaload, 1) := by decide +kernel
theorem dX10_lawNow_6 : decode cX10_lawNow 6 = .ok (.ireturn, 1) := by decide +kernel
theorem dX10_isWalk_0 : decode cX10_isWalk 0 = .ok (.aload_n 0, 1) := by decide +kernel
theorem dX10_isWalk_1 : decode cX10_isWalk 1 = .ok (.getfield 78, 3) := by decide +kernel
theorem dX10_isWalk_4 : decode cX10_isWalk 4 = .ok (.iconst 0, 1) := by decide +kernel
theorem dX10_isWalk_5 : decode cX10_isWalk 5 = .ok (.iaload, 1) := by decide +kernel
theorem dX10_isWalk_6 : decode cX10_isWalk 6 = .ok (.iconst (-1), 1) := by decide +kernel
theorem dX10_isWalk_7 : decode cX10_isWalk 7 = .ok (.if_icmp .eq 7, 3) := by decide +kernel
theorem dX10_isWalk_10 : decode cX10_isWalk 10 = .ok (.iconst 1, 1) := by decide +kernel
theorem dX10_isWalk_11 : decode cX10_isWalk 11 = .ok (.goto 4, 3) := by decide +kernel
theorem dX10_isWalk_14 : decode cX10_isWalk 14 = .ok (.iconst 0, 1) := by decide +kernel
theorem dX10_isWalk_15 : decode cX10_isWalk 15 = .ok (.ireturn, 1) := by decide +kernel
theorem dX10_surely_0 : decode cX10_surely 0 = .ok (.iconst 0, 1) := by decide +kernel
theorem dX10_surely_1 : decode cX10_surely 1 = .ok (.istore 4, 2) := by decide +kernel
theorem dX10_surely_3 : decode cX10_surely 3 = .ok (.iload 4, 2) := by decide +kernel
theorem dX10_surely_5 : decode cX10_surely 5 = .ok (.sipush 576, 3) := by decide +kernel
theorem dX10_surely_8 : decode cX10_surely 8 = .ok (.if_icmp .ge 16, 3) := by decide +kernel
theorem dX10_surely_11 : decode cX10_surely 11 = .ok (.aload_n 0, 1) := by decide +kernel
theorem dX10_surely_12 : decode cX10_surely 12 = .ok (.iload_n 1, 1) := by decide +kernel
theorem dX10_surely_13 : decode cX10_surely 13 = .ok (.iload 4, 2) := by decide +kernel
theorem dX10_surely_15 : decode cX10_surely 15 = .ok (.iadd, 1) := by decide +kernel
theorem dX10_surely_16 : decode cX10_surely 16 = .ok (.iconst 0, 1) := by decide +kernel
theorem dX10_surely_17 : decode cX10_surely 17 = .ok (.iastore, 1) := by decide +kernel
theorem dX10_surely_18 : decode cX10_surely 18 = .ok (.iinc 4 1, 3) := by decide +kernel
theorem dX10_surely_21 : decode cX10_surely 21 = .ok (.goto (-18), 3) := by decide +kernel
theorem dX10_surely_24 : decode cX10_surely 24 = .ok (.aload_n 0, 1) := by decide +kernel
theorem dX10_surely_25 : decode cX10_surely 25 = .ok (.iload_n 1, 1) := by decide +kernel
theorem dX10_surely_26 : decode cX10_surely 26 = .ok (.iconst 4, 1) := by decide +kernel
theorem dX10_surely_27 : decode cX10_surely 27 = .ok (.iload_n 2, 1) := by decide +kernel
theorem dX10_surely_28 : decode cX10_surely 28 = .ok (.imul, 1) := by decide +kernel
theorem dX10_surely_29 : decode cX10_surely 29 = .ok (.iadd, 1) := by decide +kernel
theorem dX10_surely_30 : decode cX10_surely 30 = .ok (.iload_n 3, 1) := by decide +kernel
theorem dX10_surely_31 : decode cX10_surely 31 = .ok (.iadd, 1) := by decide +kernel
theorem dX10_surely_32 : decode cX10_surely 32 = .ok (.ldc_w 366, 3) := by decide +kernel
theorem dX10_surely_35 : decode cX10_surely 35 = .ok (.iastore, 1) := by decide +kernel
theorem dX10_surely_36 : decode cX10_surely 36 = .ok (.return_, 1) := by decide +kernel
theorem dX10_canStand_0 : decode cX10_canStand 0 = .ok (.aload_n 0, 1) := by decide +kernel
theorem dX10_canStand_1 : decode cX10_canStand 1 = .ok (.iload_n 1, 1) := by decide +kernel
theorem dX10_canStand_2 : decode cX10_canStand 2 = .ok (.iload_n 2, 1) := by decide +kernel
theorem dX10_canStand_3 : decode cX10_canStand 3 = .ok (.iload_n 3, 1) := by decide +kernel
theorem dX10_canStand_4 : decode cX10_canStand 4 = .ok (.invokevirtual 323, 3) := by decide +kernel
theorem dX10_canStand_7 : decode cX10_canStand 7 = .ok (.ifCond .eq 35, 3) := by decide +kernel
theorem dX10_canStand_10 : decode cX10_canStand 10 = .ok (.aload_n 0, 1) := by decide +kernel
theorem dX10_canStand_11 : decode cX10_canStand 11 = .ok (.iload_n 1, 1) := by decide +kernel
theorem dX10_canStand_12 : decode cX10_canStand 12 = .ok (.iconst 1, 1) := by decide +kernel
theorem dX10_canStand_13 : decode cX10_canStand 13 = .ok (.bipush 12, 2) := by decide +kernel
theorem dX10_canStand_15 : decode cX10_canStand 15 = .ok (.iload_n 3, 1) := by decide +kernel
theorem dX10_canStand_16 : decode cX10_canStand 16 = .ok (.imul, 1) := by decide +kernel
theorem dX10_canStand_17 : decode cX10_canStand 17 = .ok (.iload_n 2, 1) := by decide +kernel
theorem dX10_canStand_18 : decode cX10_canStand 18 = .ok (.iadd, 1) := by decide +kernel
theorem dX10_canStand_19 : decode cX10_canStand 19 = .ok (.invokevirtual 327, 3) := by decide +kernel
theorem dX10_canStand_22 : decode cX10_canStand 22 = .ok (.ifCond .ne 20, 3) := by decide +kernel
theorem dX10_canStand_25 : decode cX10_canStand 25 = .ok (.iload 4, 2) := by decide +kernel
theorem dX10_canStand_27 : decode cX10_canStand 27 = .ok (.i2l, 1) := by decide +kernel
theorem dX10_canStand_28 : decode cX10_canStand 28 = .ok (.lconst 0, 1) := by decide +kernel
theorem dX10_canStand_29 : decode cX10_canStand 29 = .ok (.ldc2_w 367, 3) := by decide +kernel
theorem dX10_canStand_32 : decode cX10_canStand 32 = .ok (.invokestatic 144, 3) := by decide +kernel
theorem dX10_canStand_35 : decode cX10_canStand 35 = .ok (.ifCond .eq 7, 3) := by decide +kernel
theorem dX10_canStand_38 : decode cX10_canStand 38 = .ok (.iconst 1, 1) := by decide +kernel
theorem dX10_canStand_39 : decode cX10_canStand 39 = .ok (.goto 4, 3) := by decide +kernel
theorem dX10_canStand_42 : decode cX10_canStand 42 = .ok (.iconst 0, 1) := by decide +kernel
theorem dX10_canStand_43 : decode cX10_canStand 43 = .ok (.ireturn, 1) := by decide +kernel
theorem dX10_walk_0 : decode cX10_walk 0 = .ok (.aload_n 0, 1) := by decide +kernel
theorem dX10_walk_1 : decode cX10_walk 1 = .ok (.iconst 0, 1) := by decide +kernel
theorem dX10_walk_2 : decode cX10_walk 2 = .ok (.iload_n 1, 1) := by decide +kernel
theorem dX10_walk_3 : decode cX10_walk 3 = .ok (.invokevirtual 337, 3) := by decide +kernel
theorem dX10_walk_6 : decode cX10_walk 6 = .ok (.ifCond .eq 25, 3) := by decide +kernel
theorem dX10_walk_9 : decode cX10_walk 9 = .ok (.aload_n 0, 1) := by decide +kernel
theorem dX10_walk_10 : decode cX10_walk 10 = .ok (.iconst 1, 1) := by decide +kernel
theorem dX10_walk_11 : decode cX10_walk 11 = .ok (.iload_n 2, 1) := by decide +kernel
theorem dX10_walk_12 : decode cX10_walk 12 = .ok (.invokevirtual 337, 3) := by decide +kernel
theorem dX10_walk_15 : decode cX10_walk 15 = .ok (.ifCond .eq 16, 3) := by decide +kernel
theorem dX10_walk_18 : decode cX10_walk 18 = .ok (.aload_n 0, 1) := by decide +kernel
theorem dX10_walk_19 : decode cX10_walk 19 = .ok (.iload_n 1, 1) := by decide +kernel
theorem dX10_walk_20 : decode cX10_walk 20 = .ok (.iload_n 3, 1) := by decide +kernel
theorem dX10_walk_21 : decode cX10_walk 21 = .ok (.iload 4, 2) := by decide +kernel
theorem dX10_walk_23 : decode cX10_walk 23 = .ok (.iload 5, 2) := by decide +kernel
theorem dX10_walk_25 : decode cX10_walk 25 = .ok (.invokevirtual 369, 3) := by decide +kernel
theorem dX10_walk_28 : decode cX10_walk 28 = .ok (.ifCond .ne 5, 3) := by decide +kernel
theorem dX10_walk_31 : decode cX10_walk 31 = .ok (.iconst 0, 1) := by decide +kernel
theorem dX10_walk_32 : decode cX10_walk 32 = .ok (.ireturn, 1) := by decide +kernel
theorem dX10_walk_33 : decode cX10_walk 33 = .ok (.aload_n 0, 1) := by decide +kernel
theorem dX10_walk_34 : decode cX10_walk 34 = .ok (.getfield 78, 3) := by decide +kernel
theorem dX10_walk_37 : decode cX10_walk 37 = .ok (.iconst 0, 1) := by decide +kernel
theorem dX10_walk_38 : decode cX10_walk 38 = .ok (.iload_n 1, 1) := by decide +kernel
theorem dX10_walk_39 : decode cX10_walk 39 = .ok (.iastore, 1) := by decide +kernel
theorem dX10_walk_40 : decode cX10_walk 40 = .ok (.aload_n 0, 1) := by decide +kernel
theorem dX10_walk_41 : decode cX10_walk 41 = .ok (.getfield 78, 3) := by decide +kernel
theorem dX10_walk_44 : decode cX10_walk 44 = .ok (.iconst 1, 1) := by decide +kernel
theorem dX10_walk_45 : decode cX10_walk 45 = .ok (.iload_n 2, 1) := by decide +kernel
theorem dX10_walk_46 : decode cX10_walk 46 = .ok (.iastore, 1) := by decide +kernel
theorem dX10_walk_47 : decode cX10_walk 47 = .ok (.aload_n 0, 1) := by decide +kernel
theorem dX10_walk_48 : decode cX10_walk 48 = .ok (.getfield 78, 3) := by decide +kernel
theorem dX10_walk_51 : decode cX10_walk 51 = .ok (.iconst 2, 1) := by decide +kernel
theorem dX10_walk_52 : decode cX10_walk 52 = .ok (.iconst 0, 1) := by decide +kernel
theorem dX10_walk_53 : decode cX10_walk 53 = .ok (.iastore, 1) := by decide +kernel
theorem dX10_walk_54 : decode cX10_walk 54 = .ok (.aload_n 0, 1) := by decide +kernel
theorem dX10_walk_55 : decode cX10_walk 55 = .ok (.getfield 78, 3) := by decide +kernel
theorem dX10_walk_58 : decode cX10_walk 58 = .ok (.iconst 3, 1) := by decide +kernel
theorem dX10_walk_59 : decode cX10_walk 59 = .ok (.iconst 0, 1) := by decide +kernel
theorem dX10_walk_60 : decode cX10_walk 60 = .ok (.iastore, 1) := by decide +kernel
theorem dX10_walk_61 : decode cX10_walk 61 = .ok (.aload_n 0, 1) := by decide +kernel
theorem dX10_walk_62 : decode cX10_walk 62 = .ok (.getfield 78, 3) := by decide +kernel
theorem dX10_walk_65 : decode cX10_walk 65 = .ok (.iconst 4, 1) := by decide +kernel
theorem dX10_walk_66 : decode cX10_walk 66 = .ok (.bipush 9, 2) := by decide +kernel
theorem dX10_walk_68 : decode cX10_walk 68 = .ok (.iastore, 1) := by decide +kernel
theorem dX10_walk_69 : decode cX10_walk 69 = .ok (.aload_n 0, 1) := by decide +kernel
theorem dX10_walk_70 : decode cX10_walk 70 = .ok (.getfield 78, 3) := by decide +kernel
theorem dX10_walk_73 : decode cX10_walk 73 = .ok (.iconst 5, 1) := by decide +kernel
theorem dX10_walk_74 : decode cX10_walk 74 = .ok (.iconst 0, 1) := by decide +kernel
theorem dX10_walk_75 : decode cX10_walk 75 = .ok (.iastore, 1) := by decide +kernel
theorem dX10_walk_76 : decode cX10_walk 76 = .ok (.aload_n 0, 1) := by decide +kernel
theorem dX10_walk_77 : decode cX10_walk 77 = .ok (.getfield 78, 3) := by decide +kernel
theorem dX10_walk_80 : decode cX10_walk 80 = .ok (.bipush 6, 2) := by decide +kernel
theorem dX10_walk_82 : decode cX10_walk 82 = .ok (.bipush 12, 2) := by decide +kernel
theorem dX10_walk_84 : decode cX10_walk 84 = .ok (.iload 4, 2) := by decide +kernel
theorem dX10_walk_86 : decode cX10_walk 86 = .ok (.imul, 1) := by decide +kernel
theorem dX10_walk_87 : decode cX10_walk 87 = .ok (.iload_n 3, 1) := by decide +kernel
theorem dX10_walk_88 : decode cX10_walk 88 = .ok (.iadd, 1) := by decide +kernel
theorem dX10_walk_89 : decode cX10_walk 89 = .ok (.iload 5, 2) := by decide +kernel
theorem dX10_walk_91 : decode cX10_walk 91 = .ok (.invokestatic 373, 3) := by decide +kernel
theorem dX10_walk_94 : decode cX10_walk 94 = .ok (.aload_n 0, 1) := by decide +kernel
theorem dX10_walk_95 : decode cX10_walk 95 = .ok (.getfield 78, 3) := by decide +kernel
theorem dX10_walk_98 : decode cX10_walk 98 = .ok (.sipush 1390, 3) := by decide +kernel
theorem dX10_walk_101 : decode cX10_walk 101 = .ok (.bipush 12, 2) := by decide +kernel
theorem dX10_walk_103 : decode cX10_walk 103 = .ok (.iload 4, 2) := by decide +kernel
theorem dX10_walk_105 : decode cX10_walk 105 = .ok (.imul, 1) := by decide +kernel
theorem dX10_walk_106 : decode cX10_walk 106 = .ok (.iload_n 3, 1) := by decide +kernel
theorem dX10_walk_107 : decode cX10_walk 107 = .ok (.iadd, 1) := by decide +kernel
theorem dX10_walk_108 : decode cX10_walk 108 = .ok (.iastore, 1) := by decide +kernel
theorem dX10_walk_109 : decode cX10_walk 109 = .ok (.aload_n 0, 1) := by decide +kernel
theorem dX10_walk_110 : decode cX10_walk 110 = .ok (.getfield 78, 3) := by decide +kernel
theorem dX10_walk_113 : decode cX10_walk 113 = .ok (.sipush 1391, 3) := by decide +kernel
theorem dX10_walk_116 : decode cX10_walk 116 = .ok (.iload 5, 2) := by decide +kernel
theorem dX10_walk_118 : decode cX10_walk 118 = .ok (.iastore, 1) := by decide +kernel
theorem dX10_walk_119 : decode cX10_walk 119 = .ok (.iconst 1, 1) := by decide +kernel
theorem dX10_walk_120 : decode cX10_walk 120 = .ok (.ireturn, 1) := by decide +kernel
theorem dX10_stepAt_0 : decode cX10_stepAt 0 = .ok (.aload_n 0, 1) := by decide +kernel
theorem dX10_stepAt_1 : decode cX10_stepAt 1 = .ok (.getfield 75, 3) := by decide +kernel
theorem dX10_stepAt_4 : decode cX10_stepAt 4 = .ok (.iconst 0, 1) := by decide +kernel
theorem dX10_stepAt_5 : decode cX10_stepAt 5 = .ok (.aload_n 0, 1) := by decide +kernel
theorem dX10_stepAt_6 : decode cX10_stepAt 6 = .ok (.aload_n 0, 1) := by decide +kernel
theorem dX10_stepAt_7 : decode cX10_stepAt 7 = .ok (.invokevirtual 377, 3) := by decide +kernel
theorem dX10_stepAt_10 : decode cX10_stepAt 10 = .ok (.iconst 0, 1) := by decide +kernel
theorem dX10_stepAt_11 : decode cX10_stepAt 11 = .ok (.iload_n 1, 1) := by decide +kernel
theorem dX10_stepAt_12 : decode cX10_stepAt 12 = .ok (.invokevirtual 327, 3) := by decide +kernel
theorem dX10_stepAt_15 : decode cX10_stepAt 15 = .ok (.i2l, 1) := by decide +kernel
theorem dX10_stepAt_16 : decode cX10_stepAt 16 = .ok (.lastore, 1) := by decide +kernel
theorem dX10_stepAt_17 : decode cX10_stepAt 17 = .ok (.aload_n 0, 1) := by decide +kernel
theorem dX10_stepAt_18 : decode cX10_stepAt 18 = .ok (.getfield 75, 3) := by decide +kernel
theorem dX10_stepAt_21 : decode cX10_stepAt 21 = .ok (.iconst 1, 1) := by decide +kernel
theorem dX10_stepAt_22 : decode cX10_stepAt 22 = .ok (.aload_n 0, 1) := by decide +kernel
theorem dX10_stepAt_23 : decode cX10_stepAt 23 = .ok (.aload_n 0, 1) := by decide +kernel
theorem dX10_stepAt_24 : decode cX10_stepAt 24 = .ok (.invokevirtual 377, 3) := by decide +kernel
theorem dX10_stepAt_27 : decode cX10_stepAt 27 = .ok (.iconst 2, 1) := by decide +kernel
theorem dX10_stepAt_28 : decode cX10_stepAt 28 = .ok (.iload_n 1, 1) := by decide +kernel
theorem dX10_stepAt_29 : decode cX10_stepAt 29 = .ok (.invokevirtual 327, 3) := by decide +kernel
theorem dX10_stepAt_32 : decode cX10_stepAt 32 = .ok (.i2l, 1) := by decide +kernel
theorem dX10_stepAt_33 : decode cX10_stepAt 33 = .ok (.lastore, 1) := by decide +kernel
theorem dX10_stepAt_34 : decode cX10_stepAt 34 = .ok (.aload_n 0, 1) := by decide +kernel
theorem dX10_stepAt_35 : decode cX10_stepAt 35 = .ok (.getfield 75, 3) := by decide +kernel
theorem dX10_stepAt_38 : decode cX10_stepAt 38 = .ok (.iconst 2, 1) := by decide +kernel
theorem dX10_stepAt_39 : decode cX10_stepAt 39 = .ok (.aload_n 0, 1) := by decide +kernel
theorem dX10_stepAt_40 : decode cX10_stepAt 40 = .ok (.aload_n 0, 1) := by decide +kernel
theorem dX10_stepAt_41 : decode cX10_stepAt 41 = .ok (.invokevirtual 377, 3) := by decide +kernel
theorem dX10_stepAt_44 : decode cX10_stepAt 44 = .ok (.iconst 3, 1) := by decide +kernel
theorem dX10_stepAt_45 : decode cX10_stepAt 45 = .ok (.iload_n 1, 1) := by decide +kernel
theorem dX10_stepAt_46 : decode cX10_stepAt 46 = .ok (.invokevirtual 327, 3) := by decide +kernel
theorem dX10_stepAt_49 : decode cX10_stepAt 49 = .ok (.i2l, 1) := by decide +kernel
theorem dX10_stepAt_50 : decode cX10_stepAt 50 = .ok (.lastore, 1) := by decide +kernel
theorem dX10_stepAt_51 : decode cX10_stepAt 51 = .ok (.aload_n 0, 1) := by decide +kernel
theorem dX10_stepAt_52 : decode cX10_stepAt 52 = .ok (.getfield 75, 3) := by decide +kernel
theorem dX10_stepAt_55 : decode cX10_stepAt 55 = .ok (.iconst 3, 1) := by decide +kernel
theorem dX10_stepAt_56 : decode cX10_stepAt 56 = .ok (.aload_n 0, 1) := by decide +kernel
theorem dX10_stepAt_57 : decode cX10_stepAt 57 = .ok (.aload_n 0, 1) := by decide +kernel
theorem dX10_stepAt_58 : decode cX10_stepAt 58 = .ok (.invokevirtual 377, 3) := by decide +kernel
theorem dX10_stepAt_61 : decode cX10_stepAt 61 = .ok (.iconst 4, 1) := by decide +kernel
theorem dX10_stepAt_62 : decode cX10_stepAt 62 = .ok (.iload_n 1, 1) := by decide +kernel
theorem dX10_stepAt_63 : decode cX10_stepAt 63 = .ok (.invokevirtual 327, 3) := by decide +kernel
theorem dX10_stepAt_66 : decode cX10_stepAt 66 = .ok (.i2l, 1) := by decide +kernel
theorem dX10_stepAt_67 : decode cX10_stepAt 67 = .ok (.lastore, 1) := by decide +kernel
theorem dX10_stepAt_68 : decode cX10_stepAt 68 = .ok (.aload_n 0, 1) := by decide +kernel
theorem dX10_stepAt_69 : decode cX10_stepAt 69 = .ok (.getfield 75, 3) := by decide +kernel
theorem dX10_stepAt_72 : decode cX10_stepAt 72 = .ok (.iconst 4, 1) := by decide +kernel
theorem dX10_stepAt_73 : decode cX10_stepAt 73 = .ok (.iload_n 2, 1) := by decide +kernel
theorem dX10_stepAt_74 : decode cX10_stepAt 74 = .ok (.i2l, 1) := by decide +kernel
theorem dX10_stepAt_75 : decode cX10_stepAt 75 = .ok (.lastore, 1) := by decide +kernel
theorem dX10_stepAt_76 : decode cX10_stepAt 76 = .ok (.aload_n 0, 1) := by decide +kernel
theorem dX10_stepAt_77 : decode cX10_stepAt 77 = .ok (.aload_n 0, 1) := by decide +kernel
theorem dX10_stepAt_78 : decode cX10_stepAt 78 = .ok (.invokevirtual 380, 3) := by decide +kernel
theorem dX10_stepAt_81 : decode cX10_stepAt 81 = .ok (.invokevirtual 383, 3) := by decide +kernel
theorem dX10_stepAt_84 : decode cX10_stepAt 84 = .ok (.istore_n 3, 1) := by decide +kernel
theorem dX10_stepAt_85 : decode cX10_stepAt 85 = .ok (.bipush 60, 2) := by decide +kernel
theorem dX10_stepAt_87 : decode cX10_stepAt 87 = .ok (.aload_n 0, 1) := by decide +kernel
theorem dX10_stepAt_88 : decode cX10_stepAt 88 = .ok (.invokevirtual 380, 3) := by decide +kernel
theorem dX10_stepAt_91 : decode cX10_stepAt 91 = .ok (.imul, 1) := by decide +kernel
theorem dX10_stepAt_92 : decode cX10_stepAt 92 = .ok (.iconst 5, 1) := by decide +kernel
theorem dX10_stepAt_93 : decode cX10_stepAt 93 = .ok (.iload_n 3, 1) := by decide +kernel
theorem dX10_stepAt_94 : decode cX10_stepAt 94 = .ok (.imul, 1) := by decide +kernel
theorem dX10_stepAt_95 : decode cX10_stepAt 95 = .ok (.iadd, 1) := by decide +kernel
theorem dX10_stepAt_96 : decode cX10_stepAt 96 = .ok (.istore 4, 2) := by decide +kernel
theorem dX10_stepAt_98 : decode cX10_stepAt 98 = .ok (.iload_n 3, 1) := by decide +kernel
theorem dX10_stepAt_99 : decode cX10_stepAt 99 = .ok (.ifCond .ge 9, 3) := by decide +kernel
theorem dX10_stepAt_102 : decode cX10_stepAt 102 = .ok (.sipush 900, 3) := by decide +kernel
theorem dX10_stepAt_105 : decode cX10_stepAt 105 = .ok (.goto 37, 3) := by decide +kernel
theorem dX10_stepAt_108 : decode cX10_stepAt 108 = .ok (.aload_n 0, 1) := by decide +kernel
theorem dX10_stepAt_109 : decode cX10_stepAt 109 = .ok (.aload_n 0, 1) := by decide +kernel
theorem dX10_stepAt_110 : decode cX10_stepAt 110 = .ok (.invokevirtual 380, 3) := by decide +kernel
theorem dX10_stepAt_113 : decode cX10_stepAt 113 = .ok (.aload_n 0, 1) := by decide +kernel
theorem dX10_stepAt_114 : decode cX10_stepAt 114 = .ok (.getfield 23, 3) := by decide +kernel
theorem dX10_stepAt_117 : decode cX10_stepAt 117 = .ok (.iload 4, 2) := by decide +kernel
theorem dX10_stepAt_119 : decode cX10_stepAt 119 = .ok (.iconst 1, 1) := by decide +kernel
theorem dX10_stepAt_120 : decode cX10_stepAt 120 = .ok (.iadd, 1) := by decide +kernel
theorem dX10_stepAt_121 : decode cX10_stepAt 121 = .ok (.iaload, 1) := by decide +kernel
theorem dX10_stepAt_122 : decode cX10_stepAt 122 = .ok (.aload_n 0, 1) := by decide +kernel
theorem dX10_stepAt_123 : decode cX10_stepAt 123 = .ok (.getfield 23, 3) := by decide +kernel
theorem dX10_stepAt_126 : decode cX10_stepAt 126 = .ok (.iload 4, 2) := by decide +kernel
theorem dX10_stepAt_128 : decode cX10_stepAt 128 = .ok (.iconst 2, 1) := by decide +kernel
theorem dX10_stepAt_129 : decode cX10_stepAt 129 = .ok (.iadd, 1) := by decide +kernel
theorem dX10_stepAt_130 : decode cX10_stepAt 130 = .ok (.iaload, 1) := by decide +kernel
theorem dX10_stepAt_131 : decode cX10_stepAt 131 = .ok (.invokevirtual 362, 3) := by decide +kernel
theorem dX10_stepAt_134 : decode cX10_stepAt 134 = .ok (.lconst 0, 1) := by decide +kernel
theorem dX10_stepAt_135 : decode cX10_stepAt 135 = .ok (.ldc2_w 386, 3) := by decide +kernel
theorem dX10_stepAt_138 : decode cX10_stepAt 138 = .ok (.invokestatic 388, 3) := by decide +kernel
theorem dX10_stepAt_141 : decode cX10_stepAt 141 = .ok (.l2i, 1) := by decide +kernel
theorem dX10_stepAt_142 : decode cX10_stepAt 142 = .ok (.ireturn, 1) := by decide +kernel
theorem dX10_driftBy_0 : decode cX10_driftBy 0 = .ok (.sipush 1000, 3) := by decide +kernel
theorem dX10_driftBy_3 : decode cX10_driftBy 3 = .ok (.iload_n 1, 1) := by decide +kernel
theorem dX10_driftBy_4 : decode cX10_driftBy 4 = .ok (.isub, 1) := by decide +kernel
theorem dX10_driftBy_5 : decode cX10_driftBy 5 = .ok (.iconst 2, 1) := by decide +kernel
theorem dX10_driftBy_6 : decode cX10_driftBy 6 = .ok (.idiv, 1) := by decide +kernel
theorem dX10_driftBy_7 : decode cX10_driftBy 7 = .ok (.istore_n 2, 1) := by decide +kernel
theorem dX10_driftBy_8 : decode cX10_driftBy 8 = .ok (.aload_n 0, 1) := by decide +kernel
theorem dX10_driftBy_9 : decode cX10_driftBy 9 = .ok (.getfield 29, 3) := by decide +kernel
theorem dX10_driftBy_12 : decode cX10_driftBy 12 = .ok (.aload_n 0, 1) := by decide +kernel
theorem dX10_driftBy_13 : decode cX10_driftBy 13 = .ok (.invokevirtual 380, 3) := by decide +kernel
theorem dX10_driftBy_16 : decode cX10_driftBy 16 = .ok (.iaload, 1) := by decide +kernel
theorem dX10_driftBy_17 : decode cX10_driftBy 17 = .ok (.iload_n 2, 1) := by decide +kernel
theorem dX10_driftBy_18 : decode cX10_driftBy 18 = .ok (.if_icmp .ge 15, 3) := by decide +kernel
theorem dX10_driftBy_21 : decode cX10_driftBy 21 = .ok (.aload_n 0, 1) := by decide +kernel
theorem dX10_driftBy_22 : decode cX10_driftBy 22 = .ok (.getfield 29, 3) := by decide +kernel
theorem dX10_driftBy_25 : decode cX10_driftBy 25 = .ok (.aload_n 0, 1) := by decide +kernel
theorem dX10_driftBy_26 : decode cX10_driftBy 26 = .ok (.invokevirtual 380, 3) := by decide +kernel
theorem dX10_driftBy_29 : decode cX10_driftBy 29 = .ok (.iaload, 1) := by decide +kernel
theorem dX10_driftBy_30 : decode cX10_driftBy 30 = .ok (.goto 4, 3) := by decide +kernel
theorem dX10_driftBy_33 : decode cX10_driftBy 33 = .ok (.iload_n 2, 1) := by decide +kernel
theorem dX10_driftBy_34 : decode cX10_driftBy 34 = .ok (.ireturn, 1) := by decide +kernel
theorem dX10_comes_0 : decode cX10_comes 0 = .ok (.aload_n 0, 1) := by decide +kernel
theorem dX10_comes_1 : decode cX10_comes 1 = .ok (.aload_n 0, 1) := by decide +kernel
theorem dX10_comes_2 : decode cX10_comes 2 = .ok (.invokevirtual 377, 3) := by decide +kernel
theorem dX10_comes_5 : decode cX10_comes 5 = .ok (.iload_n 1, 1) := by decide +kernel
theorem dX10_comes_6 : decode cX10_comes 6 = .ok (.iload_n 2, 1) := by decide +kernel
theorem dX10_comes_7 : decode cX10_comes 7 = .ok (.invokevirtual 331, 3) := by decide +kernel
theorem dX10_comes_10 : decode cX10_comes 10 = .ok (.istore 5, 2) := by decide +kernel
theorem dX10_comes_12 : decode cX10_comes 12 = .ok (.iload 5, 2) := by decide +kernel
theorem dX10_comes_14 : decode cX10_comes 14 = .ok (.ifCond .ge 21, 3) := by decide +kernel
theorem dX10_comes_17 : decode cX10_comes 17 = .ok (.aload_n 0, 1) := by decide +kernel
theorem dX10_comes_18 : decode cX10_comes 18 = .ok (.getfield 84, 3) := by decide +kernel
theorem dX10_comes_21 : decode cX10_comes 21 = .ok (.iconst 4, 1) := by decide +kernel
theorem dX10_comes_22 : decode cX10_comes 22 = .ok (.iload_n 1, 1) := by decide +kernel
theorem dX10_comes_23 : decode cX10_comes 23 = .ok (.imul, 1) := by decide +kernel
theorem dX10_comes_24 : decode cX10_comes 24 = .ok (.iload_n 3, 1) := by decide +kernel
theorem dX10_comes_25 : decode cX10_comes 25 = .ok (.iadd, 1) := by decide +kernel
theorem dX10_comes_26 : decode cX10_comes 26 = .ok (.dup2, 1) := by decide +kernel
theorem dX10_comes_27 : decode cX10_comes 27 = .ok (.iaload, 1) := by decide +kernel
theorem dX10_comes_28 : decode cX10_comes 28 = .ok (.iload 4, 2) := by decide +kernel
theorem dX10_comes_30 : decode cX10_comes 30 = .ok (.iadd, 1) := by decide +kernel
theorem dX10_comes_31 : decode cX10_comes 31 = .ok (.iastore, 1) := by decide +kernel
theorem dX10_comes_32 : decode cX10_comes 32 = .ok (.goto 19, 3) := by decide +kernel
theorem dX10_comes_35 : decode cX10_comes 35 = .ok (.aload_n 0, 1) := by decide +kernel
theorem dX10_comes_36 : decode cX10_comes 36 = .ok (.getfield 84, 3) := by decide +kernel
theorem dX10_comes_39 : decode cX10_comes 39 = .ok (.iconst 4, 1) := by decide +kernel
theorem dX10_comes_40 : decode cX10_comes 40 = .ok (.iload 5, 2) := by decide +kernel
theorem dX10_comes_42 : decode cX10_comes 42 = .ok (.imul, 1) := by decide +kernel
theorem dX10_comes_43 : decode cX10_comes 43 = .ok (.iload_n 2, 1) := by decide +kernel
theorem dX10_comes_44 : decode cX10_comes 44 = .ok (.iadd, 1) := by decide +kernel
theorem dX10_comes_45 : decode cX10_comes 45 = .ok (.dup2, 1) := by decide +kernel
theorem dX10_comes_46 : decode cX10_comes 46 = .ok (.iaload, 1) := by decide +kernel
theorem dX10_comes_47 : decode cX10_comes 47 = .ok (.iload 4, 2) := by decide +kernel
theorem dX10_comes_49 : decode cX10_comes 49 = .ok (.iadd, 1) := by decide +kernel
theorem dX10_comes_50 : decode cX10_comes 50 = .ok (.iastore, 1) := by decide +kernel
theorem dX10_comes_51 : decode cX10_comes 51 = .ok (.return_, 1) := by decide +kernel
theorem dX10_does_0 : decode cX10_does 0 = .ok (.iload_n 3, 1) := by decide +kernel
theorem dX10_does_1 : decode cX10_does 1 = .ok (.iconst 4, 1) := by decide +kernel
theorem dX10_does_2 : decode cX10_does 2 = .ok (.if_icmp .ne 4, 3) := by decide +kernel
theorem dX10_does_5 : decode cX10_does 5 = .ok (.return_, 1) := by decide +kernel
theorem dX10_does_6 : decode cX10_does 6 = .ok (.iconst 0, 1) := by decide +kernel
theorem dX10_does_7 : decode cX10_does 7 = .ok (.istore 5, 2) := by decide +kernel
theorem dX10_does_9 : decode cX10_does 9 = .ok (.iload 5, 2) := by decide +kernel
theorem dX10_does_11 : decode cX10_does 11 = .ok (.sipush 576, 3) := by decide +kernel
theorem dX10_does_14 : decode cX10_does 14 = .ok (.if_icmp .ge 17, 3) := by decide +kernel
theorem dX10_does_17 : decode cX10_does 17 = .ok (.aload_n 0, 1) := by decide +kernel
theorem dX10_does_18 : decode cX10_does 18 = .ok (.getfield 84, 3) := by decide +kernel
theorem dX10_does_21 : decode cX10_does 21 = .ok (.iload 5, 2) := by decide +kernel
theorem dX10_does_23 : decode cX10_does 23 = .ok (.iconst 0, 1) := by decide +kernel
theorem dX10_does_24 : decode cX10_does 24 = .ok (.iastore, 1) := by decide +kernel
theorem dX10_does_25 : decode cX10_does 25 = .ok (.iinc 5 1, 3) := by decide +kernel
theorem dX10_does_28 : decode cX10_does 28 = .ok (.goto (-19), 3) := by decide +kernel
theorem dX10_does_31 : decode cX10_does 31 = .ok (.iconst 0, 1) := by decide +kernel
theorem dX10_does_32 : decode cX10_does 32 = .ok (.istore 5, 2) := by decide +kernel
theorem dX10_does_34 : decode cX10_does 34 = .ok (.iload 5, 2) := by decide +kernel
theorem dX10_does_36 : decode cX10_does 36 = .ok (.sipush 144, 3) := by decide +kernel
theorem dX10_does_39 : decode cX10_does 39 = .ok (.if_icmp .ge 192, 3) := by decide +kernel
theorem dX10_does_42 : decode cX10_does 42 = .ok (.iconst (-1), 1) := by decide +kernel
theorem dX10_does_43 : decode cX10_does 43 = .ok (.istore 6, 2) := by decide +kernel
theorem dX10_does_45 : decode cX10_does 45 = .ok (.iconst 0, 1) := by decide +kernel
theorem dX10_does_46 : decode cX10_does 46 = .ok (.istore 7, 2) := by decide +kernel
theorem dX10_does_48 : decode cX10_does 48 = .ok (.iload 7, 2) := by decide +kernel
theorem dX10_does_50 : decode cX10_does 50 = .ok (.iconst 4, 1) := by decide +kernel
theorem dX10_does_51 : decode cX10_does 51 = .ok (.if_icmp .ge 174, 3) := by decide +kernel
theorem dX10_does_54 : decode cX10_does 54 = .ok (.aload_n 1, 1) := by decide +kernel
theorem dX10_does_55 : decode cX10_does 55 = .ok (.iload_n 2, 1) := by decide +kernel
theorem dX10_does_56 : decode cX10_does 56 = .ok (.iconst 4, 1) := by decide +kernel
theorem dX10_does_57 : decode cX10_does 57 = .ok (.iload 5, 2) := by decide +kernel
theorem dX10_does_59 : decode cX10_does 59 = .ok (.imul, 1) := by decide +kernel
theorem dX10_does_60 : decode cX10_does 60 = .ok (.iadd, 1) := by decide +kernel
theorem dX10_does_61 : decode cX10_does 61 = .ok (.iload 7, 2) := by decide +kernel
theorem dX10_does_63 : decode cX10_does 63 = .ok (.iadd, 1) := by decide +kernel
theorem dX10_does_64 : decode cX10_does 64 = .ok (.iaload, 1) := by decide +kernel
theorem dX10_does_65 : decode cX10_does 65 = .ok (.istore 8, 2) := by decide +kernel
theorem dX10_does_67 : decode cX10_does 67 = .ok (.iload 8, 2) := by decide +kernel
theorem dX10_does_69 : decode cX10_does 69 = .ok (.ifCond .ne 6, 3) := by decide +kernel
theorem dX10_does_72 : decode cX10_does 72 = .ok (.goto 147, 3) := by decide +kernel
theorem dX10_does_75 : decode cX10_does 75 = .ok (.iload_n 3, 1) := by decide +kernel
theorem dX10_does_76 : decode cX10_does 76 = .ok (.ifCond .le 27, 3) := by decide +kernel
theorem dX10_does_79 : decode cX10_does 79 = .ok (.aload_n 0, 1) := by decide +kernel
theorem dX10_does_80 : decode cX10_does 80 = .ok (.getfield 84, 3) := by decide +kernel
theorem dX10_does_83 : decode cX10_does 83 = .ok (.iconst 4, 1) := by decide +kernel
theorem dX10_does_84 : decode cX10_does 84 = .ok (.iload 5, 2) := by decide +kernel
theorem dX10_does_86 : decode cX10_does 86 = .ok (.imul, 1) := by decide +kernel
theorem dX10_does_87 : decode cX10_does 87 = .ok (.iload 7, 2) := by decide +kernel
theorem dX10_does_89 : decode cX10_does 89 = .ok (.iload_n 3, 1) := by decide +kernel
theorem dX10_does_90 : decode cX10_does 90 = .ok (.invokestatic 392, 3) := by decide +kernel
theorem dX10_does_93 : decode cX10_does 93 = .ok (.iadd, 1) := by decide +kernel
theorem dX10_does_94 : decode cX10_does 94 = .ok (.dup2, 1) := by decide +kernel
theorem dX10_does_95 : decode cX10_does 95 = .ok (.iaload, 1) := by decide +kernel
theorem dX10_does_96 : decode cX10_does 96 = .ok (.iload 8, 2) := by decide +kernel
theorem dX10_does_98 : decode cX10_does 98 = .ok (.iadd, 1) := by decide +kernel
theorem dX10_does_99 : decode cX10_does 99 = .ok (.iastore, 1) := by decide +kernel
theorem dX10_does_100 : decode cX10_does 100 = .ok (.goto 119, 3) := by decide +kernel
theorem dX10_does_103 : decode cX10_does 103 = .ok (.iload 6, 2) := by decide +kernel
theorem dX10_does_105 : decode cX10_does 105 = .ok (.ifCond .ge 13, 3) := by decide +kernel
theorem dX10_does_108 : decode cX10_does 108 = .ok (.aload_n 0, 1) := by decide +kernel
theorem dX10_does_109 : decode cX10_does 109 = .ok (.iload 5, 2) := by decide +kernel
theorem dX10_does_111 : decode cX10_does 111 = .ok (.iload 4, 2) := by decide +kernel
theorem dX10_does_113 : decode cX10_does 113 = .ok (.invokevirtual 395, 3) := by decide +kernel
theorem dX10_does_116 : decode cX10_does 116 = .ok (.istore 6, 2) := by decide +kernel
theorem dX10_does_118 : decode cX10_does 118 = .ok (.iload 8, 2) := by decide +kernel
theorem dX10_does_120 : decode cX10_does 120 = .ok (.i2l, 1) := by decide +kernel
theorem dX10_does_121 : decode cX10_does 121 = .ok (.iload 6, 2) := by decide +kernel
theorem dX10_does_123 : decode cX10_does 123 = .ok (.i2l, 1) := by decide +kernel
theorem dX10_does_124 : decode cX10_does 124 = .ok (.lmul, 1) := by decide +kernel
theorem dX10_does_125 : decode cX10_does 125 = .ok (.ldc2_w 386, 3) := by decide +kernel
theorem dX10_does_128 : decode cX10_does 128 = .ok (.ldiv, 1) := by decide +kernel
theorem dX10_does_129 : decode cX10_does 129 = .ok (.l2i, 1) := by decide +kernel
theorem dX10_does_130 : decode cX10_does 130 = .ok (.istore 9, 2) := by decide +kernel
theorem dX10_does_132 : decode cX10_does 132 = .ok (.iload 8, 2) := by decide +kernel
theorem dX10_does_134 : decode cX10_does 134 = .ok (.i2l, 1) := by decide +kernel
theorem dX10_does_135 : decode cX10_does 135 = .ok (.aload_n 0, 1) := by decide +kernel
theorem dX10_does_136 : decode cX10_does 136 = .ok (.iload 6, 2) := by decide +kernel
theorem dX10_does_138 : decode cX10_does 138 = .ok (.invokevirtual 398, 3) := by decide +kernel
theorem dX10_does_141 : decode cX10_does 141 = .ok (.i2l, 1) := by decide +kernel
theorem dX10_does_142 : decode cX10_does 142 = .ok (.lmul, 1) := by decide +kernel
theorem dX10_does_143 : decode cX10_does 143 = .ok (.ldc2_w 386, 3) := by decide +kernel
theorem dX10_does_146 : decode cX10_does 146 = .ok (.ldiv, 1) := by decide +kernel
theorem dX10_does_147 : decode cX10_does 147 = .ok (.l2i, 1) := by decide +kernel
theorem dX10_does_148 : decode cX10_does 148 = .ok (.istore 10, 2) := by decide +kernel
theorem dX10_does_150 : decode cX10_does 150 = .ok (.aload_n 0, 1) := by decide +kernel
theorem dX10_does_151 : decode cX10_does 151 = .ok (.iload 5, 2) := by decide +kernel
theorem dX10_does_153 : decode cX10_does 153 = .ok (.iload 7, 2) := by decide +kernel
theorem dX10_does_155 : decode cX10_does 155 = .ok (.iload 7, 2) := by decide +kernel
theorem dX10_does_157 : decode cX10_does 157 = .ok (.iload 9, 2) := by decide +kernel
theorem dX10_does_159 : decode cX10_does 159 = .ok (.invokevirtual 401, 3) := by decide +kernel
theorem dX10_does_162 : decode cX10_does 162 = .ok (.aload_n 0, 1) := by decide +kernel
theorem dX10_does_163 : decode cX10_does 163 = .ok (.iload 5, 2) := by decide +kernel
theorem dX10_does_165 : decode cX10_does 165 = .ok (.iload 7, 2) := by decide +kernel
theorem dX10_does_167 : decode cX10_does 167 = .ok (.iconst 3, 1) := by decide +kernel
theorem dX10_does_168 : decode cX10_does 168 = .ok (.iadd, 1) := by decide +kernel
theorem dX10_does_169 : decode cX10_does 169 = .ok (.iconst 4, 1) := by decide +kernel
theorem dX10_does_170 : decode cX10_does 170 = .ok (.irem, 1) := by decide +kernel
theorem dX10_does_171 : decode cX10_does 171 = .ok (.iload 7, 2) := by decide +kernel
theorem dX10_does_173 : decode cX10_does 173 = .ok (.iload 10, 2) := by decide +kernel
theorem dX10_does_175 : decode cX10_does 175 = .ok (.invokevirtual 401, 3) := by decide +kernel
theorem dX10_does_178 : decode cX10_does 178 = .ok (.aload_n 0, 1) := by decide +kernel
theorem dX10_does_179 : decode cX10_does 179 = .ok (.iload 5, 2) := by decide +kernel
theorem dX10_does_181 : decode cX10_does 181 = .ok (.iload 7, 2) := by decide +kernel
theorem dX10_does_183 : decode cX10_does 183 = .ok (.iconst 1, 1) := by decide +kernel
theorem dX10_does_184 : decode cX10_does 184 = .ok (.iadd, 1) := by decide +kernel
theorem dX10_does_185 : decode cX10_does 185 = .ok (.iconst 4, 1) := by decide +kernel
theorem dX10_does_186 : decode cX10_does 186 = .ok (.irem, 1) := by decide +kernel
theorem dX10_does_187 : decode cX10_does 187 = .ok (.iload 7, 2) := by decide +kernel
theorem dX10_does_189 : decode cX10_does 189 = .ok (.iload 10, 2) := by decide +kernel
theorem dX10_does_191 : decode cX10_does 191 = .ok (.invokevirtual 401, 3) := by decide +kernel
theorem dX10_does_194 : decode cX10_does 194 = .ok (.aload_n 0, 1) := by decide +kernel
theorem dX10_does_195 : decode cX10_does 195 = .ok (.getfield 84, 3) := by decide +kernel
theorem dX10_does_198 : decode cX10_does 198 = .ok (.iconst 4, 1) := by decide +kernel
theorem dX10_does_199 : decode cX10_does 199 = .ok (.iload 5, 2) := by decide +kernel
theorem dX10_does_201 : decode cX10_does 201 = .ok (.imul, 1) := by decide +kernel
theorem dX10_does_202 : decode cX10_does 202 = .ok (.iload 7, 2) := by decide +kernel
theorem dX10_does_204 : decode cX10_does 204 = .ok (.iadd, 1) := by decide +kernel
theorem dX10_does_205 : decode cX10_does 205 = .ok (.dup2, 1) := by decide +kernel
theorem dX10_does_206 : decode cX10_does 206 = .ok (.iaload, 1) := by decide +kernel
theorem dX10_does_207 : decode cX10_does 207 = .ok (.iload 8, 2) := by decide +kernel
theorem dX10_does_209 : decode cX10_does 209 = .ok (.iload 9, 2) := by decide +kernel
theorem dX10_does_211 : decode cX10_does 211 = .ok (.isub, 1) := by decide +kernel
theorem dX10_does_212 : decode cX10_does 212 = .ok (.iconst 2, 1) := by decide +kernel
theorem dX10_does_213 : decode cX10_does 213 = .ok (.iload 10, 2) := by decide +kernel
theorem dX10_does_215 : decode cX10_does 215 = .ok (.imul, 1) := by decide +kernel
theorem dX10_does_216 : decode cX10_does 216 = .ok (.isub, 1) := by decide +kernel
theorem dX10_does_217 : decode cX10_does 217 = .ok (.iadd, 1) := by decide +kernel
theorem dX10_does_218 : decode cX10_does 218 = .ok (.iastore, 1) := by decide +kernel
theorem dX10_does_219 : decode cX10_does 219 = .ok (.iinc 7 1, 3) := by decide +kernel
theorem dX10_does_222 : decode cX10_does 222 = .ok (.goto (-174), 3) := by decide +kernel
theorem dX10_does_225 : decode cX10_does 225 = .ok (.iinc 5 1, 3) := by decide +kernel
theorem dX10_does_228 : decode cX10_does 228 = .ok (.goto (-194), 3) := by decide +kernel
theorem dX10_does_231 : decode cX10_does 231 = .ok (.iconst 0, 1) := by decide +kernel
theorem dX10_does_232 : decode cX10_does 232 = .ok (.istore 5, 2) := by decide +kernel
theorem dX10_does_234 : decode cX10_does 234 = .ok (.iload 5, 2) := by decide +kernel
theorem dX10_does_236 : decode cX10_does 236 = .ok (.sipush 576, 3) := by decide +kernel
theorem dX10_does_239 : decode cX10_does 239 = .ok (.if_icmp .ge 22, 3) := by decide +kernel
theorem dX10_does_242 : decode cX10_does 242 = .ok (.aload_n 1, 1) := by decide +kernel
theorem dX10_does_243 : decode cX10_does 243 = .ok (.iload_n 2, 1) := by decide +kernel
theorem dX10_does_244 : decode cX10_does 244 = .ok (.iload 5, 2) := by decide +kernel
theorem dX10_does_246 : decode cX10_does 246 = .ok (.iadd, 1) := by decide +kernel
theorem dX10_does_247 : decode cX10_does 247 = .ok (.aload_n 0, 1) := by decide +kernel
theorem dX10_does_248 : decode cX10_does 248 = .ok (.getfield 84, 3) := by decide +kernel
theorem dX10_does_251 : decode cX10_does 251 = .ok (.iload 5, 2) := by decide +kernel
theorem dX10_does_253 : decode cX10_does 253 = .ok (.iaload, 1) := by decide +kernel
theorem dX10_does_254 : decode cX10_does 254 = .ok (.iastore, 1) := by decide +kernel
theorem dX10_does_255 : decode cX10_does 255 = .ok (.iinc 5 1, 3) := by decide +kernel
theorem dX10_does_258 : decode cX10_does 258 = .ok (.goto (-24), 3) := by decide +kernel
theorem dX10_does_261 : decode cX10_does 261 = .ok (.return_, 1) := by decide +kernel
theorem dX10_turned_0 : decode cX10_turned 0 = .ok (.iload_n 0, 1) := by decide +kernel
theorem dX10_turned_1 : decode cX10_turned 1 = .ok (.iload_n 1, 1) := by decide +kernel
theorem dX10_turned_2 : decode cX10_turned 2 = .ok (.iconst 1, 1) := by decide +kernel
theorem dX10_turned_3 : decode cX10_turned 3 = .ok (.if_icmp .ne 7, 3) := by decide +kernel
theorem dX10_turned_6 : decode cX10_turned 6 = .ok (.iconst 3, 1) := by decide +kernel
theorem dX10_turned_7 : decode cX10_turned 7 = .ok (.goto 13, 3) := by decide +kernel
theorem dX10_turned_10 : decode cX10_turned 10 = .ok (.iload_n 1, 1) := by decide +kernel
theorem dX10_turned_11 : decode cX10_turned 11 = .ok (.iconst 2, 1) := by decide +kernel
theorem dX10_turned_12 : decode cX10_turned 12 = .ok (.if_icmp .ne 7, 3) := by decide +kernel
theorem dX10_turned_15 : decode cX10_turned 15 = .ok (.iconst 1, 1) := by decide +kernel
theorem dX10_turned_16 : decode cX10_turned 16 = .ok (.goto 4, 3) := by decide +kernel
theorem dX10_turned_19 : decode cX10_turned 19 = .ok (.iconst 2, 1) := by decide +kernel
theorem dX10_turned_20 : decode cX10_turned 20 = .ok (.iadd, 1) := by decide +kernel
theorem dX10_turned_21 : decode cX10_turned 21 = .ok (.iconst 4, 1) := by decide +kernel
theorem dX10_turned_22 : decode cX10_turned 22 = .ok (.irem, 1) := by decide +kernel
theorem dX10_turned_23 : decode cX10_turned 23 = .ok (.ireturn, 1) := by decide +kernel
theorem dX10_seeing_0 : decode cX10_seeing 0 = .ok (.aload_n 0, 1) := by decide +kernel
theorem dX10_seeing_1 : decode cX10_seeing 1 = .ok (.getfield 35, 3) := by decide +kernel
theorem dX10_seeing_4 : decode cX10_seeing 4 = .ok (.aload_n 0, 1) := by decide +kernel
theorem dX10_seeing_5 : decode cX10_seeing 5 = .ok (.invokevirtual 380, 3) := by decide +kernel
theorem dX10_seeing_8 : decode cX10_seeing 8 = .ok (.iaload, 1) := by decide +kernel
theorem dX10_seeing_9 : decode cX10_seeing 9 = .ok (.iload_n 1, 1) := by decide +kernel
theorem dX10_seeing_10 : decode cX10_seeing 10 = .ok (.imul, 1) := by decide +kernel
theorem dX10_seeing_11 : decode cX10_seeing 11 = .ok (.bipush 30, 2) := by decide +kernel
theorem dX10_seeing_13 : decode cX10_seeing 13 = .ok (.idiv, 1) := by decide +kernel
theorem dX10_seeing_14 : decode cX10_seeing 14 = .ok (.istore_n 2, 1) := by decide +kernel
theorem dX10_seeing_15 : decode cX10_seeing 15 = .ok (.iload_n 2, 1) := by decide +kernel
theorem dX10_seeing_16 : decode cX10_seeing 16 = .ok (.bipush 100, 2) := by decide +kernel
theorem dX10_seeing_18 : decode cX10_seeing 18 = .ok (.if_icmp .ge 8, 3) := by decide +kernel
theorem dX10_seeing_21 : decode cX10_seeing 21 = .ok (.bipush 100, 2) := by decide +kernel
theorem dX10_seeing_23 : decode cX10_seeing 23 = .ok (.goto 4, 3) := by decide +kernel
theorem dX10_seeing_26 : decode cX10_seeing 26 = .ok (.iload_n 2, 1) := by decide +kernel
theorem dX10_seeing_27 : decode cX10_seeing 27 = .ok (.ireturn, 1) := by decide +kernel
theorem dX10_chance_0 : decode cX10_chance 0 = .ok (.iload_n 2, 1) := by decide +kernel
theorem dX10_chance_1 : decode cX10_chance 1 = .ok (.iconst 5, 1) := by decide +kernel
theorem dX10_chance_2 : decode cX10_chance 2 = .ok (.if_icmp .ne 46, 3) := by decide +kernel
theorem dX10_chance_5 : decode cX10_chance 5 = .ok (.aload_n 0, 1) := by decide +kernel
theorem dX10_chance_6 : decode cX10_chance 6 = .ok (.aload_n 0, 1) := by decide +kernel
theorem dX10_chance_7 : decode cX10_chance 7 = .ok (.invokevirtual 377, 3) := by decide +kernel
theorem dX10_chance_10 : decode cX10_chance 10 = .ok (.iconst 2, 1) := by decide +kernel
theorem dX10_chance_11 : decode cX10_chance 11 = .ok (.iload_n 1, 1) := by decide +kernel
theorem dX10_chance_12 : decode cX10_chance 12 = .ok (.invokevirtual 327, 3) := by decide +kernel
theorem dX10_chance_15 : decode cX10_chance 15 = .ok (.iload_n 3, 1) := by decide +kernel
theorem dX10_chance_16 : decode cX10_chance 16 = .ok (.if_icmp .ne 15, 3) := by decide +kernel
theorem dX10_chance_19 : decode cX10_chance 19 = .ok (.aload_n 0, 1) := by decide +kernel
theorem dX10_chance_20 : decode cX10_chance 20 = .ok (.getfield 32, 3) := by decide +kernel
theorem dX10_chance_23 : decode cX10_chance 23 = .ok (.aload_n 0, 1) := by decide +kernel
theorem dX10_chance_24 : decode cX10_chance 24 = .ok (.invokevirtual 380, 3) := by decide +kernel
theorem dX10_chance_27 : decode cX10_chance 27 = .ok (.iaload, 1) := by decide +kernel
theorem dX10_chance_28 : decode cX10_chance 28 = .ok (.goto 19, 3) := by decide +kernel
theorem dX10_chance_31 : decode cX10_chance 31 = .ok (.sipush 1000, 3) := by decide +kernel
theorem dX10_chance_34 : decode cX10_chance 34 = .ok (.aload_n 0, 1) := by decide +kernel
theorem dX10_chance_35 : decode cX10_chance 35 = .ok (.getfield 32, 3) := by decide +kernel
theorem dX10_chance_38 : decode cX10_chance 38 = .ok (.aload_n 0, 1) := by decide +kernel
theorem dX10_chance_39 : decode cX10_chance 39 = .ok (.invokevirtual 380, 3) := by decide +kernel
theorem dX10_chance_42 : decode cX10_chance 42 = .ok (.iaload, 1) := by decide +kernel
theorem dX10_chance_43 : decode cX10_chance 43 = .ok (.isub, 1) := by decide +kernel
theorem dX10_chance_44 : decode cX10_chance 44 = .ok (.bipush 7, 2) := by decide +kernel
theorem dX10_chance_46 : decode cX10_chance 46 = .ok (.idiv, 1) := by decide +kernel
theorem dX10_chance_47 : decode cX10_chance 47 = .ok (.ireturn, 1) := by decide +kernel
theorem dX10_chance_48 : decode cX10_chance 48 = .ok (.iload_n 2, 1) := by decide +kernel
theorem dX10_chance_49 : decode cX10_chance 49 = .ok (.bipush 6, 2) := by decide +kernel
theorem dX10_chance_51 : decode cX10_chance 51 = .ok (.if_icmp .ne 40, 3) := by decide +kernel
theorem dX10_chance_54 : decode cX10_chance 54 = .ok (.aload_n 0, 1) := by decide +kernel
theorem dX10_chance_55 : decode cX10_chance 55 = .ok (.aload_n 0, 1) := by decide +kernel
theorem dX10_chance_56 : decode cX10_chance 56 = .ok (.invokevirtual 377, 3) := by decide +kernel
theorem dX10_chance_59 : decode cX10_chance 59 = .ok (.iconst 3, 1) := by decide +kernel
theorem dX10_chance_60 : decode cX10_chance 60 = .ok (.iload_n 1, 1) := by decide +kernel
theorem dX10_chance_61 : decode cX10_chance 61 = .ok (.invokevirtual 327, 3) := by decide +kernel
theorem dX10_chance_64 : decode cX10_chance 64 = .ok (.iload_n 3, 1) := by decide +kernel
theorem dX10_chance_65 : decode cX10_chance 65 = .ok (.if_icmp .ne 12, 3) := by decide +kernel
theorem dX10_chance_68 : decode cX10_chance 68 = .ok (.aload_n 0, 1) := by decide +kernel
theorem dX10_chance_69 : decode cX10_chance 69 = .ok (.iload 5, 2) := by decide +kernel
theorem dX10_chance_71 : decode cX10_chance 71 = .ok (.invokevirtual 405, 3) := by decide +kernel
theorem dX10_chance_74 : decode cX10_chance 74 = .ok (.goto 16, 3) := by decide +kernel
theorem dX10_chance_77 : decode cX10_chance 77 = .ok (.sipush 1000, 3) := by decide +kernel
theorem dX10_chance_80 : decode cX10_chance 80 = .ok (.aload_n 0, 1) := by decide +kernel
theorem dX10_chance_81 : decode cX10_chance 81 = .ok (.iload 5, 2) := by decide +kernel
theorem dX10_chance_83 : decode cX10_chance 83 = .ok (.invokevirtual 405, 3) := by decide +kernel
theorem dX10_chance_86 : decode cX10_chance 86 = .ok (.isub, 1) := by decide +kernel
theorem dX10_chance_87 : decode cX10_chance 87 = .ok (.bipush 9, 2) := by decide +kernel
theorem dX10_chance_89 : decode cX10_chance 89 = .ok (.idiv, 1) := by decide +kernel
theorem dX10_chance_90 : decode cX10_chance 90 = .ok (.ireturn, 1) := by decide +kernel
theorem dX10_chance_91 : decode cX10_chance 91 = .ok (.iload_n 2, 1) := by decide +kernel
theorem dX10_chance_92 : decode cX10_chance 92 = .ok (.bipush 8, 2) := by decide +kernel
theorem dX10_chance_94 : decode cX10_chance 94 = .ok (.if_icmp .ne 40, 3) := by decide +kernel
theorem dX10_chance_97 : decode cX10_chance 97 = .ok (.aload_n 0, 1) := by decide +kernel
theorem dX10_chance_98 : decode cX10_chance 98 = .ok (.aload_n 0, 1) := by decide +kernel
theorem dX10_chance_99 : decode cX10_chance 99 = .ok (.invokevirtual 377, 3) := by decide +kernel
theorem dX10_chance_102 : decode cX10_chance 102 = .ok (.iconst 2, 1) := by decide +kernel
theorem dX10_chance_103 : decode cX10_chance 103 = .ok (.iload_n 1, 1) := by decide +kernel
theorem dX10_chance_104 : decode cX10_chance 104 = .ok (.invokevirtual 327, 3) := by decide +kernel
theorem dX10_chance_107 : decode cX10_chance 107 = .ok (.iload_n 3, 1) := by decide +kernel
theorem dX10_chance_108 : decode cX10_chance 108 = .ok (.if_icmp .ne 24, 3) := by decide +kernel
theorem dX10_chance_111 : decode cX10_chance 111 = .ok (.aload_n 0, 1) := by decide +kernel
theorem dX10_chance_112 : decode cX10_chance 112 = .ok (.aload_n 0, 1) := by decide +kernel
theorem dX10_chance_113 : decode cX10_chance 113 = .ok (.invokevirtual 377, 3) := by decide +kernel
theorem dX10_chance_116 : decode cX10_chance 116 = .ok (.iconst 0, 1) := by decide +kernel
theorem dX10_chance_117 : decode cX10_chance 117 = .ok (.iload_n 1, 1) := by decide +kernel
theorem dX10_chance_118 : decode cX10_chance 118 = .ok (.invokevirtual 327, 3) := by decide +kernel
theorem dX10_chance_121 : decode cX10_chance 121 = .ok (.iload 4, 2) := by decide +kernel
theorem dX10_chance_123 : decode cX10_chance 123 = .ok (.if_icmp .ne 9, 3) := by decide +kernel
theorem dX10_chance_126 : decode cX10_chance 126 = .ok (.sipush 1000, 3) := by decide +kernel
theorem dX10_chance_129 : decode cX10_chance 129 = .ok (.goto 4, 3) := by decide +kernel
theorem dX10_chance_132 : decode cX10_chance 132 = .ok (.iconst 0, 1) := by decide +kernel
theorem dX10_chance_133 : decode cX10_chance 133 = .ok (.ireturn, 1) := by decide +kernel
theorem dX10_chance_134 : decode cX10_chance 134 = .ok (.aload_n 0, 1) := by decide +kernel
theorem dX10_chance_135 : decode cX10_chance 135 = .ok (.aload_n 0, 1) := by decide +kernel
theorem dX10_chance_136 : decode cX10_chance 136 = .ok (.invokevirtual 377, 3) := by decide +kernel
theorem dX10_chance_139 : decode cX10_chance 139 = .ok (.iload_n 3, 1) := by decide +kernel
theorem dX10_chance_140 : decode cX10_chance 140 = .ok (.iload_n 1, 1) := by decide +kernel
theorem dX10_chance_141 : decode cX10_chance 141 = .ok (.invokevirtual 342, 3) := by decide +kernel
theorem dX10_chance_144 : decode cX10_chance 144 = .ok (.iload 4, 2) := by decide +kernel
theorem dX10_chance_146 : decode cX10_chance 146 = .ok (.isub, 1) := by decide +kernel
theorem dX10_chance_147 : decode cX10_chance 147 = .ok (.invokestatic 334, 3) := by decide +kernel
theorem dX10_chance_150 : decode cX10_chance 150 = .ok (.istore 6, 2) := by decide +kernel
theorem dX10_chance_152 : decode cX10_chance 152 = .ok (.iload 6, 2) := by decide +kernel
theorem dX10_chance_154 : decode cX10_chance 154 = .ok (.ifCond .ne 15, 3) := by decide +kernel
theorem dX10_chance_157 : decode cX10_chance 157 = .ok (.aload_n 0, 1) := by decide +kernel
theorem dX10_chance_158 : decode cX10_chance 158 = .ok (.getfield 38, 3) := by decide +kernel
theorem dX10_chance_161 : decode cX10_chance 161 = .ok (.aload_n 0, 1) := by decide +kernel
theorem dX10_chance_162 : decode cX10_chance 162 = .ok (.invokevirtual 380, 3) := by decide +kernel
theorem dX10_chance_165 : decode cX10_chance 165 = .ok (.iaload, 1) := by decide +kernel
theorem dX10_chance_166 : decode cX10_chance 166 = .ok (.goto 29, 3) := by decide +kernel
theorem dX10_chance_169 : decode cX10_chance 169 = .ok (.sipush 1000, 3) := by decide +kernel
theorem dX10_chance_172 : decode cX10_chance 172 = .ok (.aload_n 0, 1) := by decide +kernel
theorem dX10_chance_173 : decode cX10_chance 173 = .ok (.getfield 38, 3) := by decide +kernel
theorem dX10_chance_176 : decode cX10_chance 176 = .ok (.aload_n 0, 1) := by decide +kernel
theorem dX10_chance_177 : decode cX10_chance 177 = .ok (.invokevirtual 380, 3) := by decide +kernel
theorem dX10_chance_180 : decode cX10_chance 180 = .ok (.iaload, 1) := by decide +kernel
theorem dX10_chance_181 : decode cX10_chance 181 = .ok (.isub, 1) := by decide +kernel
theorem dX10_chance_182 : decode cX10_chance 182 = .ok (.iload 6, 2) := by decide +kernel
theorem dX10_chance_184 : decode cX10_chance 184 = .ok (.iconst 1, 1) := by decide +kernel
theorem dX10_chance_185 : decode cX10_chance 185 = .ok (.if_icmp .ne 7, 3) := by decide +kernel
theorem dX10_chance_188 : decode cX10_chance 188 = .ok (.iconst 4, 1) := by decide +kernel
theorem dX10_chance_189 : decode cX10_chance 189 = .ok (.goto 5, 3) := by decide +kernel
theorem dX10_chance_192 : decode cX10_chance 192 = .ok (.bipush 80, 2) := by decide +kernel
theorem dX10_chance_194 : decode cX10_chance 194 = .ok (.idiv, 1) := by decide +kernel
theorem dX10_chance_195 : decode cX10_chance 195 = .ok (.ireturn, 1) := by decide +kernel
theorem dX10_signs_0 : decode cX10_signs 0 = .ok (.lconst 0, 1) := by decide +kernel
theorem dX10_signs_1 : decode cX10_signs 1 = .ok (.lstore 7, 2) := by decide +kernel
theorem dX10_signs_3 : decode cX10_signs 3 = .ok (.iconst 0, 1) := by decide +kernel
theorem dX10_signs_4 : decode cX10_signs 4 = .ok (.istore 9, 2) := by decide +kernel
theorem dX10_signs_6 : decode cX10_signs 6 = .ok (.iload 9, 2) := by decide +kernel
theorem dX10_signs_8 : decode cX10_signs 8 = .ok (.sipush 144, 3) := by decide +kernel
theorem dX10_signs_11 : decode cX10_signs 11 = .ok (.if_icmp .ge 90, 3) := by decide +kernel
theorem dX10_signs_14 : decode cX10_signs 14 = .ok (.aload_n 0, 1) := by decide +kernel
theorem dX10_signs_15 : decode cX10_signs 15 = .ok (.iload 9, 2) := by decide +kernel
theorem dX10_signs_17 : decode cX10_signs 17 = .ok (.iload_n 3, 1) := by decide +kernel
theorem dX10_signs_18 : decode cX10_signs 18 = .ok (.iload 4, 2) := by decide +kernel
theorem dX10_signs_20 : decode cX10_signs 20 = .ok (.iload 5, 2) := by decide +kernel
theorem dX10_signs_22 : decode cX10_signs 22 = .ok (.iload 6, 2) := by decide +kernel
theorem dX10_signs_24 : decode cX10_signs 24 = .ok (.invokevirtual 408, 3) := by decide +kernel
theorem dX10_signs_27 : decode cX10_signs 27 = .ok (.istore 10, 2) := by decide +kernel
theorem dX10_signs_29 : decode cX10_signs 29 = .ok (.iconst 0, 1) := by decide +kernel
theorem dX10_signs_30 : decode cX10_signs 30 = .ok (.istore 11, 2) := by decide +kernel
theorem dX10_signs_32 : decode cX10_signs 32 = .ok (.iload 11, 2) := by decide +kernel
theorem dX10_signs_34 : decode cX10_signs 34 = .ok (.iconst 4, 1) := by decide +kernel
theorem dX10_signs_35 : decode cX10_signs 35 = .ok (.if_icmp .ge 60, 3) := by decide +kernel
theorem dX10_signs_38 : decode cX10_signs 38 = .ok (.aload_n 0, 1) := by decide +kernel
theorem dX10_signs_39 : decode cX10_signs 39 = .ok (.getfield 84, 3) := by decide +kernel
theorem dX10_signs_42 : decode cX10_signs 42 = .ok (.iconst 4, 1) := by decide +kernel
theorem dX10_signs_43 : decode cX10_signs 43 = .ok (.iload 9, 2) := by decide +kernel
theorem dX10_signs_45 : decode cX10_signs 45 = .ok (.imul, 1) := by decide +kernel
theorem dX10_signs_46 : decode cX10_signs 46 = .ok (.iload 11, 2) := by decide +kernel
theorem dX10_signs_48 : decode cX10_signs 48 = .ok (.iadd, 1) := by decide +kernel
theorem dX10_signs_49 : decode cX10_signs 49 = .ok (.aload_n 1, 1) := by decide +kernel
theorem dX10_signs_50 : decode cX10_signs 50 = .ok (.iload_n 2, 1) := by decide +kernel
theorem dX10_signs_51 : decode cX10_signs 51 = .ok (.iconst 4, 1) := by decide +kernel
theorem dX10_signs_52 : decode cX10_signs 52 = .ok (.iload 9, 2) := by decide +kernel
theorem dX10_signs_54 : decode cX10_signs 54 = .ok (.imul, 1) := by decide +kernel
theorem dX10_signs_55 : decode cX10_signs 55 = .ok (.iadd, 1) := by decide +kernel
theorem dX10_signs_56 : decode cX10_signs 56 = .ok (.iload 11, 2) := by decide +kernel
theorem dX10_signs_58 : decode cX10_signs 58 = .ok (.iadd, 1) := by decide +kernel
theorem dX10_signs_59 : decode cX10_signs 59 = .ok (.iaload, 1) := by decide +kernel
theorem dX10_signs_60 : decode cX10_signs 60 = .ok (.i2l, 1) := by decide +kernel
theorem dX10_signs_61 : decode cX10_signs 61 = .ok (.iload 10, 2) := by decide +kernel
theorem dX10_signs_63 : decode cX10_signs 63 = .ok (.i2l, 1) := by decide +kernel
theorem dX10_signs_64 : decode cX10_signs 64 = .ok (.lmul, 1) := by decide +kernel
theorem dX10_signs_65 : decode cX10_signs 65 = .ok (.ldc2_w 386, 3) := by decide +kernel
theorem dX10_signs_68 : decode cX10_signs 68 = .ok (.ldiv, 1) := by decide +kernel
theorem dX10_signs_69 : decode cX10_signs 69 = .ok (.l2i, 1) := by decide +kernel
theorem dX10_signs_70 : decode cX10_signs 70 = .ok (.iastore, 1) := by decide +kernel
theorem dX10_signs_71 : decode cX10_signs 71 = .ok (.lload 7, 2) := by decide +kernel
theorem dX10_signs_73 : decode cX10_signs 73 = .ok (.aload_n 0, 1) := by decide +kernel
theorem dX10_signs_74 : decode cX10_signs 74 = .ok (.getfield 84, 3) := by decide +kernel
theorem dX10_signs_77 : decode cX10_signs 77 = .ok (.iconst 4, 1) := by decide +kernel
theorem dX10_signs_78 : decode cX10_signs 78 = .ok (.iload 9, 2) := by decide +kernel
theorem dX10_signs_80 : decode cX10_signs 80 = .ok (.imul, 1) := by decide +kernel
theorem dX10_signs_81 : decode cX10_signs 81 = .ok (.iload 11, 2) := by decide +kernel
theorem dX10_signs_83 : decode cX10_signs 83 = .ok (.iadd, 1) := by decide +kernel
theorem dX10_signs_84 : decode cX10_signs 84 = .ok (.iaload, 1) := by decide +kernel
theorem dX10_signs_85 : decode cX10_signs 85 = .ok (.i2l, 1) := by decide +kernel
theorem dX10_signs_86 : decode cX10_signs 86 = .ok (.ladd, 1) := by decide +kernel
theorem dX10_signs_87 : decode cX10_signs 87 = .ok (.lstore 7, 2) := by decide +kernel
theorem dX10_signs_89 : decode cX10_signs 89 = .ok (.iinc 11 1, 3) := by decide +kernel
theorem dX10_signs_92 : decode cX10_signs 92 = .ok (.goto (-60), 3) := by decide +kernel
theorem dX10_signs_95 : decode cX10_signs 95 = .ok (.iinc 9 1, 3) := by decide +kernel
theorem dX10_signs_98 : decode cX10_signs 98 = .ok (.goto (-92), 3) := by decide +kernel
theorem dX10_signs_101 : decode cX10_signs 101 = .ok (.lload 7, 2) := by decide +kernel
theorem dX10_signs_103 : decode cX10_signs 103 = .ok (.lconst 0, 1) := by decide +kernel
theorem dX10_signs_104 : decode cX10_signs 104 = .ok (.lcmp, 1) := by decide +kernel
theorem dX10_signs_105 : decode cX10_signs 105 = .ok (.ifCond .ne 5, 3) := by decide +kernel
theorem dX10_signs_108 : decode cX10_signs 108 = .ok (.iconst 0, 1) := by decide +kernel
theorem dX10_signs_109 : decode cX10_signs 109 = .ok (.ireturn, 1) := by decide +kernel
theorem dX10_signs_110 : decode cX10_signs 110 = .ok (.iconst 0, 1) := by decide +kernel
theorem dX10_signs_111 : decode cX10_signs 111 = .ok (.istore 9, 2) := by decide +kernel
theorem dX10_signs_113 : decode cX10_signs 113 = .ok (.iload 9, 2) := by decide +kernel
theorem dX10_signs_115 : decode cX10_signs 115 = .ok (.sipush 576, 3) := by decide +kernel
theorem dX10_signs_118 : decode cX10_signs 118 = .ok (.if_icmp .ge 31, 3) := by decide +kernel
theorem dX10_signs_121 : decode cX10_signs 121 = .ok (.aload_n 1, 1) := by decide +kernel
theorem dX10_signs_122 : decode cX10_signs 122 = .ok (.iload_n 2, 1) := by decide +kernel
theorem dX10_signs_123 : decode cX10_signs 123 = .ok (.iload 9, 2) := by decide +kernel
theorem dX10_signs_125 : decode cX10_signs 125 = .ok (.iadd, 1) := by decide +kernel
theorem dX10_signs_126 : decode cX10_signs 126 = .ok (.aload_n 0, 1) := by decide +kernel
theorem dX10_signs_127 : decode cX10_signs 127 = .ok (.getfield 84, 3) := by decide +kernel
theorem dX10_signs_130 : decode cX10_signs 130 = .ok (.iload 9, 2) := by decide +kernel
theorem dX10_signs_132 : decode cX10_signs 132 = .ok (.iaload, 1) := by decide +kernel
theorem dX10_signs_133 : decode cX10_signs 133 = .ok (.i2l, 1) := by decide +kernel
theorem dX10_signs_134 : decode cX10_signs 134 = .ok (.ldc2_w 412, 3) := by decide +kernel
theorem dX10_signs_137 : decode cX10_signs 137 = .ok (.lmul, 1) := by decide +kernel
theorem dX10_signs_138 : decode cX10_signs 138 = .ok (.lload 7, 2) := by decide +kernel
theorem dX10_signs_140 : decode cX10_signs 140 = .ok (.ldiv, 1) := by decide +kernel
theorem dX10_signs_141 : decode cX10_signs 141 = .ok (.l2i, 1) := by decide +kernel
theorem dX10_signs_142 : decode cX10_signs 142 = .ok (.iastore, 1) := by decide +kernel
theorem dX10_signs_143 : decode cX10_signs 143 = .ok (.iinc 9 1, 3) := by decide +kernel
theorem dX10_signs_146 : decode cX10_signs 146 = .ok (.goto (-33), 3) := by decide +kernel
theorem dX10_signs_149 : decode cX10_signs 149 = .ok (.iconst 1, 1) := by decide +kernel
theorem dX10_signs_150 : decode cX10_signs 150 = .ok (.ireturn, 1) := by decide +kernel
theorem dX10_later_0 : decode cX10_later 0 = .ok (.iload_n 0, 1) := by decide +kernel
theorem dX10_later_1 : decode cX10_later 1 = .ok (.bipush 30, 2) := by decide +kernel
theorem dX10_later_3 : decode cX10_later 3 = .ok (.if_icmp .ge 9, 3) := by decide +kernel
theorem dX10_later_6 : decode cX10_later 6 = .ok (.iload_n 0, 1) := by decide +kernel
theorem dX10_later_7 : decode cX10_later 7 = .ok (.iconst 1, 1) := by decide +kernel
theorem dX10_later_8 : decode cX10_later 8 = .ok (.iadd, 1) := by decide +kernel
theorem dX10_later_9 : decode cX10_later 9 = .ok (.goto 5, 3) := by decide +kernel
theorem dX10_later_12 : decode cX10_later 12 = .ok (.bipush 30, 2) := by decide +kernel
theorem dX10_later_14 : decode cX10_later 14 = .ok (.ireturn, 1) := by decide +kernel
theorem dX10_writes_0 : decode cX10_writes 0 = .ok (.sipush 582, 3) := by decide +kernel
theorem dX10_writes_3 : decode cX10_writes 3 = .ok (.iconst 4, 1) := by decide +kernel
theorem dX10_writes_4 : decode cX10_writes 4 = .ok (.aload_n 0, 1) := by decide +kernel
theorem dX10_writes_5 : decode cX10_writes 5 = .ok (.getfield 78, 3) := by decide +kernel
theorem dX10_writes_8 : decode cX10_writes 8 = .ok (.iconst 2, 1) := by decide +kernel
theorem dX10_writes_9 : decode cX10_writes 9 = .ok (.iaload, 1) := by decide +kernel
theorem dX10_writes_10 : decode cX10_writes 10 = .ok (.imul, 1) := by decide +kernel
theorem dX10_writes_11 : decode cX10_writes 11 = .ok (.iadd, 1) := by decide +kernel
theorem dX10_writes_12 : decode cX10_writes 12 = .ok (.istore 4, 2) := by decide +kernel
theorem dX10_writes_14 : decode cX10_writes 14 = .ok (.aload_n 0, 1) := by decide +kernel
theorem dX10_writes_15 : decode cX10_writes 15 = .ok (.getfield 78, 3) := by decide +kernel
theorem dX10_writes_18 : decode cX10_writes 18 = .ok (.iload 4, 2) := by decide +kernel
theorem dX10_writes_20 : decode cX10_writes 20 = .ok (.iload_n 1, 1) := by decide +kernel
theorem dX10_writes_21 : decode cX10_writes 21 = .ok (.iastore, 1) := by decide +kernel
theorem dX10_writes_22 : decode cX10_writes 22 = .ok (.aload_n 0, 1) := by decide +kernel
theorem dX10_writes_23 : decode cX10_writes 23 = .ok (.getfield 78, 3) := by decide +kernel
theorem dX10_writes_26 : decode cX10_writes 26 = .ok (.iload 4, 2) := by decide +kernel
theorem dX10_writes_28 : decode cX10_writes 28 = .ok (.iconst 1, 1) := by decide +kernel
theorem dX10_writes_29 : decode cX10_writes 29 = .ok (.iadd, 1) := by decide +kernel
theorem dX10_writes_30 : decode cX10_writes 30 = .ok (.iload_n 2, 1) := by decide +kernel
theorem dX10_writes_31 : decode cX10_writes 31 = .ok (.iastore, 1) := by decide +kernel
theorem dX10_writes_32 : decode cX10_writes 32 = .ok (.aload_n 0, 1) := by decide +kernel
theorem dX10_writes_33 : decode cX10_writes 33 = .ok (.getfield 78, 3) := by decide +kernel
theorem dX10_writes_36 : decode cX10_writes 36 = .ok (.iload 4, 2) := by decide +kernel
theorem dX10_writes_38 : decode cX10_writes 38 = .ok (.iconst 2, 1) := by decide +kernel
theorem dX10_writes_39 : decode cX10_writes 39 = .ok (.iadd, 1) := by decide +kernel
theorem dX10_writes_40 : decode cX10_writes 40 = .ok (.iload_n 3, 1) := by decide +kernel
theorem dX10_writes_41 : decode cX10_writes 41 = .ok (.iastore, 1) := by decide +kernel
theorem dX10_writes_42 : decode cX10_writes 42 = .ok (.aload_n 0, 1) := by decide +kernel
theorem dX10_writes_43 : decode cX10_writes 43 = .ok (.getfield 78, 3) := by decide +kernel
theorem dX10_writes_46 : decode cX10_writes 46 = .ok (.iload 4, 2) := by decide +kernel
theorem dX10_writes_48 : decode cX10_writes 48 = .ok (.iconst 3, 1) := by decide +kernel
theorem dX10_writes_49 : decode cX10_writes 49 = .ok (.iadd, 1) := by decide +kernel
theorem dX10_writes_50 : decode cX10_writes 50 = .ok (.aload_n 0, 1) := by decide +kernel
theorem dX10_writes_51 : decode cX10_writes 51 = .ok (.aload_n 0, 1) := by decide +kernel
theorem dX10_writes_52 : decode cX10_writes 52 = .ok (.getfield 78, 3) := by decide +kernel
theorem dX10_writes_55 : decode cX10_writes 55 = .ok (.bipush 6, 2) := by decide +kernel
theorem dX10_writes_57 : decode cX10_writes 57 = .ok (.invokevirtual 414, 3) := by decide +kernel
theorem dX10_writes_60 : decode cX10_writes 60 = .ok (.ldc2_w 418, 3) := by decide +kernel
theorem dX10_writes_63 : decode cX10_writes 63 = .ok (.ldiv, 1) := by decide +kernel
theorem dX10_writes_64 : decode cX10_writes 64 = .ok (.l2i, 1) := by decide +kernel
theorem dX10_writes_65 : decode cX10_writes 65 = .ok (.iastore, 1) := by decide +kernel
theorem dX10_writes_66 : decode cX10_writes 66 = .ok (.aload_n 0, 1) := by decide +kernel
theorem dX10_writes_67 : decode cX10_writes 67 = .ok (.getfield 78, 3) := by decide +kernel
theorem dX10_writes_70 : decode cX10_writes 70 = .ok (.iconst 2, 1) := by decide +kernel
theorem dX10_writes_71 : decode cX10_writes 71 = .ok (.dup2, 1) := by decide +kernel
theorem dX10_writes_72 : decode cX10_writes 72 = .ok (.iaload, 1) := by decide +kernel
theorem dX10_writes_73 : decode cX10_writes 73 = .ok (.iconst 1, 1) := by decide +kernel
theorem dX10_writes_74 : decode cX10_writes 74 = .ok (.iadd, 1) := by decide +kernel
theorem dX10_writes_75 : decode cX10_writes 75 = .ok (.iastore, 1) := by decide +kernel
theorem dX10_writes_76 : decode cX10_writes 76 = .ok (.return_, 1) := by decide +kernel
theorem dX10_canAct_0 : decode cX10_canAct 0 = .ok (.aload_n 0, 1) := by decide +kernel
theorem dX10_canAct_1 : decode cX10_canAct 1 = .ok (.invokevirtual 420, 3) := by decide +kernel
theorem dX10_canAct_4 : decode cX10_canAct 4 = .ok (.ifCond .eq 19, 3) := by decide +kernel
theorem dX10_canAct_7 : decode cX10_canAct 7 = .ok (.aload_n 0, 1) := by decide +kernel
theorem dX10_canAct_8 : decode cX10_canAct 8 = .ok (.getfield 78, 3) := by decide +kernel
theorem dX10_canAct_11 : decode cX10_canAct 11 = .ok (.iconst 2, 1) := by decide +kernel
theorem dX10_canAct_12 : decode cX10_canAct 12 = .ok (.iaload, 1) := by decide +kernel
theorem dX10_canAct_13 : decode cX10_canAct 13 = .ok (.sipush 200, 3) := by decide +kernel
theorem dX10_canAct_16 : decode cX10_canAct 16 = .ok (.if_icmp .ge 7, 3) := by decide +kernel
theorem dX10_canAct_19 : decode cX10_canAct 19 = .ok (.iconst 1, 1) := by decide +kernel
theorem dX10_canAct_20 : decode cX10_canAct 20 = .ok (.goto 4, 3) := by decide +kernel
theorem dX10_canAct_23 : decode cX10_canAct 23 = .ok (.iconst 0, 1) := by decide +kernel
theorem dX10_canAct_24 : decode cX10_canAct 24 = .ok (.ireturn, 1) := by decide +kernel
theorem dX10_act_0 : decode cX10_act 0 = .ok (.aload_n 0, 1) := by decide +kernel
theorem dX10_act_1 : decode cX10_act 1 = .ok (.invokevirtual 423, 3) := by decide +kernel
theorem dX10_act_4 : decode cX10_act 4 = .ok (.ifCond .eq 15, 3) := by decide +kernel
theorem dX10_act_7 : decode cX10_act 7 = .ok (.iload_n 1, 1) := by decide +kernel
theorem dX10_act_8 : decode cX10_act 8 = .ok (.i2l, 1) := by decide +kernel
theorem dX10_act_9 : decode cX10_act 9 = .ok (.lconst 0, 1) := by decide +kernel
theorem dX10_act_10 : decode cX10_act 10 = .ok (.ldc2_w 345, 3) := by decide +kernel
theorem dX10_act_13 : decode cX10_act 13 = .ok (.invokestatic 144, 3) := by decide +kernel
theorem dX10_act_16 : decode cX10_act 16 = .ok (.ifCond .ne 5, 3) := by decide +kernel
theorem dX10_act_19 : decode cX10_act 19 = .ok (.iconst (-1), 1) := by decide +kernel
theorem dX10_act_20 : decode cX10_act 20 = .ok (.ireturn, 1) := by decide +kernel
theorem dX10_act_21 : decode cX10_act 21 = .ok (.aload_n 0, 1) := by decide +kernel
theorem dX10_act_22 : decode cX10_act 22 = .ok (.aload_n 0, 1) := by decide +kernel
theorem dX10_act_23 : decode cX10_act 23 = .ok (.getfield 78, 3) := by decide +kernel
theorem dX10_act_26 : decode cX10_act 26 = .ok (.bipush 6, 2) := by decide +kernel
theorem dX10_act_28 : decode cX10_act 28 = .ok (.iload_n 1, 1) := by decide +kernel
theorem dX10_act_29 : decode cX10_act 29 = .ok (.aload_n 0, 1) := by decide +kernel
theorem dX10_act_30 : decode cX10_act 30 = .ok (.getfield 78, 3) := by decide +kernel
theorem dX10_act_33 : decode cX10_act 33 = .ok (.iconst 5, 1) := by decide +kernel
theorem dX10_act_34 : decode cX10_act 34 = .ok (.iaload, 1) := by decide +kernel
theorem dX10_act_35 : decode cX10_act 35 = .ok (.invokevirtual 426, 3) := by decide +kernel
theorem dX10_act_38 : decode cX10_act 38 = .ok (.aload_n 0, 1) := by decide +kernel
theorem dX10_act_39 : decode cX10_act 39 = .ok (.getfield 78, 3) := by decide +kernel
theorem dX10_act_42 : decode cX10_act 42 = .ok (.iconst 3, 1) := by decide +kernel
theorem dX10_act_43 : decode cX10_act 43 = .ok (.dup2, 1) := by decide +kernel
theorem dX10_act_44 : decode cX10_act 44 = .ok (.iaload, 1) := by decide +kernel
theorem dX10_act_45 : decode cX10_act 45 = .ok (.iconst 1, 1) := by decide +kernel
theorem dX10_act_46 : decode cX10_act 46 = .ok (.iadd, 1) := by decide +kernel
theorem dX10_act_47 : decode cX10_act 47 = .ok (.iastore, 1) := by decide +kernel
theorem dX10_act_48 : decode cX10_act 48 = .ok (.aload_n 0, 1) := by decide +kernel
theorem dX10_act_49 : decode cX10_act 49 = .ok (.getfield 78, 3) := by decide +kernel
theorem dX10_act_52 : decode cX10_act 52 = .ok (.iconst 5, 1) := by decide +kernel
theorem dX10_act_53 : decode cX10_act 53 = .ok (.aload_n 0, 1) := by decide +kernel
theorem dX10_act_54 : decode cX10_act 54 = .ok (.getfield 78, 3) := by decide +kernel
theorem dX10_act_57 : decode cX10_act 57 = .ok (.iconst 5, 1) := by decide +kernel
theorem dX10_act_58 : decode cX10_act 58 = .ok (.iaload, 1) := by decide +kernel
theorem dX10_act_59 : decode cX10_act 59 = .ok (.invokestatic 429, 3) := by decide +kernel
theorem dX10_act_62 : decode cX10_act 62 = .ok (.iastore, 1) := by decide +kernel
theorem dX10_act_63 : decode cX10_act 63 = .ok (.aload_n 0, 1) := by decide +kernel
theorem dX10_act_64 : decode cX10_act 64 = .ok (.iload_n 1, 1) := by decide +kernel
theorem dX10_act_65 : decode cX10_act 65 = .ok (.iconst 0, 1) := by decide +kernel
theorem dX10_act_66 : decode cX10_act 66 = .ok (.iconst 0, 1) := by decide +kernel
theorem dX10_act_67 : decode cX10_act 67 = .ok (.invokevirtual 432, 3) := by decide +kernel
theorem dX10_act_70 : decode cX10_act 70 = .ok (.aload_n 0, 1) := by decide +kernel
theorem dX10_act_71 : decode cX10_act 71 = .ok (.getfield 78, 3) := by decide +kernel
theorem dX10_act_74 : decode cX10_act 74 = .ok (.iconst 3, 1) := by decide +kernel
theorem dX10_act_75 : decode cX10_act 75 = .ok (.iaload, 1) := by decide +kernel
theorem dX10_act_76 : decode cX10_act 76 = .ok (.ireturn, 1) := by decide +kernel
theorem dX10_told_0 : decode cX10_told 0 = .ok (.aload_n 0, 1) := by decide +kernel
theorem dX10_told_1 : decode cX10_told 1 = .ok (.aload_n 0, 1) := by decide +kernel
theorem dX10_told_2 : decode cX10_told 2 = .ok (.getfield 78, 3) := by decide +kernel
theorem dX10_told_5 : decode cX10_told 5 = .ok (.bipush 6, 2) := by decide +kernel
theorem dX10_told_7 : decode cX10_told 7 = .ok (.iload_n 1, 1) := by decide +kernel
theorem dX10_told_8 : decode cX10_told 8 = .ok (.iload_n 2, 1) := by decide +kernel
theorem dX10_told_9 : decode cX10_told 9 = .ok (.iload_n 3, 1) := by decide +kernel
theorem dX10_told_10 : decode cX10_told 10 = .ok (.aload_n 0, 1) := by decide +kernel
theorem dX10_told_11 : decode cX10_told 11 = .ok (.getfield 78, 3) := by decide +kernel
theorem dX10_told_14 : decode cX10_told 14 = .ok (.iconst 5, 1) := by decide +kernel
theorem dX10_told_15 : decode cX10_told 15 = .ok (.iaload, 1) := by decide +kernel
theorem dX10_told_16 : decode cX10_told 16 = .ok (.invokevirtual 436, 3) := by decide +kernel
theorem dX10_told_19 : decode cX10_told 19 = .ok (.ifCond .ne 5, 3) := by decide +kernel
theorem dX10_told_22 : decode cX10_told 22 = .ok (.iconst (-1), 1) := by decide +kernel
theorem dX10_told_23 : decode cX10_told 23 = .ok (.ireturn, 1) := by decide +kernel
theorem dX10_told_24 : decode cX10_told 24 = .ok (.aload_n 0, 1) := by decide +kernel
theorem dX10_told_25 : decode cX10_told 25 = .ok (.iload_n 1, 1) := by decide +kernel
theorem dX10_told_26 : decode cX10_told 26 = .ok (.iload_n 2, 1) := by decide +kernel
theorem dX10_told_27 : decode cX10_told 27 = .ok (.iload_n 3, 1) := by decide +kernel
theorem dX10_told_28 : decode cX10_told 28 = .ok (.invokevirtual 432, 3) := by decide +kernel
theorem dX10_told_31 : decode cX10_told 31 = .ok (.aload_n 0, 1) := by decide +kernel
theorem dX10_told_32 : decode cX10_told 32 = .ok (.getfield 78, 3) := by decide +kernel
theorem dX10_told_35 : decode cX10_told 35 = .ok (.iconst 2, 1) := by decide +kernel
theorem dX10_told_36 : decode cX10_told 36 = .ok (.iaload, 1) := by decide +kernel
theorem dX10_told_37 : decode cX10_told 37 = .ok (.ireturn, 1) := by decide +kernel
theorem dX10_felt_0 : decode cX10_felt 0 = .ok (.aload_n 0, 1) := by decide +kernel
theorem dX10_felt_1 : decode cX10_felt 1 = .ok (.invokevirtual 423, 3) := by decide +kernel
theorem dX10_felt_4 : decode cX10_felt 4 = .ok (.ifCond .eq 25, 3) := by decide +kernel
theorem dX10_felt_7 : decode cX10_felt 7 = .ok (.iload_n 1, 1) := by decide +kernel
theorem dX10_felt_8 : decode cX10_felt 8 = .ok (.i2l, 1) := by decide +kernel
theorem dX10_felt_9 : decode cX10_felt 9 = .ok (.lconst 0, 1) := by decide +kernel
theorem dX10_felt_10 : decode cX10_felt 10 = .ok (.ldc2_w 440, 3) := by decide +kernel
theorem dX10_felt_13 : decode cX10_felt 13 = .ok (.invokestatic 144, 3) := by decide +kernel
theorem dX10_felt_16 : decode cX10_felt 16 = .ok (.ifCond .eq 13, 3) := by decide +kernel
theorem dX10_felt_19 : decode cX10_felt 19 = .ok (.aload_n 0, 1) := by decide +kernel
theorem dX10_felt_20 : decode cX10_felt 20 = .ok (.iconst 5, 1) := by decide +kernel
theorem dX10_felt_21 : decode cX10_felt 21 = .ok (.iload_n 1, 1) := by decide +kernel
theorem dX10_felt_22 : decode cX10_felt 22 = .ok (.iconst 0, 1) := by decide +kernel
theorem dX10_felt_23 : decode cX10_felt 23 = .ok (.invokevirtual 442, 3) := by decide +kernel
theorem dX10_felt_26 : decode cX10_felt 26 = .ok (.goto 4, 3) := by decide +kernel
theorem dX10_felt_29 : decode cX10_felt 29 = .ok (.iconst (-1), 1) := by decide +kernel
theorem dX10_felt_30 : decode cX10_felt 30 = .ok (.ireturn, 1) := by decide +kernel
theorem dX10_seen_0 : decode cX10_seen 0 = .ok (.aload_n 0, 1) := by decide +kernel
theorem dX10_seen_1 : decode cX10_seen 1 = .ok (.invokevirtual 423, 3) := by decide +kernel
theorem dX10_seen_4 : decode cX10_seen 4 = .ok (.ifCond .eq 26, 3) := by decide +kernel
theorem dX10_seen_7 : decode cX10_seen 7 = .ok (.iload_n 1, 1) := by decide +kernel
theorem dX10_seen_8 : decode cX10_seen 8 = .ok (.i2l, 1) := by decide +kernel
theorem dX10_seen_9 : decode cX10_seen 9 = .ok (.lconst 0, 1) := by decide +kernel
theorem dX10_seen_10 : decode cX10_seen 10 = .ok (.ldc2_w 340, 3) := by decide +kernel
theorem dX10_seen_13 : decode cX10_seen 13 = .ok (.invokestatic 144, 3) := by decide +kernel
theorem dX10_seen_16 : decode cX10_seen 16 = .ok (.ifCond .eq 14, 3) := by decide +kernel
theorem dX10_seen_19 : decode cX10_seen 19 = .ok (.aload_n 0, 1) := by decide +kernel
theorem dX10_seen_20 : decode cX10_seen 20 = .ok (.bipush 6, 2) := by decide +kernel
theorem dX10_seen_22 : decode cX10_seen 22 = .ok (.iload_n 1, 1) := by decide +kernel
theorem dX10_seen_23 : decode cX10_seen 23 = .ok (.iconst 0, 1) := by decide +kernel
theorem dX10_seen_24 : decode cX10_seen 24 = .ok (.invokevirtual 442, 3) := by decide +kernel
theorem dX10_seen_27 : decode cX10_seen 27 = .ok (.goto 4, 3) := by decide +kernel
theorem dX10_seen_30 : decode cX10_seen 30 = .ok (.iconst (-1), 1) := by decide +kernel
theorem dX10_seen_31 : decode cX10_seen 31 = .ok (.ireturn, 1) := by decide +kernel
theorem dX10_heard_0 : decode cX10_heard 0 = .ok (.aload_n 0, 1) := by decide +kernel
theorem dX10_heard_1 : decode cX10_heard 1 = .ok (.invokevirtual 423, 3) := by decide +kernel
theorem dX10_heard_4 : decode cX10_heard 4 = .ok (.ifCond .eq 47, 3) := by decide +kernel
theorem dX10_heard_7 : decode cX10_heard 7 = .ok (.iload_n 1, 1) := by decide +kernel
theorem dX10_heard_8 : decode cX10_heard 8 = .ok (.i2l, 1) := by decide +kernel
theorem dX10_heard_9 : decode cX10_heard 9 = .ok (.lconst 0, 1) := by decide +kernel
theorem dX10_heard_10 : decode cX10_heard 10 = .ok (.aload_n 0, 1) := by decide +kernel
theorem dX10_heard_11 : decode cX10_heard 11 = .ok (.getfield 53, 3) := by decide +kernel
theorem dX10_heard_14 : decode cX10_heard 14 = .ok (.aload_n 0, 1) := by decide +kernel
theorem dX10_heard_15 : decode cX10_heard 15 = .ok (.invokevirtual 377, 3) := by decide +kernel
theorem dX10_heard_18 : decode cX10_heard 18 = .ok (.iaload, 1) := by decide +kernel
theorem dX10_heard_19 : decode cX10_heard 19 = .ok (.iconst 1, 1) := by decide +kernel
theorem dX10_heard_20 : decode cX10_heard 20 = .ok (.isub, 1) := by decide +kernel
theorem dX10_heard_21 : decode cX10_heard 21 = .ok (.i2l, 1) := by decide +kernel
theorem dX10_heard_22 : decode cX10_heard 22 = .ok (.invokestatic 144, 3) := by decide +kernel
theorem dX10_heard_25 : decode cX10_heard 25 = .ok (.ifCond .eq 26, 3) := by decide +kernel
theorem dX10_heard_28 : decode cX10_heard 28 = .ok (.iload_n 2, 1) := by decide +kernel
theorem dX10_heard_29 : decode cX10_heard 29 = .ok (.i2l, 1) := by decide +kernel
theorem dX10_heard_30 : decode cX10_heard 30 = .ok (.lconst 0, 1) := by decide +kernel
theorem dX10_heard_31 : decode cX10_heard 31 = .ok (.ldc2_w 445, 3) := by decide +kernel
theorem dX10_heard_34 : decode cX10_heard 34 = .ok (.invokestatic 144, 3) := by decide +kernel
theorem dX10_heard_37 : decode cX10_heard 37 = .ok (.ifCond .eq 14, 3) := by decide +kernel
theorem dX10_heard_40 : decode cX10_heard 40 = .ok (.aload_n 0, 1) := by decide +kernel
theorem dX10_heard_41 : decode cX10_heard 41 = .ok (.bipush 7, 2) := by decide +kernel
theorem dX10_heard_43 : decode cX10_heard 43 = .ok (.iload_n 1, 1) := by decide +kernel
theorem dX10_heard_44 : decode cX10_heard 44 = .ok (.iload_n 2, 1) := by decide +kernel
theorem dX10_heard_45 : decode cX10_heard 45 = .ok (.invokevirtual 442, 3) := by decide +kernel
theorem dX10_heard_48 : decode cX10_heard 48 = .ok (.goto 4, 3) := by decide +kernel
theorem dX10_heard_51 : decode cX10_heard 51 = .ok (.iconst (-1), 1) := by decide +kernel
theorem dX10_heard_52 : decode cX10_heard 52 = .ok (.ireturn, 1) := by decide +kernel
theorem dX10_strike_0 : decode cX10_strike 0 = .ok (.aload_n 0, 1) := by decide +kernel
theorem dX10_strike_1 : decode cX10_strike 1 = .ok (.invokevirtual 423, 3) := by decide +kernel
theorem dX10_strike_4 : decode cX10_strike 4 = .ok (.ifCond .eq 55, 3) := by decide +kernel
theorem dX10_strike_7 : decode cX10_strike 7 = .ok (.iload_n 1, 1) := by decide +kernel
theorem dX10_strike_8 : decode cX10_strike 8 = .ok (.i2l, 1) := by decide +kernel
theorem dX10_strike_9 : decode cX10_strike 9 = .ok (.lconst 0, 1) := by decide +kernel
theorem dX10_strike_10 : decode cX10_strike 10 = .ok (.ldc2_w 440, 3) := by decide +kernel
theorem dX10_strike_13 : decode cX10_strike 13 = .ok (.invokestatic 144, 3) := by decide +kernel
theorem dX10_strike_16 : decode cX10_strike 16 = .ok (.ifCond .eq 43, 3) := by decide +kernel
theorem dX10_strike_19 : decode cX10_strike 19 = .ok (.aload_n 0, 1) := by decide +kernel
theorem dX10_strike_20 : decode cX10_strike 20 = .ok (.getfield 78, 3) := by decide +kernel
theorem dX10_strike_23 : decode cX10_strike 23 = .ok (.iconst 4, 1) := by decide +kernel
theorem dX10_strike_24 : decode cX10_strike 24 = .ok (.iaload, 1) := by decide +kernel
theorem dX10_strike_25 : decode cX10_strike 25 = .ok (.ifCond .eq 34, 3) := by decide +kernel
theorem dX10_strike_28 : decode cX10_strike 28 = .ok (.aload_n 0, 1) := by decide +kernel
theorem dX10_strike_29 : decode cX10_strike 29 = .ok (.aload_n 0, 1) := by decide +kernel
theorem dX10_strike_30 : decode cX10_strike 30 = .ok (.getfield 78, 3) := by decide +kernel
theorem dX10_strike_33 : decode cX10_strike 33 = .ok (.bipush 6, 2) := by decide +kernel
theorem dX10_strike_35 : decode cX10_strike 35 = .ok (.bipush 8, 2) := by decide +kernel
theorem dX10_strike_37 : decode cX10_strike 37 = .ok (.iload_n 1, 1) := by decide +kernel
theorem dX10_strike_38 : decode cX10_strike 38 = .ok (.iload_n 2, 1) := by decide +kernel
theorem dX10_strike_39 : decode cX10_strike 39 = .ok (.ifCond .eq 7, 3) := by decide +kernel
theorem dX10_strike_42 : decode cX10_strike 42 = .ok (.iconst 1, 1) := by decide +kernel
theorem dX10_strike_43 : decode cX10_strike 43 = .ok (.goto 4, 3) := by decide +kernel
theorem dX10_strike_46 : decode cX10_strike 46 = .ok (.iconst 0, 1) := by decide +kernel
theorem dX10_strike_47 : decode cX10_strike 47 = .ok (.aload_n 0, 1) := by decide +kernel
theorem dX10_strike_48 : decode cX10_strike 48 = .ok (.getfield 78, 3) := by decide +kernel
theorem dX10_strike_51 : decode cX10_strike 51 = .ok (.iconst 5, 1) := by decide +kernel
theorem dX10_strike_52 : decode cX10_strike 52 = .ok (.iaload, 1) := by decide +kernel
theorem dX10_strike_53 : decode cX10_strike 53 = .ok (.invokevirtual 436, 3) := by decide +kernel
theorem dX10_strike_56 : decode cX10_strike 56 = .ok (.ifCond .ne 5, 3) := by decide +kernel
theorem dX10_strike_59 : decode cX10_strike 59 = .ok (.iconst (-1), 1) := by decide +kernel
theorem dX10_strike_60 : decode cX10_strike 60 = .ok (.ireturn, 1) := by decide +kernel
theorem dX10_strike_61 : decode cX10_strike 61 = .ok (.aload_n 0, 1) := by decide +kernel
theorem dX10_strike_62 : decode cX10_strike 62 = .ok (.getfield 78, 3) := by decide +kernel
theorem dX10_strike_65 : decode cX10_strike 65 = .ok (.iconst 3, 1) := by decide +kernel
theorem dX10_strike_66 : decode cX10_strike 66 = .ok (.dup2, 1) := by decide +kernel
theorem dX10_strike_67 : decode cX10_strike 67 = .ok (.iaload, 1) := by decide +kernel
theorem dX10_strike_68 : decode cX10_strike 68 = .ok (.iconst 1, 1) := by decide +kernel
theorem dX10_strike_69 : decode cX10_strike 69 = .ok (.iadd, 1) := by decide +kernel
theorem dX10_strike_70 : decode cX10_strike 70 = .ok (.iastore, 1) := by decide +kernel
theorem dX10_strike_71 : decode cX10_strike 71 = .ok (.aload_n 0, 1) := by decide +kernel
theorem dX10_strike_72 : decode cX10_strike 72 = .ok (.getfield 78, 3) := by decide +kernel
theorem dX10_strike_75 : decode cX10_strike 75 = .ok (.iconst 4, 1) := by decide +kernel
theorem dX10_strike_76 : decode cX10_strike 76 = .ok (.dup2, 1) := by decide +kernel
theorem dX10_strike_77 : decode cX10_strike 77 = .ok (.iaload, 1) := by decide +kernel
theorem dX10_strike_78 : decode cX10_strike 78 = .ok (.iconst 1, 1) := by decide +kernel
theorem dX10_strike_79 : decode cX10_strike 79 = .ok (.isub, 1) := by decide +kernel
theorem dX10_strike_80 : decode cX10_strike 80 = .ok (.iastore, 1) := by decide +kernel
theorem dX10_strike_81 : decode cX10_strike 81 = .ok (.aload_n 0, 1) := by decide +kernel
theorem dX10_strike_82 : decode cX10_strike 82 = .ok (.getfield 78, 3) := by decide +kernel
theorem dX10_strike_85 : decode cX10_strike 85 = .ok (.iconst 5, 1) := by decide +kernel
theorem dX10_strike_86 : decode cX10_strike 86 = .ok (.iconst 0, 1) := by decide +kernel
theorem dX10_strike_87 : decode cX10_strike 87 = .ok (.iastore, 1) := by decide +kernel
theorem dX10_strike_88 : decode cX10_strike 88 = .ok (.aload_n 0, 1) := by decide +kernel
theorem dX10_strike_89 : decode cX10_strike 89 = .ok (.bipush 8, 2) := by decide +kernel
theorem dX10_strike_91 : decode cX10_strike 91 = .ok (.iload_n 1, 1) := by decide +kernel
theorem dX10_strike_92 : decode cX10_strike 92 = .ok (.iload_n 2, 1) := by decide +kernel
theorem dX10_strike_93 : decode cX10_strike 93 = .ok (.ifCond .eq 7, 3) := by decide +kernel
theorem dX10_strike_96 : decode cX10_strike 96 = .ok (.iconst 1, 1) := by decide +kernel
theorem dX10_strike_97 : decode cX10_strike 97 = .ok (.goto 4, 3) := by decide +kernel
theorem dX10_strike_100 : decode cX10_strike 100 = .ok (.iconst 0, 1) := by decide +kernel
theorem dX10_strike_101 : decode cX10_strike 101 = .ok (.invokevirtual 432, 3) := by decide +kernel
theorem dX10_strike_104 : decode cX10_strike 104 = .ok (.aload_n 0, 1) := by decide +kernel
theorem dX10_strike_105 : decode cX10_strike 105 = .ok (.getfield 78, 3) := by decide +kernel
theorem dX10_strike_108 : decode cX10_strike 108 = .ok (.iconst 4, 1) := by decide +kernel
theorem dX10_strike_109 : decode cX10_strike 109 = .ok (.iaload, 1) := by decide +kernel
theorem dX10_strike_110 : decode cX10_strike 110 = .ok (.ireturn, 1) := by decide +kernel
theorem dX10_oddsOf_0 : decode cX10_oddsOf 0 = .ok (.iload_n 2, 1) := by decide +kernel
theorem dX10_oddsOf_1 : decode cX10_oddsOf 1 = .ok (.iconst 4, 1) := by decide +kernel
theorem dX10_oddsOf_2 : decode cX10_oddsOf 2 = .ok (.iload_n 3, 1) := by decide +kernel
theorem dX10_oddsOf_3 : decode cX10_oddsOf 3 = .ok (.imul, 1) := by decide +kernel
theorem dX10_oddsOf_4 : decode cX10_oddsOf 4 = .ok (.iadd, 1) := by decide +kernel
theorem dX10_oddsOf_5 : decode cX10_oddsOf 5 = .ok (.istore 4, 2) := by decide +kernel
theorem dX10_oddsOf_7 : decode cX10_oddsOf 7 = .ok (.aload_n 1, 1) := by decide +kernel
theorem dX10_oddsOf_8 : decode cX10_oddsOf 8 = .ok (.iload 4, 2) := by decide +kernel
theorem dX10_oddsOf_10 : decode cX10_oddsOf 10 = .ok (.iaload, 1) := by decide +kernel
theorem dX10_oddsOf_11 : decode cX10_oddsOf 11 = .ok (.i2l, 1) := by decide +kernel
theorem dX10_oddsOf_12 : decode cX10_oddsOf 12 = .ok (.aload_n 1, 1) := by decide +kernel
theorem dX10_oddsOf_13 : decode cX10_oddsOf 13 = .ok (.iload 4, 2) := by decide +kernel
theorem dX10_oddsOf_15 : decode cX10_oddsOf 15 = .ok (.iconst 1, 1) := by decide +kernel
theorem dX10_oddsOf_16 : decode cX10_oddsOf 16 = .ok (.iadd, 1) := by decide +kernel
theorem dX10_oddsOf_17 : decode cX10_oddsOf 17 = .ok (.iaload, 1) := by decide +kernel
theorem dX10_oddsOf_18 : decode cX10_oddsOf 18 = .ok (.i2l, 1) := by decide +kernel
theorem dX10_oddsOf_19 : decode cX10_oddsOf 19 = .ok (.ladd, 1) := by decide +kernel
theorem dX10_oddsOf_20 : decode cX10_oddsOf 20 = .ok (.aload_n 1, 1) := by decide +kernel
theorem dX10_oddsOf_21 : decode cX10_oddsOf 21 = .ok (.iload 4, 2) := by decide +kernel
theorem dX10_oddsOf_23 : decode cX10_oddsOf 23 = .ok (.iconst 2, 1) := by decide +kernel
theorem dX10_oddsOf_24 : decode cX10_oddsOf 24 = .ok (.iadd, 1) := by decide +kernel
theorem dX10_oddsOf_25 : decode cX10_oddsOf 25 = .ok (.iaload, 1) := by decide +kernel
theorem dX10_oddsOf_26 : decode cX10_oddsOf 26 = .ok (.i2l, 1) := by decide +kernel
theorem dX10_oddsOf_27 : decode cX10_oddsOf 27 = .ok (.ladd, 1) := by decide +kernel
theorem dX10_oddsOf_28 : decode cX10_oddsOf 28 = .ok (.aload_n 1, 1) := by decide +kernel
theorem dX10_oddsOf_29 : decode cX10_oddsOf 29 = .ok (.iload 4, 2) := by decide +kernel
theorem dX10_oddsOf_31 : decode cX10_oddsOf 31 = .ok (.iconst 3, 1) := by decide +kernel
theorem dX10_oddsOf_32 : decode cX10_oddsOf 32 = .ok (.iadd, 1) := by decide +kernel
theorem dX10_oddsOf_33 : decode cX10_oddsOf 33 = .ok (.iaload, 1) := by decide +kernel
theorem dX10_oddsOf_34 : decode cX10_oddsOf 34 = .ok (.i2l, 1) := by decide +kernel
theorem dX10_oddsOf_35 : decode cX10_oddsOf 35 = .ok (.ladd, 1) := by decide +kernel
theorem dX10_oddsOf_36 : decode cX10_oddsOf 36 = .ok (.lreturn, 1) := by decide +kernel
theorem dX10_sumOn_0 : decode cX10_sumOn 0 = .ok (.lconst 0, 1) := by decide +kernel
theorem dX10_sumOn_1 : decode cX10_sumOn 1 = .ok (.lstore_n 3, 1) := by decide +kernel
theorem dX10_sumOn_2 : decode cX10_sumOn 2 = .ok (.iconst 0, 1) := by decide +kernel
theorem dX10_sumOn_3 : decode cX10_sumOn 3 = .ok (.istore 5, 2) := by decide +kernel
theorem dX10_sumOn_5 : decode cX10_sumOn 5 = .ok (.iload 5, 2) := by decide +kernel
theorem dX10_sumOn_7 : decode cX10_sumOn 7 = .ok (.sipush 144, 3) := by decide +kernel
theorem dX10_sumOn_10 : decode cX10_sumOn 10 = .ok (.if_icmp .ge 39, 3) := by decide +kernel
theorem dX10_sumOn_13 : decode cX10_sumOn 13 = .ok (.lload_n 3, 1) := by decide +kernel
theorem dX10_sumOn_14 : decode cX10_sumOn 14 = .ok (.aload_n 0, 1) := by decide +kernel
theorem dX10_sumOn_15 : decode cX10_sumOn 15 = .ok (.aload_n 0, 1) := by decide +kernel
theorem dX10_sumOn_16 : decode cX10_sumOn 16 = .ok (.invokevirtual 377, 3) := by decide +kernel
theorem dX10_sumOn_19 : decode cX10_sumOn 19 = .ok (.iconst 0, 1) := by decide +kernel
theorem dX10_sumOn_20 : decode cX10_sumOn 20 = .ok (.iload 5, 2) := by decide +kernel
theorem dX10_sumOn_22 : decode cX10_sumOn 22 = .ok (.invokevirtual 327, 3) := by decide +kernel
theorem dX10_sumOn_25 : decode cX10_sumOn 25 = .ok (.iconst 1, 1) := by decide +kernel
theorem dX10_sumOn_26 : decode cX10_sumOn 26 = .ok (.if_icmp .ne 14, 3) := by decide +kernel
theorem dX10_sumOn_29 : decode cX10_sumOn 29 = .ok (.aload_n 0, 1) := by decide +kernel
theorem dX10_sumOn_30 : decode cX10_sumOn 30 = .ok (.aload_n 1, 1) := by decide +kernel
theorem dX10_sumOn_31 : decode cX10_sumOn 31 = .ok (.iload_n 2, 1) := by decide +kernel
theorem dX10_sumOn_32 : decode cX10_sumOn 32 = .ok (.iload 5, 2) := by decide +kernel
theorem dX10_sumOn_34 : decode cX10_sumOn 34 = .ok (.invokevirtual 447, 3) := by decide +kernel
theorem dX10_sumOn_37 : decode cX10_sumOn 37 = .ok (.goto 4, 3) := by decide +kernel
theorem dX10_sumOn_40 : decode cX10_sumOn 40 = .ok (.lconst 0, 1) := by decide +kernel
theorem dX10_sumOn_41 : decode cX10_sumOn 41 = .ok (.ladd, 1) := by decide +kernel
theorem dX10_sumOn_42 : decode cX10_sumOn 42 = .ok (.lstore_n 3, 1) := by decide +kernel
theorem dX10_sumOn_43 : decode cX10_sumOn 43 = .ok (.iinc 5 1, 3) := by decide +kernel
theorem dX10_sumOn_46 : decode cX10_sumOn 46 = .ok (.goto (-41), 3) := by decide +kernel
theorem dX10_sumOn_49 : decode cX10_sumOn 49 = .ok (.lload_n 3, 1) := by decide +kernel
theorem dX10_sumOn_50 : decode cX10_sumOn 50 = .ok (.lreturn, 1) := by decide +kernel
theorem dX10_surest_0 : decode cX10_surest 0 = .ok (.iconst 0, 1) := by decide +kernel
theorem dX10_surest_1 : decode cX10_surest 1 = .ok (.istore_n 3, 1) := by decide +kernel
theorem dX10_surest_2 : decode cX10_surest 2 = .ok (.iconst 1, 1) := by decide +kernel
theorem dX10_surest_3 : decode cX10_surest 3 = .ok (.istore 4, 2) := by decide +kernel
theorem dX10_surest_5 : decode cX10_surest 5 = .ok (.iload 4, 2) := by decide +kernel
theorem dX10_surest_7 : decode cX10_surest 7 = .ok (.sipush 144, 3) := by decide +kernel
theorem dX10_surest_10 : decode cX10_surest 10 = .ok (.if_icmp .ge 31, 3) := by decide +kernel
theorem dX10_surest_13 : decode cX10_surest 13 = .ok (.aload_n 0, 1) := by decide +kernel
theorem dX10_surest_14 : decode cX10_surest 14 = .ok (.aload_n 1, 1) := by decide +kernel
theorem dX10_surest_15 : decode cX10_surest 15 = .ok (.iload_n 2, 1) := by decide +kernel
theorem dX10_surest_16 : decode cX10_surest 16 = .ok (.iload 4, 2) := by decide +kernel
theorem dX10_surest_18 : decode cX10_surest 18 = .ok (.invokevirtual 447, 3) := by decide +kernel
theorem dX10_surest_21 : decode cX10_surest 21 = .ok (.aload_n 0, 1) := by decide +kernel
theorem dX10_surest_22 : decode cX10_surest 22 = .ok (.aload_n 1, 1) := by decide +kernel
theorem dX10_surest_23 : decode cX10_surest 23 = .ok (.iload_n 2, 1) := by decide +kernel
theorem dX10_surest_24 : decode cX10_surest 24 = .ok (.iload_n 3, 1) := by decide +kernel
theorem dX10_surest_25 : decode cX10_surest 25 = .ok (.invokevirtual 447, 3) := by decide +kernel
theorem dX10_surest_28 : decode cX10_surest 28 = .ok (.lcmp, 1) := by decide +kernel
theorem dX10_surest_29 : decode cX10_surest 29 = .ok (.ifCond .le 6, 3) := by decide +kernel
theorem dX10_surest_32 : decode cX10_surest 32 = .ok (.iload 4, 2) := by decide +kernel
theorem dX10_surest_34 : decode cX10_surest 34 = .ok (.istore_n 3, 1) := by decide +kernel
theorem dX10_surest_35 : decode cX10_surest 35 = .ok (.iinc 4 1, 3) := by decide +kernel
theorem dX10_surest_38 : decode cX10_surest 38 = .ok (.goto (-33), 3) := by decide +kernel
theorem dX10_surest_41 : decode cX10_surest 41 = .ok (.iload_n 3, 1) := by decide +kernel
theorem dX10_surest_42 : decode cX10_surest 42 = .ok (.ireturn, 1) := by decide +kernel
theorem dX10_riskOf_0 : decode cX10_riskOf 0 = .ok (.lconst 0, 1) := by decide +kernel
theorem dX10_riskOf_1 : decode cX10_riskOf 1 = .ok (.lstore_n 3, 1) := by decide +kernel
theorem dX10_riskOf_2 : decode cX10_riskOf 2 = .ok (.iconst 0, 1) := by decide +kernel
theorem dX10_riskOf_3 : decode cX10_riskOf 3 = .ok (.istore 5, 2) := by decide +kernel
theorem dX10_riskOf_5 : decode cX10_riskOf 5 = .ok (.iload 5, 2) := by decide +kernel
theorem dX10_riskOf_7 : decode cX10_riskOf 7 = .ok (.sipush 144, 3) := by decide +kernel
theorem dX10_riskOf_10 : decode cX10_riskOf 10 = .ok (.if_icmp .ge 37, 3) := by decide +kernel
theorem dX10_riskOf_13 : decode cX10_riskOf 13 = .ok (.lload_n 3, 1) := by decide +kernel
theorem dX10_riskOf_14 : decode cX10_riskOf 14 = .ok (.aload_n 0, 1) := by decide +kernel
theorem dX10_riskOf_15 : decode cX10_riskOf 15 = .ok (.aload_n 1, 1) := by decide +kernel
theorem dX10_riskOf_16 : decode cX10_riskOf 16 = .ok (.iload_n 2, 1) := by decide +kernel
theorem dX10_riskOf_17 : decode cX10_riskOf 17 = .ok (.iload 5, 2) := by decide +kernel
theorem dX10_riskOf_19 : decode cX10_riskOf 19 = .ok (.invokevirtual 447, 3) := by decide +kernel
theorem dX10_riskOf_22 : decode cX10_riskOf 22 = .ok (.aload_n 0, 1) := by decide +kernel
theorem dX10_riskOf_23 : decode cX10_riskOf 23 = .ok (.aload_n 0, 1) := by decide +kernel
theorem dX10_riskOf_24 : decode cX10_riskOf 24 = .ok (.invokevirtual 377, 3) := by decide +kernel
theorem dX10_riskOf_27 : decode cX10_riskOf 27 = .ok (.iconst 4, 1) := by decide +kernel
theorem dX10_riskOf_28 : decode cX10_riskOf 28 = .ok (.iload 5, 2) := by decide +kernel
theorem dX10_riskOf_30 : decode cX10_riskOf 30 = .ok (.invokevirtual 327, 3) := by decide +kernel
theorem dX10_riskOf_33 : decode cX10_riskOf 33 = .ok (.i2l, 1) := by decide +kernel
theorem dX10_riskOf_34 : decode cX10_riskOf 34 = .ok (.lmul, 1) := by decide +kernel
theorem dX10_riskOf_35 : decode cX10_riskOf 35 = .ok (.ldc2_w 386, 3) := by decide +kernel
theorem dX10_riskOf_38 : decode cX10_riskOf 38 = .ok (.ldiv, 1) := by decide +kernel
theorem dX10_riskOf_39 : decode cX10_riskOf 39 = .ok (.ladd, 1) := by decide +kernel
theorem dX10_riskOf_40 : decode cX10_riskOf 40 = .ok (.lstore_n 3, 1) := by decide +kernel
theorem dX10_riskOf_41 : decode cX10_riskOf 41 = .ok (.iinc 5 1, 3) := by decide +kernel
theorem dX10_riskOf_44 : decode cX10_riskOf 44 = .ok (.goto (-39), 3) := by decide +kernel
theorem dX10_riskOf_47 : decode cX10_riskOf 47 = .ok (.lload_n 3, 1) := by decide +kernel
theorem dX10_riskOf_48 : decode cX10_riskOf 48 = .ok (.lreturn, 1) := by decide +kernel
theorem dX10_odds_0 : decode cX10_odds 0 = .ok (.aload_n 0, 1) := by decide +kernel
theorem dX10_odds_1 : decode cX10_odds 1 = .ok (.invokevirtual 420, 3) := by decide +kernel
theorem dX10_odds_4 : decode cX10_odds 4 = .ok (.ifCond .eq 30, 3) := by decide +kernel
theorem dX10_odds_7 : decode cX10_odds 7 = .ok (.aload_n 0, 1) := by decide +kernel
theorem dX10_odds_8 : decode cX10_odds 8 = .ok (.aload_n 0, 1) := by decide +kernel
theorem dX10_odds_9 : decode cX10_odds 9 = .ok (.invokevirtual 377, 3) := by decide +kernel
theorem dX10_odds_12 : decode cX10_odds 12 = .ok (.iload_n 1, 1) := by decide +kernel
theorem dX10_odds_13 : decode cX10_odds 13 = .ok (.iload_n 2, 1) := by decide +kernel
theorem dX10_odds_14 : decode cX10_odds 14 = .ok (.invokevirtual 323, 3) := by decide +kernel
theorem dX10_odds_17 : decode cX10_odds 17 = .ok (.ifCond .eq 17, 3) := by decide +kernel
theorem dX10_odds_20 : decode cX10_odds 20 = .ok (.iload_n 3, 1) := by decide +kernel
theorem dX10_odds_21 : decode cX10_odds 21 = .ok (.i2l, 1) := by decide +kernel
theorem dX10_odds_22 : decode cX10_odds 22 = .ok (.ldc2_w 451, 3) := by decide +kernel
theorem dX10_odds_25 : decode cX10_odds 25 = .ok (.ldc2_w 367, 3) := by decide +kernel
theorem dX10_odds_28 : decode cX10_odds 28 = .ok (.invokestatic 144, 3) := by decide +kernel
theorem dX10_odds_31 : decode cX10_odds 31 = .ok (.ifCond .ne 5, 3) := by decide +kernel
theorem dX10_odds_34 : decode cX10_odds 34 = .ok (.iconst (-1), 1) := by decide +kernel
theorem dX10_odds_35 : decode cX10_odds 35 = .ok (.ireturn, 1) := by decide +kernel
theorem dX10_odds_36 : decode cX10_odds 36 = .ok (.bipush 12, 2) := by decide +kernel
theorem dX10_odds_38 : decode cX10_odds 38 = .ok (.iload_n 2, 1) := by decide +kernel
theorem dX10_odds_39 : decode cX10_odds 39 = .ok (.imul, 1) := by decide +kernel
theorem dX10_odds_40 : decode cX10_odds 40 = .ok (.iload_n 1, 1) := by decide +kernel
theorem dX10_odds_41 : decode cX10_odds 41 = .ok (.iadd, 1) := by decide +kernel
theorem dX10_odds_42 : decode cX10_odds 42 = .ok (.istore 4, 2) := by decide +kernel
theorem dX10_odds_44 : decode cX10_odds 44 = .ok (.iload_n 3, 1) := by decide +kernel
theorem dX10_odds_45 : decode cX10_odds 45 = .ok (.iconst (-1), 1) := by decide +kernel
theorem dX10_odds_46 : decode cX10_odds 46 = .ok (.if_icmp .ne 19, 3) := by decide +kernel
theorem dX10_odds_49 : decode cX10_odds 49 = .ok (.aload_n 0, 1) := by decide +kernel
theorem dX10_odds_50 : decode cX10_odds 50 = .ok (.aload_n 0, 1) := by decide +kernel
theorem dX10_odds_51 : decode cX10_odds 51 = .ok (.getfield 78, 3) := by decide +kernel
theorem dX10_odds_54 : decode cX10_odds 54 = .ok (.bipush 6, 2) := by decide +kernel
theorem dX10_odds_56 : decode cX10_odds 56 = .ok (.iload 4, 2) := by decide +kernel
theorem dX10_odds_58 : decode cX10_odds 58 = .ok (.invokevirtual 447, 3) := by decide +kernel
theorem dX10_odds_61 : decode cX10_odds 61 = .ok (.l2i, 1) := by decide +kernel
theorem dX10_odds_62 : decode cX10_odds 62 = .ok (.goto 17, 3) := by decide +kernel
theorem dX10_odds_65 : decode cX10_odds 65 = .ok (.aload_n 0, 1) := by decide +kernel
theorem dX10_odds_66 : decode cX10_odds 66 = .ok (.getfield 78, 3) := by decide +kernel
theorem dX10_odds_69 : decode cX10_odds 69 = .ok (.bipush 6, 2) := by decide +kernel
theorem dX10_odds_71 : decode cX10_odds 71 = .ok (.iconst 4, 1) := by decide +kernel
theorem dX10_odds_72 : decode cX10_odds 72 = .ok (.iload 4, 2) := by decide +kernel
theorem dX10_odds_74 : decode cX10_odds 74 = .ok (.imul, 1) := by decide +kernel
theorem dX10_odds_75 : decode cX10_odds 75 = .ok (.iadd, 1) := by decide +kernel
theorem dX10_odds_76 : decode cX10_odds 76 = .ok (.iload_n 3, 1) := by decide +kernel
theorem dX10_odds_77 : decode cX10_odds 77 = .ok (.iadd, 1) := by decide +kernel
theorem dX10_odds_78 : decode cX10_odds 78 = .ok (.iaload, 1) := by decide +kernel
theorem dX10_odds_79 : decode cX10_odds 79 = .ok (.ireturn, 1) := by decide +kernel
theorem dX10_all_0 : decode cX10_all 0 = .ok (.aload_n 0, 1) := by decide +kernel
theorem dX10_all_1 : decode cX10_all 1 = .ok (.invokevirtual 420, 3) := by decide +kernel
theorem dX10_all_4 : decode cX10_all 4 = .ok (.ifCond .eq 15, 3) := by decide +kernel
theorem dX10_all_7 : decode cX10_all 7 = .ok (.iload_n 1, 1) := by decide +kernel
theorem dX10_all_8 : decode cX10_all 8 = .ok (.i2l, 1) := by decide +kernel
theorem dX10_all_9 : decode cX10_all 9 = .ok (.lconst 0, 1) := by decide +kernel
theorem dX10_all_10 : decode cX10_all 10 = .ok (.ldc2_w 453, 3) := by decide +kernel
theorem dX10_all_13 : decode cX10_all 13 = .ok (.invokestatic 144, 3) := by decide +kernel
theorem dX10_all_16 : decode cX10_all 16 = .ok (.ifCond .ne 5, 3) := by decide +kernel
theorem dX10_all_19 : decode cX10_all 19 = .ok (.iconst (-1), 1) := by decide +kernel
theorem dX10_all_20 : decode cX10_all 20 = .ok (.ireturn, 1) := by decide +kernel
theorem dX10_all_21 : decode cX10_all 21 = .ok (.aload_n 0, 1) := by decide +kernel
theorem dX10_all_22 : decode cX10_all 22 = .ok (.aload_n 0, 1) := by decide +kernel
theorem dX10_all_23 : decode cX10_all 23 = .ok (.getfield 78, 3) := by decide +kernel
theorem dX10_all_26 : decode cX10_all 26 = .ok (.bipush 6, 2) := by decide +kernel
theorem dX10_all_28 : decode cX10_all 28 = .ok (.invokevirtual 455, 3) := by decide +kernel
theorem dX10_all_31 : decode cX10_all 31 = .ok (.istore_n 2, 1) := by decide +kernel
theorem dX10_all_32 : decode cX10_all 32 = .ok (.lconst 0, 1) := by decide +kernel
theorem dX10_all_33 : decode cX10_all 33 = .ok (.lstore_n 3, 1) := by decide +kernel
theorem dX10_all_34 : decode cX10_all 34 = .ok (.iload_n 1, 1) := by decide +kernel
theorem dX10_all_35 : decode cX10_all 35 = .ok (.tableswitch 104 0 5 #[37, 49, 69, 82, 87, 92], 37) := by decide +kernel
theorem dX10_all_72 : decode cX10_all 72 = .ok (.aload_n 0, 1) := by decide +kernel
theorem dX10_all_73 : decode cX10_all 73 = .ok (.aload_n 0, 1) := by decide +kernel
theorem dX10_all_74 : decode cX10_all 74 = .ok (.getfield 78, 3) := by decide +kernel
theorem dX10_all_77 : decode cX10_all 77 = .ok (.bipush 6, 2) := by decide +kernel
theorem dX10_all_79 : decode cX10_all 79 = .ok (.invokevirtual 414, 3) := by decide +kernel
theorem dX10_all_82 : decode cX10_all 82 = .ok (.l2i, 1) := by decide +kernel
theorem dX10_all_83 : decode cX10_all 83 = .ok (.ireturn, 1) := by decide +kernel
theorem dX10_all_84 : decode cX10_all 84 = .ok (.aload_n 0, 1) := by decide +kernel
theorem dX10_all_85 : decode cX10_all 85 = .ok (.aload_n 0, 1) := by decide +kernel
theorem dX10_all_86 : decode cX10_all 86 = .ok (.getfield 78, 3) := by decide +kernel
theorem dX10_all_89 : decode cX10_all 89 = .ok (.bipush 6, 2) := by decide +kernel
theorem dX10_all_91 : decode cX10_all 91 = .ok (.aload_n 0, 1) := by decide +kernel
theorem dX10_all_92 : decode cX10_all 92 = .ok (.aload_n 0, 1) := by decide +kernel
theorem dX10_all_93 : decode cX10_all 93 = .ok (.invokevirtual 377, 3) := by decide +kernel
theorem dX10_all_96 : decode cX10_all 96 = .ok (.invokevirtual 317, 3) := by decide +kernel
theorem dX10_all_99 : decode cX10_all 99 = .ok (.invokevirtual 447, 3) := by decide +kernel
theorem dX10_all_102 : decode cX10_all 102 = .ok (.l2i, 1) := by decide +kernel
theorem dX10_all_103 : decode cX10_all 103 = .ok (.ireturn, 1) := by decide +kernel
theorem dX10_all_104 : decode cX10_all 104 = .ok (.aload_n 0, 1) := by decide +kernel
theorem dX10_all_105 : decode cX10_all 105 = .ok (.aload_n 0, 1) := by decide +kernel
theorem dX10_all_106 : decode cX10_all 106 = .ok (.getfield 78, 3) := by decide +kernel
theorem dX10_all_109 : decode cX10_all 109 = .ok (.bipush 6, 2) := by decide +kernel
theorem dX10_all_111 : decode cX10_all 111 = .ok (.iload_n 2, 1) := by decide +kernel
theorem dX10_all_112 : decode cX10_all 112 = .ok (.invokevirtual 447, 3) := by decide +kernel
theorem dX10_all_115 : decode cX10_all 115 = .ok (.l2i, 1) := by decide +kernel
theorem dX10_all_116 : decode cX10_all 116 = .ok (.ireturn, 1) := by decide +kernel
theorem dX10_all_117 : decode cX10_all 117 = .ok (.iload_n 2, 1) := by decide +kernel
theorem dX10_all_118 : decode cX10_all 118 = .ok (.bipush 12, 2) := by decide +kernel
theorem dX10_all_120 : decode cX10_all 120 = .ok (.irem, 1) := by decide +kernel
theorem dX10_all_121 : decode cX10_all 121 = .ok (.ireturn, 1) := by decide +kernel
theorem dX10_all_122 : decode cX10_all 122 = .ok (.iload_n 2, 1) := by decide +kernel
theorem dX10_all_123 : decode cX10_all 123 = .ok (.bipush 12, 2) := by decide +kernel
theorem dX10_all_125 : decode cX10_all 125 = .ok (.idiv, 1) := by decide +kernel
theorem dX10_all_126 : decode cX10_all 126 = .ok (.ireturn, 1) := by decide +kernel
theorem dX10_all_127 : decode cX10_all 127 = .ok (.aload_n 0, 1) := by decide +kernel
theorem dX10_all_128 : decode cX10_all 128 = .ok (.aload_n 0, 1) := by decide +kernel
theorem dX10_all_129 : decode cX10_all 129 = .ok (.getfield 78, 3) := by decide +kernel
theorem dX10_all_132 : decode cX10_all 132 = .ok (.bipush 6, 2) := by decide +kernel
theorem dX10_all_134 : decode cX10_all 134 = .ok (.invokevirtual 459, 3) := by decide +kernel
theorem dX10_all_137 : decode cX10_all 137 = .ok (.l2i, 1) := by decide +kernel
theorem dX10_all_138 : decode cX10_all 138 = .ok (.ireturn, 1) := by decide +kernel
theorem dX10_all_139 : decode cX10_all 139 = .ok (.iconst 0, 1) := by decide +kernel
theorem dX10_all_140 : decode cX10_all 140 = .ok (.istore 5, 2) := by decide +kernel
theorem dX10_all_142 : decode cX10_all 142 = .ok (.iload 5, 2) := by decide +kernel
theorem dX10_all_144 : decode cX10_all 144 = .ok (.sipush 576, 3) := by decide +kernel
theorem dX10_all_147 : decode cX10_all 147 = .ok (.if_icmp .ge 44, 3) := by decide +kernel
theorem dX10_all_150 : decode cX10_all 150 = .ok (.lload_n 3, 1) := by decide +kernel
theorem dX10_all_151 : decode cX10_all 151 = .ok (.iload_n 1, 1) := by decide +kernel
theorem dX10_all_152 : decode cX10_all 152 = .ok (.bipush 6, 2) := by decide +kernel
theorem dX10_all_154 : decode cX10_all 154 = .ok (.if_icmp .eq 14, 3) := by decide +kernel
theorem dX10_all_157 : decode cX10_all 157 = .ok (.iload 5, 2) := by decide +kernel
theorem dX10_all_159 : decode cX10_all 159 = .ok (.iconst 4, 1) := by decide +kernel
theorem dX10_all_160 : decode cX10_all 160 = .ok (.irem, 1) := by decide +kernel
theorem dX10_all_161 : decode cX10_all 161 = .ok (.iload_n 1, 1) := by decide +kernel
theorem dX10_all_162 : decode cX10_all 162 = .ok (.bipush 7, 2) := by decide +kernel
theorem dX10_all_164 : decode cX10_all 164 = .ok (.isub, 1) := by decide +kernel
theorem dX10_all_165 : decode cX10_all 165 = .ok (.if_icmp .ne 17, 3) := by decide +kernel
theorem dX10_all_168 : decode cX10_all 168 = .ok (.aload_n 0, 1) := by decide +kernel
theorem dX10_all_169 : decode cX10_all 169 = .ok (.getfield 78, 3) := by decide +kernel
theorem dX10_all_172 : decode cX10_all 172 = .ok (.bipush 6, 2) := by decide +kernel
theorem dX10_all_174 : decode cX10_all 174 = .ok (.iload 5, 2) := by decide +kernel
theorem dX10_all_176 : decode cX10_all 176 = .ok (.iadd, 1) := by decide +kernel
theorem dX10_all_177 : decode cX10_all 177 = .ok (.iaload, 1) := by decide +kernel
theorem dX10_all_178 : decode cX10_all 178 = .ok (.i2l, 1) := by decide +kernel
theorem dX10_all_179 : decode cX10_all 179 = .ok (.goto 4, 3) := by decide +kernel
theorem dX10_all_182 : decode cX10_all 182 = .ok (.lconst 0, 1) := by decide +kernel
theorem dX10_all_183 : decode cX10_all 183 = .ok (.ladd, 1) := by decide +kernel
theorem dX10_all_184 : decode cX10_all 184 = .ok (.lstore_n 3, 1) := by decide +kernel
theorem dX10_all_185 : decode cX10_all 185 = .ok (.iinc 5 1, 3) := by decide +kernel
theorem dX10_all_188 : decode cX10_all 188 = .ok (.goto (-46), 3) := by decide +kernel
theorem dX10_all_191 : decode cX10_all 191 = .ok (.lload_n 3, 1) := by decide +kernel
theorem dX10_all_192 : decode cX10_all 192 = .ok (.l2i, 1) := by decide +kernel
theorem dX10_all_193 : decode cX10_all 193 = .ok (.ireturn, 1) := by decide +kernel
theorem dX10_tryBegins_0 : decode cX10_tryBegins 0 = .ok (.iconst 0, 1) := by decide +kernel
theorem dX10_tryBegins_1 : decode cX10_tryBegins 1 = .ok (.istore_n 1, 1) := by decide +kernel
theorem dX10_tryBegins_2 : decode cX10_tryBegins 2 = .ok (.iload_n 1, 1) := by decide +kernel
theorem dX10_tryBegins_3 : decode cX10_tryBegins 3 = .ok (.sipush 576, 3) := by decide +kernel
theorem dX10_tryBegins_6 : decode cX10_tryBegins 6 = .ok (.if_icmp .ge 24, 3) := by decide +kernel
theorem dX10_tryBegins_9 : decode cX10_tryBegins 9 = .ok (.aload_n 0, 1) := by decide +kernel
theorem dX10_tryBegins_10 : decode cX10_tryBegins 10 = .ok (.getfield 81, 3) := by decide +kernel
theorem dX10_tryBegins_13 : decode cX10_tryBegins 13 = .ok (.iload_n 1, 1) := by decide +kernel
theorem dX10_tryBegins_14 : decode cX10_tryBegins 14 = .ok (.aload_n 0, 1) := by decide +kernel
theorem dX10_tryBegins_15 : decode cX10_tryBegins 15 = .ok (.getfield 78, 3) := by decide +kernel
theorem dX10_tryBegins_18 : decode cX10_tryBegins 18 = .ok (.bipush 6, 2) := by decide +kernel
theorem dX10_tryBegins_20 : decode cX10_tryBegins 20 = .ok (.iload_n 1, 1) := by decide +kernel
theorem dX10_tryBegins_21 : decode cX10_tryBegins 21 = .ok (.iadd, 1) := by decide +kernel
theorem dX10_tryBegins_22 : decode cX10_tryBegins 22 = .ok (.iaload, 1) := by decide +kernel
theorem dX10_tryBegins_23 : decode cX10_tryBegins 23 = .ok (.iastore, 1) := by decide +kernel
theorem dX10_tryBegins_24 : decode cX10_tryBegins 24 = .ok (.iinc 1 1, 3) := by decide +kernel
theorem dX10_tryBegins_27 : decode cX10_tryBegins 27 = .ok (.goto (-25), 3) := by decide +kernel
theorem dX10_tryBegins_30 : decode cX10_tryBegins 30 = .ok (.aload_n 0, 1) := by decide +kernel
theorem dX10_tryBegins_31 : decode cX10_tryBegins 31 = .ok (.aload_n 0, 1) := by decide +kernel
theorem dX10_tryBegins_32 : decode cX10_tryBegins 32 = .ok (.getfield 78, 3) := by decide +kernel
theorem dX10_tryBegins_35 : decode cX10_tryBegins 35 = .ok (.iconst 5, 1) := by decide +kernel
theorem dX10_tryBegins_36 : decode cX10_tryBegins 36 = .ok (.iaload, 1) := by decide +kernel
theorem dX10_tryBegins_37 : decode cX10_tryBegins 37 = .ok (.putfield 462, 3) := by decide +kernel
theorem dX10_tryBegins_40 : decode cX10_tryBegins 40 = .ok (.return_, 1) := by decide +kernel
theorem dX10_comesHome_0 : decode cX10_comesHome 0 = .ok (.iconst 4, 1) := by decide +kernel
theorem dX10_comesHome_1 : decode cX10_comesHome 1 = .ok (.aload_n 0, 1) := by decide +kernel
theorem dX10_comesHome_2 : decode cX10_comesHome 2 = .ok (.aload_n 0, 1) := by decide +kernel
theorem dX10_comesHome_3 : decode cX10_comesHome 3 = .ok (.invokevirtual 377, 3) := by decide +kernel
theorem dX10_comesHome_6 : decode cX10_comesHome 6 = .ok (.invokevirtual 317, 3) := by decide +kernel
theorem dX10_comesHome_9 : decode cX10_comesHome 9 = .ok (.imul, 1) := by decide +kernel
theorem dX10_comesHome_10 : decode cX10_comesHome 10 = .ok (.istore_n 1, 1) := by decide +kernel
theorem dX10_comesHome_11 : decode cX10_comesHome 11 = .ok (.aload_n 0, 1) := by decide +kernel
theorem dX10_comesHome_12 : decode cX10_comesHome 12 = .ok (.dup, 1) := by decide +kernel
theorem dX10_comesHome_13 : decode cX10_comesHome 13 = .ok (.getfield 465, 3) := by decide +kernel
theorem dX10_comesHome_16 : decode cX10_comesHome 16 = .ok (.aload_n 0, 1) := by decide +kernel
theorem dX10_comesHome_17 : decode cX10_comesHome 17 = .ok (.aload_n 0, 1) := by decide +kernel
theorem dX10_comesHome_18 : decode cX10_comesHome 18 = .ok (.getfield 81, 3) := by decide +kernel
theorem dX10_comesHome_21 : decode cX10_comesHome 21 = .ok (.iconst 0, 1) := by decide +kernel
theorem dX10_comesHome_22 : decode cX10_comesHome 22 = .ok (.aload_n 0, 1) := by decide +kernel
theorem dX10_comesHome_23 : decode cX10_comesHome 23 = .ok (.aload_n 0, 1) := by decide +kernel
theorem dX10_comesHome_24 : decode cX10_comesHome 24 = .ok (.invokevirtual 377, 3) := by decide +kernel
theorem dX10_comesHome_27 : decode cX10_comesHome 27 = .ok (.invokevirtual 317, 3) := by decide +kernel
theorem dX10_comesHome_30 : decode cX10_comesHome 30 = .ok (.invokevirtual 447, 3) := by decide +kernel
theorem dX10_comesHome_33 : decode cX10_comesHome 33 = .ok (.ladd, 1) := by decide +kernel
theorem dX10_comesHome_34 : decode cX10_comesHome 34 = .ok (.putfield 465, 3) := by decide +kernel
theorem dX10_comesHome_37 : decode cX10_comesHome 37 = .ok (.iconst 0, 1) := by decide +kernel
theorem dX10_comesHome_38 : decode cX10_comesHome 38 = .ok (.istore_n 2, 1) := by decide +kernel
theorem dX10_comesHome_39 : decode cX10_comesHome 39 = .ok (.iload_n 2, 1) := by decide +kernel
theorem dX10_comesHome_40 : decode cX10_comesHome 40 = .ok (.iconst 4, 1) := by decide +kernel
theorem dX10_comesHome_41 : decode cX10_comesHome 41 = .ok (.if_icmp .ge 18, 3) := by decide +kernel
theorem dX10_comesHome_44 : decode cX10_comesHome 44 = .ok (.aload_n 0, 1) := by decide +kernel
theorem dX10_comesHome_45 : decode cX10_comesHome 45 = .ok (.getfield 81, 3) := by decide +kernel
theorem dX10_comesHome_48 : decode cX10_comesHome 48 = .ok (.iload_n 1, 1) := by decide +kernel
theorem dX10_comesHome_49 : decode cX10_comesHome 49 = .ok (.iload_n 2, 1) := by decide +kernel
theorem dX10_comesHome_50 : decode cX10_comesHome 50 = .ok (.iadd, 1) := by decide +kernel
theorem dX10_comesHome_51 : decode cX10_comesHome 51 = .ok (.iconst 0, 1) := by decide +kernel
theorem dX10_comesHome_52 : decode cX10_comesHome 52 = .ok (.iastore, 1) := by decide +kernel
theorem dX10_comesHome_53 : decode cX10_comesHome 53 = .ok (.iinc 2 1, 3) := by decide +kernel
theorem dX10_comesHome_56 : decode cX10_comesHome 56 = .ok (.goto (-17), 3) := by decide +kernel
theorem dX10_comesHome_59 : decode cX10_comesHome 59 = .ok (.return_, 1) := by decide +kernel
theorem dX10_goesRow_0 : decode cX10_goesRow 0 = .ok (.aload_n 0, 1) := by decide +kernel
theorem dX10_goesRow_1 : decode cX10_goesRow 1 = .ok (.invokevirtual 469, 3) := by decide +kernel
theorem dX10_goesRow_4 : decode cX10_goesRow 4 = .ok (.aload_n 0, 1) := by decide +kernel
theorem dX10_goesRow_5 : decode cX10_goesRow 5 = .ok (.lconst 0, 1) := by decide +kernel
theorem dX10_goesRow_6 : decode cX10_goesRow 6 = .ok (.putfield 465, 3) := by decide +kernel
theorem dX10_goesRow_9 : decode cX10_goesRow 9 = .ok (.aload_n 0, 1) := by decide +kernel
theorem dX10_goesRow_10 : decode cX10_goesRow 10 = .ok (.lconst 0, 1) := by decide +kernel
theorem dX10_goesRow_11 : decode cX10_goesRow 11 = .ok (.putfield 472, 3) := by decide +kernel
theorem dX10_goesRow_14 : decode cX10_goesRow 14 = .ok (.aload_n 0, 1) := by decide +kernel
theorem dX10_goesRow_15 : decode cX10_goesRow 15 = .ok (.invokevirtual 475, 3) := by decide +kernel
theorem dX10_goesRow_18 : decode cX10_goesRow 18 = .ok (.iload_n 2, 1) := by decide +kernel
theorem dX10_goesRow_19 : decode cX10_goesRow 19 = .ok (.istore_n 3, 1) := by decide +kernel
theorem dX10_goesRow_20 : decode cX10_goesRow 20 = .ok (.iconst 0, 1) := by decide +kernel
theorem dX10_goesRow_21 : decode cX10_goesRow 21 = .ok (.istore 4, 2) := by decide +kernel
theorem dX10_goesRow_23 : decode cX10_goesRow 23 = .ok (.iload 4, 2) := by decide +kernel
theorem dX10_goesRow_25 : decode cX10_goesRow 25 = .ok (.iload_n 1, 1) := by decide +kernel
theorem dX10_goesRow_26 : decode cX10_goesRow 26 = .ok (.if_icmp .ge 76, 3) := by decide +kernel
theorem dX10_goesRow_29 : decode cX10_goesRow 29 = .ok (.iload_n 3, 1) := by decide +kernel
theorem dX10_goesRow_30 : decode cX10_goesRow 30 = .ok (.iconst 4, 1) := by decide +kernel
theorem dX10_goesRow_31 : decode cX10_goesRow 31 = .ok (.irem, 1) := by decide +kernel
theorem dX10_goesRow_32 : decode cX10_goesRow 32 = .ok (.istore 5, 2) := by decide +kernel
theorem dX10_goesRow_34 : decode cX10_goesRow 34 = .ok (.iload_n 3, 1) := by decide +kernel
theorem dX10_goesRow_35 : decode cX10_goesRow 35 = .ok (.iconst 4, 1) := by decide +kernel
theorem dX10_goesRow_36 : decode cX10_goesRow 36 = .ok (.idiv, 1) := by decide +kernel
theorem dX10_goesRow_37 : decode cX10_goesRow 37 = .ok (.istore_n 3, 1) := by decide +kernel
theorem dX10_goesRow_38 : decode cX10_goesRow 38 = .ok (.iload 5, 2) := by decide +kernel
theorem dX10_goesRow_40 : decode cX10_goesRow 40 = .ok (.ifCond .ne 21, 3) := by decide +kernel
theorem dX10_goesRow_43 : decode cX10_goesRow 43 = .ok (.aload_n 0, 1) := by decide +kernel
theorem dX10_goesRow_44 : decode cX10_goesRow 44 = .ok (.dup, 1) := by decide +kernel
theorem dX10_goesRow_45 : decode cX10_goesRow 45 = .ok (.getfield 472, 3) := by decide +kernel
theorem dX10_goesRow_48 : decode cX10_goesRow 48 = .ok (.aload_n 0, 1) := by decide +kernel
theorem dX10_goesRow_49 : decode cX10_goesRow 49 = .ok (.aload_n 0, 1) := by decide +kernel
theorem dX10_goesRow_50 : decode cX10_goesRow 50 = .ok (.getfield 81, 3) := by decide +kernel
theorem dX10_goesRow_53 : decode cX10_goesRow 53 = .ok (.iconst 0, 1) := by decide +kernel
theorem dX10_goesRow_54 : decode cX10_goesRow 54 = .ok (.invokevirtual 459, 3) := by decide +kernel
theorem dX10_goesRow_57 : decode cX10_goesRow 57 = .ok (.ladd, 1) := by decide +kernel
theorem dX10_goesRow_58 : decode cX10_goesRow 58 = .ok (.putfield 472, 3) := by decide +kernel
theorem dX10_goesRow_61 : decode cX10_goesRow 61 = .ok (.aload_n 0, 1) := by decide +kernel
theorem dX10_goesRow_62 : decode cX10_goesRow 62 = .ok (.aload_n 0, 1) := by decide +kernel
theorem dX10_goesRow_63 : decode cX10_goesRow 63 = .ok (.getfield 81, 3) := by decide +kernel
