theorem d_c_sideIn_0 : decode prog_4_method_3_code 0 = .ok (.iload_n 1, 1) := by decide +kernel
theorem d_c_sideIn_1 : decode prog_4_method_3_code 1 = .ok (.ifCond .ne 17, 3) := by decide +kernel
theorem d_c_sideIn_4 : decode prog_4_method_3_code 4 = .ok (.aload_n 0, 1) := by decide +kernel
theorem d_c_sideIn_5 : decode prog_4_method_3_code 5 = .ok (.getfield 15, 3) := by decide +kernel
theorem d_c_sideIn_8 : decode prog_4_method_3_code 8 = .ok (.iload_n 2, 1) := by decide +kernel
theorem d_c_sideIn_9 : decode prog_4_method_3_code 9 = .ok (.aload_n 0, 1) := by decide +kernel
theorem d_c_sideIn_10 : decode prog_4_method_3_code 10 = .ok (.getfield 22, 3) := by decide +kernel
theorem d_c_sideIn_13 : decode prog_4_method_3_code 13 = .ok (.imul, 1) := by decide +kernel
theorem d_c_sideIn_14 : decode prog_4_method_3_code 14 = .ok (.iadd, 1) := by decide +kernel
theorem d_c_sideIn_15 : decode prog_4_method_3_code 15 = .ok (.goto 14, 3) := by decide +kernel
theorem d_c_sideIn_18 : decode prog_4_method_3_code 18 = .ok (.aload_n 0, 1) := by decide +kernel
theorem d_c_sideIn_19 : decode prog_4_method_3_code 19 = .ok (.getfield 19, 3) := by decide +kernel
theorem d_c_sideIn_22 : decode prog_4_method_3_code 22 = .ok (.iload_n 2, 1) := by decide +kernel
theorem d_c_sideIn_23 : decode prog_4_method_3_code 23 = .ok (.aload_n 0, 1) := by decide +kernel
theorem d_c_sideIn_24 : decode prog_4_method_3_code 24 = .ok (.getfield 25, 3) := by decide +kernel
theorem d_c_sideIn_27 : decode prog_4_method_3_code 27 = .ok (.imul, 1) := by decide +kernel
theorem d_c_sideIn_28 : decode prog_4_method_3_code 28 = .ok (.iadd, 1) := by decide +kernel
theorem d_c_sideIn_29 : decode prog_4_method_3_code 29 = .ok (.ireturn, 1) := by decide +kernel
theorem d_k_isBetterTurned_0 : decode prog_2_method_5_code 0 = .ok (.iload_n 2, 1) := by decide +kernel
theorem d_k_isBetterTurned_1 : decode prog_2_method_5_code 1 = .ok (.aload_n 0, 1) := by decide +kernel
theorem d_k_isBetterTurned_2 : decode prog_2_method_5_code 2 = .ok (.getfield 41, 3) := by decide +kernel
theorem d_k_isBetterTurned_5 : decode prog_2_method_5_code 5 = .ok (.if_icmp .gt 20, 3) := by decide +kernel
theorem d_k_isBetterTurned_8 : decode prog_2_method_5_code 8 = .ok (.iload_n 1, 1) := by decide +kernel
theorem d_k_isBetterTurned_9 : decode prog_2_method_5_code 9 = .ok (.aload_n 0, 1) := by decide +kernel
theorem d_k_isBetterTurned_10 : decode prog_2_method_5_code 10 = .ok (.getfield 41, 3) := by decide +kernel
theorem d_k_isBetterTurned_13 : decode prog_2_method_5_code 13 = .ok (.if_icmp .gt 8, 3) := by decide +kernel
theorem d_k_isBetterTurned_16 : decode prog_2_method_5_code 16 = .ok (.iload_n 1, 1) := by decide +kernel
theorem d_k_isBetterTurned_17 : decode prog_2_method_5_code 17 = .ok (.iload_n 2, 1) := by decide +kernel
theorem d_k_isBetterTurned_18 : decode prog_2_method_5_code 18 = .ok (.if_icmp .ge 7, 3) := by decide +kernel
theorem d_k_isBetterTurned_21 : decode prog_2_method_5_code 21 = .ok (.iconst 1, 1) := by decide +kernel
theorem d_k_isBetterTurned_22 : decode prog_2_method_5_code 22 = .ok (.goto 4, 3) := by decide +kernel
theorem d_k_isBetterTurned_25 : decode prog_2_method_5_code 25 = .ok (.iconst 0, 1) := by decide +kernel
theorem d_k_isBetterTurned_26 : decode prog_2_method_5_code 26 = .ok (.ireturn, 1) := by decide +kernel
theorem d_k_makePart_0 : decode prog_2_method_4_code 0 = .ok (.aload_n 0, 1) := by decide +kernel
theorem d_k_makePart_1 : decode prog_2_method_4_code 1 = .ok (.getfield 44, 3) := by decide +kernel
theorem d_k_makePart_4 : decode prog_2_method_4_code 4 = .ok (.bipush 72, 2) := by decide +kernel
theorem d_k_makePart_6 : decode prog_2_method_4_code 6 = .ok (.if_icmp .lt 4, 3) := by decide +kernel
theorem d_k_makePart_9 : decode prog_2_method_4_code 9 = .ok (.return_, 1) := by decide +kernel
theorem d_k_makePart_10 : decode prog_2_method_4_code 10 = .ok (.aload_n 1, 1) := by decide +kernel
theorem d_k_makePart_11 : decode prog_2_method_4_code 11 = .ok (.getfield 51, 3) := by decide +kernel
theorem d_k_makePart_14 : decode prog_2_method_4_code 14 = .ok (.iload_n 3, 1) := by decide +kernel
theorem d_k_makePart_15 : decode prog_2_method_4_code 15 = .ok (.aaload, 1) := by decide +kernel
theorem d_k_makePart_16 : decode prog_2_method_4_code 16 = .ok (.astore 4, 2) := by decide +kernel
theorem d_k_makePart_18 : decode prog_2_method_4_code 18 = .ok (.aload_n 0, 1) := by decide +kernel
theorem d_k_makePart_19 : decode prog_2_method_4_code 19 = .ok (.getfield 11, 3) := by decide +kernel
theorem d_k_makePart_22 : decode prog_2_method_4_code 22 = .ok (.aload_n 0, 1) := by decide +kernel
theorem d_k_makePart_23 : decode prog_2_method_4_code 23 = .ok (.getfield 44, 3) := by decide +kernel
theorem d_k_makePart_26 : decode prog_2_method_4_code 26 = .ok (.aaload, 1) := by decide +kernel
theorem d_k_makePart_27 : decode prog_2_method_4_code 27 = .ok (.astore 5, 2) := by decide +kernel
theorem d_k_makePart_29 : decode prog_2_method_4_code 29 = .ok (.aload_n 0, 1) := by decide +kernel
theorem d_k_makePart_30 : decode prog_2_method_4_code 30 = .ok (.dup, 1) := by decide +kernel
theorem d_k_makePart_31 : decode prog_2_method_4_code 31 = .ok (.getfield 44, 3) := by decide +kernel
theorem d_k_makePart_34 : decode prog_2_method_4_code 34 = .ok (.iconst 1, 1) := by decide +kernel
theorem d_k_makePart_35 : decode prog_2_method_4_code 35 = .ok (.iadd, 1) := by decide +kernel
theorem d_k_makePart_36 : decode prog_2_method_4_code 36 = .ok (.putfield 44, 3) := by decide +kernel
theorem d_k_makePart_39 : decode prog_2_method_4_code 39 = .ok (.aload 4, 2) := by decide +kernel
theorem d_k_makePart_41 : decode prog_2_method_4_code 41 = .ok (.iconst 0, 1) := by decide +kernel
theorem d_k_makePart_42 : decode prog_2_method_4_code 42 = .ok (.iload_n 2, 1) := by decide +kernel
theorem d_k_makePart_43 : decode prog_2_method_4_code 43 = .ok (.invokevirtual 67, 3) := by decide +kernel
theorem d_k_makePart_46 : decode prog_2_method_4_code 46 = .ok (.istore 6, 2) := by decide +kernel
theorem d_k_makePart_48 : decode prog_2_method_4_code 48 = .ok (.aload 4, 2) := by decide +kernel
theorem d_k_makePart_50 : decode prog_2_method_4_code 50 = .ok (.iconst 1, 1) := by decide +kernel
theorem d_k_makePart_51 : decode prog_2_method_4_code 51 = .ok (.iload_n 2, 1) := by decide +kernel
theorem d_k_makePart_52 : decode prog_2_method_4_code 52 = .ok (.invokevirtual 67, 3) := by decide +kernel
theorem d_k_makePart_55 : decode prog_2_method_4_code 55 = .ok (.istore 7, 2) := by decide +kernel
theorem d_k_makePart_57 : decode prog_2_method_4_code 57 = .ok (.aload 5, 2) := by decide +kernel
theorem d_k_makePart_59 : decode prog_2_method_4_code 59 = .ok (.iload_n 2, 1) := by decide +kernel
theorem d_k_makePart_60 : decode prog_2_method_4_code 60 = .ok (.putfield 71, 3) := by decide +kernel
theorem d_k_makePart_63 : decode prog_2_method_4_code 63 = .ok (.aload 5, 2) := by decide +kernel
theorem d_k_makePart_65 : decode prog_2_method_4_code 65 = .ok (.iload_n 3, 1) := by decide +kernel
theorem d_k_makePart_66 : decode prog_2_method_4_code 66 = .ok (.putfield 74, 3) := by decide +kernel
theorem d_k_makePart_69 : decode prog_2_method_4_code 69 = .ok (.aload 5, 2) := by decide +kernel
theorem d_k_makePart_71 : decode prog_2_method_4_code 71 = .ok (.aload_n 1, 1) := by decide +kernel
theorem d_k_makePart_72 : decode prog_2_method_4_code 72 = .ok (.getfield 31, 3) := by decide +kernel
theorem d_k_makePart_75 : decode prog_2_method_4_code 75 = .ok (.ifCond .eq 16, 3) := by decide +kernel
theorem d_k_makePart_78 : decode prog_2_method_4_code 78 = .ok (.aload 4, 2) := by decide +kernel
theorem d_k_makePart_80 : decode prog_2_method_4_code 80 = .ok (.getfield 60, 3) := by decide +kernel
theorem d_k_makePart_83 : decode prog_2_method_4_code 83 = .ok (.iconst 1, 1) := by decide +kernel
theorem d_k_makePart_84 : decode prog_2_method_4_code 84 = .ok (.if_icmp .ne 7, 3) := by decide +kernel
theorem d_k_makePart_87 : decode prog_2_method_4_code 87 = .ok (.iconst 1, 1) := by decide +kernel
theorem d_k_makePart_88 : decode prog_2_method_4_code 88 = .ok (.goto 4, 3) := by decide +kernel
theorem d_k_makePart_91 : decode prog_2_method_4_code 91 = .ok (.iconst 0, 1) := by decide +kernel
theorem d_k_makePart_92 : decode prog_2_method_4_code 92 = .ok (.putfield 77, 3) := by decide +kernel
theorem d_k_makePart_95 : decode prog_2_method_4_code 95 = .ok (.aload 5, 2) := by decide +kernel
theorem d_k_makePart_97 : decode prog_2_method_4_code 97 = .ok (.getfield 77, 3) := by decide +kernel
theorem d_k_makePart_100 : decode prog_2_method_4_code 100 = .ok (.ifCond .eq 24, 3) := by decide +kernel
theorem d_k_makePart_103 : decode prog_2_method_4_code 103 = .ok (.aload 5, 2) := by decide +kernel
theorem d_k_makePart_105 : decode prog_2_method_4_code 105 = .ok (.iload 6, 2) := by decide +kernel
theorem d_k_makePart_107 : decode prog_2_method_4_code 107 = .ok (.iconst 1, 1) := by decide +kernel
theorem d_k_makePart_108 : decode prog_2_method_4_code 108 = .ok (.iadd, 1) := by decide +kernel
theorem d_k_makePart_109 : decode prog_2_method_4_code 109 = .ok (.iconst 2, 1) := by decide +kernel
theorem d_k_makePart_110 : decode prog_2_method_4_code 110 = .ok (.idiv, 1) := by decide +kernel
theorem d_k_makePart_111 : decode prog_2_method_4_code 111 = .ok (.putfield 80, 3) := by decide +kernel
theorem d_k_makePart_114 : decode prog_2_method_4_code 114 = .ok (.aload 5, 2) := by decide +kernel
theorem d_k_makePart_116 : decode prog_2_method_4_code 116 = .ok (.iload 7, 2) := by decide +kernel
theorem d_k_makePart_118 : decode prog_2_method_4_code 118 = .ok (.putfield 83, 3) := by decide +kernel
theorem d_k_makePart_121 : decode prog_2_method_4_code 121 = .ok (.goto 62, 3) := by decide +kernel
theorem d_k_makePart_124 : decode prog_2_method_4_code 124 = .ok (.aload_n 1, 1) := by decide +kernel
theorem d_k_makePart_125 : decode prog_2_method_4_code 125 = .ok (.getfield 86, 3) := by decide +kernel
theorem d_k_makePart_128 : decode prog_2_method_4_code 128 = .ok (.ifCond .eq 18, 3) := by decide +kernel
theorem d_k_makePart_131 : decode prog_2_method_4_code 131 = .ok (.aload_n 0, 1) := by decide +kernel
theorem d_k_makePart_132 : decode prog_2_method_4_code 132 = .ok (.iload 6, 2) := by decide +kernel
theorem d_k_makePart_134 : decode prog_2_method_4_code 134 = .ok (.iload 7, 2) := by decide +kernel
theorem d_k_makePart_136 : decode prog_2_method_4_code 136 = .ok (.invokevirtual 89, 3) := by decide +kernel
theorem d_k_makePart_139 : decode prog_2_method_4_code 139 = .ok (.ifCond .eq 7, 3) := by decide +kernel
theorem d_k_makePart_142 : decode prog_2_method_4_code 142 = .ok (.iconst 1, 1) := by decide +kernel
theorem d_k_makePart_143 : decode prog_2_method_4_code 143 = .ok (.goto 4, 3) := by decide +kernel
theorem d_k_makePart_146 : decode prog_2_method_4_code 146 = .ok (.iconst 0, 1) := by decide +kernel
theorem d_k_makePart_147 : decode prog_2_method_4_code 147 = .ok (.istore 8, 2) := by decide +kernel
theorem d_k_makePart_149 : decode prog_2_method_4_code 149 = .ok (.aload 5, 2) := by decide +kernel
theorem d_k_makePart_151 : decode prog_2_method_4_code 151 = .ok (.iload 8, 2) := by decide +kernel
theorem d_k_makePart_153 : decode prog_2_method_4_code 153 = .ok (.ifCond .eq 8, 3) := by decide +kernel
theorem d_k_makePart_156 : decode prog_2_method_4_code 156 = .ok (.iload 7, 2) := by decide +kernel
theorem d_k_makePart_158 : decode prog_2_method_4_code 158 = .ok (.goto 5, 3) := by decide +kernel
theorem d_k_makePart_161 : decode prog_2_method_4_code 161 = .ok (.iload 6, 2) := by decide +kernel
theorem d_k_makePart_163 : decode prog_2_method_4_code 163 = .ok (.putfield 80, 3) := by decide +kernel
theorem d_k_makePart_166 : decode prog_2_method_4_code 166 = .ok (.aload 5, 2) := by decide +kernel
theorem d_k_makePart_168 : decode prog_2_method_4_code 168 = .ok (.iload 8, 2) := by decide +kernel
theorem d_k_makePart_170 : decode prog_2_method_4_code 170 = .ok (.ifCond .eq 8, 3) := by decide +kernel
theorem d_k_makePart_173 : decode prog_2_method_4_code 173 = .ok (.iload 6, 2) := by decide +kernel
theorem d_k_makePart_175 : decode prog_2_method_4_code 175 = .ok (.goto 5, 3) := by decide +kernel
theorem d_k_makePart_178 : decode prog_2_method_4_code 178 = .ok (.iload 7, 2) := by decide +kernel
theorem d_k_makePart_180 : decode prog_2_method_4_code 180 = .ok (.putfield 83, 3) := by decide +kernel
theorem d_k_makePart_183 : decode prog_2_method_4_code 183 = .ok (.return_, 1) := by decide +kernel
theorem d_k_makeGarment_0 : decode prog_2_method_3_code 0 = .ok (.iconst 0, 1) := by decide +kernel
theorem d_k_makeGarment_1 : decode prog_2_method_3_code 1 = .ok (.istore_n 3, 1) := by decide +kernel
theorem d_k_makeGarment_2 : decode prog_2_method_3_code 2 = .ok (.iload_n 3, 1) := by decide +kernel
theorem d_k_makeGarment_3 : decode prog_2_method_3_code 3 = .ok (.bipush 6, 2) := by decide +kernel
theorem d_k_makeGarment_5 : decode prog_2_method_3_code 5 = .ok (.if_icmp .ge 66, 3) := by decide +kernel
theorem d_k_makeGarment_8 : decode prog_2_method_3_code 8 = .ok (.aload_n 1, 1) := by decide +kernel
theorem d_k_makeGarment_9 : decode prog_2_method_3_code 9 = .ok (.getfield 51, 3) := by decide +kernel
theorem d_k_makeGarment_12 : decode prog_2_method_3_code 12 = .ok (.iload_n 3, 1) := by decide +kernel
theorem d_k_makeGarment_13 : decode prog_2_method_3_code 13 = .ok (.aaload, 1) := by decide +kernel
theorem d_k_makeGarment_14 : decode prog_2_method_3_code 14 = .ok (.getfield 55, 3) := by decide +kernel
theorem d_k_makeGarment_17 : decode prog_2_method_3_code 17 = .ok (.ifCond .eq 48, 3) := by decide +kernel
theorem d_k_makeGarment_20 : decode prog_2_method_3_code 20 = .ok (.aload_n 1, 1) := by decide +kernel
theorem d_k_makeGarment_21 : decode prog_2_method_3_code 21 = .ok (.getfield 31, 3) := by decide +kernel
theorem d_k_makeGarment_24 : decode prog_2_method_3_code 24 = .ok (.ifCond .eq 7, 3) := by decide +kernel
theorem d_k_makeGarment_27 : decode prog_2_method_3_code 27 = .ok (.iconst 1, 1) := by decide +kernel
theorem d_k_makeGarment_28 : decode prog_2_method_3_code 28 = .ok (.goto 12, 3) := by decide +kernel
theorem d_k_makeGarment_31 : decode prog_2_method_3_code 31 = .ok (.aload_n 1, 1) := by decide +kernel
theorem d_k_makeGarment_32 : decode prog_2_method_3_code 32 = .ok (.getfield 51, 3) := by decide +kernel
theorem d_k_makeGarment_35 : decode prog_2_method_3_code 35 = .ok (.iload_n 3, 1) := by decide +kernel
theorem d_k_makeGarment_36 : decode prog_2_method_3_code 36 = .ok (.aaload, 1) := by decide +kernel
theorem d_k_makeGarment_37 : decode prog_2_method_3_code 37 = .ok (.getfield 60, 3) := by decide +kernel
theorem d_k_makeGarment_40 : decode prog_2_method_3_code 40 = .ok (.istore 4, 2) := by decide +kernel
theorem d_k_makeGarment_42 : decode prog_2_method_3_code 42 = .ok (.iconst 0, 1) := by decide +kernel
theorem d_k_makeGarment_43 : decode prog_2_method_3_code 43 = .ok (.istore 5, 2) := by decide +kernel
theorem d_k_makeGarment_45 : decode prog_2_method_3_code 45 = .ok (.iload 5, 2) := by decide +kernel
theorem d_k_makeGarment_47 : decode prog_2_method_3_code 47 = .ok (.iload 4, 2) := by decide +kernel
theorem d_k_makeGarment_49 : decode prog_2_method_3_code 49 = .ok (.if_icmp .ge 16, 3) := by decide +kernel
theorem d_k_makeGarment_52 : decode prog_2_method_3_code 52 = .ok (.aload_n 0, 1) := by decide +kernel
theorem d_k_makeGarment_53 : decode prog_2_method_3_code 53 = .ok (.aload_n 1, 1) := by decide +kernel
theorem d_k_makeGarment_54 : decode prog_2_method_3_code 54 = .ok (.iload_n 2, 1) := by decide +kernel
theorem d_k_makeGarment_55 : decode prog_2_method_3_code 55 = .ok (.iload_n 3, 1) := by decide +kernel
theorem d_k_makeGarment_56 : decode prog_2_method_3_code 56 = .ok (.invokevirtual 63, 3) := by decide +kernel
theorem d_k_makeGarment_59 : decode prog_2_method_3_code 59 = .ok (.iinc 5 1, 3) := by decide +kernel
theorem d_k_makeGarment_62 : decode prog_2_method_3_code 62 = .ok (.goto (-17), 3) := by decide +kernel
theorem d_k_makeGarment_65 : decode prog_2_method_3_code 65 = .ok (.iinc 3 1, 3) := by decide +kernel
theorem d_k_makeGarment_68 : decode prog_2_method_3_code 68 = .ok (.goto (-66), 3) := by decide +kernel
theorem d_k_makeGarment_71 : decode prog_2_method_3_code 71 = .ok (.return_, 1) := by decide +kernel
theorem d_k_makeParts_0 : decode prog_2_method_2_code 0 = .ok (.aload_n 0, 1) := by decide +kernel
theorem d_k_makeParts_1 : decode prog_2_method_2_code 1 = .ok (.aload_n 1, 1) := by decide +kernel
theorem d_k_makeParts_2 : decode prog_2_method_2_code 2 = .ok (.getfield 31, 3) := by decide +kernel
theorem d_k_makeParts_5 : decode prog_2_method_2_code 5 = .ok (.ifCond .eq 12, 3) := by decide +kernel
theorem d_k_makeParts_8 : decode prog_2_method_2_code 8 = .ok (.aload_n 1, 1) := by decide +kernel
theorem d_k_makeParts_9 : decode prog_2_method_2_code 9 = .ok (.getfield 37, 3) := by decide +kernel
theorem d_k_makeParts_12 : decode prog_2_method_2_code 12 = .ok (.iconst 2, 1) := by decide +kernel
theorem d_k_makeParts_13 : decode prog_2_method_2_code 13 = .ok (.idiv, 1) := by decide +kernel
theorem d_k_makeParts_14 : decode prog_2_method_2_code 14 = .ok (.goto 7, 3) := by decide +kernel
theorem d_k_makeParts_17 : decode prog_2_method_2_code 17 = .ok (.aload_n 1, 1) := by decide +kernel
theorem d_k_makeParts_18 : decode prog_2_method_2_code 18 = .ok (.getfield 37, 3) := by decide +kernel
theorem d_k_makeParts_21 : decode prog_2_method_2_code 21 = .ok (.putfield 41, 3) := by decide +kernel
theorem d_k_makeParts_24 : decode prog_2_method_2_code 24 = .ok (.aload_n 0, 1) := by decide +kernel
theorem d_k_makeParts_25 : decode prog_2_method_2_code 25 = .ok (.iconst 0, 1) := by decide +kernel
theorem d_k_makeParts_26 : decode prog_2_method_2_code 26 = .ok (.putfield 44, 3) := by decide +kernel
theorem d_k_makeParts_29 : decode prog_2_method_2_code 29 = .ok (.iconst 0, 1) := by decide +kernel
theorem d_k_makeParts_30 : decode prog_2_method_2_code 30 = .ok (.istore_n 3, 1) := by decide +kernel
theorem d_k_makeParts_31 : decode prog_2_method_2_code 31 = .ok (.iload_n 3, 1) := by decide +kernel
theorem d_k_makeParts_32 : decode prog_2_method_2_code 32 = .ok (.iconst 3, 1) := by decide +kernel
theorem d_k_makeParts_33 : decode prog_2_method_2_code 33 = .ok (.if_icmp .ge 32, 3) := by decide +kernel
theorem d_k_makeParts_36 : decode prog_2_method_2_code 36 = .ok (.iconst 0, 1) := by decide +kernel
theorem d_k_makeParts_37 : decode prog_2_method_2_code 37 = .ok (.istore 4, 2) := by decide +kernel
theorem d_k_makeParts_39 : decode prog_2_method_2_code 39 = .ok (.iload 4, 2) := by decide +kernel
theorem d_k_makeParts_41 : decode prog_2_method_2_code 41 = .ok (.aload_n 2, 1) := by decide +kernel
theorem d_k_makeParts_42 : decode prog_2_method_2_code 42 = .ok (.iload_n 3, 1) := by decide +kernel
theorem d_k_makeParts_43 : decode prog_2_method_2_code 43 = .ok (.iaload, 1) := by decide +kernel
theorem d_k_makeParts_44 : decode prog_2_method_2_code 44 = .ok (.if_icmp .ge 15, 3) := by decide +kernel
theorem d_k_makeParts_47 : decode prog_2_method_2_code 47 = .ok (.aload_n 0, 1) := by decide +kernel
theorem d_k_makeParts_48 : decode prog_2_method_2_code 48 = .ok (.aload_n 1, 1) := by decide +kernel
theorem d_k_makeParts_49 : decode prog_2_method_2_code 49 = .ok (.iload_n 3, 1) := by decide +kernel
theorem d_k_makeParts_50 : decode prog_2_method_2_code 50 = .ok (.invokevirtual 47, 3) := by decide +kernel
theorem d_k_makeParts_53 : decode prog_2_method_2_code 53 = .ok (.iinc 4 1, 3) := by decide +kernel
theorem d_k_makeParts_56 : decode prog_2_method_2_code 56 = .ok (.goto (-17), 3) := by decide +kernel
theorem d_k_makeParts_59 : decode prog_2_method_2_code 59 = .ok (.iinc 3 1, 3) := by decide +kernel
theorem d_k_makeParts_62 : decode prog_2_method_2_code 62 = .ok (.goto (-31), 3) := by decide +kernel
theorem d_k_makeParts_65 : decode prog_2_method_2_code 65 = .ok (.return_, 1) := by decide +kernel
theorem d_x_isWithin_0 : decode prog_1_method_40_code 0 = .ok (.iload_n 0, 1) := by decide +kernel
theorem d_x_isWithin_1 : decode prog_1_method_40_code 1 = .ok (.iload_n 1, 1) := by decide +kernel
theorem d_x_isWithin_2 : decode prog_1_method_40_code 2 = .ok (.if_icmp .lt 12, 3) := by decide +kernel
theorem d_x_isWithin_5 : decode prog_1_method_40_code 5 = .ok (.iload_n 0, 1) := by decide +kernel
theorem d_x_isWithin_6 : decode prog_1_method_40_code 6 = .ok (.iload_n 2, 1) := by decide +kernel
theorem d_x_isWithin_7 : decode prog_1_method_40_code 7 = .ok (.if_icmp .gt 7, 3) := by decide +kernel
theorem d_x_isWithin_10 : decode prog_1_method_40_code 10 = .ok (.iconst 1, 1) := by decide +kernel
theorem d_x_isWithin_11 : decode prog_1_method_40_code 11 = .ok (.goto 4, 3) := by decide +kernel
theorem d_x_isWithin_14 : decode prog_1_method_40_code 14 = .ok (.iconst 0, 1) := by decide +kernel
theorem d_x_isWithin_15 : decode prog_1_method_40_code 15 = .ok (.ireturn, 1) := by decide +kernel
theorem d_k_has_0 : decode prog_2_method_6_code 0 = .ok (.iload_n 1, 1) := by decide +kernel
theorem d_k_has_1 : decode prog_2_method_6_code 1 = .ok (.iconst 0, 1) := by decide +kernel
theorem d_k_has_2 : decode prog_2_method_6_code 2 = .ok (.aload_n 0, 1) := by decide +kernel
theorem d_k_has_3 : decode prog_2_method_6_code 3 = .ok (.getfield 44, 3) := by decide +kernel
theorem d_k_has_6 : decode prog_2_method_6_code 6 = .ok (.iconst 1, 1) := by decide +kernel
theorem d_k_has_7 : decode prog_2_method_6_code 7 = .ok (.isub, 1) := by decide +kernel
theorem d_k_has_8 : decode prog_2_method_6_code 8 = .ok (.invokestatic 93, 3) := by decide +kernel
theorem d_k_has_11 : decode prog_2_method_6_code 11 = .ok (.ireturn, 1) := by decide +kernel
theorem d_k_foldParts_0 : decode prog_2_method_7_code 0 = .ok (.iconst 0, 1) := by decide +kernel
theorem d_k_foldParts_1 : decode prog_2_method_7_code 1 = .ok (.istore_n 1, 1) := by decide +kernel
theorem d_k_foldParts_2 : decode prog_2_method_7_code 2 = .ok (.iconst 0, 1) := by decide +kernel
theorem d_k_foldParts_3 : decode prog_2_method_7_code 3 = .ok (.istore_n 2, 1) := by decide +kernel
theorem d_k_foldParts_4 : decode prog_2_method_7_code 4 = .ok (.iload_n 2, 1) := by decide +kernel
theorem d_k_foldParts_5 : decode prog_2_method_7_code 5 = .ok (.aload_n 0, 1) := by decide +kernel
theorem d_k_foldParts_6 : decode prog_2_method_7_code 6 = .ok (.getfield 44, 3) := by decide +kernel
theorem d_k_foldParts_9 : decode prog_2_method_7_code 9 = .ok (.if_icmp .ge 24, 3) := by decide +kernel
theorem d_k_foldParts_12 : decode prog_2_method_7_code 12 = .ok (.aload_n 0, 1) := by decide +kernel
theorem d_k_foldParts_13 : decode prog_2_method_7_code 13 = .ok (.getfield 11, 3) := by decide +kernel
theorem d_k_foldParts_16 : decode prog_2_method_7_code 16 = .ok (.iload_n 2, 1) := by decide +kernel
theorem d_k_foldParts_17 : decode prog_2_method_7_code 17 = .ok (.aaload, 1) := by decide +kernel
theorem d_k_foldParts_18 : decode prog_2_method_7_code 18 = .ok (.getfield 77, 3) := by decide +kernel
theorem d_k_foldParts_21 : decode prog_2_method_7_code 21 = .ok (.ifCond .eq 6, 3) := by decide +kernel
theorem d_k_foldParts_24 : decode prog_2_method_7_code 24 = .ok (.iinc 1 1, 3) := by decide +kernel
theorem d_k_foldParts_27 : decode prog_2_method_7_code 27 = .ok (.iinc 2 1, 3) := by decide +kernel
theorem d_k_foldParts_30 : decode prog_2_method_7_code 30 = .ok (.goto (-26), 3) := by decide +kernel
theorem d_k_foldParts_33 : decode prog_2_method_7_code 33 = .ok (.iload_n 1, 1) := by decide +kernel
theorem d_k_foldParts_34 : decode prog_2_method_7_code 34 = .ok (.ireturn, 1) := by decide +kernel
theorem d_k_partsArea_0 : decode prog_2_method_8_code 0 = .ok (.iconst 0, 1) := by decide +kernel
theorem d_k_partsArea_1 : decode prog_2_method_8_code 1 = .ok (.istore_n 1, 1) := by decide +kernel
theorem d_k_partsArea_2 : decode prog_2_method_8_code 2 = .ok (.iconst 0, 1) := by decide +kernel
theorem d_k_partsArea_3 : decode prog_2_method_8_code 3 = .ok (.istore_n 2, 1) := by decide +kernel
theorem d_k_partsArea_4 : decode prog_2_method_8_code 4 = .ok (.iload_n 2, 1) := by decide +kernel
theorem d_k_partsArea_5 : decode prog_2_method_8_code 5 = .ok (.aload_n 0, 1) := by decide +kernel
theorem d_k_partsArea_6 : decode prog_2_method_8_code 6 = .ok (.getfield 44, 3) := by decide +kernel
theorem d_k_partsArea_9 : decode prog_2_method_8_code 9 = .ok (.if_icmp .ge 31, 3) := by decide +kernel
theorem d_k_partsArea_12 : decode prog_2_method_8_code 12 = .ok (.iload_n 1, 1) := by decide +kernel
theorem d_k_partsArea_13 : decode prog_2_method_8_code 13 = .ok (.aload_n 0, 1) := by decide +kernel
theorem d_k_partsArea_14 : decode prog_2_method_8_code 14 = .ok (.getfield 11, 3) := by decide +kernel
theorem d_k_partsArea_17 : decode prog_2_method_8_code 17 = .ok (.iload_n 2, 1) := by decide +kernel
theorem d_k_partsArea_18 : decode prog_2_method_8_code 18 = .ok (.aaload, 1) := by decide +kernel
theorem d_k_partsArea_19 : decode prog_2_method_8_code 19 = .ok (.getfield 83, 3) := by decide +kernel
theorem d_k_partsArea_22 : decode prog_2_method_8_code 22 = .ok (.aload_n 0, 1) := by decide +kernel
theorem d_k_partsArea_23 : decode prog_2_method_8_code 23 = .ok (.getfield 11, 3) := by decide +kernel
theorem d_k_partsArea_26 : decode prog_2_method_8_code 26 = .ok (.iload_n 2, 1) := by decide +kernel
theorem d_k_partsArea_27 : decode prog_2_method_8_code 27 = .ok (.aaload, 1) := by decide +kernel
theorem d_k_partsArea_28 : decode prog_2_method_8_code 28 = .ok (.getfield 80, 3) := by decide +kernel
theorem d_k_partsArea_31 : decode prog_2_method_8_code 31 = .ok (.imul, 1) := by decide +kernel
theorem d_k_partsArea_32 : decode prog_2_method_8_code 32 = .ok (.iadd, 1) := by decide +kernel
theorem d_k_partsArea_33 : decode prog_2_method_8_code 33 = .ok (.istore_n 1, 1) := by decide +kernel
theorem d_k_partsArea_34 : decode prog_2_method_8_code 34 = .ok (.iinc 2 1, 3) := by decide +kernel
theorem d_k_partsArea_37 : decode prog_2_method_8_code 37 = .ok (.goto (-33), 3) := by decide +kernel
theorem d_k_partsArea_40 : decode prog_2_method_8_code 40 = .ok (.iload_n 1, 1) := by decide +kernel
theorem d_k_partsArea_41 : decode prog_2_method_8_code 41 = .ok (.ireturn, 1) := by decide +kernel
theorem d_k_hasLayout_0 : decode prog_2_method_9_code 0 = .ok (.iconst 0, 1) := by decide +kernel
theorem d_k_hasLayout_1 : decode prog_2_method_9_code 1 = .ok (.istore_n 1, 1) := by decide +kernel
theorem d_k_hasLayout_2 : decode prog_2_method_9_code 2 = .ok (.iload_n 1, 1) := by decide +kernel
theorem d_k_hasLayout_3 : decode prog_2_method_9_code 3 = .ok (.aload_n 0, 1) := by decide +kernel
theorem d_k_hasLayout_4 : decode prog_2_method_9_code 4 = .ok (.getfield 44, 3) := by decide +kernel
theorem d_k_hasLayout_7 : decode prog_2_method_9_code 7 = .ok (.if_icmp .ge 27, 3) := by decide +kernel
theorem d_k_hasLayout_10 : decode prog_2_method_9_code 10 = .ok (.aload_n 0, 1) := by decide +kernel
theorem d_k_hasLayout_11 : decode prog_2_method_9_code 11 = .ok (.getfield 11, 3) := by decide +kernel
theorem d_k_hasLayout_14 : decode prog_2_method_9_code 14 = .ok (.iload_n 1, 1) := by decide +kernel
theorem d_k_hasLayout_15 : decode prog_2_method_9_code 15 = .ok (.aaload, 1) := by decide +kernel
theorem d_k_hasLayout_16 : decode prog_2_method_9_code 16 = .ok (.getfield 80, 3) := by decide +kernel
theorem d_k_hasLayout_19 : decode prog_2_method_9_code 19 = .ok (.aload_n 0, 1) := by decide +kernel
theorem d_k_hasLayout_20 : decode prog_2_method_9_code 20 = .ok (.getfield 41, 3) := by decide +kernel
theorem d_k_hasLayout_23 : decode prog_2_method_9_code 23 = .ok (.if_icmp .le 5, 3) := by decide +kernel
theorem d_k_hasLayout_26 : decode prog_2_method_9_code 26 = .ok (.iconst 0, 1) := by decide +kernel
theorem d_k_hasLayout_27 : decode prog_2_method_9_code 27 = .ok (.ireturn, 1) := by decide +kernel
theorem d_k_hasLayout_28 : decode prog_2_method_9_code 28 = .ok (.iinc 1 1, 3) := by decide +kernel
theorem d_k_hasLayout_31 : decode prog_2_method_9_code 31 = .ok (.goto (-29), 3) := by decide +kernel
theorem d_k_hasLayout_34 : decode prog_2_method_9_code 34 = .ok (.iconst 1, 1) := by decide +kernel
theorem d_k_hasLayout_35 : decode prog_2_method_9_code 35 = .ok (.ireturn, 1) := by decide +kernel
theorem d_p_sortKey_0 : decode prog_3_method_3_code 0 = .ok (.iload_n 1, 1) := by decide +kernel
theorem d_p_sortKey_1 : decode prog_3_method_3_code 1 = .ok (.tableswitch 47 1 3 #[27, 32, 37], 27) := by decide +kernel
theorem d_p_sortKey_28 : decode prog_3_method_3_code 28 = .ok (.aload_n 0, 1) := by decide +kernel
theorem d_p_sortKey_29 : decode prog_3_method_3_code 29 = .ok (.getfield 18, 3) := by decide +kernel
theorem d_p_sortKey_32 : decode prog_3_method_3_code 32 = .ok (.ireturn, 1) := by decide +kernel
theorem d_p_sortKey_33 : decode prog_3_method_3_code 33 = .ok (.aload_n 0, 1) := by decide +kernel
theorem d_p_sortKey_34 : decode prog_3_method_3_code 34 = .ok (.getfield 24, 3) := by decide +kernel
theorem d_p_sortKey_37 : decode prog_3_method_3_code 37 = .ok (.ireturn, 1) := by decide +kernel
theorem d_p_sortKey_38 : decode prog_3_method_3_code 38 = .ok (.aload_n 0, 1) := by decide +kernel
theorem d_p_sortKey_39 : decode prog_3_method_3_code 39 = .ok (.getfield 18, 3) := by decide +kernel
theorem d_p_sortKey_42 : decode prog_3_method_3_code 42 = .ok (.aload_n 0, 1) := by decide +kernel
theorem d_p_sortKey_43 : decode prog_3_method_3_code 43 = .ok (.getfield 24, 3) := by decide +kernel
theorem d_p_sortKey_46 : decode prog_3_method_3_code 46 = .ok (.imul, 1) := by decide +kernel
theorem d_p_sortKey_47 : decode prog_3_method_3_code 47 = .ok (.ireturn, 1) := by decide +kernel
theorem d_p_sortKey_48 : decode prog_3_method_3_code 48 = .ok (.iconst 0, 1) := by decide +kernel
theorem d_p_sortKey_49 : decode prog_3_method_3_code 49 = .ok (.ireturn, 1) := by decide +kernel
theorem d_k_sortParts_0 : decode prog_2_method_11_code 0 = .ok (.iconst 0, 1) := by decide +kernel
theorem d_k_sortParts_1 : decode prog_2_method_11_code 1 = .ok (.istore_n 2, 1) := by decide +kernel
theorem d_k_sortParts_2 : decode prog_2_method_11_code 2 = .ok (.iload_n 2, 1) := by decide +kernel
theorem d_k_sortParts_3 : decode prog_2_method_11_code 3 = .ok (.aload_n 0, 1) := by decide +kernel
theorem d_k_sortParts_4 : decode prog_2_method_11_code 4 = .ok (.getfield 44, 3) := by decide +kernel
theorem d_k_sortParts_7 : decode prog_2_method_11_code 7 = .ok (.if_icmp .ge 80, 3) := by decide +kernel
theorem d_k_sortParts_10 : decode prog_2_method_11_code 10 = .ok (.aload_n 0, 1) := by decide +kernel
theorem d_k_sortParts_11 : decode prog_2_method_11_code 11 = .ok (.getfield 11, 3) := by decide +kernel
theorem d_k_sortParts_14 : decode prog_2_method_11_code 14 = .ok (.iload_n 2, 1) := by decide +kernel
theorem d_k_sortParts_15 : decode prog_2_method_11_code 15 = .ok (.aaload, 1) := by decide +kernel
theorem d_k_sortParts_16 : decode prog_2_method_11_code 16 = .ok (.iload_n 1, 1) := by decide +kernel
theorem d_k_sortParts_17 : decode prog_2_method_11_code 17 = .ok (.invokevirtual 119, 3) := by decide +kernel
theorem d_k_sortParts_20 : decode prog_2_method_11_code 20 = .ok (.istore_n 3, 1) := by decide +kernel
theorem d_k_sortParts_21 : decode prog_2_method_11_code 21 = .ok (.iload_n 2, 1) := by decide +kernel
theorem d_k_sortParts_22 : decode prog_2_method_11_code 22 = .ok (.istore 4, 2) := by decide +kernel
theorem d_k_sortParts_24 : decode prog_2_method_11_code 24 = .ok (.iload 4, 2) := by decide +kernel
theorem d_k_sortParts_26 : decode prog_2_method_11_code 26 = .ok (.ifCond .le 47, 3) := by decide +kernel
theorem d_k_sortParts_29 : decode prog_2_method_11_code 29 = .ok (.aload_n 0, 1) := by decide +kernel
theorem d_k_sortParts_30 : decode prog_2_method_11_code 30 = .ok (.getfield 11, 3) := by decide +kernel
theorem d_k_sortParts_33 : decode prog_2_method_11_code 33 = .ok (.aload_n 0, 1) := by decide +kernel
theorem d_k_sortParts_34 : decode prog_2_method_11_code 34 = .ok (.getfield 18, 3) := by decide +kernel
theorem d_k_sortParts_37 : decode prog_2_method_11_code 37 = .ok (.iload 4, 2) := by decide +kernel
theorem d_k_sortParts_39 : decode prog_2_method_11_code 39 = .ok (.iconst 1, 1) := by decide +kernel
theorem d_k_sortParts_40 : decode prog_2_method_11_code 40 = .ok (.isub, 1) := by decide +kernel
theorem d_k_sortParts_41 : decode prog_2_method_11_code 41 = .ok (.iaload, 1) := by decide +kernel
theorem d_k_sortParts_42 : decode prog_2_method_11_code 42 = .ok (.aaload, 1) := by decide +kernel
theorem d_k_sortParts_43 : decode prog_2_method_11_code 43 = .ok (.iload_n 1, 1) := by decide +kernel
theorem d_k_sortParts_44 : decode prog_2_method_11_code 44 = .ok (.invokevirtual 119, 3) := by decide +kernel
theorem d_k_sortParts_47 : decode prog_2_method_11_code 47 = .ok (.iload_n 3, 1) := by decide +kernel
theorem d_k_sortParts_48 : decode prog_2_method_11_code 48 = .ok (.if_icmp .ge 25, 3) := by decide +kernel
theorem d_k_sortParts_51 : decode prog_2_method_11_code 51 = .ok (.aload_n 0, 1) := by decide +kernel
theorem d_k_sortParts_52 : decode prog_2_method_11_code 52 = .ok (.getfield 18, 3) := by decide +kernel
theorem d_k_sortParts_55 : decode prog_2_method_11_code 55 = .ok (.iload 4, 2) := by decide +kernel
theorem d_k_sortParts_57 : decode prog_2_method_11_code 57 = .ok (.aload_n 0, 1) := by decide +kernel
theorem d_k_sortParts_58 : decode prog_2_method_11_code 58 = .ok (.getfield 18, 3) := by decide +kernel
theorem d_k_sortParts_61 : decode prog_2_method_11_code 61 = .ok (.iload 4, 2) := by decide +kernel
theorem d_k_sortParts_63 : decode prog_2_method_11_code 63 = .ok (.iconst 1, 1) := by decide +kernel
theorem d_k_sortParts_64 : decode prog_2_method_11_code 64 = .ok (.isub, 1) := by decide +kernel
theorem d_k_sortParts_65 : decode prog_2_method_11_code 65 = .ok (.iaload, 1) := by decide +kernel
theorem d_k_sortParts_66 : decode prog_2_method_11_code 66 = .ok (.iastore, 1) := by decide +kernel
theorem d_k_sortParts_67 : decode prog_2_method_11_code 67 = .ok (.iinc 4 (-1), 3) := by decide +kernel
theorem d_k_sortParts_70 : decode prog_2_method_11_code 70 = .ok (.goto (-46), 3) := by decide +kernel
theorem d_k_sortParts_73 : decode prog_2_method_11_code 73 = .ok (.aload_n 0, 1) := by decide +kernel
theorem d_k_sortParts_74 : decode prog_2_method_11_code 74 = .ok (.getfield 18, 3) := by decide +kernel
theorem d_k_sortParts_77 : decode prog_2_method_11_code 77 = .ok (.iload 4, 2) := by decide +kernel
theorem d_k_sortParts_79 : decode prog_2_method_11_code 79 = .ok (.iload_n 2, 1) := by decide +kernel
theorem d_k_sortParts_80 : decode prog_2_method_11_code 80 = .ok (.iastore, 1) := by decide +kernel
theorem d_k_sortParts_81 : decode prog_2_method_11_code 81 = .ok (.iinc 2 1, 3) := by decide +kernel
theorem d_k_sortParts_84 : decode prog_2_method_11_code 84 = .ok (.goto (-82), 3) := by decide +kernel
theorem d_k_sortParts_87 : decode prog_2_method_11_code 87 = .ok (.return_, 1) := by decide +kernel
theorem d_k_takenBits_0 : decode prog_2_method_16_code 0 = .ok (.iconst 0, 1) := by decide +kernel
theorem d_k_takenBits_1 : decode prog_2_method_16_code 1 = .ok (.istore 4, 2) := by decide +kernel
theorem d_k_takenBits_3 : decode prog_2_method_16_code 3 = .ok (.iload_n 2, 1) := by decide +kernel
theorem d_k_takenBits_4 : decode prog_2_method_16_code 4 = .ok (.aload_n 1, 1) := by decide +kernel
theorem d_k_takenBits_5 : decode prog_2_method_16_code 5 = .ok (.getfield 83, 3) := by decide +kernel
theorem d_k_takenBits_8 : decode prog_2_method_16_code 8 = .ok (.iadd, 1) := by decide +kernel
theorem d_k_takenBits_9 : decode prog_2_method_16_code 9 = .ok (.istore 5, 2) := by decide +kernel
theorem d_k_takenBits_11 : decode prog_2_method_16_code 11 = .ok (.iconst 0, 1) := by decide +kernel
theorem d_k_takenBits_12 : decode prog_2_method_16_code 12 = .ok (.istore 6, 2) := by decide +kernel
theorem d_k_takenBits_14 : decode prog_2_method_16_code 14 = .ok (.iload 6, 2) := by decide +kernel
theorem d_k_takenBits_16 : decode prog_2_method_16_code 16 = .ok (.iload_n 3, 1) := by decide +kernel
theorem d_k_takenBits_17 : decode prog_2_method_16_code 17 = .ok (.if_icmp .ge 52, 3) := by decide +kernel
theorem d_k_takenBits_20 : decode prog_2_method_16_code 20 = .ok (.aload_n 0, 1) := by decide +kernel
theorem d_k_takenBits_21 : decode prog_2_method_16_code 21 = .ok (.getfield 11, 3) := by decide +kernel
theorem d_k_takenBits_24 : decode prog_2_method_16_code 24 = .ok (.aload_n 0, 1) := by decide +kernel
theorem d_k_takenBits_25 : decode prog_2_method_16_code 25 = .ok (.getfield 18, 3) := by decide +kernel
theorem d_k_takenBits_28 : decode prog_2_method_16_code 28 = .ok (.iload 6, 2) := by decide +kernel
theorem d_k_takenBits_30 : decode prog_2_method_16_code 30 = .ok (.iaload, 1) := by decide +kernel
theorem d_k_takenBits_31 : decode prog_2_method_16_code 31 = .ok (.aaload, 1) := by decide +kernel
theorem d_k_takenBits_32 : decode prog_2_method_16_code 32 = .ok (.astore 7, 2) := by decide +kernel
theorem d_k_takenBits_34 : decode prog_2_method_16_code 34 = .ok (.aload 7, 2) := by decide +kernel
theorem d_k_takenBits_36 : decode prog_2_method_16_code 36 = .ok (.getfield 111, 3) := by decide +kernel
theorem d_k_takenBits_39 : decode prog_2_method_16_code 39 = .ok (.iload_n 2, 1) := by decide +kernel
theorem d_k_takenBits_40 : decode prog_2_method_16_code 40 = .ok (.if_icmp .le 23, 3) := by decide +kernel
theorem d_k_takenBits_43 : decode prog_2_method_16_code 43 = .ok (.aload 7, 2) := by decide +kernel
theorem d_k_takenBits_45 : decode prog_2_method_16_code 45 = .ok (.getfield 142, 3) := by decide +kernel
theorem d_k_takenBits_48 : decode prog_2_method_16_code 48 = .ok (.iload 5, 2) := by decide +kernel
theorem d_k_takenBits_50 : decode prog_2_method_16_code 50 = .ok (.if_icmp .ge 13, 3) := by decide +kernel
theorem d_k_takenBits_53 : decode prog_2_method_16_code 53 = .ok (.iload 4, 2) := by decide +kernel
theorem d_k_takenBits_55 : decode prog_2_method_16_code 55 = .ok (.aload 7, 2) := by decide +kernel
theorem d_k_takenBits_57 : decode prog_2_method_16_code 57 = .ok (.getfield 145, 3) := by decide +kernel
theorem d_k_takenBits_60 : decode prog_2_method_16_code 60 = .ok (.ior, 1) := by decide +kernel
theorem d_k_takenBits_61 : decode prog_2_method_16_code 61 = .ok (.istore 4, 2) := by decide +kernel
theorem d_k_takenBits_63 : decode prog_2_method_16_code 63 = .ok (.iinc 6 1, 3) := by decide +kernel
theorem d_k_takenBits_66 : decode prog_2_method_16_code 66 = .ok (.goto (-52), 3) := by decide +kernel
theorem d_k_takenBits_69 : decode prog_2_method_16_code 69 = .ok (.iload 4, 2) := by decide +kernel
theorem d_k_takenBits_71 : decode prog_2_method_16_code 71 = .ok (.ireturn, 1) := by decide +kernel
theorem d_k_firstGap_0 : decode prog_2_method_17_code 0 = .ok (.iconst 1, 1) := by decide +kernel
theorem d_k_firstGap_1 : decode prog_2_method_17_code 1 = .ok (.aload_n 1, 1) := by decide +kernel
theorem d_k_firstGap_2 : decode prog_2_method_17_code 2 = .ok (.getfield 80, 3) := by decide +kernel
theorem d_k_firstGap_5 : decode prog_2_method_17_code 5 = .ok (.ishl, 1) := by decide +kernel
theorem d_k_firstGap_6 : decode prog_2_method_17_code 6 = .ok (.iconst 1, 1) := by decide +kernel
theorem d_k_firstGap_7 : decode prog_2_method_17_code 7 = .ok (.isub, 1) := by decide +kernel
theorem d_k_firstGap_8 : decode prog_2_method_17_code 8 = .ok (.istore_n 3, 1) := by decide +kernel
theorem d_k_firstGap_9 : decode prog_2_method_17_code 9 = .ok (.aload_n 1, 1) := by decide +kernel
theorem d_k_firstGap_10 : decode prog_2_method_17_code 10 = .ok (.getfield 77, 3) := by decide +kernel
theorem d_k_firstGap_13 : decode prog_2_method_17_code 13 = .ok (.ifCond .eq 7, 3) := by decide +kernel
theorem d_k_firstGap_16 : decode prog_2_method_17_code 16 = .ok (.iconst 0, 1) := by decide +kernel
theorem d_k_firstGap_17 : decode prog_2_method_17_code 17 = .ok (.goto 12, 3) := by decide +kernel
theorem d_k_firstGap_20 : decode prog_2_method_17_code 20 = .ok (.aload_n 0, 1) := by decide +kernel
theorem d_k_firstGap_21 : decode prog_2_method_17_code 21 = .ok (.getfield 41, 3) := by decide +kernel
theorem d_k_firstGap_24 : decode prog_2_method_17_code 24 = .ok (.aload_n 1, 1) := by decide +kernel
theorem d_k_firstGap_25 : decode prog_2_method_17_code 25 = .ok (.getfield 80, 3) := by decide +kernel
theorem d_k_firstGap_28 : decode prog_2_method_17_code 28 = .ok (.isub, 1) := by decide +kernel
theorem d_k_firstGap_29 : decode prog_2_method_17_code 29 = .ok (.istore 4, 2) := by decide +kernel
theorem d_k_firstGap_31 : decode prog_2_method_17_code 31 = .ok (.iconst 0, 1) := by decide +kernel
theorem d_k_firstGap_32 : decode prog_2_method_17_code 32 = .ok (.istore 5, 2) := by decide +kernel
theorem d_k_firstGap_34 : decode prog_2_method_17_code 34 = .ok (.iload 5, 2) := by decide +kernel
theorem d_k_firstGap_36 : decode prog_2_method_17_code 36 = .ok (.iload 4, 2) := by decide +kernel
theorem d_k_firstGap_38 : decode prog_2_method_17_code 38 = .ok (.if_icmp .gt 21, 3) := by decide +kernel
theorem d_k_firstGap_41 : decode prog_2_method_17_code 41 = .ok (.iload_n 2, 1) := by decide +kernel
theorem d_k_firstGap_42 : decode prog_2_method_17_code 42 = .ok (.iload 5, 2) := by decide +kernel
theorem d_k_firstGap_44 : decode prog_2_method_17_code 44 = .ok (.ishr, 1) := by decide +kernel
theorem d_k_firstGap_45 : decode prog_2_method_17_code 45 = .ok (.iload_n 3, 1) := by decide +kernel
theorem d_k_firstGap_46 : decode prog_2_method_17_code 46 = .ok (.iand, 1) := by decide +kernel
theorem d_k_firstGap_47 : decode prog_2_method_17_code 47 = .ok (.ifCond .ne 6, 3) := by decide +kernel
theorem d_k_firstGap_50 : decode prog_2_method_17_code 50 = .ok (.iload 5, 2) := by decide +kernel
theorem d_k_firstGap_52 : decode prog_2_method_17_code 52 = .ok (.ireturn, 1) := by decide +kernel
theorem d_k_firstGap_53 : decode prog_2_method_17_code 53 = .ok (.iinc 5 1, 3) := by decide +kernel
theorem d_k_firstGap_56 : decode prog_2_method_17_code 56 = .ok (.goto (-22), 3) := by decide +kernel
theorem d_k_firstGap_59 : decode prog_2_method_17_code 59 = .ok (.iconst (-1), 1) := by decide +kernel
theorem d_k_firstGap_60 : decode prog_2_method_17_code 60 = .ok (.ireturn, 1) := by decide +kernel
theorem d_p_placeAt_0 : decode prog_3_method_2_code 0 = .ok (.aload_n 0, 1) := by decide +kernel
theorem d_p_placeAt_1 : decode prog_3_method_2_code 1 = .ok (.iload_n 1, 1) := by decide +kernel
theorem d_p_placeAt_2 : decode prog_3_method_2_code 2 = .ok (.putfield 9, 3) := by decide +kernel
theorem d_p_placeAt_5 : decode prog_3_method_2_code 5 = .ok (.aload_n 0, 1) := by decide +kernel
theorem d_p_placeAt_6 : decode prog_3_method_2_code 6 = .ok (.iload_n 2, 1) := by decide +kernel
theorem d_p_placeAt_7 : decode prog_3_method_2_code 7 = .ok (.putfield 15, 3) := by decide +kernel
theorem d_p_placeAt_10 : decode prog_3_method_2_code 10 = .ok (.aload_n 0, 1) := by decide +kernel
theorem d_p_placeAt_11 : decode prog_3_method_2_code 11 = .ok (.iload_n 1, 1) := by decide +kernel
theorem d_p_placeAt_12 : decode prog_3_method_2_code 12 = .ok (.aload_n 0, 1) := by decide +kernel
theorem d_p_placeAt_13 : decode prog_3_method_2_code 13 = .ok (.getfield 18, 3) := by decide +kernel
theorem d_p_placeAt_16 : decode prog_3_method_2_code 16 = .ok (.iadd, 1) := by decide +kernel
theorem d_p_placeAt_17 : decode prog_3_method_2_code 17 = .ok (.putfield 21, 3) := by decide +kernel
theorem d_p_placeAt_20 : decode prog_3_method_2_code 20 = .ok (.aload_n 0, 1) := by decide +kernel
theorem d_p_placeAt_21 : decode prog_3_method_2_code 21 = .ok (.iconst 1, 1) := by decide +kernel
theorem d_p_placeAt_22 : decode prog_3_method_2_code 22 = .ok (.aload_n 0, 1) := by decide +kernel
theorem d_p_placeAt_23 : decode prog_3_method_2_code 23 = .ok (.getfield 24, 3) := by decide +kernel
theorem d_p_placeAt_26 : decode prog_3_method_2_code 26 = .ok (.ishl, 1) := by decide +kernel
theorem d_p_placeAt_27 : decode prog_3_method_2_code 27 = .ok (.iconst 1, 1) := by decide +kernel
theorem d_p_placeAt_28 : decode prog_3_method_2_code 28 = .ok (.isub, 1) := by decide +kernel
theorem d_p_placeAt_29 : decode prog_3_method_2_code 29 = .ok (.iload_n 2, 1) := by decide +kernel
theorem d_p_placeAt_30 : decode prog_3_method_2_code 30 = .ok (.ishl, 1) := by decide +kernel
theorem d_p_placeAt_31 : decode prog_3_method_2_code 31 = .ok (.putfield 27, 3) := by decide +kernel
theorem d_p_placeAt_34 : decode prog_3_method_2_code 34 = .ok (.return_, 1) := by decide +kernel
theorem d_k_placeFirstFree_0 : decode prog_2_method_15_code 0 = .ok (.iconst 0, 1) := by decide +kernel
theorem d_k_placeFirstFree_1 : decode prog_2_method_15_code 1 = .ok (.istore_n 3, 1) := by decide +kernel
theorem d_k_placeFirstFree_2 : decode prog_2_method_15_code 2 = .ok (.aload_n 0, 1) := by decide +kernel
theorem d_k_placeFirstFree_3 : decode prog_2_method_15_code 3 = .ok (.aload_n 1, 1) := by decide +kernel
theorem d_k_placeFirstFree_4 : decode prog_2_method_15_code 4 = .ok (.aload_n 0, 1) := by decide +kernel
theorem d_k_placeFirstFree_5 : decode prog_2_method_15_code 5 = .ok (.aload_n 1, 1) := by decide +kernel
theorem d_k_placeFirstFree_6 : decode prog_2_method_15_code 6 = .ok (.iconst 0, 1) := by decide +kernel
theorem d_k_placeFirstFree_7 : decode prog_2_method_15_code 7 = .ok (.iload_n 2, 1) := by decide +kernel
theorem d_k_placeFirstFree_8 : decode prog_2_method_15_code 8 = .ok (.invokevirtual 135, 3) := by decide +kernel
theorem d_k_placeFirstFree_11 : decode prog_2_method_15_code 11 = .ok (.invokevirtual 139, 3) := by decide +kernel
theorem d_k_placeFirstFree_14 : decode prog_2_method_15_code 14 = .ok (.istore 4, 2) := by decide +kernel
theorem d_k_placeFirstFree_16 : decode prog_2_method_15_code 16 = .ok (.iconst 0, 1) := by decide +kernel
theorem d_k_placeFirstFree_17 : decode prog_2_method_15_code 17 = .ok (.istore 5, 2) := by decide +kernel
theorem d_k_placeFirstFree_19 : decode prog_2_method_15_code 19 = .ok (.iload 5, 2) := by decide +kernel
theorem d_k_placeFirstFree_21 : decode prog_2_method_15_code 21 = .ok (.iload_n 2, 1) := by decide +kernel
theorem d_k_placeFirstFree_22 : decode prog_2_method_15_code 22 = .ok (.if_icmp .ge 66, 3) := by decide +kernel
theorem d_k_placeFirstFree_25 : decode prog_2_method_15_code 25 = .ok (.aload_n 0, 1) := by decide +kernel
theorem d_k_placeFirstFree_26 : decode prog_2_method_15_code 26 = .ok (.getfield 11, 3) := by decide +kernel
theorem d_k_placeFirstFree_29 : decode prog_2_method_15_code 29 = .ok (.aload_n 0, 1) := by decide +kernel
theorem d_k_placeFirstFree_30 : decode prog_2_method_15_code 30 = .ok (.getfield 18, 3) := by decide +kernel
theorem d_k_placeFirstFree_33 : decode prog_2_method_15_code 33 = .ok (.iload 5, 2) := by decide +kernel
theorem d_k_placeFirstFree_35 : decode prog_2_method_15_code 35 = .ok (.iaload, 1) := by decide +kernel
theorem d_k_placeFirstFree_36 : decode prog_2_method_15_code 36 = .ok (.aaload, 1) := by decide +kernel
theorem d_k_placeFirstFree_37 : decode prog_2_method_15_code 37 = .ok (.getfield 111, 3) := by decide +kernel
theorem d_k_placeFirstFree_40 : decode prog_2_method_15_code 40 = .ok (.istore 6, 2) := by decide +kernel
theorem d_k_placeFirstFree_42 : decode prog_2_method_15_code 42 = .ok (.iload 4, 2) := by decide +kernel
theorem d_k_placeFirstFree_44 : decode prog_2_method_15_code 44 = .ok (.iconst (-1), 1) := by decide +kernel
theorem d_k_placeFirstFree_45 : decode prog_2_method_15_code 45 = .ok (.if_icmp .eq 9, 3) := by decide +kernel
theorem d_k_placeFirstFree_48 : decode prog_2_method_15_code 48 = .ok (.iload 6, 2) := by decide +kernel
theorem d_k_placeFirstFree_50 : decode prog_2_method_15_code 50 = .ok (.iload_n 3, 1) := by decide +kernel
theorem d_k_placeFirstFree_51 : decode prog_2_method_15_code 51 = .ok (.if_icmp .ge 31, 3) := by decide +kernel
theorem d_k_placeFirstFree_54 : decode prog_2_method_15_code 54 = .ok (.aload_n 0, 1) := by decide +kernel
theorem d_k_placeFirstFree_55 : decode prog_2_method_15_code 55 = .ok (.aload_n 1, 1) := by decide +kernel
theorem d_k_placeFirstFree_56 : decode prog_2_method_15_code 56 = .ok (.aload_n 0, 1) := by decide +kernel
theorem d_k_placeFirstFree_57 : decode prog_2_method_15_code 57 = .ok (.aload_n 1, 1) := by decide +kernel
theorem d_k_placeFirstFree_58 : decode prog_2_method_15_code 58 = .ok (.iload 6, 2) := by decide +kernel
theorem d_k_placeFirstFree_60 : decode prog_2_method_15_code 60 = .ok (.iload_n 2, 1) := by decide +kernel
theorem d_k_placeFirstFree_61 : decode prog_2_method_15_code 61 = .ok (.invokevirtual 135, 3) := by decide +kernel
theorem d_k_placeFirstFree_64 : decode prog_2_method_15_code 64 = .ok (.invokevirtual 139, 3) := by decide +kernel
theorem d_k_placeFirstFree_67 : decode prog_2_method_15_code 67 = .ok (.istore 7, 2) := by decide +kernel
theorem d_k_placeFirstFree_69 : decode prog_2_method_15_code 69 = .ok (.iload 7, 2) := by decide +kernel
theorem d_k_placeFirstFree_71 : decode prog_2_method_15_code 71 = .ok (.iconst (-1), 1) := by decide +kernel
theorem d_k_placeFirstFree_72 : decode prog_2_method_15_code 72 = .ok (.if_icmp .eq 10, 3) := by decide +kernel
theorem d_k_placeFirstFree_75 : decode prog_2_method_15_code 75 = .ok (.iload 6, 2) := by decide +kernel
theorem d_k_placeFirstFree_77 : decode prog_2_method_15_code 77 = .ok (.istore_n 3, 1) := by decide +kernel
theorem d_k_placeFirstFree_78 : decode prog_2_method_15_code 78 = .ok (.iload 7, 2) := by decide +kernel
theorem d_k_placeFirstFree_80 : decode prog_2_method_15_code 80 = .ok (.istore 4, 2) := by decide +kernel
theorem d_k_placeFirstFree_82 : decode prog_2_method_15_code 82 = .ok (.iinc 5 1, 3) := by decide +kernel
theorem d_k_placeFirstFree_85 : decode prog_2_method_15_code 85 = .ok (.goto (-66), 3) := by decide +kernel
theorem d_k_placeFirstFree_88 : decode prog_2_method_15_code 88 = .ok (.aload_n 1, 1) := by decide +kernel
theorem d_k_placeFirstFree_89 : decode prog_2_method_15_code 89 = .ok (.iload_n 3, 1) := by decide +kernel
theorem d_k_placeFirstFree_90 : decode prog_2_method_15_code 90 = .ok (.iload 4, 2) := by decide +kernel
theorem d_k_placeFirstFree_92 : decode prog_2_method_15_code 92 = .ok (.invokevirtual 127, 3) := by decide +kernel
theorem d_k_placeFirstFree_95 : decode prog_2_method_15_code 95 = .ok (.return_, 1) := by decide +kernel
theorem d_k_packFirstFree_0 : decode prog_2_method_14_code 0 = .ok (.iconst 0, 1) := by decide +kernel
theorem d_k_packFirstFree_1 : decode prog_2_method_14_code 1 = .ok (.istore_n 1, 1) := by decide +kernel
theorem d_k_packFirstFree_2 : decode prog_2_method_14_code 2 = .ok (.iload_n 1, 1) := by decide +kernel
theorem d_k_packFirstFree_3 : decode prog_2_method_14_code 3 = .ok (.aload_n 0, 1) := by decide +kernel
theorem d_k_packFirstFree_4 : decode prog_2_method_14_code 4 = .ok (.getfield 44, 3) := by decide +kernel
theorem d_k_packFirstFree_7 : decode prog_2_method_14_code 7 = .ok (.if_icmp .ge 25, 3) := by decide +kernel
theorem d_k_packFirstFree_10 : decode prog_2_method_14_code 10 = .ok (.aload_n 0, 1) := by decide +kernel
theorem d_k_packFirstFree_11 : decode prog_2_method_14_code 11 = .ok (.aload_n 0, 1) := by decide +kernel
theorem d_k_packFirstFree_12 : decode prog_2_method_14_code 12 = .ok (.getfield 11, 3) := by decide +kernel
theorem d_k_packFirstFree_15 : decode prog_2_method_14_code 15 = .ok (.aload_n 0, 1) := by decide +kernel
theorem d_k_packFirstFree_16 : decode prog_2_method_14_code 16 = .ok (.getfield 18, 3) := by decide +kernel
theorem d_k_packFirstFree_19 : decode prog_2_method_14_code 19 = .ok (.iload_n 1, 1) := by decide +kernel
theorem d_k_packFirstFree_20 : decode prog_2_method_14_code 20 = .ok (.iaload, 1) := by decide +kernel
theorem d_k_packFirstFree_21 : decode prog_2_method_14_code 21 = .ok (.aaload, 1) := by decide +kernel
theorem d_k_packFirstFree_22 : decode prog_2_method_14_code 22 = .ok (.iload_n 1, 1) := by decide +kernel
theorem d_k_packFirstFree_23 : decode prog_2_method_14_code 23 = .ok (.invokevirtual 131, 3) := by decide +kernel
theorem d_k_packFirstFree_26 : decode prog_2_method_14_code 26 = .ok (.iinc 1 1, 3) := by decide +kernel
theorem d_k_packFirstFree_29 : decode prog_2_method_14_code 29 = .ok (.goto (-27), 3) := by decide +kernel
theorem d_k_packFirstFree_32 : decode prog_2_method_14_code 32 = .ok (.return_, 1) := by decide +kernel
theorem d_k_firstShelfFor_0 : decode prog_2_method_13_code 0 = .ok (.iconst 0, 1) := by decide +kernel
theorem d_k_firstShelfFor_1 : decode prog_2_method_13_code 1 = .ok (.istore_n 3, 1) := by decide +kernel
theorem d_k_firstShelfFor_2 : decode prog_2_method_13_code 2 = .ok (.iload_n 3, 1) := by decide +kernel
theorem d_k_firstShelfFor_3 : decode prog_2_method_13_code 3 = .ok (.iload_n 2, 1) := by decide +kernel
theorem d_k_firstShelfFor_4 : decode prog_2_method_13_code 4 = .ok (.if_icmp .ge 42, 3) := by decide +kernel
theorem d_k_firstShelfFor_7 : decode prog_2_method_13_code 7 = .ok (.aload_n 1, 1) := by decide +kernel
theorem d_k_firstShelfFor_8 : decode prog_2_method_13_code 8 = .ok (.getfield 83, 3) := by decide +kernel
theorem d_k_firstShelfFor_11 : decode prog_2_method_13_code 11 = .ok (.aload_n 0, 1) := by decide +kernel
theorem d_k_firstShelfFor_12 : decode prog_2_method_13_code 12 = .ok (.getfield 25, 3) := by decide +kernel
theorem d_k_firstShelfFor_15 : decode prog_2_method_13_code 15 = .ok (.iload_n 3, 1) := by decide +kernel
theorem d_k_firstShelfFor_16 : decode prog_2_method_13_code 16 = .ok (.iaload, 1) := by decide +kernel
theorem d_k_firstShelfFor_17 : decode prog_2_method_13_code 17 = .ok (.if_icmp .gt 23, 3) := by decide +kernel
theorem d_k_firstShelfFor_20 : decode prog_2_method_13_code 20 = .ok (.aload_n 0, 1) := by decide +kernel
theorem d_k_firstShelfFor_21 : decode prog_2_method_13_code 21 = .ok (.getfield 28, 3) := by decide +kernel
theorem d_k_firstShelfFor_24 : decode prog_2_method_13_code 24 = .ok (.iload_n 3, 1) := by decide +kernel
theorem d_k_firstShelfFor_25 : decode prog_2_method_13_code 25 = .ok (.iaload, 1) := by decide +kernel
theorem d_k_firstShelfFor_26 : decode prog_2_method_13_code 26 = .ok (.aload_n 1, 1) := by decide +kernel
theorem d_k_firstShelfFor_27 : decode prog_2_method_13_code 27 = .ok (.getfield 80, 3) := by decide +kernel
theorem d_k_firstShelfFor_30 : decode prog_2_method_13_code 30 = .ok (.iadd, 1) := by decide +kernel
theorem d_k_firstShelfFor_31 : decode prog_2_method_13_code 31 = .ok (.aload_n 0, 1) := by decide +kernel
theorem d_k_firstShelfFor_32 : decode prog_2_method_13_code 32 = .ok (.getfield 41, 3) := by decide +kernel
theorem d_k_firstShelfFor_35 : decode prog_2_method_13_code 35 = .ok (.if_icmp .gt 5, 3) := by decide +kernel
theorem d_k_firstShelfFor_38 : decode prog_2_method_13_code 38 = .ok (.iload_n 3, 1) := by decide +kernel
theorem d_k_firstShelfFor_39 : decode prog_2_method_13_code 39 = .ok (.ireturn, 1) := by decide +kernel
theorem d_k_firstShelfFor_40 : decode prog_2_method_13_code 40 = .ok (.iinc 3 1, 3) := by decide +kernel
theorem d_k_firstShelfFor_43 : decode prog_2_method_13_code 43 = .ok (.goto (-41), 3) := by decide +kernel
theorem d_k_firstShelfFor_46 : decode prog_2_method_13_code 46 = .ok (.iload_n 2, 1) := by decide +kernel
theorem d_k_firstShelfFor_47 : decode prog_2_method_13_code 47 = .ok (.ireturn, 1) := by decide +kernel
theorem d_k_packShelves_0 : decode prog_2_method_12_code 0 = .ok (.iconst 0, 1) := by decide +kernel
theorem d_k_packShelves_1 : decode prog_2_method_12_code 1 = .ok (.istore_n 1, 1) := by decide +kernel
theorem d_k_packShelves_2 : decode prog_2_method_12_code 2 = .ok (.iconst 0, 1) := by decide +kernel
theorem d_k_packShelves_3 : decode prog_2_method_12_code 3 = .ok (.istore_n 2, 1) := by decide +kernel
theorem d_k_packShelves_4 : decode prog_2_method_12_code 4 = .ok (.iconst 0, 1) := by decide +kernel
theorem d_k_packShelves_5 : decode prog_2_method_12_code 5 = .ok (.istore_n 3, 1) := by decide +kernel
theorem d_k_packShelves_6 : decode prog_2_method_12_code 6 = .ok (.iload_n 3, 1) := by decide +kernel
theorem d_k_packShelves_7 : decode prog_2_method_12_code 7 = .ok (.aload_n 0, 1) := by decide +kernel
theorem d_k_packShelves_8 : decode prog_2_method_12_code 8 = .ok (.getfield 44, 3) := by decide +kernel
theorem d_k_packShelves_11 : decode prog_2_method_12_code 11 = .ok (.if_icmp .ge 122, 3) := by decide +kernel
theorem d_k_packShelves_14 : decode prog_2_method_12_code 14 = .ok (.aload_n 0, 1) := by decide +kernel
theorem d_k_packShelves_15 : decode prog_2_method_12_code 15 = .ok (.getfield 11, 3) := by decide +kernel
theorem d_k_packShelves_18 : decode prog_2_method_12_code 18 = .ok (.aload_n 0, 1) := by decide +kernel
theorem d_k_packShelves_19 : decode prog_2_method_12_code 19 = .ok (.getfield 18, 3) := by decide +kernel
theorem d_k_packShelves_22 : decode prog_2_method_12_code 22 = .ok (.iload_n 3, 1) := by decide +kernel
theorem d_k_packShelves_23 : decode prog_2_method_12_code 23 = .ok (.iaload, 1) := by decide +kernel
theorem d_k_packShelves_24 : decode prog_2_method_12_code 24 = .ok (.aaload, 1) := by decide +kernel
theorem d_k_packShelves_25 : decode prog_2_method_12_code 25 = .ok (.astore 4, 2) := by decide +kernel
theorem d_k_packShelves_27 : decode prog_2_method_12_code 27 = .ok (.aload 4, 2) := by decide +kernel
theorem d_k_packShelves_29 : decode prog_2_method_12_code 29 = .ok (.getfield 77, 3) := by decide +kernel
theorem d_k_packShelves_32 : decode prog_2_method_12_code 32 = .ok (.ifCond .eq 7, 3) := by decide +kernel
theorem d_k_packShelves_35 : decode prog_2_method_12_code 35 = .ok (.iload_n 1, 1) := by decide +kernel
theorem d_k_packShelves_36 : decode prog_2_method_12_code 36 = .ok (.goto 10, 3) := by decide +kernel
theorem d_k_packShelves_39 : decode prog_2_method_12_code 39 = .ok (.aload_n 0, 1) := by decide +kernel
theorem d_k_packShelves_40 : decode prog_2_method_12_code 40 = .ok (.aload 4, 2) := by decide +kernel
theorem d_k_packShelves_42 : decode prog_2_method_12_code 42 = .ok (.iload_n 1, 1) := by decide +kernel
theorem d_k_packShelves_43 : decode prog_2_method_12_code 43 = .ok (.invokevirtual 123, 3) := by decide +kernel
theorem d_k_packShelves_46 : decode prog_2_method_12_code 46 = .ok (.istore 5, 2) := by decide +kernel
theorem d_k_packShelves_48 : decode prog_2_method_12_code 48 = .ok (.iload 5, 2) := by decide +kernel
theorem d_k_packShelves_50 : decode prog_2_method_12_code 50 = .ok (.iload_n 1, 1) := by decide +kernel
theorem d_k_packShelves_51 : decode prog_2_method_12_code 51 = .ok (.if_icmp .ne 42, 3) := by decide +kernel
theorem d_k_packShelves_54 : decode prog_2_method_12_code 54 = .ok (.aload_n 0, 1) := by decide +kernel
theorem d_k_packShelves_55 : decode prog_2_method_12_code 55 = .ok (.getfield 22, 3) := by decide +kernel
theorem d_k_packShelves_58 : decode prog_2_method_12_code 58 = .ok (.iload 5, 2) := by decide +kernel
theorem d_k_packShelves_60 : decode prog_2_method_12_code 60 = .ok (.iload_n 2, 1) := by decide +kernel
theorem d_k_packShelves_61 : decode prog_2_method_12_code 61 = .ok (.iastore, 1) := by decide +kernel
theorem d_k_packShelves_62 : decode prog_2_method_12_code 62 = .ok (.aload_n 0, 1) := by decide +kernel
theorem d_k_packShelves_63 : decode prog_2_method_12_code 63 = .ok (.getfield 25, 3) := by decide +kernel
theorem d_k_packShelves_66 : decode prog_2_method_12_code 66 = .ok (.iload 5, 2) := by decide +kernel
theorem d_k_packShelves_68 : decode prog_2_method_12_code 68 = .ok (.aload 4, 2) := by decide +kernel
theorem d_k_packShelves_70 : decode prog_2_method_12_code 70 = .ok (.getfield 83, 3) := by decide +kernel
theorem d_k_packShelves_73 : decode prog_2_method_12_code 73 = .ok (.iastore, 1) := by decide +kernel
theorem d_k_packShelves_74 : decode prog_2_method_12_code 74 = .ok (.aload_n 0, 1) := by decide +kernel
theorem d_k_packShelves_75 : decode prog_2_method_12_code 75 = .ok (.getfield 28, 3) := by decide +kernel
theorem d_k_packShelves_78 : decode prog_2_method_12_code 78 = .ok (.iload 5, 2) := by decide +kernel
theorem d_k_packShelves_80 : decode prog_2_method_12_code 80 = .ok (.iconst 0, 1) := by decide +kernel
theorem d_k_packShelves_81 : decode prog_2_method_12_code 81 = .ok (.iastore, 1) := by decide +kernel
theorem d_k_packShelves_82 : decode prog_2_method_12_code 82 = .ok (.iload_n 2, 1) := by decide +kernel
theorem d_k_packShelves_83 : decode prog_2_method_12_code 83 = .ok (.aload 4, 2) := by decide +kernel
theorem d_k_packShelves_85 : decode prog_2_method_12_code 85 = .ok (.getfield 83, 3) := by decide +kernel
theorem d_k_packShelves_88 : decode prog_2_method_12_code 88 = .ok (.iadd, 1) := by decide +kernel
theorem d_k_packShelves_89 : decode prog_2_method_12_code 89 = .ok (.istore_n 2, 1) := by decide +kernel
theorem d_k_packShelves_90 : decode prog_2_method_12_code 90 = .ok (.iinc 1 1, 3) := by decide +kernel
theorem d_k_packShelves_93 : decode prog_2_method_12_code 93 = .ok (.aload 4, 2) := by decide +kernel
theorem d_k_packShelves_95 : decode prog_2_method_12_code 95 = .ok (.aload_n 0, 1) := by decide +kernel
theorem d_k_packShelves_96 : decode prog_2_method_12_code 96 = .ok (.getfield 22, 3) := by decide +kernel
theorem d_k_packShelves_99 : decode prog_2_method_12_code 99 = .ok (.iload 5, 2) := by decide +kernel
theorem d_k_packShelves_101 : decode prog_2_method_12_code 101 = .ok (.iaload, 1) := by decide +kernel
theorem d_k_packShelves_102 : decode prog_2_method_12_code 102 = .ok (.aload_n 0, 1) := by decide +kernel
theorem d_k_packShelves_103 : decode prog_2_method_12_code 103 = .ok (.getfield 28, 3) := by decide +kernel
theorem d_k_packShelves_106 : decode prog_2_method_12_code 106 = .ok (.iload 5, 2) := by decide +kernel
theorem d_k_packShelves_108 : decode prog_2_method_12_code 108 = .ok (.iaload, 1) := by decide +kernel
theorem d_k_packShelves_109 : decode prog_2_method_12_code 109 = .ok (.invokevirtual 127, 3) := by decide +kernel
theorem d_k_packShelves_112 : decode prog_2_method_12_code 112 = .ok (.aload_n 0, 1) := by decide +kernel
theorem d_k_packShelves_113 : decode prog_2_method_12_code 113 = .ok (.getfield 28, 3) := by decide +kernel
theorem d_k_packShelves_116 : decode prog_2_method_12_code 116 = .ok (.iload 5, 2) := by decide +kernel
theorem d_k_packShelves_118 : decode prog_2_method_12_code 118 = .ok (.dup2, 1) := by decide +kernel
theorem d_k_packShelves_119 : decode prog_2_method_12_code 119 = .ok (.iaload, 1) := by decide +kernel
theorem d_k_packShelves_120 : decode prog_2_method_12_code 120 = .ok (.aload 4, 2) := by decide +kernel
theorem d_k_packShelves_122 : decode prog_2_method_12_code 122 = .ok (.getfield 80, 3) := by decide +kernel
theorem d_k_packShelves_125 : decode prog_2_method_12_code 125 = .ok (.iadd, 1) := by decide +kernel
theorem d_k_packShelves_126 : decode prog_2_method_12_code 126 = .ok (.iastore, 1) := by decide +kernel
theorem d_k_packShelves_127 : decode prog_2_method_12_code 127 = .ok (.iinc 3 1, 3) := by decide +kernel
theorem d_k_packShelves_130 : decode prog_2_method_12_code 130 = .ok (.goto (-124), 3) := by decide +kernel
theorem d_k_packShelves_133 : decode prog_2_method_12_code 133 = .ok (.return_, 1) := by decide +kernel
theorem d_k_lengthPacked_0 : decode prog_2_method_10_code 0 = .ok (.aload_n 0, 1) := by decide +kernel
theorem d_k_lengthPacked_1 : decode prog_2_method_10_code 1 = .ok (.invokevirtual 97, 3) := by decide +kernel
theorem d_k_lengthPacked_4 : decode prog_2_method_10_code 4 = .ok (.ifCond .ne 7, 3) := by decide +kernel
theorem d_k_lengthPacked_7 : decode prog_2_method_10_code 7 = .ok (.sipush (-1007), 3) := by decide +kernel
theorem d_k_lengthPacked_10 : decode prog_2_method_10_code 10 = .ok (.ireturn, 1) := by decide +kernel
theorem d_k_lengthPacked_11 : decode prog_2_method_10_code 11 = .ok (.aload_n 0, 1) := by decide +kernel
theorem d_k_lengthPacked_12 : decode prog_2_method_10_code 12 = .ok (.iload_n 2, 1) := by decide +kernel
theorem d_k_lengthPacked_13 : decode prog_2_method_10_code 13 = .ok (.invokevirtual 101, 3) := by decide +kernel
theorem d_k_lengthPacked_16 : decode prog_2_method_10_code 16 = .ok (.iload_n 1, 1) := by decide +kernel
theorem d_k_lengthPacked_17 : decode prog_2_method_10_code 17 = .ok (.ifCond .ne 10, 3) := by decide +kernel
theorem d_k_lengthPacked_20 : decode prog_2_method_10_code 20 = .ok (.aload_n 0, 1) := by decide +kernel
theorem d_k_lengthPacked_21 : decode prog_2_method_10_code 21 = .ok (.invokevirtual 105, 3) := by decide +kernel
theorem d_k_lengthPacked_24 : decode prog_2_method_10_code 24 = .ok (.goto 7, 3) := by decide +kernel
theorem d_k_lengthPacked_27 : decode prog_2_method_10_code 27 = .ok (.aload_n 0, 1) := by decide +kernel
theorem d_k_lengthPacked_28 : decode prog_2_method_10_code 28 = .ok (.invokevirtual 108, 3) := by decide +kernel
theorem d_k_lengthPacked_31 : decode prog_2_method_10_code 31 = .ok (.iconst 0, 1) := by decide +kernel
theorem d_k_lengthPacked_32 : decode prog_2_method_10_code 32 = .ok (.istore_n 3, 1) := by decide +kernel
theorem d_k_lengthPacked_33 : decode prog_2_method_10_code 33 = .ok (.iconst 0, 1) := by decide +kernel
theorem d_k_lengthPacked_34 : decode prog_2_method_10_code 34 = .ok (.istore 4, 2) := by decide +kernel
theorem d_k_lengthPacked_36 : decode prog_2_method_10_code 36 = .ok (.iload 4, 2) := by decide +kernel
theorem d_k_lengthPacked_38 : decode prog_2_method_10_code 38 = .ok (.aload_n 0, 1) := by decide +kernel
theorem d_k_lengthPacked_39 : decode prog_2_method_10_code 39 = .ok (.getfield 44, 3) := by decide +kernel
theorem d_k_lengthPacked_42 : decode prog_2_method_10_code 42 = .ok (.if_icmp .ge 24, 3) := by decide +kernel
theorem d_k_lengthPacked_45 : decode prog_2_method_10_code 45 = .ok (.iload_n 3, 1) := by decide +kernel
theorem d_k_lengthPacked_46 : decode prog_2_method_10_code 46 = .ok (.aload_n 0, 1) := by decide +kernel
theorem d_k_lengthPacked_47 : decode prog_2_method_10_code 47 = .ok (.getfield 11, 3) := by decide +kernel
theorem d_k_lengthPacked_50 : decode prog_2_method_10_code 50 = .ok (.iload 4, 2) := by decide +kernel
theorem d_k_lengthPacked_52 : decode prog_2_method_10_code 52 = .ok (.aaload, 1) := by decide +kernel
theorem d_k_lengthPacked_53 : decode prog_2_method_10_code 53 = .ok (.getfield 111, 3) := by decide +kernel
theorem d_k_lengthPacked_56 : decode prog_2_method_10_code 56 = .ok (.invokestatic 114, 3) := by decide +kernel
theorem d_k_lengthPacked_59 : decode prog_2_method_10_code 59 = .ok (.istore_n 3, 1) := by decide +kernel
theorem d_k_lengthPacked_60 : decode prog_2_method_10_code 60 = .ok (.iinc 4 1, 3) := by decide +kernel
theorem d_k_lengthPacked_63 : decode prog_2_method_10_code 63 = .ok (.goto (-27), 3) := by decide +kernel
theorem d_k_lengthPacked_66 : decode prog_2_method_10_code 66 = .ok (.iload_n 3, 1) := by decide +kernel
theorem d_k_lengthPacked_67 : decode prog_2_method_10_code 67 = .ok (.ireturn, 1) := by decide +kernel
theorem d_c_copyFrom_0 : decode prog_4_method_2_code 0 = .ok (.aload_n 0, 1) := by decide +kernel
theorem d_c_copyFrom_1 : decode prog_4_method_2_code 1 = .ok (.aload_n 1, 1) := by decide +kernel
theorem d_c_copyFrom_2 : decode prog_4_method_2_code 2 = .ok (.getfield 9, 3) := by decide +kernel
theorem d_c_copyFrom_5 : decode prog_4_method_2_code 5 = .ok (.putfield 9, 3) := by decide +kernel
theorem d_c_copyFrom_8 : decode prog_4_method_2_code 8 = .ok (.aload_n 0, 1) := by decide +kernel
theorem d_c_copyFrom_9 : decode prog_4_method_2_code 9 = .ok (.aload_n 1, 1) := by decide +kernel
theorem d_c_copyFrom_10 : decode prog_4_method_2_code 10 = .ok (.getfield 15, 3) := by decide +kernel
theorem d_c_copyFrom_13 : decode prog_4_method_2_code 13 = .ok (.putfield 15, 3) := by decide +kernel
theorem d_c_copyFrom_16 : decode prog_4_method_2_code 16 = .ok (.aload_n 0, 1) := by decide +kernel
theorem d_c_copyFrom_17 : decode prog_4_method_2_code 17 = .ok (.aload_n 1, 1) := by decide +kernel
theorem d_c_copyFrom_18 : decode prog_4_method_2_code 18 = .ok (.getfield 19, 3) := by decide +kernel
theorem d_c_copyFrom_21 : decode prog_4_method_2_code 21 = .ok (.putfield 19, 3) := by decide +kernel
theorem d_c_copyFrom_24 : decode prog_4_method_2_code 24 = .ok (.aload_n 0, 1) := by decide +kernel
theorem d_c_copyFrom_25 : decode prog_4_method_2_code 25 = .ok (.aload_n 1, 1) := by decide +kernel
theorem d_c_copyFrom_26 : decode prog_4_method_2_code 26 = .ok (.getfield 22, 3) := by decide +kernel
theorem d_c_copyFrom_29 : decode prog_4_method_2_code 29 = .ok (.putfield 22, 3) := by decide +kernel
theorem d_c_copyFrom_32 : decode prog_4_method_2_code 32 = .ok (.aload_n 0, 1) := by decide +kernel
theorem d_c_copyFrom_33 : decode prog_4_method_2_code 33 = .ok (.aload_n 1, 1) := by decide +kernel
theorem d_c_copyFrom_34 : decode prog_4_method_2_code 34 = .ok (.getfield 25, 3) := by decide +kernel
theorem d_c_copyFrom_37 : decode prog_4_method_2_code 37 = .ok (.putfield 25, 3) := by decide +kernel
theorem d_c_copyFrom_40 : decode prog_4_method_2_code 40 = .ok (.aload_n 0, 1) := by decide +kernel
theorem d_c_copyFrom_41 : decode prog_4_method_2_code 41 = .ok (.aload_n 1, 1) := by decide +kernel
theorem d_c_copyFrom_42 : decode prog_4_method_2_code 42 = .ok (.getfield 28, 3) := by decide +kernel
theorem d_c_copyFrom_45 : decode prog_4_method_2_code 45 = .ok (.putfield 28, 3) := by decide +kernel
theorem d_c_copyFrom_48 : decode prog_4_method_2_code 48 = .ok (.return_, 1) := by decide +kernel
theorem d_s_copyFrom_0 : decode prog_5_method_2_code 0 = .ok (.aload_n 0, 1) := by decide +kernel
theorem d_s_copyFrom_1 : decode prog_5_method_2_code 1 = .ok (.aload_n 1, 1) := by decide +kernel
theorem d_s_copyFrom_2 : decode prog_5_method_2_code 2 = .ok (.getfield 7, 3) := by decide +kernel
theorem d_s_copyFrom_5 : decode prog_5_method_2_code 5 = .ok (.putfield 7, 3) := by decide +kernel
theorem d_s_copyFrom_8 : decode prog_5_method_2_code 8 = .ok (.aload_n 0, 1) := by decide +kernel
theorem d_s_copyFrom_9 : decode prog_5_method_2_code 9 = .ok (.aload_n 1, 1) := by decide +kernel
theorem d_s_copyFrom_10 : decode prog_5_method_2_code 10 = .ok (.getfield 13, 3) := by decide +kernel
theorem d_s_copyFrom_13 : decode prog_5_method_2_code 13 = .ok (.putfield 13, 3) := by decide +kernel
theorem d_s_copyFrom_16 : decode prog_5_method_2_code 16 = .ok (.aload_n 0, 1) := by decide +kernel
theorem d_s_copyFrom_17 : decode prog_5_method_2_code 17 = .ok (.aload_n 1, 1) := by decide +kernel
theorem d_s_copyFrom_18 : decode prog_5_method_2_code 18 = .ok (.getfield 16, 3) := by decide +kernel
theorem d_s_copyFrom_21 : decode prog_5_method_2_code 21 = .ok (.putfield 16, 3) := by decide +kernel
theorem d_s_copyFrom_24 : decode prog_5_method_2_code 24 = .ok (.aload_n 0, 1) := by decide +kernel
theorem d_s_copyFrom_25 : decode prog_5_method_2_code 25 = .ok (.aload_n 1, 1) := by decide +kernel
theorem d_s_copyFrom_26 : decode prog_5_method_2_code 26 = .ok (.getfield 19, 3) := by decide +kernel
theorem d_s_copyFrom_29 : decode prog_5_method_2_code 29 = .ok (.putfield 19, 3) := by decide +kernel
theorem d_s_copyFrom_32 : decode prog_5_method_2_code 32 = .ok (.aload_n 0, 1) := by decide +kernel
theorem d_s_copyFrom_33 : decode prog_5_method_2_code 33 = .ok (.aload_n 1, 1) := by decide +kernel
theorem d_s_copyFrom_34 : decode prog_5_method_2_code 34 = .ok (.getfield 22, 3) := by decide +kernel
theorem d_s_copyFrom_37 : decode prog_5_method_2_code 37 = .ok (.putfield 22, 3) := by decide +kernel
theorem d_s_copyFrom_40 : decode prog_5_method_2_code 40 = .ok (.return_, 1) := by decide +kernel
theorem d_s_uses_0 : decode prog_5_method_3_code 0 = .ok (.aload_n 0, 1) := by decide +kernel
theorem d_s_uses_1 : decode prog_5_method_3_code 1 = .ok (.getfield 7, 3) := by decide +kernel
theorem d_s_uses_4 : decode prog_5_method_3_code 4 = .ok (.iload_n 1, 1) := by decide +kernel
theorem d_s_uses_5 : decode prog_5_method_3_code 5 = .ok (.if_icmp .eq 11, 3) := by decide +kernel
theorem d_s_uses_8 : decode prog_5_method_3_code 8 = .ok (.aload_n 0, 1) := by decide +kernel
theorem d_s_uses_9 : decode prog_5_method_3_code 9 = .ok (.getfield 16, 3) := by decide +kernel
theorem d_s_uses_12 : decode prog_5_method_3_code 12 = .ok (.iload_n 1, 1) := by decide +kernel
theorem d_s_uses_13 : decode prog_5_method_3_code 13 = .ok (.if_icmp .ne 7, 3) := by decide +kernel
theorem d_s_uses_16 : decode prog_5_method_3_code 16 = .ok (.iconst 1, 1) := by decide +kernel
theorem d_s_uses_17 : decode prog_5_method_3_code 17 = .ok (.goto 4, 3) := by decide +kernel
theorem d_s_uses_20 : decode prog_5_method_3_code 20 = .ok (.iconst 0, 1) := by decide +kernel
theorem d_s_uses_21 : decode prog_5_method_3_code 21 = .ok (.ireturn, 1) := by decide +kernel
theorem d_t_copyFrom_0 : decode prog_6_method_2_code 0 = .ok (.iconst 0, 1) := by decide +kernel
theorem d_t_copyFrom_1 : decode prog_6_method_2_code 1 = .ok (.istore_n 2, 1) := by decide +kernel
theorem d_t_copyFrom_2 : decode prog_6_method_2_code 2 = .ok (.iload_n 2, 1) := by decide +kernel
theorem d_t_copyFrom_3 : decode prog_6_method_2_code 3 = .ok (.bipush 6, 2) := by decide +kernel
theorem d_t_copyFrom_5 : decode prog_6_method_2_code 5 = .ok (.if_icmp .ge 24, 3) := by decide +kernel
theorem d_t_copyFrom_8 : decode prog_6_method_2_code 8 = .ok (.aload_n 0, 1) := by decide +kernel
theorem d_t_copyFrom_9 : decode prog_6_method_2_code 9 = .ok (.getfield 11, 3) := by decide +kernel
theorem d_t_copyFrom_12 : decode prog_6_method_2_code 12 = .ok (.iload_n 2, 1) := by decide +kernel
theorem d_t_copyFrom_13 : decode prog_6_method_2_code 13 = .ok (.aaload, 1) := by decide +kernel
theorem d_t_copyFrom_14 : decode prog_6_method_2_code 14 = .ok (.aload_n 1, 1) := by decide +kernel
theorem d_t_copyFrom_15 : decode prog_6_method_2_code 15 = .ok (.getfield 11, 3) := by decide +kernel
theorem d_t_copyFrom_18 : decode prog_6_method_2_code 18 = .ok (.iload_n 2, 1) := by decide +kernel
theorem d_t_copyFrom_19 : decode prog_6_method_2_code 19 = .ok (.aaload, 1) := by decide +kernel
theorem d_t_copyFrom_20 : decode prog_6_method_2_code 20 = .ok (.invokevirtual 42, 3) := by decide +kernel
theorem d_t_copyFrom_23 : decode prog_6_method_2_code 23 = .ok (.iinc 2 1, 3) := by decide +kernel
theorem d_t_copyFrom_26 : decode prog_6_method_2_code 26 = .ok (.goto (-24), 3) := by decide +kernel
theorem d_t_copyFrom_29 : decode prog_6_method_2_code 29 = .ok (.iconst 0, 1) := by decide +kernel
theorem d_t_copyFrom_30 : decode prog_6_method_2_code 30 = .ok (.istore_n 2, 1) := by decide +kernel
theorem d_t_copyFrom_31 : decode prog_6_method_2_code 31 = .ok (.iload_n 2, 1) := by decide +kernel
theorem d_t_copyFrom_32 : decode prog_6_method_2_code 32 = .ok (.bipush 6, 2) := by decide +kernel
theorem d_t_copyFrom_34 : decode prog_6_method_2_code 34 = .ok (.if_icmp .ge 24, 3) := by decide +kernel
theorem d_t_copyFrom_37 : decode prog_6_method_2_code 37 = .ok (.aload_n 0, 1) := by decide +kernel
theorem d_t_copyFrom_38 : decode prog_6_method_2_code 38 = .ok (.getfield 20, 3) := by decide +kernel
theorem d_t_copyFrom_41 : decode prog_6_method_2_code 41 = .ok (.iload_n 2, 1) := by decide +kernel
theorem d_t_copyFrom_42 : decode prog_6_method_2_code 42 = .ok (.aaload, 1) := by decide +kernel
theorem d_t_copyFrom_43 : decode prog_6_method_2_code 43 = .ok (.aload_n 1, 1) := by decide +kernel
theorem d_t_copyFrom_44 : decode prog_6_method_2_code 44 = .ok (.getfield 20, 3) := by decide +kernel
theorem d_t_copyFrom_47 : decode prog_6_method_2_code 47 = .ok (.iload_n 2, 1) := by decide +kernel
theorem d_t_copyFrom_48 : decode prog_6_method_2_code 48 = .ok (.aaload, 1) := by decide +kernel
theorem d_t_copyFrom_49 : decode prog_6_method_2_code 49 = .ok (.invokevirtual 46, 3) := by decide +kernel
theorem d_t_copyFrom_52 : decode prog_6_method_2_code 52 = .ok (.iinc 2 1, 3) := by decide +kernel
theorem d_t_copyFrom_55 : decode prog_6_method_2_code 55 = .ok (.goto (-24), 3) := by decide +kernel
theorem d_t_copyFrom_58 : decode prog_6_method_2_code 58 = .ok (.aload_n 0, 1) := by decide +kernel
theorem d_t_copyFrom_59 : decode prog_6_method_2_code 59 = .ok (.aload_n 1, 1) := by decide +kernel
theorem d_t_copyFrom_60 : decode prog_6_method_2_code 60 = .ok (.getfield 49, 3) := by decide +kernel
theorem d_t_copyFrom_63 : decode prog_6_method_2_code 63 = .ok (.putfield 49, 3) := by decide +kernel
theorem d_t_copyFrom_66 : decode prog_6_method_2_code 66 = .ok (.aload_n 1, 1) := by decide +kernel
theorem d_t_copyFrom_67 : decode prog_6_method_2_code 67 = .ok (.getfield 25, 3) := by decide +kernel
theorem d_t_copyFrom_70 : decode prog_6_method_2_code 70 = .ok (.iconst 0, 1) := by decide +kernel
theorem d_t_copyFrom_71 : decode prog_6_method_2_code 71 = .ok (.aload_n 0, 1) := by decide +kernel
theorem d_t_copyFrom_72 : decode prog_6_method_2_code 72 = .ok (.getfield 25, 3) := by decide +kernel
theorem d_t_copyFrom_75 : decode prog_6_method_2_code 75 = .ok (.iconst 0, 1) := by decide +kernel
theorem d_t_copyFrom_76 : decode prog_6_method_2_code 76 = .ok (.iconst 3, 1) := by decide +kernel
theorem d_t_copyFrom_77 : decode prog_6_method_2_code 77 = .ok (.invokestatic 52, 3) := by decide +kernel
theorem d_t_copyFrom_80 : decode prog_6_method_2_code 80 = .ok (.aload_n 1, 1) := by decide +kernel
theorem d_t_copyFrom_81 : decode prog_6_method_2_code 81 = .ok (.getfield 29, 3) := by decide +kernel
theorem d_t_copyFrom_84 : decode prog_6_method_2_code 84 = .ok (.iconst 0, 1) := by decide +kernel
theorem d_t_copyFrom_85 : decode prog_6_method_2_code 85 = .ok (.aload_n 0, 1) := by decide +kernel
theorem d_t_copyFrom_86 : decode prog_6_method_2_code 86 = .ok (.getfield 29, 3) := by decide +kernel
theorem d_t_copyFrom_89 : decode prog_6_method_2_code 89 = .ok (.iconst 0, 1) := by decide +kernel
theorem d_t_copyFrom_90 : decode prog_6_method_2_code 90 = .ok (.iconst 3, 1) := by decide +kernel
theorem d_t_copyFrom_91 : decode prog_6_method_2_code 91 = .ok (.invokestatic 52, 3) := by decide +kernel
theorem d_t_copyFrom_94 : decode prog_6_method_2_code 94 = .ok (.aload_n 0, 1) := by decide +kernel
theorem d_t_copyFrom_95 : decode prog_6_method_2_code 95 = .ok (.aload_n 1, 1) := by decide +kernel
theorem d_t_copyFrom_96 : decode prog_6_method_2_code 96 = .ok (.getfield 32, 3) := by decide +kernel
theorem d_t_copyFrom_99 : decode prog_6_method_2_code 99 = .ok (.putfield 32, 3) := by decide +kernel
theorem d_t_copyFrom_102 : decode prog_6_method_2_code 102 = .ok (.aload_n 0, 1) := by decide +kernel
theorem d_t_copyFrom_103 : decode prog_6_method_2_code 103 = .ok (.aload_n 1, 1) := by decide +kernel
theorem d_t_copyFrom_104 : decode prog_6_method_2_code 104 = .ok (.getfield 58, 3) := by decide +kernel
theorem d_t_copyFrom_107 : decode prog_6_method_2_code 107 = .ok (.putfield 58, 3) := by decide +kernel
theorem d_t_copyFrom_110 : decode prog_6_method_2_code 110 = .ok (.aload_n 0, 1) := by decide +kernel
theorem d_t_copyFrom_111 : decode prog_6_method_2_code 111 = .ok (.aload_n 1, 1) := by decide +kernel
theorem d_t_copyFrom_112 : decode prog_6_method_2_code 112 = .ok (.getfield 62, 3) := by decide +kernel
theorem d_t_copyFrom_115 : decode prog_6_method_2_code 115 = .ok (.putfield 62, 3) := by decide +kernel
theorem d_t_copyFrom_118 : decode prog_6_method_2_code 118 = .ok (.aload_n 0, 1) := by decide +kernel
theorem d_t_copyFrom_119 : decode prog_6_method_2_code 119 = .ok (.aload_n 1, 1) := by decide +kernel
theorem d_t_copyFrom_120 : decode prog_6_method_2_code 120 = .ok (.getfield 36, 3) := by decide +kernel
theorem d_t_copyFrom_123 : decode prog_6_method_2_code 123 = .ok (.putfield 36, 3) := by decide +kernel
theorem d_t_copyFrom_126 : decode prog_6_method_2_code 126 = .ok (.aload_n 0, 1) := by decide +kernel
theorem d_t_copyFrom_127 : decode prog_6_method_2_code 127 = .ok (.aload_n 1, 1) := by decide +kernel
theorem d_t_copyFrom_128 : decode prog_6_method_2_code 128 = .ok (.getfield 39, 3) := by decide +kernel
theorem d_t_copyFrom_131 : decode prog_6_method_2_code 131 = .ok (.putfield 39, 3) := by decide +kernel
theorem d_t_copyFrom_134 : decode prog_6_method_2_code 134 = .ok (.return_, 1) := by decide +kernel
theorem d_t_isDefined_0 : decode prog_6_method_3_code 0 = .ok (.iload_n 1, 1) := by decide +kernel
theorem d_t_isDefined_1 : decode prog_6_method_3_code 1 = .ok (.iconst 0, 1) := by decide +kernel
theorem d_t_isDefined_2 : decode prog_6_method_3_code 2 = .ok (.iconst 5, 1) := by decide +kernel
theorem d_t_isDefined_3 : decode prog_6_method_3_code 3 = .ok (.invokestatic 65, 3) := by decide +kernel
theorem d_t_isDefined_6 : decode prog_6_method_3_code 6 = .ok (.ifCond .eq 19, 3) := by decide +kernel
theorem d_t_isDefined_9 : decode prog_6_method_3_code 9 = .ok (.aload_n 0, 1) := by decide +kernel
theorem d_t_isDefined_10 : decode prog_6_method_3_code 10 = .ok (.getfield 11, 3) := by decide +kernel
theorem d_t_isDefined_13 : decode prog_6_method_3_code 13 = .ok (.iload_n 1, 1) := by decide +kernel
theorem d_t_isDefined_14 : decode prog_6_method_3_code 14 = .ok (.aaload, 1) := by decide +kernel
theorem d_t_isDefined_15 : decode prog_6_method_3_code 15 = .ok (.getfield 69, 3) := by decide +kernel
theorem d_t_isDefined_18 : decode prog_6_method_3_code 18 = .ok (.ifCond .eq 7, 3) := by decide +kernel
theorem d_t_isDefined_21 : decode prog_6_method_3_code 21 = .ok (.iconst 1, 1) := by decide +kernel
theorem d_t_isDefined_22 : decode prog_6_method_3_code 22 = .ok (.goto 4, 3) := by decide +kernel
theorem d_t_isDefined_25 : decode prog_6_method_3_code 25 = .ok (.iconst 0, 1) := by decide +kernel
theorem d_t_isDefined_26 : decode prog_6_method_3_code 26 = .ok (.ireturn, 1) := by decide +kernel
theorem d_t_definedPieces_0 : decode prog_6_method_4_code 0 = .ok (.iconst 0, 1) := by decide +kernel
theorem d_t_definedPieces_1 : decode prog_6_method_4_code 1 = .ok (.istore_n 1, 1) := by decide +kernel
theorem d_t_definedPieces_2 : decode prog_6_method_4_code 2 = .ok (.iconst 0, 1) := by decide +kernel
theorem d_t_definedPieces_3 : decode prog_6_method_4_code 3 = .ok (.istore_n 2, 1) := by decide +kernel
theorem d_t_definedPieces_4 : decode prog_6_method_4_code 4 = .ok (.iload_n 2, 1) := by decide +kernel
theorem d_t_definedPieces_5 : decode prog_6_method_4_code 5 = .ok (.bipush 6, 2) := by decide +kernel
theorem d_t_definedPieces_7 : decode prog_6_method_4_code 7 = .ok (.if_icmp .ge 24, 3) := by decide +kernel
theorem d_t_definedPieces_10 : decode prog_6_method_4_code 10 = .ok (.aload_n 0, 1) := by decide +kernel
theorem d_t_definedPieces_11 : decode prog_6_method_4_code 11 = .ok (.getfield 11, 3) := by decide +kernel
theorem d_t_definedPieces_14 : decode prog_6_method_4_code 14 = .ok (.iload_n 2, 1) := by decide +kernel
theorem d_t_definedPieces_15 : decode prog_6_method_4_code 15 = .ok (.aaload, 1) := by decide +kernel
theorem d_t_definedPieces_16 : decode prog_6_method_4_code 16 = .ok (.getfield 69, 3) := by decide +kernel
theorem d_t_definedPieces_19 : decode prog_6_method_4_code 19 = .ok (.ifCond .eq 6, 3) := by decide +kernel
theorem d_t_definedPieces_22 : decode prog_6_method_4_code 22 = .ok (.iinc 1 1, 3) := by decide +kernel
theorem d_t_definedPieces_25 : decode prog_6_method_4_code 25 = .ok (.iinc 2 1, 3) := by decide +kernel
theorem d_t_definedPieces_28 : decode prog_6_method_4_code 28 = .ok (.goto (-24), 3) := by decide +kernel
theorem d_t_definedPieces_31 : decode prog_6_method_4_code 31 = .ok (.iload_n 1, 1) := by decide +kernel
theorem d_t_definedPieces_32 : decode prog_6_method_4_code 32 = .ok (.ireturn, 1) := by decide +kernel
theorem d_t_removeSeamsOf_0 : decode prog_6_method_5_code 0 = .ok (.iconst 0, 1) := by decide +kernel
theorem d_t_removeSeamsOf_1 : decode prog_6_method_5_code 1 = .ok (.istore_n 2, 1) := by decide +kernel
theorem d_t_removeSeamsOf_2 : decode prog_6_method_5_code 2 = .ok (.iconst 0, 1) := by decide +kernel
theorem d_t_removeSeamsOf_3 : decode prog_6_method_5_code 3 = .ok (.istore_n 3, 1) := by decide +kernel
theorem d_t_removeSeamsOf_4 : decode prog_6_method_5_code 4 = .ok (.iload_n 3, 1) := by decide +kernel
theorem d_t_removeSeamsOf_5 : decode prog_6_method_5_code 5 = .ok (.aload_n 0, 1) := by decide +kernel
theorem d_t_removeSeamsOf_6 : decode prog_6_method_5_code 6 = .ok (.getfield 49, 3) := by decide +kernel
theorem d_t_removeSeamsOf_9 : decode prog_6_method_5_code 9 = .ok (.if_icmp .ge 40, 3) := by decide +kernel
theorem d_t_removeSeamsOf_12 : decode prog_6_method_5_code 12 = .ok (.aload_n 0, 1) := by decide +kernel
theorem d_t_removeSeamsOf_13 : decode prog_6_method_5_code 13 = .ok (.getfield 20, 3) := by decide +kernel
theorem d_t_removeSeamsOf_16 : decode prog_6_method_5_code 16 = .ok (.iload_n 3, 1) := by decide +kernel
theorem d_t_removeSeamsOf_17 : decode prog_6_method_5_code 17 = .ok (.aaload, 1) := by decide +kernel
theorem d_t_removeSeamsOf_18 : decode prog_6_method_5_code 18 = .ok (.iload_n 1, 1) := by decide +kernel
theorem d_t_removeSeamsOf_19 : decode prog_6_method_5_code 19 = .ok (.invokevirtual 72, 3) := by decide +kernel
theorem d_t_removeSeamsOf_22 : decode prog_6_method_5_code 22 = .ok (.ifCond .ne 21, 3) := by decide +kernel
theorem d_t_removeSeamsOf_25 : decode prog_6_method_5_code 25 = .ok (.aload_n 0, 1) := by decide +kernel
theorem d_t_removeSeamsOf_26 : decode prog_6_method_5_code 26 = .ok (.getfield 20, 3) := by decide +kernel
theorem d_t_removeSeamsOf_29 : decode prog_6_method_5_code 29 = .ok (.iload_n 2, 1) := by decide +kernel
theorem d_t_removeSeamsOf_30 : decode prog_6_method_5_code 30 = .ok (.aaload, 1) := by decide +kernel
theorem d_t_removeSeamsOf_31 : decode prog_6_method_5_code 31 = .ok (.aload_n 0, 1) := by decide +kernel
theorem d_t_removeSeamsOf_32 : decode prog_6_method_5_code 32 = .ok (.getfield 20, 3) := by decide +kernel
theorem d_t_removeSeamsOf_35 : decode prog_6_method_5_code 35 = .ok (.iload_n 3, 1) := by decide +kernel
theorem d_t_removeSeamsOf_36 : decode prog_6_method_5_code 36 = .ok (.aaload, 1) := by decide +kernel
theorem d_t_removeSeamsOf_37 : decode prog_6_method_5_code 37 = .ok (.invokevirtual 46, 3) := by decide +kernel
theorem d_t_removeSeamsOf_40 : decode prog_6_method_5_code 40 = .ok (.iinc 2 1, 3) := by decide +kernel
theorem d_t_removeSeamsOf_43 : decode prog_6_method_5_code 43 = .ok (.iinc 3 1, 3) := by decide +kernel
theorem d_t_removeSeamsOf_46 : decode prog_6_method_5_code 46 = .ok (.goto (-42), 3) := by decide +kernel
theorem d_t_removeSeamsOf_49 : decode prog_6_method_5_code 49 = .ok (.aload_n 0, 1) := by decide +kernel
theorem d_t_removeSeamsOf_50 : decode prog_6_method_5_code 50 = .ok (.iload_n 2, 1) := by decide +kernel
theorem d_t_removeSeamsOf_51 : decode prog_6_method_5_code 51 = .ok (.putfield 49, 3) := by decide +kernel
theorem d_t_removeSeamsOf_54 : decode prog_6_method_5_code 54 = .ok (.return_, 1) := by decide +kernel
theorem d_t_differenceOf_0 : decode prog_6_method_6_code 0 = .ok (.aload_n 0, 1) := by decide +kernel
theorem d_t_differenceOf_1 : decode prog_6_method_6_code 1 = .ok (.getfield 11, 3) := by decide +kernel
theorem d_t_differenceOf_4 : decode prog_6_method_6_code 4 = .ok (.aload_n 1, 1) := by decide +kernel
theorem d_t_differenceOf_5 : decode prog_6_method_6_code 5 = .ok (.getfield 76, 3) := by decide +kernel
theorem d_t_differenceOf_8 : decode prog_6_method_6_code 8 = .ok (.aaload, 1) := by decide +kernel
theorem d_t_differenceOf_9 : decode prog_6_method_6_code 9 = .ok (.aload_n 1, 1) := by decide +kernel
theorem d_t_differenceOf_10 : decode prog_6_method_6_code 10 = .ok (.getfield 79, 3) := by decide +kernel
theorem d_t_differenceOf_13 : decode prog_6_method_6_code 13 = .ok (.iload_n 2, 1) := by decide +kernel
theorem d_t_differenceOf_14 : decode prog_6_method_6_code 14 = .ok (.invokevirtual 82, 3) := by decide +kernel
theorem d_t_differenceOf_17 : decode prog_6_method_6_code 17 = .ok (.istore_n 3, 1) := by decide +kernel
theorem d_t_differenceOf_18 : decode prog_6_method_6_code 18 = .ok (.aload_n 0, 1) := by decide +kernel
theorem d_t_differenceOf_19 : decode prog_6_method_6_code 19 = .ok (.getfield 11, 3) := by decide +kernel
theorem d_t_differenceOf_22 : decode prog_6_method_6_code 22 = .ok (.aload_n 1, 1) := by decide +kernel
theorem d_t_differenceOf_23 : decode prog_6_method_6_code 23 = .ok (.getfield 86, 3) := by decide +kernel
theorem d_t_differenceOf_26 : decode prog_6_method_6_code 26 = .ok (.aaload, 1) := by decide +kernel
theorem d_t_differenceOf_27 : decode prog_6_method_6_code 27 = .ok (.aload_n 1, 1) := by decide +kernel
theorem d_t_differenceOf_28 : decode prog_6_method_6_code 28 = .ok (.getfield 89, 3) := by decide +kernel
theorem d_t_differenceOf_31 : decode prog_6_method_6_code 31 = .ok (.iload_n 2, 1) := by decide +kernel
theorem d_t_differenceOf_32 : decode prog_6_method_6_code 32 = .ok (.invokevirtual 82, 3) := by decide +kernel
theorem d_t_differenceOf_35 : decode prog_6_method_6_code 35 = .ok (.istore 4, 2) := by decide +kernel
theorem d_t_differenceOf_37 : decode prog_6_method_6_code 37 = .ok (.iload_n 3, 1) := by decide +kernel
theorem d_t_differenceOf_38 : decode prog_6_method_6_code 38 = .ok (.iload 4, 2) := by decide +kernel
theorem d_t_differenceOf_40 : decode prog_6_method_6_code 40 = .ok (.isub, 1) := by decide +kernel
theorem d_t_differenceOf_41 : decode prog_6_method_6_code 41 = .ok (.aload_n 1, 1) := by decide +kernel
theorem d_t_differenceOf_42 : decode prog_6_method_6_code 42 = .ok (.getfield 92, 3) := by decide +kernel
theorem d_t_differenceOf_45 : decode prog_6_method_6_code 45 = .ok (.isub, 1) := by decide +kernel
theorem d_t_differenceOf_46 : decode prog_6_method_6_code 46 = .ok (.ireturn, 1) := by decide +kernel
theorem d_t_matchesInAllSizes_0 : decode prog_6_method_7_code 0 = .ok (.iconst 0, 1) := by decide +kernel
theorem d_t_matchesInAllSizes_1 : decode prog_6_method_7_code 1 = .ok (.istore_n 2, 1) := by decide +kernel
theorem d_t_matchesInAllSizes_2 : decode prog_6_method_7_code 2 = .ok (.iload_n 2, 1) := by decide +kernel
theorem d_t_matchesInAllSizes_3 : decode prog_6_method_7_code 3 = .ok (.iconst 3, 1) := by decide +kernel
theorem d_t_matchesInAllSizes_4 : decode prog_6_method_7_code 4 = .ok (.if_icmp .ge 20, 3) := by decide +kernel
theorem d_t_matchesInAllSizes_7 : decode prog_6_method_7_code 7 = .ok (.aload_n 0, 1) := by decide +kernel
theorem d_t_matchesInAllSizes_8 : decode prog_6_method_7_code 8 = .ok (.aload_n 1, 1) := by decide +kernel
theorem d_t_matchesInAllSizes_9 : decode prog_6_method_7_code 9 = .ok (.iload_n 2, 1) := by decide +kernel
theorem d_t_matchesInAllSizes_10 : decode prog_6_method_7_code 10 = .ok (.invokevirtual 95, 3) := by decide +kernel
theorem d_t_matchesInAllSizes_13 : decode prog_6_method_7_code 13 = .ok (.ifCond .eq 5, 3) := by decide +kernel
theorem d_t_matchesInAllSizes_16 : decode prog_6_method_7_code 16 = .ok (.iconst 0, 1) := by decide +kernel
theorem d_t_matchesInAllSizes_17 : decode prog_6_method_7_code 17 = .ok (.ireturn, 1) := by decide +kernel
theorem d_t_matchesInAllSizes_18 : decode prog_6_method_7_code 18 = .ok (.iinc 2 1, 3) := by decide +kernel
theorem d_t_matchesInAllSizes_21 : decode prog_6_method_7_code 21 = .ok (.goto (-19), 3) := by decide +kernel
theorem d_t_matchesInAllSizes_24 : decode prog_6_method_7_code 24 = .ok (.iconst 1, 1) := by decide +kernel
theorem d_t_matchesInAllSizes_25 : decode prog_6_method_7_code 25 = .ok (.ireturn, 1) := by decide +kernel
theorem d_t_pliesFor_0 : decode prog_6_method_8_code 0 = .ok (.iconst 0, 1) := by decide +kernel
theorem d_t_pliesFor_1 : decode prog_6_method_8_code 1 = .ok (.istore_n 2, 1) := by decide +kernel
theorem d_t_pliesFor_2 : decode prog_6_method_8_code 2 = .ok (.iconst 0, 1) := by decide +kernel
theorem d_t_pliesFor_3 : decode prog_6_method_8_code 3 = .ok (.istore_n 3, 1) := by decide +kernel
theorem d_t_pliesFor_4 : decode prog_6_method_8_code 4 = .ok (.iload_n 3, 1) := by decide +kernel
theorem d_t_pliesFor_5 : decode prog_6_method_8_code 5 = .ok (.iconst 3, 1) := by decide +kernel
theorem d_t_pliesFor_6 : decode prog_6_method_8_code 6 = .ok (.if_icmp .ge 51, 3) := by decide +kernel
theorem d_t_pliesFor_9 : decode prog_6_method_8_code 9 = .ok (.aload_n 1, 1) := by decide +kernel
theorem d_t_pliesFor_10 : decode prog_6_method_8_code 10 = .ok (.iload_n 3, 1) := by decide +kernel
theorem d_t_pliesFor_11 : decode prog_6_method_8_code 11 = .ok (.iaload, 1) := by decide +kernel
theorem d_t_pliesFor_12 : decode prog_6_method_8_code 12 = .ok (.istore 4, 2) := by decide +kernel
theorem d_t_pliesFor_14 : decode prog_6_method_8_code 14 = .ok (.aload_n 0, 1) := by decide +kernel
theorem d_t_pliesFor_15 : decode prog_6_method_8_code 15 = .ok (.getfield 29, 3) := by decide +kernel
theorem d_t_pliesFor_18 : decode prog_6_method_8_code 18 = .ok (.iload_n 3, 1) := by decide +kernel
theorem d_t_pliesFor_19 : decode prog_6_method_8_code 19 = .ok (.iaload, 1) := by decide +kernel
theorem d_t_pliesFor_20 : decode prog_6_method_8_code 20 = .ok (.ifCond .le 31, 3) := by decide +kernel
theorem d_t_pliesFor_23 : decode prog_6_method_8_code 23 = .ok (.iload 4, 2) := by decide +kernel
theorem d_t_pliesFor_25 : decode prog_6_method_8_code 25 = .ok (.ifCond .ne 7, 3) := by decide +kernel
theorem d_t_pliesFor_28 : decode prog_6_method_8_code 28 = .ok (.sipush (-1008), 3) := by decide +kernel
theorem d_t_pliesFor_31 : decode prog_6_method_8_code 31 = .ok (.ireturn, 1) := by decide +kernel
theorem d_t_pliesFor_32 : decode prog_6_method_8_code 32 = .ok (.iload_n 2, 1) := by decide +kernel
theorem d_t_pliesFor_33 : decode prog_6_method_8_code 33 = .ok (.aload_n 0, 1) := by decide +kernel
theorem d_t_pliesFor_34 : decode prog_6_method_8_code 34 = .ok (.getfield 29, 3) := by decide +kernel
theorem d_t_pliesFor_37 : decode prog_6_method_8_code 37 = .ok (.iload_n 3, 1) := by decide +kernel
theorem d_t_pliesFor_38 : decode prog_6_method_8_code 38 = .ok (.iaload, 1) := by decide +kernel
theorem d_t_pliesFor_39 : decode prog_6_method_8_code 39 = .ok (.iload 4, 2) := by decide +kernel
theorem d_t_pliesFor_41 : decode prog_6_method_8_code 41 = .ok (.iadd, 1) := by decide +kernel
theorem d_t_pliesFor_42 : decode prog_6_method_8_code 42 = .ok (.iconst 1, 1) := by decide +kernel
theorem d_t_pliesFor_43 : decode prog_6_method_8_code 43 = .ok (.isub, 1) := by decide +kernel
theorem d_t_pliesFor_44 : decode prog_6_method_8_code 44 = .ok (.iload 4, 2) := by decide +kernel
theorem d_t_pliesFor_46 : decode prog_6_method_8_code 46 = .ok (.idiv, 1) := by decide +kernel
theorem d_t_pliesFor_47 : decode prog_6_method_8_code 47 = .ok (.invokestatic 99, 3) := by decide +kernel
theorem d_t_pliesFor_50 : decode prog_6_method_8_code 50 = .ok (.istore_n 2, 1) := by decide +kernel
theorem d_t_pliesFor_51 : decode prog_6_method_8_code 51 = .ok (.iinc 3 1, 3) := by decide +kernel
theorem d_t_pliesFor_54 : decode prog_6_method_8_code 54 = .ok (.goto (-50), 3) := by decide +kernel
theorem d_t_pliesFor_57 : decode prog_6_method_8_code 57 = .ok (.iload_n 2, 1) := by decide +kernel
theorem d_t_pliesFor_58 : decode prog_6_method_8_code 58 = .ok (.ireturn, 1) := by decide +kernel
theorem d_t_surplusFor_0 : decode prog_6_method_9_code 0 = .ok (.iconst 0, 1) := by decide +kernel
theorem d_t_surplusFor_1 : decode prog_6_method_9_code 1 = .ok (.istore_n 3, 1) := by decide +kernel
theorem d_t_surplusFor_2 : decode prog_6_method_9_code 2 = .ok (.iconst 0, 1) := by decide +kernel
theorem d_t_surplusFor_3 : decode prog_6_method_9_code 3 = .ok (.istore 4, 2) := by decide +kernel
theorem d_t_surplusFor_5 : decode prog_6_method_9_code 5 = .ok (.iload 4, 2) := by decide +kernel
theorem d_t_surplusFor_7 : decode prog_6_method_9_code 7 = .ok (.iconst 3, 1) := by decide +kernel
theorem d_t_surplusFor_8 : decode prog_6_method_9_code 8 = .ok (.if_icmp .ge 26, 3) := by decide +kernel
theorem d_t_surplusFor_11 : decode prog_6_method_9_code 11 = .ok (.iload_n 3, 1) := by decide +kernel
theorem d_t_surplusFor_12 : decode prog_6_method_9_code 12 = .ok (.iload_n 2, 1) := by decide +kernel
theorem d_t_surplusFor_13 : decode prog_6_method_9_code 13 = .ok (.aload_n 1, 1) := by decide +kernel
theorem d_t_surplusFor_14 : decode prog_6_method_9_code 14 = .ok (.iload 4, 2) := by decide +kernel
theorem d_t_surplusFor_16 : decode prog_6_method_9_code 16 = .ok (.iaload, 1) := by decide +kernel
theorem d_t_surplusFor_17 : decode prog_6_method_9_code 17 = .ok (.imul, 1) := by decide +kernel
theorem d_t_surplusFor_18 : decode prog_6_method_9_code 18 = .ok (.aload_n 0, 1) := by decide +kernel
theorem d_t_surplusFor_19 : decode prog_6_method_9_code 19 = .ok (.getfield 29, 3) := by decide +kernel
theorem d_t_surplusFor_22 : decode prog_6_method_9_code 22 = .ok (.iload 4, 2) := by decide +kernel
theorem d_t_surplusFor_24 : decode prog_6_method_9_code 24 = .ok (.iaload, 1) := by decide +kernel
theorem d_t_surplusFor_25 : decode prog_6_method_9_code 25 = .ok (.isub, 1) := by decide +kernel
theorem d_t_surplusFor_26 : decode prog_6_method_9_code 26 = .ok (.iadd, 1) := by decide +kernel
theorem d_t_surplusFor_27 : decode prog_6_method_9_code 27 = .ok (.istore_n 3, 1) := by decide +kernel
theorem d_t_surplusFor_28 : decode prog_6_method_9_code 28 = .ok (.iinc 4 1, 3) := by decide +kernel
theorem d_t_surplusFor_31 : decode prog_6_method_9_code 31 = .ok (.goto (-26), 3) := by decide +kernel
theorem d_t_surplusFor_34 : decode prog_6_method_9_code 34 = .ok (.iload_n 3, 1) := by decide +kernel
theorem d_t_surplusFor_35 : decode prog_6_method_9_code 35 = .ok (.ireturn, 1) := by decide +kernel
theorem d_x_definePiece_0 : decode prog_1_method_2_code 0 = .ok (.iload_n 1, 1) := by decide +kernel
theorem d_x_definePiece_1 : decode prog_1_method_2_code 1 = .ok (.iconst 0, 1) := by decide +kernel
theorem d_x_definePiece_2 : decode prog_1_method_2_code 2 = .ok (.iconst 5, 1) := by decide +kernel
theorem d_x_definePiece_3 : decode prog_1_method_2_code 3 = .ok (.invokestatic 35, 3) := by decide +kernel
theorem d_x_definePiece_6 : decode prog_1_method_2_code 6 = .ok (.ifCond .ne 7, 3) := by decide +kernel
theorem d_x_definePiece_9 : decode prog_1_method_2_code 9 = .ok (.sipush (-1001), 3) := by decide +kernel
theorem d_x_definePiece_12 : decode prog_1_method_2_code 12 = .ok (.ireturn, 1) := by decide +kernel
theorem d_x_definePiece_13 : decode prog_1_method_2_code 13 = .ok (.iload_n 2, 1) := by decide +kernel
theorem d_x_definePiece_14 : decode prog_1_method_2_code 14 = .ok (.iconst 1, 1) := by decide +kernel
theorem d_x_definePiece_15 : decode prog_1_method_2_code 15 = .ok (.bipush 12, 2) := by decide +kernel
theorem d_x_definePiece_17 : decode prog_1_method_2_code 17 = .ok (.invokestatic 35, 3) := by decide +kernel
theorem d_x_definePiece_20 : decode prog_1_method_2_code 20 = .ok (.ifCond .eq 43, 3) := by decide +kernel
theorem d_x_definePiece_23 : decode prog_1_method_2_code 23 = .ok (.iload_n 3, 1) := by decide +kernel
theorem d_x_definePiece_24 : decode prog_1_method_2_code 24 = .ok (.iconst 1, 1) := by decide +kernel
theorem d_x_definePiece_25 : decode prog_1_method_2_code 25 = .ok (.bipush 12, 2) := by decide +kernel
theorem d_x_definePiece_27 : decode prog_1_method_2_code 27 = .ok (.invokestatic 35, 3) := by decide +kernel
theorem d_x_definePiece_30 : decode prog_1_method_2_code 30 = .ok (.ifCond .eq 33, 3) := by decide +kernel
theorem d_x_definePiece_33 : decode prog_1_method_2_code 33 = .ok (.iload 4, 2) := by decide +kernel
theorem d_x_definePiece_35 : decode prog_1_method_2_code 35 = .ok (.iconst 0, 1) := by decide +kernel
theorem d_x_definePiece_36 : decode prog_1_method_2_code 36 = .ok (.iconst 3, 1) := by decide +kernel
theorem d_x_definePiece_37 : decode prog_1_method_2_code 37 = .ok (.invokestatic 35, 3) := by decide +kernel
theorem d_x_definePiece_40 : decode prog_1_method_2_code 40 = .ok (.ifCond .eq 23, 3) := by decide +kernel
theorem d_x_definePiece_43 : decode prog_1_method_2_code 43 = .ok (.iload 5, 2) := by decide +kernel
theorem d_x_definePiece_45 : decode prog_1_method_2_code 45 = .ok (.iconst 0, 1) := by decide +kernel
theorem d_x_definePiece_46 : decode prog_1_method_2_code 46 = .ok (.iconst 3, 1) := by decide +kernel
theorem d_x_definePiece_47 : decode prog_1_method_2_code 47 = .ok (.invokestatic 35, 3) := by decide +kernel
theorem d_x_definePiece_50 : decode prog_1_method_2_code 50 = .ok (.ifCond .eq 13, 3) := by decide +kernel
theorem d_x_definePiece_53 : decode prog_1_method_2_code 53 = .ok (.iload 6, 2) := by decide +kernel
theorem d_x_definePiece_55 : decode prog_1_method_2_code 55 = .ok (.iconst 1, 1) := by decide +kernel
theorem d_x_definePiece_56 : decode prog_1_method_2_code 56 = .ok (.iconst 2, 1) := by decide +kernel
theorem d_x_definePiece_57 : decode prog_1_method_2_code 57 = .ok (.invokestatic 35, 3) := by decide +kernel
theorem d_x_definePiece_60 : decode prog_1_method_2_code 60 = .ok (.ifCond .ne 7, 3) := by decide +kernel
theorem d_x_definePiece_63 : decode prog_1_method_2_code 63 = .ok (.sipush (-1005), 3) := by decide +kernel
theorem d_x_definePiece_66 : decode prog_1_method_2_code 66 = .ok (.ireturn, 1) := by decide +kernel
theorem d_x_definePiece_67 : decode prog_1_method_2_code 67 = .ok (.aload_n 0, 1) := by decide +kernel
theorem d_x_definePiece_68 : decode prog_1_method_2_code 68 = .ok (.getfield 12, 3) := by decide +kernel
theorem d_x_definePiece_71 : decode prog_1_method_2_code 71 = .ok (.getfield 39, 3) := by decide +kernel
theorem d_x_definePiece_74 : decode prog_1_method_2_code 74 = .ok (.iload_n 1, 1) := by decide +kernel
theorem d_x_definePiece_75 : decode prog_1_method_2_code 75 = .ok (.aaload, 1) := by decide +kernel
theorem d_x_definePiece_76 : decode prog_1_method_2_code 76 = .ok (.astore 7, 2) := by decide +kernel
theorem d_x_definePiece_78 : decode prog_1_method_2_code 78 = .ok (.aload 7, 2) := by decide +kernel
theorem d_x_definePiece_80 : decode prog_1_method_2_code 80 = .ok (.iconst 1, 1) := by decide +kernel
theorem d_x_definePiece_81 : decode prog_1_method_2_code 81 = .ok (.putfield 43, 3) := by decide +kernel
theorem d_x_definePiece_84 : decode prog_1_method_2_code 84 = .ok (.aload 7, 2) := by decide +kernel
theorem d_x_definePiece_86 : decode prog_1_method_2_code 86 = .ok (.iload_n 2, 1) := by decide +kernel
theorem d_x_definePiece_87 : decode prog_1_method_2_code 87 = .ok (.putfield 49, 3) := by decide +kernel
theorem d_x_definePiece_90 : decode prog_1_method_2_code 90 = .ok (.aload 7, 2) := by decide +kernel
theorem d_x_definePiece_92 : decode prog_1_method_2_code 92 = .ok (.iload_n 3, 1) := by decide +kernel
theorem d_x_definePiece_93 : decode prog_1_method_2_code 93 = .ok (.putfield 53, 3) := by decide +kernel
theorem d_x_definePiece_96 : decode prog_1_method_2_code 96 = .ok (.aload 7, 2) := by decide +kernel
theorem d_x_definePiece_98 : decode prog_1_method_2_code 98 = .ok (.iload 4, 2) := by decide +kernel
theorem d_x_definePiece_100 : decode prog_1_method_2_code 100 = .ok (.putfield 56, 3) := by decide +kernel
theorem d_x_definePiece_103 : decode prog_1_method_2_code 103 = .ok (.aload 7, 2) := by decide +kernel
theorem d_x_definePiece_105 : decode prog_1_method_2_code 105 = .ok (.iload 5, 2) := by decide +kernel
theorem d_x_definePiece_107 : decode prog_1_method_2_code 107 = .ok (.putfield 59, 3) := by decide +kernel
theorem d_x_definePiece_110 : decode prog_1_method_2_code 110 = .ok (.aload 7, 2) := by decide +kernel
theorem d_x_definePiece_112 : decode prog_1_method_2_code 112 = .ok (.iload 6, 2) := by decide +kernel
theorem d_x_definePiece_114 : decode prog_1_method_2_code 114 = .ok (.putfield 62, 3) := by decide +kernel
theorem d_x_definePiece_117 : decode prog_1_method_2_code 117 = .ok (.aload_n 0, 1) := by decide +kernel
theorem d_x_definePiece_118 : decode prog_1_method_2_code 118 = .ok (.getfield 12, 3) := by decide +kernel
theorem d_x_definePiece_121 : decode prog_1_method_2_code 121 = .ok (.invokevirtual 65, 3) := by decide +kernel
theorem d_x_definePiece_124 : decode prog_1_method_2_code 124 = .ok (.ireturn, 1) := by decide +kernel
theorem d_x_removePiece_0 : decode prog_1_method_3_code 0 = .ok (.aload_n 0, 1) := by decide +kernel
theorem d_x_removePiece_1 : decode prog_1_method_3_code 1 = .ok (.getfield 12, 3) := by decide +kernel
theorem d_x_removePiece_4 : decode prog_1_method_3_code 4 = .ok (.iload_n 1, 1) := by decide +kernel
theorem d_x_removePiece_5 : decode prog_1_method_3_code 5 = .ok (.invokevirtual 69, 3) := by decide +kernel
theorem d_x_removePiece_8 : decode prog_1_method_3_code 8 = .ok (.ifCond .ne 7, 3) := by decide +kernel
theorem d_x_removePiece_11 : decode prog_1_method_3_code 11 = .ok (.sipush (-1001), 3) := by decide +kernel
theorem d_x_removePiece_14 : decode prog_1_method_3_code 14 = .ok (.ireturn, 1) := by decide +kernel
theorem d_x_removePiece_15 : decode prog_1_method_3_code 15 = .ok (.aload_n 0, 1) := by decide +kernel
theorem d_x_removePiece_16 : decode prog_1_method_3_code 16 = .ok (.getfield 12, 3) := by decide +kernel
theorem d_x_removePiece_19 : decode prog_1_method_3_code 19 = .ok (.getfield 39, 3) := by decide +kernel
theorem d_x_removePiece_22 : decode prog_1_method_3_code 22 = .ok (.iload_n 1, 1) := by decide +kernel
theorem d_x_removePiece_23 : decode prog_1_method_3_code 23 = .ok (.aaload, 1) := by decide +kernel
theorem d_x_removePiece_24 : decode prog_1_method_3_code 24 = .ok (.iconst 0, 1) := by decide +kernel
theorem d_x_removePiece_25 : decode prog_1_method_3_code 25 = .ok (.putfield 43, 3) := by decide +kernel
theorem d_x_removePiece_28 : decode prog_1_method_3_code 28 = .ok (.aload_n 0, 1) := by decide +kernel
theorem d_x_removePiece_29 : decode prog_1_method_3_code 29 = .ok (.getfield 12, 3) := by decide +kernel
theorem d_x_removePiece_32 : decode prog_1_method_3_code 32 = .ok (.iload_n 1, 1) := by decide +kernel
theorem d_x_removePiece_33 : decode prog_1_method_3_code 33 = .ok (.invokevirtual 73, 3) := by decide +kernel
theorem d_x_removePiece_36 : decode prog_1_method_3_code 36 = .ok (.aload_n 0, 1) := by decide +kernel
theorem d_x_removePiece_37 : decode prog_1_method_3_code 37 = .ok (.getfield 12, 3) := by decide +kernel
theorem d_x_removePiece_40 : decode prog_1_method_3_code 40 = .ok (.getfield 77, 3) := by decide +kernel
theorem d_x_removePiece_43 : decode prog_1_method_3_code 43 = .ok (.ireturn, 1) := by decide +kernel
theorem d_x_isSize_0 : decode prog_1_method_41_code 0 = .ok (.iload_n 0, 1) := by decide +kernel
theorem d_x_isSize_1 : decode prog_1_method_41_code 1 = .ok (.iconst 0, 1) := by decide +kernel
theorem d_x_isSize_2 : decode prog_1_method_41_code 2 = .ok (.iconst 2, 1) := by decide +kernel
theorem d_x_isSize_3 : decode prog_1_method_41_code 3 = .ok (.invokestatic 35, 3) := by decide +kernel
theorem d_x_isSize_6 : decode prog_1_method_41_code 6 = .ok (.ireturn, 1) := by decide +kernel
theorem d_x_sideOrError_0 : decode prog_1_method_44_code 0 = .ok (.aload_n 0, 1) := by decide +kernel
theorem d_x_sideOrError_1 : decode prog_1_method_44_code 1 = .ok (.getfield 12, 3) := by decide +kernel
theorem d_x_sideOrError_4 : decode prog_1_method_44_code 4 = .ok (.iload_n 1, 1) := by decide +kernel
theorem d_x_sideOrError_5 : decode prog_1_method_44_code 5 = .ok (.invokevirtual 69, 3) := by decide +kernel
theorem d_x_sideOrError_8 : decode prog_1_method_44_code 8 = .ok (.ifCond .ne 7, 3) := by decide +kernel
theorem d_x_sideOrError_11 : decode prog_1_method_44_code 11 = .ok (.sipush (-1001), 3) := by decide +kernel
theorem d_x_sideOrError_14 : decode prog_1_method_44_code 14 = .ok (.ireturn, 1) := by decide +kernel
theorem d_x_sideOrError_15 : decode prog_1_method_44_code 15 = .ok (.iload_n 3, 1) := by decide +kernel
theorem d_x_sideOrError_16 : decode prog_1_method_44_code 16 = .ok (.invokestatic 105, 3) := by decide +kernel
theorem d_x_sideOrError_19 : decode prog_1_method_44_code 19 = .ok (.ifCond .eq 20, 3) := by decide +kernel
theorem d_x_sideOrError_22 : decode prog_1_method_44_code 22 = .ok (.aload_n 0, 1) := by decide +kernel
theorem d_x_sideOrError_23 : decode prog_1_method_44_code 23 = .ok (.getfield 12, 3) := by decide +kernel
theorem d_x_sideOrError_26 : decode prog_1_method_44_code 26 = .ok (.getfield 39, 3) := by decide +kernel
theorem d_x_sideOrError_29 : decode prog_1_method_44_code 29 = .ok (.iload_n 1, 1) := by decide +kernel
theorem d_x_sideOrError_30 : decode prog_1_method_44_code 30 = .ok (.aaload, 1) := by decide +kernel
theorem d_x_sideOrError_31 : decode prog_1_method_44_code 31 = .ok (.iload_n 2, 1) := by decide +kernel
theorem d_x_sideOrError_32 : decode prog_1_method_44_code 32 = .ok (.iload_n 3, 1) := by decide +kernel
theorem d_x_sideOrError_33 : decode prog_1_method_44_code 33 = .ok (.invokevirtual 229, 3) := by decide +kernel
theorem d_x_sideOrError_36 : decode prog_1_method_44_code 36 = .ok (.goto 6, 3) := by decide +kernel
theorem d_x_sideOrError_39 : decode prog_1_method_44_code 39 = .ok (.sipush (-1002), 3) := by decide +kernel
theorem d_x_sideOrError_42 : decode prog_1_method_44_code 42 = .ok (.ireturn, 1) := by decide +kernel
theorem d_x_pieceWidth_0 : decode prog_1_method_4_code 0 = .ok (.aload_n 0, 1) := by decide +kernel
theorem d_x_pieceWidth_1 : decode prog_1_method_4_code 1 = .ok (.iload_n 1, 1) := by decide +kernel
theorem d_x_pieceWidth_2 : decode prog_1_method_4_code 2 = .ok (.iconst 0, 1) := by decide +kernel
theorem d_x_pieceWidth_3 : decode prog_1_method_4_code 3 = .ok (.iload_n 2, 1) := by decide +kernel
theorem d_x_pieceWidth_4 : decode prog_1_method_4_code 4 = .ok (.invokevirtual 80, 3) := by decide +kernel
theorem d_x_pieceWidth_7 : decode prog_1_method_4_code 7 = .ok (.ireturn, 1) := by decide +kernel
theorem d_x_pieceLength_0 : decode prog_1_method_5_code 0 = .ok (.aload_n 0, 1) := by decide +kernel
theorem d_x_pieceLength_1 : decode prog_1_method_5_code 1 = .ok (.iload_n 1, 1) := by decide +kernel
theorem d_x_pieceLength_2 : decode prog_1_method_5_code 2 = .ok (.iconst 1, 1) := by decide +kernel
theorem d_x_pieceLength_3 : decode prog_1_method_5_code 3 = .ok (.iload_n 2, 1) := by decide +kernel
theorem d_x_pieceLength_4 : decode prog_1_method_5_code 4 = .ok (.invokevirtual 80, 3) := by decide +kernel
theorem d_x_pieceLength_7 : decode prog_1_method_5_code 7 = .ok (.ireturn, 1) := by decide +kernel
theorem d_x_addSeam_0 : decode prog_1_method_6_code 0 = .ok (.aload_n 0, 1) := by decide +kernel
theorem d_x_addSeam_1 : decode prog_1_method_6_code 1 = .ok (.getfield 12, 3) := by decide +kernel
theorem d_x_addSeam_4 : decode prog_1_method_6_code 4 = .ok (.iload_n 1, 1) := by decide +kernel
theorem d_x_addSeam_5 : decode prog_1_method_6_code 5 = .ok (.invokevirtual 69, 3) := by decide +kernel
theorem d_x_addSeam_8 : decode prog_1_method_6_code 8 = .ok (.ifCond .eq 14, 3) := by decide +kernel
theorem d_x_addSeam_11 : decode prog_1_method_6_code 11 = .ok (.aload_n 0, 1) := by decide +kernel
theorem d_x_addSeam_12 : decode prog_1_method_6_code 12 = .ok (.getfield 12, 3) := by decide +kernel
theorem d_x_addSeam_15 : decode prog_1_method_6_code 15 = .ok (.iload_n 3, 1) := by decide +kernel
theorem d_x_addSeam_16 : decode prog_1_method_6_code 16 = .ok (.invokevirtual 69, 3) := by decide +kernel
theorem d_x_addSeam_19 : decode prog_1_method_6_code 19 = .ok (.ifCond .ne 7, 3) := by decide +kernel
theorem d_x_addSeam_22 : decode prog_1_method_6_code 22 = .ok (.sipush (-1001), 3) := by decide +kernel
theorem d_x_addSeam_25 : decode prog_1_method_6_code 25 = .ok (.ireturn, 1) := by decide +kernel
theorem d_x_addSeam_26 : decode prog_1_method_6_code 26 = .ok (.iload_n 2, 1) := by decide +kernel
theorem d_x_addSeam_27 : decode prog_1_method_6_code 27 = .ok (.iconst 0, 1) := by decide +kernel
theorem d_x_addSeam_28 : decode prog_1_method_6_code 28 = .ok (.iconst 1, 1) := by decide +kernel
theorem d_x_addSeam_29 : decode prog_1_method_6_code 29 = .ok (.invokestatic 35, 3) := by decide +kernel
theorem d_x_addSeam_32 : decode prog_1_method_6_code 32 = .ok (.ifCond .eq 24, 3) := by decide +kernel
theorem d_x_addSeam_35 : decode prog_1_method_6_code 35 = .ok (.iload 4, 2) := by decide +kernel
theorem d_x_addSeam_37 : decode prog_1_method_6_code 37 = .ok (.iconst 0, 1) := by decide +kernel
theorem d_x_addSeam_38 : decode prog_1_method_6_code 38 = .ok (.iconst 1, 1) := by decide +kernel
theorem d_x_addSeam_39 : decode prog_1_method_6_code 39 = .ok (.invokestatic 35, 3) := by decide +kernel
theorem d_x_addSeam_42 : decode prog_1_method_6_code 42 = .ok (.ifCond .eq 14, 3) := by decide +kernel
theorem d_x_addSeam_45 : decode prog_1_method_6_code 45 = .ok (.iload 5, 2) := by decide +kernel
theorem d_x_addSeam_47 : decode prog_1_method_6_code 47 = .ok (.bipush (-3), 2) := by decide +kernel
theorem d_x_addSeam_49 : decode prog_1_method_6_code 49 = .ok (.iconst 3, 1) := by decide +kernel
theorem d_x_addSeam_50 : decode prog_1_method_6_code 50 = .ok (.invokestatic 35, 3) := by decide +kernel
theorem d_x_addSeam_53 : decode prog_1_method_6_code 53 = .ok (.ifCond .ne 7, 3) := by decide +kernel
