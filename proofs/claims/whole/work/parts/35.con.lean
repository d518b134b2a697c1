theorem i0_0 : decode prog_2_method_1_code 0 = .ok (.aload_n 0, 1) := by decide +kernel
theorem i0_1 : decode prog_2_method_1_code 1 = .ok (.invokespecial 3, 3) := by decide +kernel
theorem i0_4 : decode prog_2_method_1_code 4 = .ok (.aload_n 0, 1) := by decide +kernel
theorem i0_5 : decode prog_2_method_1_code 5 = .ok (.bipush 72, 2) := by decide +kernel
theorem i0_7 : decode prog_2_method_1_code 7 = .ok (.anewarray 9, 3) := by decide +kernel
theorem i0_10 : decode prog_2_method_1_code 10 = .ok (.putfield 11, 3) := by decide +kernel
theorem i0_13 : decode prog_2_method_1_code 13 = .ok (.iconst 0, 1) := by decide +kernel
theorem i0_14 : decode prog_2_method_1_code 14 = .ok (.istore_n 1, 1) := by decide +kernel
theorem i0_15 : decode prog_2_method_1_code 15 = .ok (.iload_n 1, 1) := by decide +kernel
theorem i0_16 : decode prog_2_method_1_code 16 = .ok (.bipush 72, 2) := by decide +kernel
theorem i0_18 : decode prog_2_method_1_code 18 = .ok (.if_icmp .ge 22, 3) := by decide +kernel
theorem i0_21 : decode prog_2_method_1_code 21 = .ok (.aload_n 0, 1) := by decide +kernel
theorem i0_22 : decode prog_2_method_1_code 22 = .ok (.getfield 11, 3) := by decide +kernel
theorem i0_25 : decode prog_2_method_1_code 25 = .ok (.iload_n 1, 1) := by decide +kernel
theorem i0_26 : decode prog_2_method_1_code 26 = .ok (.new 9, 3) := by decide +kernel
theorem i0_29 : decode prog_2_method_1_code 29 = .ok (.dup, 1) := by decide +kernel
theorem i0_30 : decode prog_2_method_1_code 30 = .ok (.invokespecial 17, 3) := by decide +kernel
theorem i0_33 : decode prog_2_method_1_code 33 = .ok (.aastore, 1) := by decide +kernel
theorem i0_34 : decode prog_2_method_1_code 34 = .ok (.iinc 1 1, 3) := by decide +kernel
theorem i0_37 : decode prog_2_method_1_code 37 = .ok (.goto (-22), 3) := by decide +kernel
theorem i0_40 : decode prog_2_method_1_code 40 = .ok (.aload_n 0, 1) := by decide +kernel
theorem i0_41 : decode prog_2_method_1_code 41 = .ok (.bipush 72, 2) := by decide +kernel
theorem i0_43 : decode prog_2_method_1_code 43 = .ok (.newarray .int, 2) := by decide +kernel
theorem i0_45 : decode prog_2_method_1_code 45 = .ok (.putfield 18, 3) := by decide +kernel
theorem i0_48 : decode prog_2_method_1_code 48 = .ok (.aload_n 0, 1) := by decide +kernel
theorem i0_49 : decode prog_2_method_1_code 49 = .ok (.bipush 72, 2) := by decide +kernel
theorem i0_51 : decode prog_2_method_1_code 51 = .ok (.newarray .int, 2) := by decide +kernel
theorem i0_53 : decode prog_2_method_1_code 53 = .ok (.putfield 22, 3) := by decide +kernel
theorem i0_56 : decode prog_2_method_1_code 56 = .ok (.aload_n 0, 1) := by decide +kernel
theorem i0_57 : decode prog_2_method_1_code 57 = .ok (.bipush 72, 2) := by decide +kernel
theorem i0_59 : decode prog_2_method_1_code 59 = .ok (.newarray .int, 2) := by decide +kernel
theorem i0_61 : decode prog_2_method_1_code 61 = .ok (.putfield 25, 3) := by decide +kernel
theorem i0_64 : decode prog_2_method_1_code 64 = .ok (.aload_n 0, 1) := by decide +kernel
theorem i0_65 : decode prog_2_method_1_code 65 = .ok (.bipush 72, 2) := by decide +kernel
theorem i0_67 : decode prog_2_method_1_code 67 = .ok (.newarray .int, 2) := by decide +kernel
theorem i0_69 : decode prog_2_method_1_code 69 = .ok (.putfield 28, 3) := by decide +kernel
theorem i0_72 : decode prog_2_method_1_code 72 = .ok (.return_, 1) := by decide +kernel
theorem i1_0 : decode prog_3_method_1_code 0 = .ok (.aload_n 0, 1) := by decide +kernel
theorem i1_1 : decode prog_3_method_1_code 1 = .ok (.invokespecial 3, 3) := by decide +kernel
theorem i1_4 : decode prog_3_method_1_code 4 = .ok (.return_, 1) := by decide +kernel
theorem i2_0 : decode prog_4_method_1_code 0 = .ok (.aload_n 0, 1) := by decide +kernel
theorem i2_1 : decode prog_4_method_1_code 1 = .ok (.invokespecial 3, 3) := by decide +kernel
theorem i2_4 : decode prog_4_method_1_code 4 = .ok (.return_, 1) := by decide +kernel
theorem i3_0 : decode prog_5_method_1_code 0 = .ok (.aload_n 0, 1) := by decide +kernel
theorem i3_1 : decode prog_5_method_1_code 1 = .ok (.invokespecial 1, 3) := by decide +kernel
theorem i3_4 : decode prog_5_method_1_code 4 = .ok (.return_, 1) := by decide +kernel
theorem i4_0 : decode prog_6_method_1_code 0 = .ok (.aload_n 0, 1) := by decide +kernel
theorem i4_1 : decode prog_6_method_1_code 1 = .ok (.invokespecial 3, 3) := by decide +kernel
theorem i4_4 : decode prog_6_method_1_code 4 = .ok (.aload_n 0, 1) := by decide +kernel
theorem i4_5 : decode prog_6_method_1_code 5 = .ok (.bipush 6, 2) := by decide +kernel
theorem i4_7 : decode prog_6_method_1_code 7 = .ok (.anewarray 9, 3) := by decide +kernel
theorem i4_10 : decode prog_6_method_1_code 10 = .ok (.putfield 11, 3) := by decide +kernel
theorem i4_13 : decode prog_6_method_1_code 13 = .ok (.iconst 0, 1) := by decide +kernel
theorem i4_14 : decode prog_6_method_1_code 14 = .ok (.istore_n 1, 1) := by decide +kernel
theorem i4_15 : decode prog_6_method_1_code 15 = .ok (.iload_n 1, 1) := by decide +kernel
theorem i4_16 : decode prog_6_method_1_code 16 = .ok (.bipush 6, 2) := by decide +kernel
theorem i4_18 : decode prog_6_method_1_code 18 = .ok (.if_icmp .ge 22, 3) := by decide +kernel
theorem i4_21 : decode prog_6_method_1_code 21 = .ok (.aload_n 0, 1) := by decide +kernel
theorem i4_22 : decode prog_6_method_1_code 22 = .ok (.getfield 11, 3) := by decide +kernel
theorem i4_25 : decode prog_6_method_1_code 25 = .ok (.iload_n 1, 1) := by decide +kernel
theorem i4_26 : decode prog_6_method_1_code 26 = .ok (.new 9, 3) := by decide +kernel
theorem i4_29 : decode prog_6_method_1_code 29 = .ok (.dup, 1) := by decide +kernel
theorem i4_30 : decode prog_6_method_1_code 30 = .ok (.invokespecial 17, 3) := by decide +kernel
theorem i4_33 : decode prog_6_method_1_code 33 = .ok (.aastore, 1) := by decide +kernel
theorem i4_34 : decode prog_6_method_1_code 34 = .ok (.iinc 1 1, 3) := by decide +kernel
theorem i4_37 : decode prog_6_method_1_code 37 = .ok (.goto (-22), 3) := by decide +kernel
theorem i4_40 : decode prog_6_method_1_code 40 = .ok (.aload_n 0, 1) := by decide +kernel
theorem i4_41 : decode prog_6_method_1_code 41 = .ok (.bipush 6, 2) := by decide +kernel
theorem i4_43 : decode prog_6_method_1_code 43 = .ok (.anewarray 18, 3) := by decide +kernel
theorem i4_46 : decode prog_6_method_1_code 46 = .ok (.putfield 20, 3) := by decide +kernel
theorem i4_49 : decode prog_6_method_1_code 49 = .ok (.iconst 0, 1) := by decide +kernel
theorem i4_50 : decode prog_6_method_1_code 50 = .ok (.istore_n 1, 1) := by decide +kernel
theorem i4_51 : decode prog_6_method_1_code 51 = .ok (.iload_n 1, 1) := by decide +kernel
theorem i4_52 : decode prog_6_method_1_code 52 = .ok (.bipush 6, 2) := by decide +kernel
theorem i4_54 : decode prog_6_method_1_code 54 = .ok (.if_icmp .ge 22, 3) := by decide +kernel
theorem i4_57 : decode prog_6_method_1_code 57 = .ok (.aload_n 0, 1) := by decide +kernel
theorem i4_58 : decode prog_6_method_1_code 58 = .ok (.getfield 20, 3) := by decide +kernel
theorem i4_61 : decode prog_6_method_1_code 61 = .ok (.iload_n 1, 1) := by decide +kernel
theorem i4_62 : decode prog_6_method_1_code 62 = .ok (.new 18, 3) := by decide +kernel
theorem i4_65 : decode prog_6_method_1_code 65 = .ok (.dup, 1) := by decide +kernel
theorem i4_66 : decode prog_6_method_1_code 66 = .ok (.invokespecial 24, 3) := by decide +kernel
theorem i4_69 : decode prog_6_method_1_code 69 = .ok (.aastore, 1) := by decide +kernel
theorem i4_70 : decode prog_6_method_1_code 70 = .ok (.iinc 1 1, 3) := by decide +kernel
theorem i4_73 : decode prog_6_method_1_code 73 = .ok (.goto (-22), 3) := by decide +kernel
theorem i4_76 : decode prog_6_method_1_code 76 = .ok (.aload_n 0, 1) := by decide +kernel
theorem i4_77 : decode prog_6_method_1_code 77 = .ok (.iconst 3, 1) := by decide +kernel
theorem i4_78 : decode prog_6_method_1_code 78 = .ok (.newarray .int, 2) := by decide +kernel
theorem i4_80 : decode prog_6_method_1_code 80 = .ok (.putfield 25, 3) := by decide +kernel
theorem i4_83 : decode prog_6_method_1_code 83 = .ok (.aload_n 0, 1) := by decide +kernel
theorem i4_84 : decode prog_6_method_1_code 84 = .ok (.getfield 25, 3) := by decide +kernel
theorem i4_87 : decode prog_6_method_1_code 87 = .ok (.iconst 0, 1) := by decide +kernel
theorem i4_88 : decode prog_6_method_1_code 88 = .ok (.iconst 1, 1) := by decide +kernel
theorem i4_89 : decode prog_6_method_1_code 89 = .ok (.iastore, 1) := by decide +kernel
theorem i4_90 : decode prog_6_method_1_code 90 = .ok (.aload_n 0, 1) := by decide +kernel
theorem i4_91 : decode prog_6_method_1_code 91 = .ok (.iconst 3, 1) := by decide +kernel
theorem i4_92 : decode prog_6_method_1_code 92 = .ok (.newarray .int, 2) := by decide +kernel
theorem i4_94 : decode prog_6_method_1_code 94 = .ok (.putfield 29, 3) := by decide +kernel
theorem i4_97 : decode prog_6_method_1_code 97 = .ok (.aload_n 0, 1) := by decide +kernel
theorem i4_98 : decode prog_6_method_1_code 98 = .ok (.bipush 12, 2) := by decide +kernel
theorem i4_100 : decode prog_6_method_1_code 100 = .ok (.putfield 32, 3) := by decide +kernel
theorem i4_103 : decode prog_6_method_1_code 103 = .ok (.aload_n 0, 1) := by decide +kernel
theorem i4_104 : decode prog_6_method_1_code 104 = .ok (.iconst 0, 1) := by decide +kernel
theorem i4_105 : decode prog_6_method_1_code 105 = .ok (.putfield 36, 3) := by decide +kernel
theorem i4_108 : decode prog_6_method_1_code 108 = .ok (.aload_n 0, 1) := by decide +kernel
theorem i4_109 : decode prog_6_method_1_code 109 = .ok (.iconst 0, 1) := by decide +kernel
theorem i4_110 : decode prog_6_method_1_code 110 = .ok (.putfield 39, 3) := by decide +kernel
theorem i4_113 : decode prog_6_method_1_code 113 = .ok (.return_, 1) := by decide +kernel
theorem i5_0 : decode prog_1_method_1_code 0 = .ok (.aload_n 0, 1) := by decide +kernel
theorem i5_1 : decode prog_1_method_1_code 1 = .ok (.invokespecial 3, 3) := by decide +kernel
theorem i5_4 : decode prog_1_method_1_code 4 = .ok (.aload_n 0, 1) := by decide +kernel
theorem i5_5 : decode prog_1_method_1_code 5 = .ok (.new 9, 3) := by decide +kernel
theorem i5_8 : decode prog_1_method_1_code 8 = .ok (.dup, 1) := by decide +kernel
theorem i5_9 : decode prog_1_method_1_code 9 = .ok (.invokespecial 11, 3) := by decide +kernel
theorem i5_12 : decode prog_1_method_1_code 12 = .ok (.putfield 12, 3) := by decide +kernel
theorem i5_15 : decode prog_1_method_1_code 15 = .ok (.aload_n 0, 1) := by decide +kernel
theorem i5_16 : decode prog_1_method_1_code 16 = .ok (.iconst 2, 1) := by decide +kernel
theorem i5_17 : decode prog_1_method_1_code 17 = .ok (.anewarray 9, 3) := by decide +kernel
theorem i5_20 : decode prog_1_method_1_code 20 = .ok (.putfield 16, 3) := by decide +kernel
theorem i5_23 : decode prog_1_method_1_code 23 = .ok (.iconst 0, 1) := by decide +kernel
theorem i5_24 : decode prog_1_method_1_code 24 = .ok (.istore_n 1, 1) := by decide +kernel
theorem i5_25 : decode prog_1_method_1_code 25 = .ok (.iload_n 1, 1) := by decide +kernel
theorem i5_26 : decode prog_1_method_1_code 26 = .ok (.iconst 2, 1) := by decide +kernel
theorem i5_27 : decode prog_1_method_1_code 27 = .ok (.if_icmp .ge 22, 3) := by decide +kernel
theorem i5_30 : decode prog_1_method_1_code 30 = .ok (.aload_n 0, 1) := by decide +kernel
theorem i5_31 : decode prog_1_method_1_code 31 = .ok (.getfield 16, 3) := by decide +kernel
theorem i5_34 : decode prog_1_method_1_code 34 = .ok (.iload_n 1, 1) := by decide +kernel
theorem i5_35 : decode prog_1_method_1_code 35 = .ok (.new 9, 3) := by decide +kernel
theorem i5_38 : decode prog_1_method_1_code 38 = .ok (.dup, 1) := by decide +kernel
theorem i5_39 : decode prog_1_method_1_code 39 = .ok (.invokespecial 11, 3) := by decide +kernel
theorem i5_42 : decode prog_1_method_1_code 42 = .ok (.aastore, 1) := by decide +kernel
theorem i5_43 : decode prog_1_method_1_code 43 = .ok (.iinc 1 1, 3) := by decide +kernel
theorem i5_46 : decode prog_1_method_1_code 46 = .ok (.goto (-21), 3) := by decide +kernel
theorem i5_49 : decode prog_1_method_1_code 49 = .ok (.aload_n 0, 1) := by decide +kernel
theorem i5_50 : decode prog_1_method_1_code 50 = .ok (.iconst 2, 1) := by decide +kernel
theorem i5_51 : decode prog_1_method_1_code 51 = .ok (.newarray .boolean, 2) := by decide +kernel
theorem i5_53 : decode prog_1_method_1_code 53 = .ok (.putfield 20, 3) := by decide +kernel
theorem i5_56 : decode prog_1_method_1_code 56 = .ok (.aload_n 0, 1) := by decide +kernel
theorem i5_57 : decode prog_1_method_1_code 57 = .ok (.new 24, 3) := by decide +kernel
theorem i5_60 : decode prog_1_method_1_code 60 = .ok (.dup, 1) := by decide +kernel
theorem i5_61 : decode prog_1_method_1_code 61 = .ok (.invokespecial 26, 3) := by decide +kernel
theorem i5_64 : decode prog_1_method_1_code 64 = .ok (.putfield 27, 3) := by decide +kernel
theorem i5_67 : decode prog_1_method_1_code 67 = .ok (.aload_n 0, 1) := by decide +kernel
theorem i5_68 : decode prog_1_method_1_code 68 = .ok (.iconst 3, 1) := by decide +kernel
theorem i5_69 : decode prog_1_method_1_code 69 = .ok (.newarray .int, 2) := by decide +kernel
theorem i5_71 : decode prog_1_method_1_code 71 = .ok (.putfield 31, 3) := by decide +kernel
theorem i5_74 : decode prog_1_method_1_code 74 = .ok (.return_, 1) := by decide +kernel
theorem i6_0 : decode prog_8_method_1_code 0 = .ok (.aload_n 0, 1) := by decide +kernel
theorem i6_1 : decode prog_8_method_1_code 1 = .ok (.invokespecial 1, 3) := by decide +kernel
theorem i6_4 : decode prog_8_method_1_code 4 = .ok (.aload_n 0, 1) := by decide +kernel
theorem i6_5 : decode prog_8_method_1_code 5 = .ok (.bipush 78, 2) := by decide +kernel
theorem i6_7 : decode prog_8_method_1_code 7 = .ok (.newarray .int, 2) := by decide +kernel
theorem i6_9 : decode prog_8_method_1_code 9 = .ok (.putfield 7, 3) := by decide +kernel
theorem i6_12 : decode prog_8_method_1_code 12 = .ok (.aload_n 0, 1) := by decide +kernel
theorem i6_13 : decode prog_8_method_1_code 13 = .ok (.sipush 156, 3) := by decide +kernel
theorem i6_16 : decode prog_8_method_1_code 16 = .ok (.newarray .int, 2) := by decide +kernel
theorem i6_18 : decode prog_8_method_1_code 18 = .ok (.putfield 13, 3) := by decide +kernel
theorem i6_21 : decode prog_8_method_1_code 21 = .ok (.aload_n 0, 1) := by decide +kernel
theorem i6_22 : decode prog_8_method_1_code 22 = .ok (.iconst 2, 1) := by decide +kernel
theorem i6_23 : decode prog_8_method_1_code 23 = .ok (.newarray .boolean, 2) := by decide +kernel
theorem i6_25 : decode prog_8_method_1_code 25 = .ok (.putfield 16, 3) := by decide +kernel
theorem i6_28 : decode prog_8_method_1_code 28 = .ok (.aload_n 0, 1) := by decide +kernel
theorem i6_29 : decode prog_8_method_1_code 29 = .ok (.bipush 72, 2) := by decide +kernel
theorem i6_31 : decode prog_8_method_1_code 31 = .ok (.newarray .int, 2) := by decide +kernel
theorem i6_33 : decode prog_8_method_1_code 33 = .ok (.putfield 20, 3) := by decide +kernel
theorem i6_36 : decode prog_8_method_1_code 36 = .ok (.aload_n 0, 1) := by decide +kernel
theorem i6_37 : decode prog_8_method_1_code 37 = .ok (.bipush 72, 2) := by decide +kernel
theorem i6_39 : decode prog_8_method_1_code 39 = .ok (.newarray .int, 2) := by decide +kernel
theorem i6_41 : decode prog_8_method_1_code 41 = .ok (.putfield 23, 3) := by decide +kernel
theorem i6_44 : decode prog_8_method_1_code 44 = .ok (.aload_n 0, 1) := by decide +kernel
theorem i6_45 : decode prog_8_method_1_code 45 = .ok (.bipush 72, 2) := by decide +kernel
theorem i6_47 : decode prog_8_method_1_code 47 = .ok (.newarray .int, 2) := by decide +kernel
theorem i6_49 : decode prog_8_method_1_code 49 = .ok (.putfield 26, 3) := by decide +kernel
theorem i6_52 : decode prog_8_method_1_code 52 = .ok (.aload_n 0, 1) := by decide +kernel
theorem i6_53 : decode prog_8_method_1_code 53 = .ok (.bipush 72, 2) := by decide +kernel
theorem i6_55 : decode prog_8_method_1_code 55 = .ok (.newarray .int, 2) := by decide +kernel
theorem i6_57 : decode prog_8_method_1_code 57 = .ok (.putfield 29, 3) := by decide +kernel
theorem i6_60 : decode prog_8_method_1_code 60 = .ok (.aload_n 0, 1) := by decide +kernel
theorem i6_61 : decode prog_8_method_1_code 61 = .ok (.bipush 72, 2) := by decide +kernel
theorem i6_63 : decode prog_8_method_1_code 63 = .ok (.newarray .boolean, 2) := by decide +kernel
theorem i6_65 : decode prog_8_method_1_code 65 = .ok (.putfield 32, 3) := by decide +kernel
theorem i6_68 : decode prog_8_method_1_code 68 = .ok (.aload_n 0, 1) := by decide +kernel
theorem i6_69 : decode prog_8_method_1_code 69 = .ok (.bipush 72, 2) := by decide +kernel
theorem i6_71 : decode prog_8_method_1_code 71 = .ok (.newarray .int, 2) := by decide +kernel
theorem i6_73 : decode prog_8_method_1_code 73 = .ok (.putfield 35, 3) := by decide +kernel
theorem i6_76 : decode prog_8_method_1_code 76 = .ok (.aload_n 0, 1) := by decide +kernel
theorem i6_77 : decode prog_8_method_1_code 77 = .ok (.bipush 72, 2) := by decide +kernel
theorem i6_79 : decode prog_8_method_1_code 79 = .ok (.newarray .int, 2) := by decide +kernel
theorem i6_81 : decode prog_8_method_1_code 81 = .ok (.putfield 38, 3) := by decide +kernel
theorem i6_84 : decode prog_8_method_1_code 84 = .ok (.aload_n 0, 1) := by decide +kernel
theorem i6_85 : decode prog_8_method_1_code 85 = .ok (.bipush 72, 2) := by decide +kernel
theorem i6_87 : decode prog_8_method_1_code 87 = .ok (.newarray .int, 2) := by decide +kernel
theorem i6_89 : decode prog_8_method_1_code 89 = .ok (.putfield 41, 3) := by decide +kernel
theorem i6_92 : decode prog_8_method_1_code 92 = .ok (.aload_n 0, 1) := by decide +kernel
theorem i6_93 : decode prog_8_method_1_code 93 = .ok (.bipush 72, 2) := by decide +kernel
theorem i6_95 : decode prog_8_method_1_code 95 = .ok (.newarray .int, 2) := by decide +kernel
theorem i6_97 : decode prog_8_method_1_code 97 = .ok (.putfield 44, 3) := by decide +kernel
theorem i6_100 : decode prog_8_method_1_code 100 = .ok (.aload_n 0, 1) := by decide +kernel
theorem i6_101 : decode prog_8_method_1_code 101 = .ok (.bipush 72, 2) := by decide +kernel
theorem i6_103 : decode prog_8_method_1_code 103 = .ok (.newarray .int, 2) := by decide +kernel
theorem i6_105 : decode prog_8_method_1_code 105 = .ok (.putfield 47, 3) := by decide +kernel
theorem i6_108 : decode prog_8_method_1_code 108 = .ok (.aload_n 0, 1) := by decide +kernel
theorem i6_109 : decode prog_8_method_1_code 109 = .ok (.bipush 72, 2) := by decide +kernel
theorem i6_111 : decode prog_8_method_1_code 111 = .ok (.newarray .int, 2) := by decide +kernel
theorem i6_113 : decode prog_8_method_1_code 113 = .ok (.putfield 50, 3) := by decide +kernel
theorem i6_116 : decode prog_8_method_1_code 116 = .ok (.aload_n 0, 1) := by decide +kernel
theorem i6_117 : decode prog_8_method_1_code 117 = .ok (.sipush 1400, 3) := by decide +kernel
theorem i6_120 : decode prog_8_method_1_code 120 = .ok (.newarray .int, 2) := by decide +kernel
theorem i6_122 : decode prog_8_method_1_code 122 = .ok (.putfield 53, 3) := by decide +kernel
theorem i6_125 : decode prog_8_method_1_code 125 = .ok (.aload_n 0, 1) := by decide +kernel
theorem i6_126 : decode prog_8_method_1_code 126 = .ok (.iconst 3, 1) := by decide +kernel
theorem i6_127 : decode prog_8_method_1_code 127 = .ok (.newarray .int, 2) := by decide +kernel
theorem i6_129 : decode prog_8_method_1_code 129 = .ok (.putfield 56, 3) := by decide +kernel
theorem i6_132 : decode prog_8_method_1_code 132 = .ok (.aload_n 0, 1) := by decide +kernel
theorem i6_133 : decode prog_8_method_1_code 133 = .ok (.getfield 7, 3) := by decide +kernel
theorem i6_136 : decode prog_8_method_1_code 136 = .ok (.bipush 67, 2) := by decide +kernel
theorem i6_138 : decode prog_8_method_1_code 138 = .ok (.iconst 1, 1) := by decide +kernel
theorem i6_139 : decode prog_8_method_1_code 139 = .ok (.iastore, 1) := by decide +kernel
theorem i6_140 : decode prog_8_method_1_code 140 = .ok (.aload_n 0, 1) := by decide +kernel
theorem i6_141 : decode prog_8_method_1_code 141 = .ok (.getfield 7, 3) := by decide +kernel
theorem i6_144 : decode prog_8_method_1_code 144 = .ok (.bipush 70, 2) := by decide +kernel
theorem i6_146 : decode prog_8_method_1_code 146 = .ok (.bipush 12, 2) := by decide +kernel
theorem i6_148 : decode prog_8_method_1_code 148 = .ok (.iastore, 1) := by decide +kernel
theorem i6_149 : decode prog_8_method_1_code 149 = .ok (.return_, 1) := by decide +kernel
theorem oi_2 : Cond.instanceMethod Lib.objectInit ∈ gmT := (gm_mem 16 (by decide +kernel) (by decide +kernel))
theorem oi_3 : Cond.code Lib.objectInit ⟨#[0xb1]⟩ 1 none ∈ gmT := gm_mem 17 (by decide +kernel) (by decide +kernel)
theorem oi_0_1 : Cond.methodLink "GarmentMarker$Marker" 3 Lib.objectInit ∈ gmT := gm_mem 144 (by decide +kernel) (by decide +kernel)
theorem oi_1_1 : Cond.methodLink "GarmentMarker$Part" 3 Lib.objectInit ∈ gmT := gm_mem 151 (by decide +kernel) (by decide +kernel)
theorem oi_2_1 : Cond.methodLink "GarmentMarker$Piece" 3 Lib.objectInit ∈ gmT := gm_mem 30 (by decide +kernel) (by decide +kernel)
theorem oi_3_1 : Cond.methodLink "GarmentMarker$Seam" 1 Lib.objectInit ∈ gmT := gm_mem 65 (by decide +kernel) (by decide +kernel)
theorem oi_4_1 : Cond.methodLink "GarmentMarker$State" 3 Lib.objectInit ∈ gmT := gm_mem 23 (by decide +kernel) (by decide +kernel)
theorem oi_5_1 : Cond.methodLink "GarmentMarker" 3 Lib.objectInit ∈ gmT := gm_mem 15 (by decide +kernel) (by decide +kernel)
theorem oi_6_1 : Cond.methodLink "GarmentMarkerModel" 1 Lib.objectInit ∈ gmT := gm_mem 560 (by decide +kernel) (by decide +kernel)
theorem in_0 : Cond.instantiable (gmC 0).1 (gmC 0).2.2 ∈ gmT := (gm_mem 140 (by decide +kernel) (by decide +kernel))
theorem ii_0 : Cond.initialized (gmC 0).1 ∈ gmT := (gm_mem 5 (by decide +kernel) (by decide +kernel))
theorem im_0 : Cond.instanceMethod gmY0_init ∈ gmT := (gm_mem 142 (by decide +kernel) (by decide +kernel))
theorem ic_0 : Cond.code gmY0_init prog_2_method_1_code 2 none ∈ gmT := gm_mem 143 (by decide +kernel) (by decide +kernel)
theorem iy_0 : gmY0_init.cls ≠ "java/lang/invoke/MethodHandle" ∧ gmY0_init.cls ≠ "java/lang/invoke/VarHandle" ∧ (parseMethodDescriptor gmY0_init.desc).map (fun d => d.parameters.length) = some 0 := by decide +kernel
theorem in_1 : Cond.instantiable (gmC 1).1 (gmC 1).2.2 ∈ gmT := (gm_mem 147 (by decide +kernel) (by decide +kernel))
theorem ii_1 : Cond.initialized (gmC 1).1 ∈ gmT := (gm_mem 6 (by decide +kernel) (by decide +kernel))
theorem im_1 : Cond.instanceMethod gmY1_init ∈ gmT := (gm_mem 149 (by decide +kernel) (by decide +kernel))
theorem ic_1 : Cond.code gmY1_init prog_3_method_1_code 1 none ∈ gmT := gm_mem 150 (by decide +kernel) (by decide +kernel)
theorem iy_1 : gmY1_init.cls ≠ "java/lang/invoke/MethodHandle" ∧ gmY1_init.cls ≠ "java/lang/invoke/VarHandle" ∧ (parseMethodDescriptor gmY1_init.desc).map (fun d => d.parameters.length) = some 0 := by decide +kernel
theorem in_2 : Cond.instantiable (gmC 2).1 (gmC 2).2.2 ∈ gmT := (gm_mem 26 (by decide +kernel) (by decide +kernel))
theorem ii_2 : Cond.initialized (gmC 2).1 ∈ gmT := (gm_mem 3 (by decide +kernel) (by decide +kernel))
theorem im_2 : Cond.instanceMethod gmY2_init ∈ gmT := (gm_mem 28 (by decide +kernel) (by decide +kernel))
theorem ic_2 : Cond.code gmY2_init prog_4_method_1_code 1 none ∈ gmT := gm_mem 29 (by decide +kernel) (by decide +kernel)
theorem iy_2 : gmY2_init.cls ≠ "java/lang/invoke/MethodHandle" ∧ gmY2_init.cls ≠ "java/lang/invoke/VarHandle" ∧ (parseMethodDescriptor gmY2_init.desc).map (fun d => d.parameters.length) = some 0 := by decide +kernel
theorem in_3 : Cond.instantiable (gmC 3).1 (gmC 3).2.2 ∈ gmT := (gm_mem 61 (by decide +kernel) (by decide +kernel))
theorem ii_3 : Cond.initialized (gmC 3).1 ∈ gmT := (gm_mem 4 (by decide +kernel) (by decide +kernel))
theorem im_3 : Cond.instanceMethod gmY3_init ∈ gmT := (gm_mem 63 (by decide +kernel) (by decide +kernel))
theorem ic_3 : Cond.code gmY3_init prog_5_method_1_code 1 none ∈ gmT := gm_mem 64 (by decide +kernel) (by decide +kernel)
theorem iy_3 : gmY3_init.cls ≠ "java/lang/invoke/MethodHandle" ∧ gmY3_init.cls ≠ "java/lang/invoke/VarHandle" ∧ (parseMethodDescriptor gmY3_init.desc).map (fun d => d.parameters.length) = some 0 := by decide +kernel
theorem in_4 : Cond.instantiable (gmC 4).1 (gmC 4).2.2 ∈ gmT := (gm_mem 19 (by decide +kernel) (by decide +kernel))
theorem ii_4 : Cond.initialized (gmC 4).1 ∈ gmT := (gm_mem 2 (by decide +kernel) (by decide +kernel))
theorem im_4 : Cond.instanceMethod gmY4_init ∈ gmT := (gm_mem 21 (by decide +kernel) (by decide +kernel))
theorem ic_4 : Cond.code gmY4_init prog_6_method_1_code 2 none ∈ gmT := gm_mem 22 (by decide +kernel) (by decide +kernel)
theorem iy_4 : gmY4_init.cls ≠ "java/lang/invoke/MethodHandle" ∧ gmY4_init.cls ≠ "java/lang/invoke/VarHandle" ∧ (parseMethodDescriptor gmY4_init.desc).map (fun d => d.parameters.length) = some 0 := by decide +kernel
theorem in_5 : Cond.instantiable (gmC 5).1 (gmC 5).2.2 ∈ gmT := (gm_mem 11 (by decide +kernel) (by decide +kernel))
theorem ii_5 : Cond.initialized (gmC 5).1 ∈ gmT := (gm_mem 1 (by decide +kernel) (by decide +kernel))
theorem im_5 : Cond.instanceMethod gmY5_init ∈ gmT := (gm_mem 13 (by decide +kernel) (by decide +kernel))
theorem ic_5 : Cond.code gmY5_init prog_1_method_1_code 2 none ∈ gmT := gm_mem 14 (by decide +kernel) (by decide +kernel)
theorem iy_5 : gmY5_init.cls ≠ "java/lang/invoke/MethodHandle" ∧ gmY5_init.cls ≠ "java/lang/invoke/VarHandle" ∧ (parseMethodDescriptor gmY5_init.desc).map (fun d => d.parameters.length) = some 0 := by decide +kernel
theorem in_6 : Cond.instantiable (gmC 6).1 (gmC 6).2.2 ∈ gmT := (gm_mem 556 (by decide +kernel) (by decide +kernel))
theorem ii_6 : Cond.initialized (gmC 6).1 ∈ gmT := (gm_mem 7 (by decide +kernel) (by decide +kernel))
theorem im_6 : Cond.instanceMethod gmY6_init ∈ gmT := (gm_mem 558 (by decide +kernel) (by decide +kernel))
theorem ic_6 : Cond.code gmY6_init prog_8_method_1_code 1 none ∈ gmT := gm_mem 559 (by decide +kernel) (by decide +kernel)
theorem iy_6 : gmY6_init.cls ≠ "java/lang/invoke/MethodHandle" ∧ gmY6_init.cls ≠ "java/lang/invoke/VarHandle" ∧ (parseMethodDescriptor gmY6_init.desc).map (fun d => d.parameters.length) = some 0 := by decide +kernel
theorem cl_L_7 : Cond.classLink "GarmentMarkerLaw" 7 (gmC 5).1 ∈ gmT := gm_mem 10 (by decide +kernel) (by decide +kernel)
theorem cl_5_9 : Cond.classLink "GarmentMarker" 9 (gmC 4).1 ∈ gmT := gm_mem 18 (by decide +kernel) (by decide +kernel)
theorem cl_4_9 : Cond.classLink "GarmentMarker$State" 9 (gmC 2).1 ∈ gmT := gm_mem 24 (by decide +kernel) (by decide +kernel)
theorem cl_4_18 : Cond.classLink "GarmentMarker$State" 18 (gmC 3).1 ∈ gmT := gm_mem 59 (by decide +kernel) (by decide +kernel)
theorem cl_5_24 : Cond.classLink "GarmentMarker" 24 (gmC 0).1 ∈ gmT := gm_mem 139 (by decide +kernel) (by decide +kernel)
theorem cl_0_9 : Cond.classLink "GarmentMarker$Marker" 9 (gmC 1).1 ∈ gmT := gm_mem 145 (by decide +kernel) (by decide +kernel)
theorem cl_L_10 : Cond.classLink "GarmentMarkerLaw" 10 (gmC 6).1 ∈ gmT := gm_mem 555 (by decide +kernel) (by decide +kernel)
theorem ml_L_9 : Cond.methodLink "GarmentMarkerLaw" 9 gmY5_init ∈ gmT := gm_mem 12 (by decide +kernel) (by decide +kernel)
theorem ml_5_11 : Cond.methodLink "GarmentMarker" 11 gmY4_init ∈ gmT := gm_mem 20 (by decide +kernel) (by decide +kernel)
theorem ml_5_26 : Cond.methodLink "GarmentMarker" 26 gmY0_init ∈ gmT := gm_mem 141 (by decide +kernel) (by decide +kernel)
theorem ml_L_12 : Cond.methodLink "GarmentMarkerLaw" 12 gmY6_init ∈ gmT := gm_mem 557 (by decide +kernel) (by decide +kernel)
theorem ac_0 : Cond.arrayClass FieldType.int ∈ gmT := (gm_mem 137 (by decide +kernel) (by decide +kernel))
theorem ac_1 : Cond.arrayClass FieldType.boolean ∈ gmT := (gm_mem 191 (by decide +kernel) (by decide +kernel))
def fs0 : List Value := [.null, .int 0, .int 0, .null, .null, .null, .null]
theorem fs0_ok : ∀ j, j < (gmC 0).2.2 → defaultValue (gmTy0 0 j) = vp_V fs0 j
  | 0, _ => by rw [show gmTy0 0 0 = .array (.object "GarmentMarker$Part") from by decide +kernel]; rfl
  | 1, _ => by rw [show gmTy0 0 1 = .int from by decide +kernel]; rfl
  | 2, _ => by rw [show gmTy0 0 2 = .int from by decide +kernel]; rfl
  | 3, _ => by rw [show gmTy0 0 3 = .array (.int) from by decide +kernel]; rfl
  | 4, _ => by rw [show gmTy0 0 4 = .array (.int) from by decide +kernel]; rfl
  | 5, _ => by rw [show gmTy0 0 5 = .array (.int) from by decide +kernel]; rfl
  | 6, _ => by rw [show gmTy0 0 6 = .array (.int) from by decide +kernel]; rfl
  | n + 7, h => absurd h (by show ¬ n + 7 < 7; omega)
def fs1 : List Value := [.int 0, .int 0, .int 0, .int 0, .int 0, .int 0, .int 0, .int 0, .int 0]
theorem fs1_ok : ∀ j, j < (gmC 1).2.2 → defaultValue (gmTy0 1 j) = vp_V fs1 j
  | 0, _ => by rw [show gmTy0 1 0 = .int from by decide +kernel]; rfl
  | 1, _ => by rw [show gmTy0 1 1 = .int from by decide +kernel]; rfl
  | 2, _ => by rw [show gmTy0 1 2 = .boolean from by decide +kernel]; rfl
  | 3, _ => by rw [show gmTy0 1 3 = .int from by decide +kernel]; rfl
  | 4, _ => by rw [show gmTy0 1 4 = .int from by decide +kernel]; rfl
  | 5, _ => by rw [show gmTy0 1 5 = .int from by decide +kernel]; rfl
  | 6, _ => by rw [show gmTy0 1 6 = .int from by decide +kernel]; rfl
  | 7, _ => by rw [show gmTy0 1 7 = .int from by decide +kernel]; rfl
  | 8, _ => by rw [show gmTy0 1 8 = .int from by decide +kernel]; rfl
  | n + 9, h => absurd h (by show ¬ n + 9 < 9; omega)
def fs2 : List Value := [.int 0, .int 0, .int 0, .int 0, .int 0, .int 0]
theorem fs2_ok : ∀ j, j < (gmC 2).2.2 → defaultValue (gmTy0 2 j) = vp_V fs2 j
  | 0, _ => by rw [show gmTy0 2 0 = .boolean from by decide +kernel]; rfl
  | 1, _ => by rw [show gmTy0 2 1 = .int from by decide +kernel]; rfl
  | 2, _ => by rw [show gmTy0 2 2 = .int from by decide +kernel]; rfl
  | 3, _ => by rw [show gmTy0 2 3 = .int from by decide +kernel]; rfl
  | 4, _ => by rw [show gmTy0 2 4 = .int from by decide +kernel]; rfl
  | 5, _ => by rw [show gmTy0 2 5 = .int from by decide +kernel]; rfl
  | n + 6, h => absurd h (by show ¬ n + 6 < 6; omega)
def fs3 : List Value := [.int 0, .int 0, .int 0, .int 0, .int 0]
theorem fs3_ok : ∀ j, j < (gmC 3).2.2 → defaultValue (gmTy0 3 j) = vp_V fs3 j
  | 0, _ => by rw [show gmTy0 3 0 = .int from by decide +kernel]; rfl
  | 1, _ => by rw [show gmTy0 3 1 = .int from by decide +kernel]; rfl
  | 2, _ => by rw [show gmTy0 3 2 = .int from by decide +kernel]; rfl
  | 3, _ => by rw [show gmTy0 3 3 = .int from by decide +kernel]; rfl
  | 4, _ => by rw [show gmTy0 3 4 = .int from by decide +kernel]; rfl
  | n + 5, h => absurd h (by show ¬ n + 5 < 5; omega)
def fs4 : List Value := [.null, .null, .int 0, .null, .null, .int 0, .int 0, .int 0, .int 0, .int 0]
theorem fs4_ok : ∀ j, j < (gmC 4).2.2 → defaultValue (gmTy0 4 j) = vp_V fs4 j
  | 0, _ => by rw [show gmTy0 4 0 = .array (.object "GarmentMarker$Piece") from by decide +kernel]; rfl
  | 1, _ => by rw [show gmTy0 4 1 = .array (.object "GarmentMarker$Seam") from by decide +kernel]; rfl
  | 2, _ => by rw [show gmTy0 4 2 = .int from by decide +kernel]; rfl
  | 3, _ => by rw [show gmTy0 4 3 = .array (.int) from by decide +kernel]; rfl
  | 4, _ => by rw [show gmTy0 4 4 = .array (.int) from by decide +kernel]; rfl
  | 5, _ => by rw [show gmTy0 4 5 = .int from by decide +kernel]; rfl
  | 6, _ => by rw [show gmTy0 4 6 = .boolean from by decide +kernel]; rfl
  | 7, _ => by rw [show gmTy0 4 7 = .boolean from by decide +kernel]; rfl
  | 8, _ => by rw [show gmTy0 4 8 = .int from by decide +kernel]; rfl
  | 9, _ => by rw [show gmTy0 4 9 = .int from by decide +kernel]; rfl
  | n + 10, h => absurd h (by show ¬ n + 10 < 10; omega)
def fs5 : List Value := [.null, .null, .null, .null, .null]
theorem fs5_ok : ∀ j, j < (gmC 5).2.2 → defaultValue (gmTy0 5 j) = vp_V fs5 j
  | 0, _ => by rw [show gmTy0 5 0 = .object "GarmentMarker$State" from by decide +kernel]; rfl
  | 1, _ => by rw [show gmTy0 5 1 = .array (.object "GarmentMarker$State") from by decide +kernel]; rfl
  | 2, _ => by rw [show gmTy0 5 2 = .array (.boolean) from by decide +kernel]; rfl
  | 3, _ => by rw [show gmTy0 5 3 = .object "GarmentMarker$Marker" from by decide +kernel]; rfl
  | 4, _ => by rw [show gmTy0 5 4 = .array (.int) from by decide +kernel]; rfl
  | n + 5, h => absurd h (by show ¬ n + 5 < 5; omega)
def fs6 : List Value := [.null, .null, .null, .null, .null, .null, .null, .null, .int 0, .null, .null, .null, .null, .null, .null, .int 0, .null, .int 0, .null, .int 0, .int 0, .int 0, .int 0]
theorem fs6_ok : ∀ j, j < (gmC 6).2.2 → defaultValue (gmTy0 6 j) = vp_V fs6 j
  | 0, _ => by rw [show gmTy0 6 0 = .array (.int) from by decide +kernel]; rfl
  | 1, _ => by rw [show gmTy0 6 1 = .array (.int) from by decide +kernel]; rfl
  | 2, _ => by rw [show gmTy0 6 2 = .array (.boolean) from by decide +kernel]; rfl
  | 3, _ => by rw [show gmTy0 6 3 = .array (.int) from by decide +kernel]; rfl
  | 4, _ => by rw [show gmTy0 6 4 = .array (.int) from by decide +kernel]; rfl
  | 5, _ => by rw [show gmTy0 6 5 = .array (.int) from by decide +kernel]; rfl
  | 6, _ => by rw [show gmTy0 6 6 = .array (.int) from by decide +kernel]; rfl
  | 7, _ => by rw [show gmTy0 6 7 = .array (.boolean) from by decide +kernel]; rfl
  | 8, _ => by rw [show gmTy0 6 8 = .int from by decide +kernel]; rfl
  | 9, _ => by rw [show gmTy0 6 9 = .array (.int) from by decide +kernel]; rfl
  | 10, _ => by rw [show gmTy0 6 10 = .array (.int) from by decide +kernel]; rfl
  | 11, _ => by rw [show gmTy0 6 11 = .array (.int) from by decide +kernel]; rfl
  | 12, _ => by rw [show gmTy0 6 12 = .array (.int) from by decide +kernel]; rfl
  | 13, _ => by rw [show gmTy0 6 13 = .array (.int) from by decide +kernel]; rfl
  | 14, _ => by rw [show gmTy0 6 14 = .array (.int) from by decide +kernel]; rfl
  | 15, _ => by rw [show gmTy0 6 15 = .int from by decide +kernel]; rfl
  | 16, _ => by rw [show gmTy0 6 16 = .array (.int) from by decide +kernel]; rfl
  | 17, _ => by rw [show gmTy0 6 17 = .int from by decide +kernel]; rfl
  | 18, _ => by rw [show gmTy0 6 18 = .array (.int) from by decide +kernel]; rfl
  | 19, _ => by rw [show gmTy0 6 19 = .int from by decide +kernel]; rfl
  | 20, _ => by rw [show gmTy0 6 20 = .int from by decide +kernel]; rfl
  | 21, _ => by rw [show gmTy0 6 21 = .int from by decide +kernel]; rfl
  | 22, _ => by rw [show gmTy0 6 22 = .int from by decide +kernel]; rfl
  | n + 23, h => absurd h (by show ¬ n + 23 < 23; omega)
theorem C_part (k0 : Nat) (e0 : va_E) : CtrC gmY1_init prog_3_method_1_code 1 1 12 0 0 k0 e0 [k0] (fun _ _ _ => e0) := by
  refine CtrC.of (own := "GarmentMarker$Part") (by decide +kernel) rfl rfl (Nat.le_refl 1) (fun φ h0 hG hC hI hF => ?_)
  refine c_aload_n hG 0 i1_0 rfl rfl ?_
  refine c_objInit hG oi_1_1 oi_2 oi_3 ⟨Nat.le_refl _, Nat.le_refl _⟩ i1_1 ?_
  exact c_ret hF rfl (fun _ _ => rfl) rfl ⟨Nat.le_refl _, Nat.le_refl _⟩ i1_4
theorem C_piece (k0 : Nat) (e0 : va_E) : CtrC gmY2_init prog_4_method_1_code 1 1 12 0 0 k0 e0 [k0] (fun _ _ _ => e0) := by
  refine CtrC.of (own := "GarmentMarker$Piece") (by decide +kernel) rfl rfl (Nat.le_refl 1) (fun φ h0 hG hC hI hF => ?_)
  refine c_aload_n hG 0 i2_0 rfl rfl ?_
  refine c_objInit hG oi_2_1 oi_2 oi_3 ⟨Nat.le_refl _, Nat.le_refl _⟩ i2_1 ?_
  exact c_ret hF rfl (fun _ _ => rfl) rfl ⟨Nat.le_refl _, Nat.le_refl _⟩ i2_4
theorem C_seam (k0 : Nat) (e0 : va_E) : CtrC gmY3_init prog_5_method_1_code 1 1 12 0 0 k0 e0 [k0] (fun _ _ _ => e0) := by
  refine CtrC.of (own := "GarmentMarker$Seam") (by decide +kernel) rfl rfl (Nat.le_refl 1) (fun φ h0 hG hC hI hF => ?_)
  refine c_aload_n hG 0 i3_0 rfl rfl ?_
  refine c_objInit hG oi_3_1 oi_2 oi_3 ⟨Nat.le_refl _, Nat.le_refl _⟩ i3_1 ?_
  exact c_ret hF rfl (fun _ _ => rfl) rfl ⟨Nat.le_refl _, Nat.le_refl _⟩ i3_4
/-- an element without parts of its own: new, dup, constructor -/
theorem el_leaf {φ : Fx} {own host : String} {cc : ByteArray} {nl fr lo mc ms ci idxN idxC : Nat} {y : MethodName} {bc : ByteArray} {fs : List Value} (hG : Good φ own cc nl fr lo) (hC : ConC φ mc ms) (h7 : ci < 7) (hl : Cond.classLink own idxN (gmC ci).1 ∈ gmT) (hi : Cond.instantiable (gmC ci).1 (gmC ci).2.2 ∈ gmT) (hini : Cond.initialized (gmC ci).1 ∈ gmT) (hfs : ∀ j, j < (gmC ci).2.2 → defaultValue (gmTy0 ci j) = vp_V fs j) (hM : ∀ k0 e0, CtrC y bc 1 1 12 0 0 k0 e0 [k0] (fun _ _ _ => e0)) (w1 : (own, idxC, y, host) ∈ gmNestL) (w2 : Cond.instanceMethod y ∈ gmT) (hyc : y.cls = (gmC ci).1) (w5 : Cond.code y bc 1 none ∈ gmT) (hy : y.name = "<init>") (hyd : y.cls ≠ "java/lang/invoke/MethodHandle" ∧ y.cls ≠ "java/lang/invoke/VarHandle" ∧ (parseMethodDescriptor y.desc).map (fun d => d.parameters.length) = some 0) (hR : 2 ≤ fr ∧ 32 ≤ lo) {p : Nat} (d1 : decode cc p = .ok (.new idxN, 3)) (d2 : decode cc (p + 3) = .ok (.dup, 1)) (d3 : decode cc (p + 4) = .ok (.invokespecial idxC, 3)) (kn : Nat) (ks : List Nat) (ad : Nat → Nat) (E : Nat → va_E) (cl sl : Nat) (lv : List (Nat × AV)) (st : List AV) (hst : st.length ≤ 2) (hk : ∀ k ∈ ([kn] : List Nat), k ∉ ks) (hr : cl + 1 ≤ mc ∧ sl + (gmC ci).2.2 ≤ ms)
    (kk : ∀ (ad' : Nat → Nat) (E' : Nat → va_E) (q : Nat), (∀ k ∈ ks, ad' k = ad k ∧ E' k = E k) → q = ad' kn → (∀ k ∈ ([kn] : List Nat), E' k = .inr (ci, fs)) → (∃ vs, E' kn = .inr (ci, vs)) → JC φ (ks ++ [kn]) ad' E' (cl + 1) (sl + (gmC ci).2.2) (p + 7) lv (.inr q :: st)) : JC φ ks ad E cl sl p lv st := by
  have hk0 : kn ∉ ks := hk kn List.mem_cons_self
  refine c_new hG hC h7 hl hi hini hk0 hfs hr d1 (fun q => ?_)
  refine c_dup hG d2 ?_
  refine c_callN (kr := ks) (k0 := kn) hG hC (hM kn (.inr (ci, fs))) w1 w2 (by rw [hyc]; exact hini) w5 hy hyd upC_s.symm upC_s (fun k hk2 z => hk0 (List.mem_singleton.mp z ▸ hk2)) (List.pairwise_singleton _ _) ⟨by omega, by omega⟩ hr (by show st.length + 1 ≤ 8; omega) d3 (fun ad1 h1 => ?_)
  refine kk _ _ q (fun k hk2 => ?_) ?_ (fun k hk2 => ?_) ⟨fs, ?_⟩
  · have hne : k ≠ kn := fun z => hk0 (z ▸ hk2)
    have hnm : k ∉ ([kn] : List Nat) := fun z => hne (List.mem_singleton.mp z)
    exact ⟨by rw [mgC_0 hnm, upC_n hne], by rw [mgC_0 hnm, upC_n hne]⟩
  · rw [mgC_1 List.mem_cons_self, h1]
  · rw [mgC_1 hk2]
  · rw [mgC_1 List.mem_cons_self]
/-- the store as it begins -/
def st0 : St := fun k i => if k = 16 ∨ k = 33 ∨ k = 50 then (if i = 0 then 1 else 0) else if k = 1 ∨ k = 18 ∨ k = 35 then (if i = 5 then 12 else 0) else if k = 134 then (if i = 67 then 1 else if i = 70 then 12 else 0) else 0
def E0 : E4 := fun G ad k => gmE (G.1, ad, G.2.2) st0 k
theorem E0_num {G : GG} {ad : Nat → Nat} {k c : Nat} (h : gmKd k = c + 10) (hc : c < 2) (hz : ∀ i, st0 k i = 0) : E0 G ad k = .inl (G.2.2 (c + 10), gmLn k, .inl (fun _ => 0)) := by
  show gmE (G.1, ad, G.2.2) st0 k = _
  rw [gmE_num h hc]
  simp only [hz]
  rfl
theorem fill0 {c : ClassId} {N : Nat} {g : Nat → Nat} : (.inl (c, N, .inr (.inr (.inr (.inr (fun _ => none))))) : va_E) = .inl (c, N, .inr (.inr (.inr (.inr (fun i => if i < 0 then some (g i) else none))))) := by
  congr 7
def ksS (B : Nat) : List Nat := ((((([B] ++ [B + 1]) ++ (List.range 6).flatMap (fun i => [B + 2 + i])) ++ [B + 8]) ++ (List.range 6).flatMap (fun i => [B + 9 + i])) ++ [B + 15]) ++ [B + 16]
theorem ksS_mem {B k : Nat} : k ∈ ksS B ↔ B ≤ k ∧ k ≤ B + 16 := by
  unfold ksS
  simp only [List.mem_append, List.mem_flatMap, List.mem_range, List.mem_singleton]
  constructor
  · rintro ((((((h | h) | ⟨i, h1, h⟩) | h) | ⟨i, h1, h⟩) | h) | h) <;> omega
  · intro h
    rcases (by omega : k = B ∨ k = B + 1 ∨ (B + 2 ≤ k ∧ k < B + 8) ∨ k = B + 8 ∨ (B + 9 ≤ k ∧ k < B + 15) ∨ k = B + 15 ∨ k = B + 16) with h | h | h | h | h | h | h
    · exact Or.inl (Or.inl (Or.inl (Or.inl (Or.inl (Or.inl h)))))
    · exact Or.inl (Or.inl (Or.inl (Or.inl (Or.inl (Or.inr h)))))
    · exact Or.inl (Or.inl (Or.inl (Or.inl (Or.inr ⟨k - (B + 2), by omega, by omega⟩))))
    · exact Or.inl (Or.inl (Or.inl (Or.inr h)))
    · exact Or.inl (Or.inl (Or.inr ⟨k - (B + 9), by omega, by omega⟩))
    · exact Or.inl (Or.inr h)
    · exact Or.inr h
