theorem d_x_addSeam_56 : decode prog_1_method_6_code 56 = .ok (.sipush (-1005), 3) := by decide +kernel
theorem d_x_addSeam_59 : decode prog_1_method_6_code 59 = .ok (.ireturn, 1) := by decide +kernel
theorem d_x_addSeam_60 : decode prog_1_method_6_code 60 = .ok (.aload_n 0, 1) := by decide +kernel
theorem d_x_addSeam_61 : decode prog_1_method_6_code 61 = .ok (.getfield 12, 3) := by decide +kernel
theorem d_x_addSeam_64 : decode prog_1_method_6_code 64 = .ok (.getfield 77, 3) := by decide +kernel
theorem d_x_addSeam_67 : decode prog_1_method_6_code 67 = .ok (.istore 6, 2) := by decide +kernel
theorem d_x_addSeam_69 : decode prog_1_method_6_code 69 = .ok (.iload 6, 2) := by decide +kernel
theorem d_x_addSeam_71 : decode prog_1_method_6_code 71 = .ok (.bipush 6, 2) := by decide +kernel
theorem d_x_addSeam_73 : decode prog_1_method_6_code 73 = .ok (.if_icmp .lt 7, 3) := by decide +kernel
theorem d_x_addSeam_76 : decode prog_1_method_6_code 76 = .ok (.sipush (-1006), 3) := by decide +kernel
theorem d_x_addSeam_79 : decode prog_1_method_6_code 79 = .ok (.ireturn, 1) := by decide +kernel
theorem d_x_addSeam_80 : decode prog_1_method_6_code 80 = .ok (.aload_n 0, 1) := by decide +kernel
theorem d_x_addSeam_81 : decode prog_1_method_6_code 81 = .ok (.getfield 12, 3) := by decide +kernel
theorem d_x_addSeam_84 : decode prog_1_method_6_code 84 = .ok (.getfield 84, 3) := by decide +kernel
theorem d_x_addSeam_87 : decode prog_1_method_6_code 87 = .ok (.iload 6, 2) := by decide +kernel
theorem d_x_addSeam_89 : decode prog_1_method_6_code 89 = .ok (.aaload, 1) := by decide +kernel
theorem d_x_addSeam_90 : decode prog_1_method_6_code 90 = .ok (.astore 7, 2) := by decide +kernel
theorem d_x_addSeam_92 : decode prog_1_method_6_code 92 = .ok (.aload 7, 2) := by decide +kernel
theorem d_x_addSeam_94 : decode prog_1_method_6_code 94 = .ok (.iload_n 1, 1) := by decide +kernel
theorem d_x_addSeam_95 : decode prog_1_method_6_code 95 = .ok (.putfield 88, 3) := by decide +kernel
theorem d_x_addSeam_98 : decode prog_1_method_6_code 98 = .ok (.aload 7, 2) := by decide +kernel
theorem d_x_addSeam_100 : decode prog_1_method_6_code 100 = .ok (.iload_n 2, 1) := by decide +kernel
theorem d_x_addSeam_101 : decode prog_1_method_6_code 101 = .ok (.putfield 93, 3) := by decide +kernel
theorem d_x_addSeam_104 : decode prog_1_method_6_code 104 = .ok (.aload 7, 2) := by decide +kernel
theorem d_x_addSeam_106 : decode prog_1_method_6_code 106 = .ok (.iload_n 3, 1) := by decide +kernel
theorem d_x_addSeam_107 : decode prog_1_method_6_code 107 = .ok (.putfield 96, 3) := by decide +kernel
theorem d_x_addSeam_110 : decode prog_1_method_6_code 110 = .ok (.aload 7, 2) := by decide +kernel
theorem d_x_addSeam_112 : decode prog_1_method_6_code 112 = .ok (.iload 4, 2) := by decide +kernel
theorem d_x_addSeam_114 : decode prog_1_method_6_code 114 = .ok (.putfield 99, 3) := by decide +kernel
theorem d_x_addSeam_117 : decode prog_1_method_6_code 117 = .ok (.aload 7, 2) := by decide +kernel
theorem d_x_addSeam_119 : decode prog_1_method_6_code 119 = .ok (.iload 5, 2) := by decide +kernel
theorem d_x_addSeam_121 : decode prog_1_method_6_code 121 = .ok (.putfield 102, 3) := by decide +kernel
theorem d_x_addSeam_124 : decode prog_1_method_6_code 124 = .ok (.aload_n 0, 1) := by decide +kernel
theorem d_x_addSeam_125 : decode prog_1_method_6_code 125 = .ok (.getfield 12, 3) := by decide +kernel
theorem d_x_addSeam_128 : decode prog_1_method_6_code 128 = .ok (.iload 6, 2) := by decide +kernel
theorem d_x_addSeam_130 : decode prog_1_method_6_code 130 = .ok (.iconst 1, 1) := by decide +kernel
theorem d_x_addSeam_131 : decode prog_1_method_6_code 131 = .ok (.iadd, 1) := by decide +kernel
theorem d_x_addSeam_132 : decode prog_1_method_6_code 132 = .ok (.putfield 77, 3) := by decide +kernel
theorem d_x_addSeam_135 : decode prog_1_method_6_code 135 = .ok (.iload 6, 2) := by decide +kernel
theorem d_x_addSeam_137 : decode prog_1_method_6_code 137 = .ok (.ireturn, 1) := by decide +kernel
theorem d_x_seamCount_0 : decode prog_1_method_7_code 0 = .ok (.aload_n 0, 1) := by decide +kernel
theorem d_x_seamCount_1 : decode prog_1_method_7_code 1 = .ok (.getfield 12, 3) := by decide +kernel
theorem d_x_seamCount_4 : decode prog_1_method_7_code 4 = .ok (.getfield 77, 3) := by decide +kernel
theorem d_x_seamCount_7 : decode prog_1_method_7_code 7 = .ok (.ireturn, 1) := by decide +kernel
theorem d_x_seamDifference_0 : decode prog_1_method_8_code 0 = .ok (.iload_n 1, 1) := by decide +kernel
theorem d_x_seamDifference_1 : decode prog_1_method_8_code 1 = .ok (.iconst 0, 1) := by decide +kernel
theorem d_x_seamDifference_2 : decode prog_1_method_8_code 2 = .ok (.aload_n 0, 1) := by decide +kernel
theorem d_x_seamDifference_3 : decode prog_1_method_8_code 3 = .ok (.getfield 12, 3) := by decide +kernel
theorem d_x_seamDifference_6 : decode prog_1_method_8_code 6 = .ok (.getfield 77, 3) := by decide +kernel
theorem d_x_seamDifference_9 : decode prog_1_method_8_code 9 = .ok (.iconst 1, 1) := by decide +kernel
theorem d_x_seamDifference_10 : decode prog_1_method_8_code 10 = .ok (.isub, 1) := by decide +kernel
theorem d_x_seamDifference_11 : decode prog_1_method_8_code 11 = .ok (.invokestatic 35, 3) := by decide +kernel
theorem d_x_seamDifference_14 : decode prog_1_method_8_code 14 = .ok (.ifCond .ne 7, 3) := by decide +kernel
theorem d_x_seamDifference_17 : decode prog_1_method_8_code 17 = .ok (.sipush (-1003), 3) := by decide +kernel
theorem d_x_seamDifference_20 : decode prog_1_method_8_code 20 = .ok (.ireturn, 1) := by decide +kernel
theorem d_x_seamDifference_21 : decode prog_1_method_8_code 21 = .ok (.iload_n 2, 1) := by decide +kernel
theorem d_x_seamDifference_22 : decode prog_1_method_8_code 22 = .ok (.invokestatic 105, 3) := by decide +kernel
theorem d_x_seamDifference_25 : decode prog_1_method_8_code 25 = .ok (.ifCond .ne 7, 3) := by decide +kernel
theorem d_x_seamDifference_28 : decode prog_1_method_8_code 28 = .ok (.sipush (-1002), 3) := by decide +kernel
theorem d_x_seamDifference_31 : decode prog_1_method_8_code 31 = .ok (.ireturn, 1) := by decide +kernel
theorem d_x_seamDifference_32 : decode prog_1_method_8_code 32 = .ok (.aload_n 0, 1) := by decide +kernel
theorem d_x_seamDifference_33 : decode prog_1_method_8_code 33 = .ok (.getfield 12, 3) := by decide +kernel
theorem d_x_seamDifference_36 : decode prog_1_method_8_code 36 = .ok (.aload_n 0, 1) := by decide +kernel
theorem d_x_seamDifference_37 : decode prog_1_method_8_code 37 = .ok (.getfield 12, 3) := by decide +kernel
theorem d_x_seamDifference_40 : decode prog_1_method_8_code 40 = .ok (.getfield 84, 3) := by decide +kernel
theorem d_x_seamDifference_43 : decode prog_1_method_8_code 43 = .ok (.iload_n 1, 1) := by decide +kernel
theorem d_x_seamDifference_44 : decode prog_1_method_8_code 44 = .ok (.aaload, 1) := by decide +kernel
theorem d_x_seamDifference_45 : decode prog_1_method_8_code 45 = .ok (.iload_n 2, 1) := by decide +kernel
theorem d_x_seamDifference_46 : decode prog_1_method_8_code 46 = .ok (.invokevirtual 108, 3) := by decide +kernel
theorem d_x_seamDifference_49 : decode prog_1_method_8_code 49 = .ok (.ireturn, 1) := by decide +kernel
theorem d_x_matchingSeams_0 : decode prog_1_method_9_code 0 = .ok (.iconst 0, 1) := by decide +kernel
theorem d_x_matchingSeams_1 : decode prog_1_method_9_code 1 = .ok (.istore_n 1, 1) := by decide +kernel
theorem d_x_matchingSeams_2 : decode prog_1_method_9_code 2 = .ok (.iconst 0, 1) := by decide +kernel
theorem d_x_matchingSeams_3 : decode prog_1_method_9_code 3 = .ok (.istore_n 2, 1) := by decide +kernel
theorem d_x_matchingSeams_4 : decode prog_1_method_9_code 4 = .ok (.iload_n 2, 1) := by decide +kernel
theorem d_x_matchingSeams_5 : decode prog_1_method_9_code 5 = .ok (.aload_n 0, 1) := by decide +kernel
theorem d_x_matchingSeams_6 : decode prog_1_method_9_code 6 = .ok (.getfield 12, 3) := by decide +kernel
theorem d_x_matchingSeams_9 : decode prog_1_method_9_code 9 = .ok (.getfield 77, 3) := by decide +kernel
theorem d_x_matchingSeams_12 : decode prog_1_method_9_code 12 = .ok (.if_icmp .ge 31, 3) := by decide +kernel
theorem d_x_matchingSeams_15 : decode prog_1_method_9_code 15 = .ok (.aload_n 0, 1) := by decide +kernel
theorem d_x_matchingSeams_16 : decode prog_1_method_9_code 16 = .ok (.getfield 12, 3) := by decide +kernel
theorem d_x_matchingSeams_19 : decode prog_1_method_9_code 19 = .ok (.aload_n 0, 1) := by decide +kernel
theorem d_x_matchingSeams_20 : decode prog_1_method_9_code 20 = .ok (.getfield 12, 3) := by decide +kernel
theorem d_x_matchingSeams_23 : decode prog_1_method_9_code 23 = .ok (.getfield 84, 3) := by decide +kernel
theorem d_x_matchingSeams_26 : decode prog_1_method_9_code 26 = .ok (.iload_n 2, 1) := by decide +kernel
theorem d_x_matchingSeams_27 : decode prog_1_method_9_code 27 = .ok (.aaload, 1) := by decide +kernel
theorem d_x_matchingSeams_28 : decode prog_1_method_9_code 28 = .ok (.invokevirtual 112, 3) := by decide +kernel
theorem d_x_matchingSeams_31 : decode prog_1_method_9_code 31 = .ok (.ifCond .eq 6, 3) := by decide +kernel
theorem d_x_matchingSeams_34 : decode prog_1_method_9_code 34 = .ok (.iinc 1 1, 3) := by decide +kernel
theorem d_x_matchingSeams_37 : decode prog_1_method_9_code 37 = .ok (.iinc 2 1, 3) := by decide +kernel
theorem d_x_matchingSeams_40 : decode prog_1_method_9_code 40 = .ok (.goto (-36), 3) := by decide +kernel
theorem d_x_matchingSeams_43 : decode prog_1_method_9_code 43 = .ok (.iload_n 1, 1) := by decide +kernel
theorem d_x_matchingSeams_44 : decode prog_1_method_9_code 44 = .ok (.ireturn, 1) := by decide +kernel
theorem d_x_firstMismatch_0 : decode prog_1_method_10_code 0 = .ok (.iconst 0, 1) := by decide +kernel
theorem d_x_firstMismatch_1 : decode prog_1_method_10_code 1 = .ok (.istore_n 1, 1) := by decide +kernel
theorem d_x_firstMismatch_2 : decode prog_1_method_10_code 2 = .ok (.iload_n 1, 1) := by decide +kernel
theorem d_x_firstMismatch_3 : decode prog_1_method_10_code 3 = .ok (.aload_n 0, 1) := by decide +kernel
theorem d_x_firstMismatch_4 : decode prog_1_method_10_code 4 = .ok (.getfield 12, 3) := by decide +kernel
theorem d_x_firstMismatch_7 : decode prog_1_method_10_code 7 = .ok (.getfield 77, 3) := by decide +kernel
theorem d_x_firstMismatch_10 : decode prog_1_method_10_code 10 = .ok (.if_icmp .ge 30, 3) := by decide +kernel
theorem d_x_firstMismatch_13 : decode prog_1_method_10_code 13 = .ok (.aload_n 0, 1) := by decide +kernel
theorem d_x_firstMismatch_14 : decode prog_1_method_10_code 14 = .ok (.getfield 12, 3) := by decide +kernel
theorem d_x_firstMismatch_17 : decode prog_1_method_10_code 17 = .ok (.aload_n 0, 1) := by decide +kernel
theorem d_x_firstMismatch_18 : decode prog_1_method_10_code 18 = .ok (.getfield 12, 3) := by decide +kernel
theorem d_x_firstMismatch_21 : decode prog_1_method_10_code 21 = .ok (.getfield 84, 3) := by decide +kernel
theorem d_x_firstMismatch_24 : decode prog_1_method_10_code 24 = .ok (.iload_n 1, 1) := by decide +kernel
theorem d_x_firstMismatch_25 : decode prog_1_method_10_code 25 = .ok (.aaload, 1) := by decide +kernel
theorem d_x_firstMismatch_26 : decode prog_1_method_10_code 26 = .ok (.invokevirtual 112, 3) := by decide +kernel
theorem d_x_firstMismatch_29 : decode prog_1_method_10_code 29 = .ok (.ifCond .ne 5, 3) := by decide +kernel
theorem d_x_firstMismatch_32 : decode prog_1_method_10_code 32 = .ok (.iload_n 1, 1) := by decide +kernel
theorem d_x_firstMismatch_33 : decode prog_1_method_10_code 33 = .ok (.ireturn, 1) := by decide +kernel
theorem d_x_firstMismatch_34 : decode prog_1_method_10_code 34 = .ok (.iinc 1 1, 3) := by decide +kernel
theorem d_x_firstMismatch_37 : decode prog_1_method_10_code 37 = .ok (.goto (-35), 3) := by decide +kernel
theorem d_x_firstMismatch_40 : decode prog_1_method_10_code 40 = .ok (.sipush (-1010), 3) := by decide +kernel
theorem d_x_firstMismatch_43 : decode prog_1_method_10_code 43 = .ok (.ireturn, 1) := by decide +kernel
theorem d_x_setRatio_0 : decode prog_1_method_11_code 0 = .ok (.iload_n 1, 1) := by decide +kernel
theorem d_x_setRatio_1 : decode prog_1_method_11_code 1 = .ok (.invokestatic 105, 3) := by decide +kernel
theorem d_x_setRatio_4 : decode prog_1_method_11_code 4 = .ok (.ifCond .ne 7, 3) := by decide +kernel
theorem d_x_setRatio_7 : decode prog_1_method_11_code 7 = .ok (.sipush (-1002), 3) := by decide +kernel
theorem d_x_setRatio_10 : decode prog_1_method_11_code 10 = .ok (.ireturn, 1) := by decide +kernel
theorem d_x_setRatio_11 : decode prog_1_method_11_code 11 = .ok (.iload_n 2, 1) := by decide +kernel
theorem d_x_setRatio_12 : decode prog_1_method_11_code 12 = .ok (.iconst 0, 1) := by decide +kernel
theorem d_x_setRatio_13 : decode prog_1_method_11_code 13 = .ok (.iconst 2, 1) := by decide +kernel
theorem d_x_setRatio_14 : decode prog_1_method_11_code 14 = .ok (.invokestatic 35, 3) := by decide +kernel
theorem d_x_setRatio_17 : decode prog_1_method_11_code 17 = .ok (.ifCond .ne 7, 3) := by decide +kernel
theorem d_x_setRatio_20 : decode prog_1_method_11_code 20 = .ok (.sipush (-1005), 3) := by decide +kernel
theorem d_x_setRatio_23 : decode prog_1_method_11_code 23 = .ok (.ireturn, 1) := by decide +kernel
theorem d_x_setRatio_24 : decode prog_1_method_11_code 24 = .ok (.aload_n 0, 1) := by decide +kernel
theorem d_x_setRatio_25 : decode prog_1_method_11_code 25 = .ok (.getfield 12, 3) := by decide +kernel
theorem d_x_setRatio_28 : decode prog_1_method_11_code 28 = .ok (.getfield 116, 3) := by decide +kernel
theorem d_x_setRatio_31 : decode prog_1_method_11_code 31 = .ok (.iload_n 1, 1) := by decide +kernel
theorem d_x_setRatio_32 : decode prog_1_method_11_code 32 = .ok (.iaload, 1) := by decide +kernel
theorem d_x_setRatio_33 : decode prog_1_method_11_code 33 = .ok (.istore_n 3, 1) := by decide +kernel
theorem d_x_setRatio_34 : decode prog_1_method_11_code 34 = .ok (.aload_n 0, 1) := by decide +kernel
theorem d_x_setRatio_35 : decode prog_1_method_11_code 35 = .ok (.getfield 12, 3) := by decide +kernel
theorem d_x_setRatio_38 : decode prog_1_method_11_code 38 = .ok (.getfield 116, 3) := by decide +kernel
theorem d_x_setRatio_41 : decode prog_1_method_11_code 41 = .ok (.iload_n 1, 1) := by decide +kernel
theorem d_x_setRatio_42 : decode prog_1_method_11_code 42 = .ok (.iload_n 2, 1) := by decide +kernel
theorem d_x_setRatio_43 : decode prog_1_method_11_code 43 = .ok (.iastore, 1) := by decide +kernel
theorem d_x_setRatio_44 : decode prog_1_method_11_code 44 = .ok (.iload_n 3, 1) := by decide +kernel
theorem d_x_setRatio_45 : decode prog_1_method_11_code 45 = .ok (.ireturn, 1) := by decide +kernel
theorem d_x_ratio_0 : decode prog_1_method_12_code 0 = .ok (.iload_n 1, 1) := by decide +kernel
theorem d_x_ratio_1 : decode prog_1_method_12_code 1 = .ok (.invokestatic 105, 3) := by decide +kernel
theorem d_x_ratio_4 : decode prog_1_method_12_code 4 = .ok (.ifCond .eq 15, 3) := by decide +kernel
theorem d_x_ratio_7 : decode prog_1_method_12_code 7 = .ok (.aload_n 0, 1) := by decide +kernel
theorem d_x_ratio_8 : decode prog_1_method_12_code 8 = .ok (.getfield 12, 3) := by decide +kernel
theorem d_x_ratio_11 : decode prog_1_method_12_code 11 = .ok (.getfield 116, 3) := by decide +kernel
theorem d_x_ratio_14 : decode prog_1_method_12_code 14 = .ok (.iload_n 1, 1) := by decide +kernel
theorem d_x_ratio_15 : decode prog_1_method_12_code 15 = .ok (.iaload, 1) := by decide +kernel
theorem d_x_ratio_16 : decode prog_1_method_12_code 16 = .ok (.goto 6, 3) := by decide +kernel
theorem d_x_ratio_19 : decode prog_1_method_12_code 19 = .ok (.sipush (-1002), 3) := by decide +kernel
theorem d_x_ratio_22 : decode prog_1_method_12_code 22 = .ok (.ireturn, 1) := by decide +kernel
theorem d_x_setClothWidth_0 : decode prog_1_method_13_code 0 = .ok (.iload_n 1, 1) := by decide +kernel
theorem d_x_setClothWidth_1 : decode prog_1_method_13_code 1 = .ok (.iconst 4, 1) := by decide +kernel
theorem d_x_setClothWidth_2 : decode prog_1_method_13_code 2 = .ok (.bipush 24, 2) := by decide +kernel
theorem d_x_setClothWidth_4 : decode prog_1_method_13_code 4 = .ok (.invokestatic 35, 3) := by decide +kernel
theorem d_x_setClothWidth_7 : decode prog_1_method_13_code 7 = .ok (.ifCond .ne 7, 3) := by decide +kernel
theorem d_x_setClothWidth_10 : decode prog_1_method_13_code 10 = .ok (.sipush (-1005), 3) := by decide +kernel
theorem d_x_setClothWidth_13 : decode prog_1_method_13_code 13 = .ok (.ireturn, 1) := by decide +kernel
theorem d_x_setClothWidth_14 : decode prog_1_method_13_code 14 = .ok (.aload_n 0, 1) := by decide +kernel
theorem d_x_setClothWidth_15 : decode prog_1_method_13_code 15 = .ok (.getfield 12, 3) := by decide +kernel
theorem d_x_setClothWidth_18 : decode prog_1_method_13_code 18 = .ok (.getfield 119, 3) := by decide +kernel
theorem d_x_setClothWidth_21 : decode prog_1_method_13_code 21 = .ok (.istore_n 2, 1) := by decide +kernel
theorem d_x_setClothWidth_22 : decode prog_1_method_13_code 22 = .ok (.aload_n 0, 1) := by decide +kernel
theorem d_x_setClothWidth_23 : decode prog_1_method_13_code 23 = .ok (.getfield 12, 3) := by decide +kernel
theorem d_x_setClothWidth_26 : decode prog_1_method_13_code 26 = .ok (.iload_n 1, 1) := by decide +kernel
theorem d_x_setClothWidth_27 : decode prog_1_method_13_code 27 = .ok (.putfield 119, 3) := by decide +kernel
theorem d_x_setClothWidth_30 : decode prog_1_method_13_code 30 = .ok (.iload_n 2, 1) := by decide +kernel
theorem d_x_setClothWidth_31 : decode prog_1_method_13_code 31 = .ok (.ireturn, 1) := by decide +kernel
theorem d_x_setFolded_0 : decode prog_1_method_14_code 0 = .ok (.aload_n 0, 1) := by decide +kernel
theorem d_x_setFolded_1 : decode prog_1_method_14_code 1 = .ok (.getfield 12, 3) := by decide +kernel
theorem d_x_setFolded_4 : decode prog_1_method_14_code 4 = .ok (.getfield 122, 3) := by decide +kernel
theorem d_x_setFolded_7 : decode prog_1_method_14_code 7 = .ok (.istore_n 2, 1) := by decide +kernel
theorem d_x_setFolded_8 : decode prog_1_method_14_code 8 = .ok (.aload_n 0, 1) := by decide +kernel
theorem d_x_setFolded_9 : decode prog_1_method_14_code 9 = .ok (.getfield 12, 3) := by decide +kernel
theorem d_x_setFolded_12 : decode prog_1_method_14_code 12 = .ok (.iload_n 1, 1) := by decide +kernel
theorem d_x_setFolded_13 : decode prog_1_method_14_code 13 = .ok (.putfield 122, 3) := by decide +kernel
theorem d_x_setFolded_16 : decode prog_1_method_14_code 16 = .ok (.iload_n 2, 1) := by decide +kernel
theorem d_x_setFolded_17 : decode prog_1_method_14_code 17 = .ok (.ireturn, 1) := by decide +kernel
theorem d_x_setRotation_0 : decode prog_1_method_15_code 0 = .ok (.aload_n 0, 1) := by decide +kernel
theorem d_x_setRotation_1 : decode prog_1_method_15_code 1 = .ok (.getfield 12, 3) := by decide +kernel
theorem d_x_setRotation_4 : decode prog_1_method_15_code 4 = .ok (.getfield 125, 3) := by decide +kernel
theorem d_x_setRotation_7 : decode prog_1_method_15_code 7 = .ok (.istore_n 2, 1) := by decide +kernel
theorem d_x_setRotation_8 : decode prog_1_method_15_code 8 = .ok (.aload_n 0, 1) := by decide +kernel
theorem d_x_setRotation_9 : decode prog_1_method_15_code 9 = .ok (.getfield 12, 3) := by decide +kernel
theorem d_x_setRotation_12 : decode prog_1_method_15_code 12 = .ok (.iload_n 1, 1) := by decide +kernel
theorem d_x_setRotation_13 : decode prog_1_method_15_code 13 = .ok (.putfield 125, 3) := by decide +kernel
theorem d_x_setRotation_16 : decode prog_1_method_15_code 16 = .ok (.iload_n 2, 1) := by decide +kernel
theorem d_x_setRotation_17 : decode prog_1_method_15_code 17 = .ok (.ireturn, 1) := by decide +kernel
theorem d_x_isPacking_0 : decode prog_1_method_42_code 0 = .ok (.iload_n 0, 1) := by decide +kernel
theorem d_x_isPacking_1 : decode prog_1_method_42_code 1 = .ok (.iconst 0, 1) := by decide +kernel
theorem d_x_isPacking_2 : decode prog_1_method_42_code 2 = .ok (.iconst 1, 1) := by decide +kernel
theorem d_x_isPacking_3 : decode prog_1_method_42_code 3 = .ok (.invokestatic 35, 3) := by decide +kernel
theorem d_x_isPacking_6 : decode prog_1_method_42_code 6 = .ok (.ifCond .eq 16, 3) := by decide +kernel
theorem d_x_isPacking_9 : decode prog_1_method_42_code 9 = .ok (.iload_n 1, 1) := by decide +kernel
theorem d_x_isPacking_10 : decode prog_1_method_42_code 10 = .ok (.iconst 0, 1) := by decide +kernel
theorem d_x_isPacking_11 : decode prog_1_method_42_code 11 = .ok (.iconst 3, 1) := by decide +kernel
theorem d_x_isPacking_12 : decode prog_1_method_42_code 12 = .ok (.invokestatic 35, 3) := by decide +kernel
theorem d_x_isPacking_15 : decode prog_1_method_42_code 15 = .ok (.ifCond .eq 7, 3) := by decide +kernel
theorem d_x_isPacking_18 : decode prog_1_method_42_code 18 = .ok (.iconst 1, 1) := by decide +kernel
theorem d_x_isPacking_19 : decode prog_1_method_42_code 19 = .ok (.goto 4, 3) := by decide +kernel
theorem d_x_isPacking_22 : decode prog_1_method_42_code 22 = .ok (.iconst 0, 1) := by decide +kernel
theorem d_x_isPacking_23 : decode prog_1_method_42_code 23 = .ok (.ireturn, 1) := by decide +kernel
theorem d_x_packingNumber_0 : decode prog_1_method_43_code 0 = .ok (.bipush 10, 2) := by decide +kernel
theorem d_x_packingNumber_2 : decode prog_1_method_43_code 2 = .ok (.iload_n 0, 1) := by decide +kernel
theorem d_x_packingNumber_3 : decode prog_1_method_43_code 3 = .ok (.imul, 1) := by decide +kernel
theorem d_x_packingNumber_4 : decode prog_1_method_43_code 4 = .ok (.iload_n 1, 1) := by decide +kernel
theorem d_x_packingNumber_5 : decode prog_1_method_43_code 5 = .ok (.iadd, 1) := by decide +kernel
theorem d_x_packingNumber_6 : decode prog_1_method_43_code 6 = .ok (.ireturn, 1) := by decide +kernel
theorem d_x_setPacking_0 : decode prog_1_method_16_code 0 = .ok (.iload_n 1, 1) := by decide +kernel
theorem d_x_setPacking_1 : decode prog_1_method_16_code 1 = .ok (.iload_n 2, 1) := by decide +kernel
theorem d_x_setPacking_2 : decode prog_1_method_16_code 2 = .ok (.invokestatic 128, 3) := by decide +kernel
theorem d_x_setPacking_5 : decode prog_1_method_16_code 5 = .ok (.ifCond .ne 7, 3) := by decide +kernel
theorem d_x_setPacking_8 : decode prog_1_method_16_code 8 = .ok (.sipush (-1005), 3) := by decide +kernel
theorem d_x_setPacking_11 : decode prog_1_method_16_code 11 = .ok (.ireturn, 1) := by decide +kernel
theorem d_x_setPacking_12 : decode prog_1_method_16_code 12 = .ok (.aload_n 0, 1) := by decide +kernel
theorem d_x_setPacking_13 : decode prog_1_method_16_code 13 = .ok (.getfield 12, 3) := by decide +kernel
theorem d_x_setPacking_16 : decode prog_1_method_16_code 16 = .ok (.getfield 132, 3) := by decide +kernel
theorem d_x_setPacking_19 : decode prog_1_method_16_code 19 = .ok (.aload_n 0, 1) := by decide +kernel
theorem d_x_setPacking_20 : decode prog_1_method_16_code 20 = .ok (.getfield 12, 3) := by decide +kernel
theorem d_x_setPacking_23 : decode prog_1_method_16_code 23 = .ok (.getfield 135, 3) := by decide +kernel
theorem d_x_setPacking_26 : decode prog_1_method_16_code 26 = .ok (.invokestatic 138, 3) := by decide +kernel
theorem d_x_setPacking_29 : decode prog_1_method_16_code 29 = .ok (.istore_n 3, 1) := by decide +kernel
theorem d_x_setPacking_30 : decode prog_1_method_16_code 30 = .ok (.aload_n 0, 1) := by decide +kernel
theorem d_x_setPacking_31 : decode prog_1_method_16_code 31 = .ok (.getfield 12, 3) := by decide +kernel
theorem d_x_setPacking_34 : decode prog_1_method_16_code 34 = .ok (.iload_n 1, 1) := by decide +kernel
theorem d_x_setPacking_35 : decode prog_1_method_16_code 35 = .ok (.putfield 132, 3) := by decide +kernel
theorem d_x_setPacking_38 : decode prog_1_method_16_code 38 = .ok (.aload_n 0, 1) := by decide +kernel
theorem d_x_setPacking_39 : decode prog_1_method_16_code 39 = .ok (.getfield 12, 3) := by decide +kernel
theorem d_x_setPacking_42 : decode prog_1_method_16_code 42 = .ok (.iload_n 2, 1) := by decide +kernel
theorem d_x_setPacking_43 : decode prog_1_method_16_code 43 = .ok (.putfield 135, 3) := by decide +kernel
theorem d_x_setPacking_46 : decode prog_1_method_16_code 46 = .ok (.iload_n 3, 1) := by decide +kernel
theorem d_x_setPacking_47 : decode prog_1_method_16_code 47 = .ok (.ireturn, 1) := by decide +kernel
theorem d_x_partCount_0 : decode prog_1_method_17_code 0 = .ok (.aload_n 0, 1) := by decide +kernel
theorem d_x_partCount_1 : decode prog_1_method_17_code 1 = .ok (.getfield 27, 3) := by decide +kernel
theorem d_x_partCount_4 : decode prog_1_method_17_code 4 = .ok (.aload_n 0, 1) := by decide +kernel
theorem d_x_partCount_5 : decode prog_1_method_17_code 5 = .ok (.getfield 12, 3) := by decide +kernel
theorem d_x_partCount_8 : decode prog_1_method_17_code 8 = .ok (.aload_n 0, 1) := by decide +kernel
theorem d_x_partCount_9 : decode prog_1_method_17_code 9 = .ok (.getfield 12, 3) := by decide +kernel
theorem d_x_partCount_12 : decode prog_1_method_17_code 12 = .ok (.getfield 116, 3) := by decide +kernel
theorem d_x_partCount_15 : decode prog_1_method_17_code 15 = .ok (.invokevirtual 142, 3) := by decide +kernel
theorem d_x_partCount_18 : decode prog_1_method_17_code 18 = .ok (.aload_n 0, 1) := by decide +kernel
theorem d_x_partCount_19 : decode prog_1_method_17_code 19 = .ok (.getfield 27, 3) := by decide +kernel
theorem d_x_partCount_22 : decode prog_1_method_17_code 22 = .ok (.getfield 146, 3) := by decide +kernel
theorem d_x_partCount_25 : decode prog_1_method_17_code 25 = .ok (.ireturn, 1) := by decide +kernel
theorem d_x_foldPartCount_0 : decode prog_1_method_18_code 0 = .ok (.aload_n 0, 1) := by decide +kernel
theorem d_x_foldPartCount_1 : decode prog_1_method_18_code 1 = .ok (.getfield 27, 3) := by decide +kernel
theorem d_x_foldPartCount_4 : decode prog_1_method_18_code 4 = .ok (.aload_n 0, 1) := by decide +kernel
theorem d_x_foldPartCount_5 : decode prog_1_method_18_code 5 = .ok (.getfield 12, 3) := by decide +kernel
theorem d_x_foldPartCount_8 : decode prog_1_method_18_code 8 = .ok (.aload_n 0, 1) := by decide +kernel
theorem d_x_foldPartCount_9 : decode prog_1_method_18_code 9 = .ok (.getfield 12, 3) := by decide +kernel
theorem d_x_foldPartCount_12 : decode prog_1_method_18_code 12 = .ok (.getfield 116, 3) := by decide +kernel
theorem d_x_foldPartCount_15 : decode prog_1_method_18_code 15 = .ok (.invokevirtual 142, 3) := by decide +kernel
theorem d_x_foldPartCount_18 : decode prog_1_method_18_code 18 = .ok (.aload_n 0, 1) := by decide +kernel
theorem d_x_foldPartCount_19 : decode prog_1_method_18_code 19 = .ok (.getfield 27, 3) := by decide +kernel
theorem d_x_foldPartCount_22 : decode prog_1_method_18_code 22 = .ok (.invokevirtual 149, 3) := by decide +kernel
theorem d_x_foldPartCount_25 : decode prog_1_method_18_code 25 = .ok (.ireturn, 1) := by decide +kernel
theorem d_x_partSize_0 : decode prog_1_method_19_code 0 = .ok (.aload_n 0, 1) := by decide +kernel
theorem d_x_partSize_1 : decode prog_1_method_19_code 1 = .ok (.getfield 27, 3) := by decide +kernel
theorem d_x_partSize_4 : decode prog_1_method_19_code 4 = .ok (.aload_n 0, 1) := by decide +kernel
theorem d_x_partSize_5 : decode prog_1_method_19_code 5 = .ok (.getfield 12, 3) := by decide +kernel
theorem d_x_partSize_8 : decode prog_1_method_19_code 8 = .ok (.aload_n 0, 1) := by decide +kernel
theorem d_x_partSize_9 : decode prog_1_method_19_code 9 = .ok (.getfield 12, 3) := by decide +kernel
theorem d_x_partSize_12 : decode prog_1_method_19_code 12 = .ok (.getfield 116, 3) := by decide +kernel
theorem d_x_partSize_15 : decode prog_1_method_19_code 15 = .ok (.invokevirtual 142, 3) := by decide +kernel
theorem d_x_partSize_18 : decode prog_1_method_19_code 18 = .ok (.aload_n 0, 1) := by decide +kernel
theorem d_x_partSize_19 : decode prog_1_method_19_code 19 = .ok (.getfield 27, 3) := by decide +kernel
theorem d_x_partSize_22 : decode prog_1_method_19_code 22 = .ok (.iload_n 1, 1) := by decide +kernel
theorem d_x_partSize_23 : decode prog_1_method_19_code 23 = .ok (.invokevirtual 152, 3) := by decide +kernel
theorem d_x_partSize_26 : decode prog_1_method_19_code 26 = .ok (.ifCond .eq 18, 3) := by decide +kernel
theorem d_x_partSize_29 : decode prog_1_method_19_code 29 = .ok (.aload_n 0, 1) := by decide +kernel
theorem d_x_partSize_30 : decode prog_1_method_19_code 30 = .ok (.getfield 27, 3) := by decide +kernel
theorem d_x_partSize_33 : decode prog_1_method_19_code 33 = .ok (.getfield 155, 3) := by decide +kernel
theorem d_x_partSize_36 : decode prog_1_method_19_code 36 = .ok (.iload_n 1, 1) := by decide +kernel
theorem d_x_partSize_37 : decode prog_1_method_19_code 37 = .ok (.aaload, 1) := by decide +kernel
theorem d_x_partSize_38 : decode prog_1_method_19_code 38 = .ok (.getfield 159, 3) := by decide +kernel
theorem d_x_partSize_41 : decode prog_1_method_19_code 41 = .ok (.goto 6, 3) := by decide +kernel
theorem d_x_partSize_44 : decode prog_1_method_19_code 44 = .ok (.sipush (-1004), 3) := by decide +kernel
theorem d_x_partSize_47 : decode prog_1_method_19_code 47 = .ok (.ireturn, 1) := by decide +kernel
theorem d_x_partPiece_0 : decode prog_1_method_20_code 0 = .ok (.aload_n 0, 1) := by decide +kernel
theorem d_x_partPiece_1 : decode prog_1_method_20_code 1 = .ok (.getfield 27, 3) := by decide +kernel
theorem d_x_partPiece_4 : decode prog_1_method_20_code 4 = .ok (.aload_n 0, 1) := by decide +kernel
theorem d_x_partPiece_5 : decode prog_1_method_20_code 5 = .ok (.getfield 12, 3) := by decide +kernel
theorem d_x_partPiece_8 : decode prog_1_method_20_code 8 = .ok (.aload_n 0, 1) := by decide +kernel
theorem d_x_partPiece_9 : decode prog_1_method_20_code 9 = .ok (.getfield 12, 3) := by decide +kernel
theorem d_x_partPiece_12 : decode prog_1_method_20_code 12 = .ok (.getfield 116, 3) := by decide +kernel
theorem d_x_partPiece_15 : decode prog_1_method_20_code 15 = .ok (.invokevirtual 142, 3) := by decide +kernel
theorem d_x_partPiece_18 : decode prog_1_method_20_code 18 = .ok (.aload_n 0, 1) := by decide +kernel
theorem d_x_partPiece_19 : decode prog_1_method_20_code 19 = .ok (.getfield 27, 3) := by decide +kernel
theorem d_x_partPiece_22 : decode prog_1_method_20_code 22 = .ok (.iload_n 1, 1) := by decide +kernel
theorem d_x_partPiece_23 : decode prog_1_method_20_code 23 = .ok (.invokevirtual 152, 3) := by decide +kernel
theorem d_x_partPiece_26 : decode prog_1_method_20_code 26 = .ok (.ifCond .eq 18, 3) := by decide +kernel
theorem d_x_partPiece_29 : decode prog_1_method_20_code 29 = .ok (.aload_n 0, 1) := by decide +kernel
theorem d_x_partPiece_30 : decode prog_1_method_20_code 30 = .ok (.getfield 27, 3) := by decide +kernel
theorem d_x_partPiece_33 : decode prog_1_method_20_code 33 = .ok (.getfield 155, 3) := by decide +kernel
theorem d_x_partPiece_36 : decode prog_1_method_20_code 36 = .ok (.iload_n 1, 1) := by decide +kernel
theorem d_x_partPiece_37 : decode prog_1_method_20_code 37 = .ok (.aaload, 1) := by decide +kernel
theorem d_x_partPiece_38 : decode prog_1_method_20_code 38 = .ok (.getfield 164, 3) := by decide +kernel
theorem d_x_partPiece_41 : decode prog_1_method_20_code 41 = .ok (.goto 6, 3) := by decide +kernel
theorem d_x_partPiece_44 : decode prog_1_method_20_code 44 = .ok (.sipush (-1004), 3) := by decide +kernel
theorem d_x_partPiece_47 : decode prog_1_method_20_code 47 = .ok (.ireturn, 1) := by decide +kernel
theorem d_x_placeOrError_0 : decode prog_1_method_45_code 0 = .ok (.aload_n 0, 1) := by decide +kernel
theorem d_x_placeOrError_1 : decode prog_1_method_45_code 1 = .ok (.getfield 27, 3) := by decide +kernel
theorem d_x_placeOrError_4 : decode prog_1_method_45_code 4 = .ok (.aload_n 0, 1) := by decide +kernel
theorem d_x_placeOrError_5 : decode prog_1_method_45_code 5 = .ok (.getfield 12, 3) := by decide +kernel
theorem d_x_placeOrError_8 : decode prog_1_method_45_code 8 = .ok (.aload_n 0, 1) := by decide +kernel
theorem d_x_placeOrError_9 : decode prog_1_method_45_code 9 = .ok (.getfield 12, 3) := by decide +kernel
theorem d_x_placeOrError_12 : decode prog_1_method_45_code 12 = .ok (.getfield 116, 3) := by decide +kernel
theorem d_x_placeOrError_15 : decode prog_1_method_45_code 15 = .ok (.invokevirtual 142, 3) := by decide +kernel
theorem d_x_placeOrError_18 : decode prog_1_method_45_code 18 = .ok (.aload_n 0, 1) := by decide +kernel
theorem d_x_placeOrError_19 : decode prog_1_method_45_code 19 = .ok (.getfield 27, 3) := by decide +kernel
theorem d_x_placeOrError_22 : decode prog_1_method_45_code 22 = .ok (.iload_n 1, 1) := by decide +kernel
theorem d_x_placeOrError_23 : decode prog_1_method_45_code 23 = .ok (.invokevirtual 152, 3) := by decide +kernel
theorem d_x_placeOrError_26 : decode prog_1_method_45_code 26 = .ok (.ifCond .ne 7, 3) := by decide +kernel
theorem d_x_placeOrError_29 : decode prog_1_method_45_code 29 = .ok (.sipush (-1004), 3) := by decide +kernel
theorem d_x_placeOrError_32 : decode prog_1_method_45_code 32 = .ok (.ireturn, 1) := by decide +kernel
theorem d_x_placeOrError_33 : decode prog_1_method_45_code 33 = .ok (.aload_n 0, 1) := by decide +kernel
theorem d_x_placeOrError_34 : decode prog_1_method_45_code 34 = .ok (.getfield 27, 3) := by decide +kernel
theorem d_x_placeOrError_37 : decode prog_1_method_45_code 37 = .ok (.aload_n 0, 1) := by decide +kernel
theorem d_x_placeOrError_38 : decode prog_1_method_45_code 38 = .ok (.getfield 12, 3) := by decide +kernel
theorem d_x_placeOrError_41 : decode prog_1_method_45_code 41 = .ok (.getfield 132, 3) := by decide +kernel
theorem d_x_placeOrError_44 : decode prog_1_method_45_code 44 = .ok (.aload_n 0, 1) := by decide +kernel
theorem d_x_placeOrError_45 : decode prog_1_method_45_code 45 = .ok (.getfield 12, 3) := by decide +kernel
theorem d_x_placeOrError_48 : decode prog_1_method_45_code 48 = .ok (.getfield 135, 3) := by decide +kernel
theorem d_x_placeOrError_51 : decode prog_1_method_45_code 51 = .ok (.invokevirtual 193, 3) := by decide +kernel
theorem d_x_placeOrError_54 : decode prog_1_method_45_code 54 = .ok (.sipush (-1007), 3) := by decide +kernel
theorem d_x_placeOrError_57 : decode prog_1_method_45_code 57 = .ok (.if_icmp .ne 9, 3) := by decide +kernel
theorem d_x_placeOrError_60 : decode prog_1_method_45_code 60 = .ok (.sipush (-1007), 3) := by decide +kernel
theorem d_x_placeOrError_63 : decode prog_1_method_45_code 63 = .ok (.goto 4, 3) := by decide +kernel
theorem d_x_placeOrError_66 : decode prog_1_method_45_code 66 = .ok (.iconst 0, 1) := by decide +kernel
theorem d_x_placeOrError_67 : decode prog_1_method_45_code 67 = .ok (.ireturn, 1) := by decide +kernel
theorem d_x_partAlong_0 : decode prog_1_method_21_code 0 = .ok (.aload_n 0, 1) := by decide +kernel
theorem d_x_partAlong_1 : decode prog_1_method_21_code 1 = .ok (.iload_n 1, 1) := by decide +kernel
theorem d_x_partAlong_2 : decode prog_1_method_21_code 2 = .ok (.invokevirtual 167, 3) := by decide +kernel
theorem d_x_partAlong_5 : decode prog_1_method_21_code 5 = .ok (.istore_n 2, 1) := by decide +kernel
theorem d_x_partAlong_6 : decode prog_1_method_21_code 6 = .ok (.iload_n 2, 1) := by decide +kernel
theorem d_x_partAlong_7 : decode prog_1_method_21_code 7 = .ok (.ifCond .ne 18, 3) := by decide +kernel
theorem d_x_partAlong_10 : decode prog_1_method_21_code 10 = .ok (.aload_n 0, 1) := by decide +kernel
theorem d_x_partAlong_11 : decode prog_1_method_21_code 11 = .ok (.getfield 27, 3) := by decide +kernel
theorem d_x_partAlong_14 : decode prog_1_method_21_code 14 = .ok (.getfield 155, 3) := by decide +kernel
theorem d_x_partAlong_17 : decode prog_1_method_21_code 17 = .ok (.iload_n 1, 1) := by decide +kernel
theorem d_x_partAlong_18 : decode prog_1_method_21_code 18 = .ok (.aaload, 1) := by decide +kernel
theorem d_x_partAlong_19 : decode prog_1_method_21_code 19 = .ok (.getfield 171, 3) := by decide +kernel
theorem d_x_partAlong_22 : decode prog_1_method_21_code 22 = .ok (.goto 4, 3) := by decide +kernel
theorem d_x_partAlong_25 : decode prog_1_method_21_code 25 = .ok (.iload_n 2, 1) := by decide +kernel
theorem d_x_partAlong_26 : decode prog_1_method_21_code 26 = .ok (.ireturn, 1) := by decide +kernel
theorem d_x_partAcross_0 : decode prog_1_method_22_code 0 = .ok (.aload_n 0, 1) := by decide +kernel
theorem d_x_partAcross_1 : decode prog_1_method_22_code 1 = .ok (.iload_n 1, 1) := by decide +kernel
theorem d_x_partAcross_2 : decode prog_1_method_22_code 2 = .ok (.invokevirtual 167, 3) := by decide +kernel
theorem d_x_partAcross_5 : decode prog_1_method_22_code 5 = .ok (.istore_n 2, 1) := by decide +kernel
theorem d_x_partAcross_6 : decode prog_1_method_22_code 6 = .ok (.iload_n 2, 1) := by decide +kernel
theorem d_x_partAcross_7 : decode prog_1_method_22_code 7 = .ok (.ifCond .ne 18, 3) := by decide +kernel
theorem d_x_partAcross_10 : decode prog_1_method_22_code 10 = .ok (.aload_n 0, 1) := by decide +kernel
theorem d_x_partAcross_11 : decode prog_1_method_22_code 11 = .ok (.getfield 27, 3) := by decide +kernel
theorem d_x_partAcross_14 : decode prog_1_method_22_code 14 = .ok (.getfield 155, 3) := by decide +kernel
theorem d_x_partAcross_17 : decode prog_1_method_22_code 17 = .ok (.iload_n 1, 1) := by decide +kernel
theorem d_x_partAcross_18 : decode prog_1_method_22_code 18 = .ok (.aaload, 1) := by decide +kernel
theorem d_x_partAcross_19 : decode prog_1_method_22_code 19 = .ok (.getfield 174, 3) := by decide +kernel
theorem d_x_partAcross_22 : decode prog_1_method_22_code 22 = .ok (.goto 4, 3) := by decide +kernel
theorem d_x_partAcross_25 : decode prog_1_method_22_code 25 = .ok (.iload_n 2, 1) := by decide +kernel
theorem d_x_partAcross_26 : decode prog_1_method_22_code 26 = .ok (.ireturn, 1) := by decide +kernel
theorem d_x_partAlongExtent_0 : decode prog_1_method_23_code 0 = .ok (.aload_n 0, 1) := by decide +kernel
theorem d_x_partAlongExtent_1 : decode prog_1_method_23_code 1 = .ok (.getfield 27, 3) := by decide +kernel
theorem d_x_partAlongExtent_4 : decode prog_1_method_23_code 4 = .ok (.aload_n 0, 1) := by decide +kernel
theorem d_x_partAlongExtent_5 : decode prog_1_method_23_code 5 = .ok (.getfield 12, 3) := by decide +kernel
theorem d_x_partAlongExtent_8 : decode prog_1_method_23_code 8 = .ok (.aload_n 0, 1) := by decide +kernel
theorem d_x_partAlongExtent_9 : decode prog_1_method_23_code 9 = .ok (.getfield 12, 3) := by decide +kernel
theorem d_x_partAlongExtent_12 : decode prog_1_method_23_code 12 = .ok (.getfield 116, 3) := by decide +kernel
theorem d_x_partAlongExtent_15 : decode prog_1_method_23_code 15 = .ok (.invokevirtual 142, 3) := by decide +kernel
theorem d_x_partAlongExtent_18 : decode prog_1_method_23_code 18 = .ok (.aload_n 0, 1) := by decide +kernel
theorem d_x_partAlongExtent_19 : decode prog_1_method_23_code 19 = .ok (.getfield 27, 3) := by decide +kernel
theorem d_x_partAlongExtent_22 : decode prog_1_method_23_code 22 = .ok (.iload_n 1, 1) := by decide +kernel
theorem d_x_partAlongExtent_23 : decode prog_1_method_23_code 23 = .ok (.invokevirtual 152, 3) := by decide +kernel
theorem d_x_partAlongExtent_26 : decode prog_1_method_23_code 26 = .ok (.ifCond .eq 18, 3) := by decide +kernel
theorem d_x_partAlongExtent_29 : decode prog_1_method_23_code 29 = .ok (.aload_n 0, 1) := by decide +kernel
theorem d_x_partAlongExtent_30 : decode prog_1_method_23_code 30 = .ok (.getfield 27, 3) := by decide +kernel
theorem d_x_partAlongExtent_33 : decode prog_1_method_23_code 33 = .ok (.getfield 155, 3) := by decide +kernel
theorem d_x_partAlongExtent_36 : decode prog_1_method_23_code 36 = .ok (.iload_n 1, 1) := by decide +kernel
theorem d_x_partAlongExtent_37 : decode prog_1_method_23_code 37 = .ok (.aaload, 1) := by decide +kernel
theorem d_x_partAlongExtent_38 : decode prog_1_method_23_code 38 = .ok (.getfield 177, 3) := by decide +kernel
theorem d_x_partAlongExtent_41 : decode prog_1_method_23_code 41 = .ok (.goto 6, 3) := by decide +kernel
theorem d_x_partAlongExtent_44 : decode prog_1_method_23_code 44 = .ok (.sipush (-1004), 3) := by decide +kernel
theorem d_x_partAlongExtent_47 : decode prog_1_method_23_code 47 = .ok (.ireturn, 1) := by decide +kernel
theorem d_x_partAcrossExtent_0 : decode prog_1_method_24_code 0 = .ok (.aload_n 0, 1) := by decide +kernel
theorem d_x_partAcrossExtent_1 : decode prog_1_method_24_code 1 = .ok (.getfield 27, 3) := by decide +kernel
theorem d_x_partAcrossExtent_4 : decode prog_1_method_24_code 4 = .ok (.aload_n 0, 1) := by decide +kernel
theorem d_x_partAcrossExtent_5 : decode prog_1_method_24_code 5 = .ok (.getfield 12, 3) := by decide +kernel
theorem d_x_partAcrossExtent_8 : decode prog_1_method_24_code 8 = .ok (.aload_n 0, 1) := by decide +kernel
theorem d_x_partAcrossExtent_9 : decode prog_1_method_24_code 9 = .ok (.getfield 12, 3) := by decide +kernel
theorem d_x_partAcrossExtent_12 : decode prog_1_method_24_code 12 = .ok (.getfield 116, 3) := by decide +kernel
theorem d_x_partAcrossExtent_15 : decode prog_1_method_24_code 15 = .ok (.invokevirtual 142, 3) := by decide +kernel
theorem d_x_partAcrossExtent_18 : decode prog_1_method_24_code 18 = .ok (.aload_n 0, 1) := by decide +kernel
theorem d_x_partAcrossExtent_19 : decode prog_1_method_24_code 19 = .ok (.getfield 27, 3) := by decide +kernel
theorem d_x_partAcrossExtent_22 : decode prog_1_method_24_code 22 = .ok (.iload_n 1, 1) := by decide +kernel
theorem d_x_partAcrossExtent_23 : decode prog_1_method_24_code 23 = .ok (.invokevirtual 152, 3) := by decide +kernel
theorem d_x_partAcrossExtent_26 : decode prog_1_method_24_code 26 = .ok (.ifCond .eq 18, 3) := by decide +kernel
theorem d_x_partAcrossExtent_29 : decode prog_1_method_24_code 29 = .ok (.aload_n 0, 1) := by decide +kernel
theorem d_x_partAcrossExtent_30 : decode prog_1_method_24_code 30 = .ok (.getfield 27, 3) := by decide +kernel
theorem d_x_partAcrossExtent_33 : decode prog_1_method_24_code 33 = .ok (.getfield 155, 3) := by decide +kernel
theorem d_x_partAcrossExtent_36 : decode prog_1_method_24_code 36 = .ok (.iload_n 1, 1) := by decide +kernel
theorem d_x_partAcrossExtent_37 : decode prog_1_method_24_code 37 = .ok (.aaload, 1) := by decide +kernel
theorem d_x_partAcrossExtent_38 : decode prog_1_method_24_code 38 = .ok (.getfield 180, 3) := by decide +kernel
theorem d_x_partAcrossExtent_41 : decode prog_1_method_24_code 41 = .ok (.goto 6, 3) := by decide +kernel
theorem d_x_partAcrossExtent_44 : decode prog_1_method_24_code 44 = .ok (.sipush (-1004), 3) := by decide +kernel
theorem d_x_partAcrossExtent_47 : decode prog_1_method_24_code 47 = .ok (.ireturn, 1) := by decide +kernel
theorem d_x_lengthFor_0 : decode prog_1_method_46_code 0 = .ok (.aload_n 0, 1) := by decide +kernel
theorem d_x_lengthFor_1 : decode prog_1_method_46_code 1 = .ok (.getfield 27, 3) := by decide +kernel
theorem d_x_lengthFor_4 : decode prog_1_method_46_code 4 = .ok (.aload_n 0, 1) := by decide +kernel
theorem d_x_lengthFor_5 : decode prog_1_method_46_code 5 = .ok (.getfield 12, 3) := by decide +kernel
theorem d_x_lengthFor_8 : decode prog_1_method_46_code 8 = .ok (.aload_n 1, 1) := by decide +kernel
theorem d_x_lengthFor_9 : decode prog_1_method_46_code 9 = .ok (.invokevirtual 142, 3) := by decide +kernel
theorem d_x_lengthFor_12 : decode prog_1_method_46_code 12 = .ok (.aload_n 0, 1) := by decide +kernel
theorem d_x_lengthFor_13 : decode prog_1_method_46_code 13 = .ok (.getfield 27, 3) := by decide +kernel
theorem d_x_lengthFor_16 : decode prog_1_method_46_code 16 = .ok (.aload_n 0, 1) := by decide +kernel
theorem d_x_lengthFor_17 : decode prog_1_method_46_code 17 = .ok (.getfield 12, 3) := by decide +kernel
theorem d_x_lengthFor_20 : decode prog_1_method_46_code 20 = .ok (.getfield 132, 3) := by decide +kernel
theorem d_x_lengthFor_23 : decode prog_1_method_46_code 23 = .ok (.aload_n 0, 1) := by decide +kernel
theorem d_x_lengthFor_24 : decode prog_1_method_46_code 24 = .ok (.getfield 12, 3) := by decide +kernel
theorem d_x_lengthFor_27 : decode prog_1_method_46_code 27 = .ok (.getfield 135, 3) := by decide +kernel
theorem d_x_lengthFor_30 : decode prog_1_method_46_code 30 = .ok (.invokevirtual 193, 3) := by decide +kernel
theorem d_x_lengthFor_33 : decode prog_1_method_46_code 33 = .ok (.ireturn, 1) := by decide +kernel
theorem d_x_markerLength_0 : decode prog_1_method_25_code 0 = .ok (.aload_n 0, 1) := by decide +kernel
theorem d_x_markerLength_1 : decode prog_1_method_25_code 1 = .ok (.aload_n 0, 1) := by decide +kernel
theorem d_x_markerLength_2 : decode prog_1_method_25_code 2 = .ok (.getfield 12, 3) := by decide +kernel
theorem d_x_markerLength_5 : decode prog_1_method_25_code 5 = .ok (.getfield 116, 3) := by decide +kernel
theorem d_x_markerLength_8 : decode prog_1_method_25_code 8 = .ok (.invokevirtual 183, 3) := by decide +kernel
theorem d_x_markerLength_11 : decode prog_1_method_25_code 11 = .ok (.ireturn, 1) := by decide +kernel
theorem d_x_wastedArea_0 : decode prog_1_method_26_code 0 = .ok (.aload_n 0, 1) := by decide +kernel
theorem d_x_wastedArea_1 : decode prog_1_method_26_code 1 = .ok (.aload_n 0, 1) := by decide +kernel
theorem d_x_wastedArea_2 : decode prog_1_method_26_code 2 = .ok (.getfield 12, 3) := by decide +kernel
theorem d_x_wastedArea_5 : decode prog_1_method_26_code 5 = .ok (.getfield 116, 3) := by decide +kernel
theorem d_x_wastedArea_8 : decode prog_1_method_26_code 8 = .ok (.invokevirtual 183, 3) := by decide +kernel
theorem d_x_wastedArea_11 : decode prog_1_method_26_code 11 = .ok (.istore_n 1, 1) := by decide +kernel
theorem d_x_wastedArea_12 : decode prog_1_method_26_code 12 = .ok (.iload_n 1, 1) := by decide +kernel
theorem d_x_wastedArea_13 : decode prog_1_method_26_code 13 = .ok (.sipush (-1007), 3) := by decide +kernel
theorem d_x_wastedArea_16 : decode prog_1_method_26_code 16 = .ok (.if_icmp .ne 9, 3) := by decide +kernel
theorem d_x_wastedArea_19 : decode prog_1_method_26_code 19 = .ok (.sipush (-1007), 3) := by decide +kernel
theorem d_x_wastedArea_22 : decode prog_1_method_26_code 22 = .ok (.goto 20, 3) := by decide +kernel
theorem d_x_wastedArea_25 : decode prog_1_method_26_code 25 = .ok (.iload_n 1, 1) := by decide +kernel
theorem d_x_wastedArea_26 : decode prog_1_method_26_code 26 = .ok (.aload_n 0, 1) := by decide +kernel
theorem d_x_wastedArea_27 : decode prog_1_method_26_code 27 = .ok (.getfield 27, 3) := by decide +kernel
theorem d_x_wastedArea_30 : decode prog_1_method_26_code 30 = .ok (.getfield 187, 3) := by decide +kernel
theorem d_x_wastedArea_33 : decode prog_1_method_26_code 33 = .ok (.imul, 1) := by decide +kernel
theorem d_x_wastedArea_34 : decode prog_1_method_26_code 34 = .ok (.aload_n 0, 1) := by decide +kernel
theorem d_x_wastedArea_35 : decode prog_1_method_26_code 35 = .ok (.getfield 27, 3) := by decide +kernel
theorem d_x_wastedArea_38 : decode prog_1_method_26_code 38 = .ok (.invokevirtual 190, 3) := by decide +kernel
theorem d_x_wastedArea_41 : decode prog_1_method_26_code 41 = .ok (.isub, 1) := by decide +kernel
theorem d_x_wastedArea_42 : decode prog_1_method_26_code 42 = .ok (.ireturn, 1) := by decide +kernel
theorem d_x_markerLengthWith_0 : decode prog_1_method_27_code 0 = .ok (.iload_n 1, 1) := by decide +kernel
theorem d_x_markerLengthWith_1 : decode prog_1_method_27_code 1 = .ok (.iload_n 2, 1) := by decide +kernel
theorem d_x_markerLengthWith_2 : decode prog_1_method_27_code 2 = .ok (.invokestatic 128, 3) := by decide +kernel
theorem d_x_markerLengthWith_5 : decode prog_1_method_27_code 5 = .ok (.ifCond .ne 7, 3) := by decide +kernel
theorem d_x_markerLengthWith_8 : decode prog_1_method_27_code 8 = .ok (.sipush (-1005), 3) := by decide +kernel
theorem d_x_markerLengthWith_11 : decode prog_1_method_27_code 11 = .ok (.ireturn, 1) := by decide +kernel
theorem d_x_markerLengthWith_12 : decode prog_1_method_27_code 12 = .ok (.aload_n 0, 1) := by decide +kernel
theorem d_x_markerLengthWith_13 : decode prog_1_method_27_code 13 = .ok (.getfield 27, 3) := by decide +kernel
theorem d_x_markerLengthWith_16 : decode prog_1_method_27_code 16 = .ok (.aload_n 0, 1) := by decide +kernel
theorem d_x_markerLengthWith_17 : decode prog_1_method_27_code 17 = .ok (.getfield 12, 3) := by decide +kernel
theorem d_x_markerLengthWith_20 : decode prog_1_method_27_code 20 = .ok (.aload_n 0, 1) := by decide +kernel
theorem d_x_markerLengthWith_21 : decode prog_1_method_27_code 21 = .ok (.getfield 12, 3) := by decide +kernel
theorem d_x_markerLengthWith_24 : decode prog_1_method_27_code 24 = .ok (.getfield 116, 3) := by decide +kernel
theorem d_x_markerLengthWith_27 : decode prog_1_method_27_code 27 = .ok (.invokevirtual 142, 3) := by decide +kernel
theorem d_x_markerLengthWith_30 : decode prog_1_method_27_code 30 = .ok (.aload_n 0, 1) := by decide +kernel
theorem d_x_markerLengthWith_31 : decode prog_1_method_27_code 31 = .ok (.getfield 27, 3) := by decide +kernel
theorem d_x_markerLengthWith_34 : decode prog_1_method_27_code 34 = .ok (.iload_n 1, 1) := by decide +kernel
theorem d_x_markerLengthWith_35 : decode prog_1_method_27_code 35 = .ok (.iload_n 2, 1) := by decide +kernel
theorem d_x_markerLengthWith_36 : decode prog_1_method_27_code 36 = .ok (.invokevirtual 193, 3) := by decide +kernel
theorem d_x_markerLengthWith_39 : decode prog_1_method_27_code 39 = .ok (.ireturn, 1) := by decide +kernel
theorem d_x_findBestPacking_0 : decode prog_1_method_47_code 0 = .ok (.aload_n 0, 1) := by decide +kernel
theorem d_x_findBestPacking_1 : decode prog_1_method_47_code 1 = .ok (.getfield 27, 3) := by decide +kernel
theorem d_x_findBestPacking_4 : decode prog_1_method_47_code 4 = .ok (.aload_n 0, 1) := by decide +kernel
theorem d_x_findBestPacking_5 : decode prog_1_method_47_code 5 = .ok (.getfield 12, 3) := by decide +kernel
theorem d_x_findBestPacking_8 : decode prog_1_method_47_code 8 = .ok (.aload_n 0, 1) := by decide +kernel
theorem d_x_findBestPacking_9 : decode prog_1_method_47_code 9 = .ok (.getfield 12, 3) := by decide +kernel
theorem d_x_findBestPacking_12 : decode prog_1_method_47_code 12 = .ok (.getfield 116, 3) := by decide +kernel
theorem d_x_findBestPacking_15 : decode prog_1_method_47_code 15 = .ok (.invokevirtual 142, 3) := by decide +kernel
theorem d_x_findBestPacking_18 : decode prog_1_method_47_code 18 = .ok (.aload_n 0, 1) := by decide +kernel
theorem d_x_findBestPacking_19 : decode prog_1_method_47_code 19 = .ok (.getfield 27, 3) := by decide +kernel
theorem d_x_findBestPacking_22 : decode prog_1_method_47_code 22 = .ok (.invokevirtual 212, 3) := by decide +kernel
theorem d_x_findBestPacking_25 : decode prog_1_method_47_code 25 = .ok (.ifCond .ne 7, 3) := by decide +kernel
theorem d_x_findBestPacking_28 : decode prog_1_method_47_code 28 = .ok (.sipush (-1007), 3) := by decide +kernel
theorem d_x_findBestPacking_31 : decode prog_1_method_47_code 31 = .ok (.ireturn, 1) := by decide +kernel
theorem d_x_findBestPacking_32 : decode prog_1_method_47_code 32 = .ok (.sipush (-1007), 3) := by decide +kernel
theorem d_x_findBestPacking_35 : decode prog_1_method_47_code 35 = .ok (.istore_n 1, 1) := by decide +kernel
theorem d_x_findBestPacking_36 : decode prog_1_method_47_code 36 = .ok (.iconst 0, 1) := by decide +kernel
theorem d_x_findBestPacking_37 : decode prog_1_method_47_code 37 = .ok (.istore_n 2, 1) := by decide +kernel
theorem d_x_findBestPacking_38 : decode prog_1_method_47_code 38 = .ok (.iconst 0, 1) := by decide +kernel
theorem d_x_findBestPacking_39 : decode prog_1_method_47_code 39 = .ok (.istore_n 3, 1) := by decide +kernel
theorem d_x_findBestPacking_40 : decode prog_1_method_47_code 40 = .ok (.iload_n 3, 1) := by decide +kernel
theorem d_x_findBestPacking_41 : decode prog_1_method_47_code 41 = .ok (.iconst 2, 1) := by decide +kernel
theorem d_x_findBestPacking_42 : decode prog_1_method_47_code 42 = .ok (.if_icmp .ge 59, 3) := by decide +kernel
theorem d_x_findBestPacking_45 : decode prog_1_method_47_code 45 = .ok (.iconst 0, 1) := by decide +kernel
theorem d_x_findBestPacking_46 : decode prog_1_method_47_code 46 = .ok (.istore 4, 2) := by decide +kernel
theorem d_x_findBestPacking_48 : decode prog_1_method_47_code 48 = .ok (.iload 4, 2) := by decide +kernel
theorem d_x_findBestPacking_50 : decode prog_1_method_47_code 50 = .ok (.iconst 4, 1) := by decide +kernel
theorem d_x_findBestPacking_51 : decode prog_1_method_47_code 51 = .ok (.if_icmp .ge 44, 3) := by decide +kernel
theorem d_x_findBestPacking_54 : decode prog_1_method_47_code 54 = .ok (.aload_n 0, 1) := by decide +kernel
theorem d_x_findBestPacking_55 : decode prog_1_method_47_code 55 = .ok (.getfield 27, 3) := by decide +kernel
theorem d_x_findBestPacking_58 : decode prog_1_method_47_code 58 = .ok (.iload_n 3, 1) := by decide +kernel
theorem d_x_findBestPacking_59 : decode prog_1_method_47_code 59 = .ok (.iload 4, 2) := by decide +kernel
theorem d_x_findBestPacking_61 : decode prog_1_method_47_code 61 = .ok (.invokevirtual 193, 3) := by decide +kernel
theorem d_x_findBestPacking_64 : decode prog_1_method_47_code 64 = .ok (.istore 5, 2) := by decide +kernel
theorem d_x_findBestPacking_66 : decode prog_1_method_47_code 66 = .ok (.iload_n 1, 1) := by decide +kernel
theorem d_x_findBestPacking_67 : decode prog_1_method_47_code 67 = .ok (.sipush (-1007), 3) := by decide +kernel
theorem d_x_findBestPacking_70 : decode prog_1_method_47_code 70 = .ok (.if_icmp .eq 9, 3) := by decide +kernel
theorem d_x_findBestPacking_73 : decode prog_1_method_47_code 73 = .ok (.iload 5, 2) := by decide +kernel
theorem d_x_findBestPacking_75 : decode prog_1_method_47_code 75 = .ok (.iload_n 2, 1) := by decide +kernel
theorem d_x_findBestPacking_76 : decode prog_1_method_47_code 76 = .ok (.if_icmp .ge 13, 3) := by decide +kernel
theorem d_x_findBestPacking_79 : decode prog_1_method_47_code 79 = .ok (.iload_n 3, 1) := by decide +kernel
theorem d_x_findBestPacking_80 : decode prog_1_method_47_code 80 = .ok (.iload 4, 2) := by decide +kernel
theorem d_x_findBestPacking_82 : decode prog_1_method_47_code 82 = .ok (.invokestatic 138, 3) := by decide +kernel
theorem d_x_findBestPacking_85 : decode prog_1_method_47_code 85 = .ok (.istore_n 1, 1) := by decide +kernel
theorem d_x_findBestPacking_86 : decode prog_1_method_47_code 86 = .ok (.iload 5, 2) := by decide +kernel
theorem d_x_findBestPacking_88 : decode prog_1_method_47_code 88 = .ok (.istore_n 2, 1) := by decide +kernel
theorem d_x_findBestPacking_89 : decode prog_1_method_47_code 89 = .ok (.iinc 4 1, 3) := by decide +kernel
theorem d_x_findBestPacking_92 : decode prog_1_method_47_code 92 = .ok (.goto (-44), 3) := by decide +kernel
theorem d_x_findBestPacking_95 : decode prog_1_method_47_code 95 = .ok (.iinc 3 1, 3) := by decide +kernel
theorem d_x_findBestPacking_98 : decode prog_1_method_47_code 98 = .ok (.goto (-58), 3) := by decide +kernel
theorem d_x_findBestPacking_101 : decode prog_1_method_47_code 101 = .ok (.iload_n 1, 1) := by decide +kernel
theorem d_x_findBestPacking_102 : decode prog_1_method_47_code 102 = .ok (.ireturn, 1) := by decide +kernel
theorem d_x_bestLength_0 : decode prog_1_method_28_code 0 = .ok (.aload_n 0, 1) := by decide +kernel
theorem d_x_bestLength_1 : decode prog_1_method_28_code 1 = .ok (.invokevirtual 196, 3) := by decide +kernel
theorem d_x_bestLength_4 : decode prog_1_method_28_code 4 = .ok (.istore_n 1, 1) := by decide +kernel
theorem d_x_bestLength_5 : decode prog_1_method_28_code 5 = .ok (.iload_n 1, 1) := by decide +kernel
theorem d_x_bestLength_6 : decode prog_1_method_28_code 6 = .ok (.sipush (-1007), 3) := by decide +kernel
theorem d_x_bestLength_9 : decode prog_1_method_28_code 9 = .ok (.if_icmp .ne 9, 3) := by decide +kernel
theorem d_x_bestLength_12 : decode prog_1_method_28_code 12 = .ok (.sipush (-1007), 3) := by decide +kernel
theorem d_x_bestLength_15 : decode prog_1_method_28_code 15 = .ok (.goto 18, 3) := by decide +kernel
theorem d_x_bestLength_18 : decode prog_1_method_28_code 18 = .ok (.aload_n 0, 1) := by decide +kernel
theorem d_x_bestLength_19 : decode prog_1_method_28_code 19 = .ok (.getfield 27, 3) := by decide +kernel
theorem d_x_bestLength_22 : decode prog_1_method_28_code 22 = .ok (.iload_n 1, 1) := by decide +kernel
theorem d_x_bestLength_23 : decode prog_1_method_28_code 23 = .ok (.bipush 10, 2) := by decide +kernel
theorem d_x_bestLength_25 : decode prog_1_method_28_code 25 = .ok (.idiv, 1) := by decide +kernel
theorem d_x_bestLength_26 : decode prog_1_method_28_code 26 = .ok (.iload_n 1, 1) := by decide +kernel
theorem d_x_bestLength_27 : decode prog_1_method_28_code 27 = .ok (.bipush 10, 2) := by decide +kernel
theorem d_x_bestLength_29 : decode prog_1_method_28_code 29 = .ok (.irem, 1) := by decide +kernel
theorem d_x_bestLength_30 : decode prog_1_method_28_code 30 = .ok (.invokevirtual 193, 3) := by decide +kernel
theorem d_x_bestLength_33 : decode prog_1_method_28_code 33 = .ok (.ireturn, 1) := by decide +kernel
theorem d_x_bestPacking_0 : decode prog_1_method_29_code 0 = .ok (.aload_n 0, 1) := by decide +kernel
theorem d_x_bestPacking_1 : decode prog_1_method_29_code 1 = .ok (.invokevirtual 196, 3) := by decide +kernel
theorem d_x_bestPacking_4 : decode prog_1_method_29_code 4 = .ok (.ireturn, 1) := by decide +kernel
theorem d_x_setOrdered_0 : decode prog_1_method_30_code 0 = .ok (.iload_n 1, 1) := by decide +kernel
theorem d_x_setOrdered_1 : decode prog_1_method_30_code 1 = .ok (.invokestatic 105, 3) := by decide +kernel
theorem d_x_setOrdered_4 : decode prog_1_method_30_code 4 = .ok (.ifCond .ne 7, 3) := by decide +kernel
theorem d_x_setOrdered_7 : decode prog_1_method_30_code 7 = .ok (.sipush (-1002), 3) := by decide +kernel
theorem d_x_setOrdered_10 : decode prog_1_method_30_code 10 = .ok (.ireturn, 1) := by decide +kernel
theorem d_x_setOrdered_11 : decode prog_1_method_30_code 11 = .ok (.iload_n 2, 1) := by decide +kernel
theorem d_x_setOrdered_12 : decode prog_1_method_30_code 12 = .ok (.iconst 0, 1) := by decide +kernel
theorem d_x_setOrdered_13 : decode prog_1_method_30_code 13 = .ok (.bipush 99, 2) := by decide +kernel
theorem d_x_setOrdered_15 : decode prog_1_method_30_code 15 = .ok (.invokestatic 35, 3) := by decide +kernel
theorem d_x_setOrdered_18 : decode prog_1_method_30_code 18 = .ok (.ifCond .ne 7, 3) := by decide +kernel
theorem d_x_setOrdered_21 : decode prog_1_method_30_code 21 = .ok (.sipush (-1005), 3) := by decide +kernel
theorem d_x_setOrdered_24 : decode prog_1_method_30_code 24 = .ok (.ireturn, 1) := by decide +kernel
theorem d_x_setOrdered_25 : decode prog_1_method_30_code 25 = .ok (.aload_n 0, 1) := by decide +kernel
theorem d_x_setOrdered_26 : decode prog_1_method_30_code 26 = .ok (.getfield 12, 3) := by decide +kernel
theorem d_x_setOrdered_29 : decode prog_1_method_30_code 29 = .ok (.getfield 199, 3) := by decide +kernel
theorem d_x_setOrdered_32 : decode prog_1_method_30_code 32 = .ok (.iload_n 1, 1) := by decide +kernel
theorem d_x_setOrdered_33 : decode prog_1_method_30_code 33 = .ok (.iaload, 1) := by decide +kernel
theorem d_x_setOrdered_34 : decode prog_1_method_30_code 34 = .ok (.istore_n 3, 1) := by decide +kernel
theorem d_x_setOrdered_35 : decode prog_1_method_30_code 35 = .ok (.aload_n 0, 1) := by decide +kernel
theorem d_x_setOrdered_36 : decode prog_1_method_30_code 36 = .ok (.getfield 12, 3) := by decide +kernel
theorem d_x_setOrdered_39 : decode prog_1_method_30_code 39 = .ok (.getfield 199, 3) := by decide +kernel
theorem d_x_setOrdered_42 : decode prog_1_method_30_code 42 = .ok (.iload_n 1, 1) := by decide +kernel
theorem d_x_setOrdered_43 : decode prog_1_method_30_code 43 = .ok (.iload_n 2, 1) := by decide +kernel
theorem d_x_setOrdered_44 : decode prog_1_method_30_code 44 = .ok (.iastore, 1) := by decide +kernel
theorem d_x_setOrdered_45 : decode prog_1_method_30_code 45 = .ok (.iload_n 3, 1) := by decide +kernel
theorem d_x_setOrdered_46 : decode prog_1_method_30_code 46 = .ok (.ireturn, 1) := by decide +kernel
theorem d_x_plies_0 : decode prog_1_method_31_code 0 = .ok (.aload_n 0, 1) := by decide +kernel
theorem d_x_plies_1 : decode prog_1_method_31_code 1 = .ok (.getfield 12, 3) := by decide +kernel
theorem d_x_plies_4 : decode prog_1_method_31_code 4 = .ok (.aload_n 0, 1) := by decide +kernel
theorem d_x_plies_5 : decode prog_1_method_31_code 5 = .ok (.getfield 12, 3) := by decide +kernel
theorem d_x_plies_8 : decode prog_1_method_31_code 8 = .ok (.getfield 116, 3) := by decide +kernel
theorem d_x_plies_11 : decode prog_1_method_31_code 11 = .ok (.invokevirtual 202, 3) := by decide +kernel
theorem d_x_plies_14 : decode prog_1_method_31_code 14 = .ok (.ireturn, 1) := by decide +kernel
theorem d_x_clothLength_0 : decode prog_1_method_32_code 0 = .ok (.aload_n 0, 1) := by decide +kernel
theorem d_x_clothLength_1 : decode prog_1_method_32_code 1 = .ok (.getfield 12, 3) := by decide +kernel
theorem d_x_clothLength_4 : decode prog_1_method_32_code 4 = .ok (.aload_n 0, 1) := by decide +kernel
theorem d_x_clothLength_5 : decode prog_1_method_32_code 5 = .ok (.getfield 12, 3) := by decide +kernel
theorem d_x_clothLength_8 : decode prog_1_method_32_code 8 = .ok (.getfield 116, 3) := by decide +kernel
theorem d_x_clothLength_11 : decode prog_1_method_32_code 11 = .ok (.invokevirtual 202, 3) := by decide +kernel
theorem d_x_clothLength_14 : decode prog_1_method_32_code 14 = .ok (.istore_n 1, 1) := by decide +kernel
theorem d_x_clothLength_15 : decode prog_1_method_32_code 15 = .ok (.iload_n 1, 1) := by decide +kernel
theorem d_x_clothLength_16 : decode prog_1_method_32_code 16 = .ok (.sipush (-1008), 3) := by decide +kernel
theorem d_x_clothLength_19 : decode prog_1_method_32_code 19 = .ok (.if_icmp .ne 7, 3) := by decide +kernel
theorem d_x_clothLength_22 : decode prog_1_method_32_code 22 = .ok (.sipush (-1008), 3) := by decide +kernel
theorem d_x_clothLength_25 : decode prog_1_method_32_code 25 = .ok (.ireturn, 1) := by decide +kernel
theorem d_x_clothLength_26 : decode prog_1_method_32_code 26 = .ok (.aload_n 0, 1) := by decide +kernel
theorem d_x_clothLength_27 : decode prog_1_method_32_code 27 = .ok (.aload_n 0, 1) := by decide +kernel
theorem d_x_clothLength_28 : decode prog_1_method_32_code 28 = .ok (.getfield 12, 3) := by decide +kernel
theorem d_x_clothLength_31 : decode prog_1_method_32_code 31 = .ok (.getfield 116, 3) := by decide +kernel
theorem d_x_clothLength_34 : decode prog_1_method_32_code 34 = .ok (.invokevirtual 183, 3) := by decide +kernel
theorem d_x_clothLength_37 : decode prog_1_method_32_code 37 = .ok (.istore_n 2, 1) := by decide +kernel
theorem d_x_clothLength_38 : decode prog_1_method_32_code 38 = .ok (.iload_n 2, 1) := by decide +kernel
theorem d_x_clothLength_39 : decode prog_1_method_32_code 39 = .ok (.sipush (-1007), 3) := by decide +kernel
theorem d_x_clothLength_42 : decode prog_1_method_32_code 42 = .ok (.if_icmp .ne 9, 3) := by decide +kernel
theorem d_x_clothLength_45 : decode prog_1_method_32_code 45 = .ok (.sipush (-1007), 3) := by decide +kernel
theorem d_x_clothLength_48 : decode prog_1_method_32_code 48 = .ok (.goto 6, 3) := by decide +kernel
theorem d_x_clothLength_51 : decode prog_1_method_32_code 51 = .ok (.iload_n 1, 1) := by decide +kernel
theorem d_x_clothLength_52 : decode prog_1_method_32_code 52 = .ok (.iload_n 2, 1) := by decide +kernel
theorem d_x_clothLength_53 : decode prog_1_method_32_code 53 = .ok (.imul, 1) := by decide +kernel
theorem d_x_clothLength_54 : decode prog_1_method_32_code 54 = .ok (.ireturn, 1) := by decide +kernel
theorem d_x_surplus_0 : decode prog_1_method_33_code 0 = .ok (.aload_n 0, 1) := by decide +kernel
theorem d_x_surplus_1 : decode prog_1_method_33_code 1 = .ok (.getfield 12, 3) := by decide +kernel
theorem d_x_surplus_4 : decode prog_1_method_33_code 4 = .ok (.aload_n 0, 1) := by decide +kernel
theorem d_x_surplus_5 : decode prog_1_method_33_code 5 = .ok (.getfield 12, 3) := by decide +kernel
theorem d_x_surplus_8 : decode prog_1_method_33_code 8 = .ok (.getfield 116, 3) := by decide +kernel
theorem d_x_surplus_11 : decode prog_1_method_33_code 11 = .ok (.invokevirtual 202, 3) := by decide +kernel
theorem d_x_surplus_14 : decode prog_1_method_33_code 14 = .ok (.istore_n 1, 1) := by decide +kernel
theorem d_x_surplus_15 : decode prog_1_method_33_code 15 = .ok (.iload_n 1, 1) := by decide +kernel
theorem d_x_surplus_16 : decode prog_1_method_33_code 16 = .ok (.sipush (-1008), 3) := by decide +kernel
theorem d_x_surplus_19 : decode prog_1_method_33_code 19 = .ok (.if_icmp .ne 9, 3) := by decide +kernel
theorem d_x_surplus_22 : decode prog_1_method_33_code 22 = .ok (.sipush (-1008), 3) := by decide +kernel
theorem d_x_surplus_25 : decode prog_1_method_33_code 25 = .ok (.goto 18, 3) := by decide +kernel
theorem d_x_surplus_28 : decode prog_1_method_33_code 28 = .ok (.aload_n 0, 1) := by decide +kernel
theorem d_x_surplus_29 : decode prog_1_method_33_code 29 = .ok (.getfield 12, 3) := by decide +kernel
theorem d_x_surplus_32 : decode prog_1_method_33_code 32 = .ok (.aload_n 0, 1) := by decide +kernel
theorem d_x_surplus_33 : decode prog_1_method_33_code 33 = .ok (.getfield 12, 3) := by decide +kernel
theorem d_x_surplus_36 : decode prog_1_method_33_code 36 = .ok (.getfield 116, 3) := by decide +kernel
theorem d_x_surplus_39 : decode prog_1_method_33_code 39 = .ok (.iload_n 1, 1) := by decide +kernel
theorem d_x_surplus_40 : decode prog_1_method_33_code 40 = .ok (.invokevirtual 205, 3) := by decide +kernel
theorem d_x_surplus_43 : decode prog_1_method_33_code 43 = .ok (.ireturn, 1) := by decide +kernel
theorem d_x_lookAtMix_0 : decode prog_1_method_48_code 0 = .ok (.aload_n 0, 1) := by decide +kernel
theorem d_x_lookAtMix_1 : decode prog_1_method_48_code 1 = .ok (.getfield 31, 3) := by decide +kernel
theorem d_x_lookAtMix_4 : decode prog_1_method_48_code 4 = .ok (.iconst 0, 1) := by decide +kernel
theorem d_x_lookAtMix_5 : decode prog_1_method_48_code 5 = .ok (.iload_n 1, 1) := by decide +kernel
theorem d_x_lookAtMix_6 : decode prog_1_method_48_code 6 = .ok (.bipush 9, 2) := by decide +kernel
theorem d_x_lookAtMix_8 : decode prog_1_method_48_code 8 = .ok (.idiv, 1) := by decide +kernel
theorem d_x_lookAtMix_9 : decode prog_1_method_48_code 9 = .ok (.iastore, 1) := by decide +kernel
theorem d_x_lookAtMix_10 : decode prog_1_method_48_code 10 = .ok (.aload_n 0, 1) := by decide +kernel
theorem d_x_lookAtMix_11 : decode prog_1_method_48_code 11 = .ok (.getfield 31, 3) := by decide +kernel
theorem d_x_lookAtMix_14 : decode prog_1_method_48_code 14 = .ok (.iconst 1, 1) := by decide +kernel
theorem d_x_lookAtMix_15 : decode prog_1_method_48_code 15 = .ok (.iload_n 1, 1) := by decide +kernel
theorem d_x_lookAtMix_16 : decode prog_1_method_48_code 16 = .ok (.iconst 3, 1) := by decide +kernel
theorem d_x_lookAtMix_17 : decode prog_1_method_48_code 17 = .ok (.idiv, 1) := by decide +kernel
theorem d_x_lookAtMix_18 : decode prog_1_method_48_code 18 = .ok (.iconst 3, 1) := by decide +kernel
theorem d_x_lookAtMix_19 : decode prog_1_method_48_code 19 = .ok (.irem, 1) := by decide +kernel
theorem d_x_lookAtMix_20 : decode prog_1_method_48_code 20 = .ok (.iastore, 1) := by decide +kernel
theorem d_x_lookAtMix_21 : decode prog_1_method_48_code 21 = .ok (.aload_n 0, 1) := by decide +kernel
theorem d_x_lookAtMix_22 : decode prog_1_method_48_code 22 = .ok (.getfield 31, 3) := by decide +kernel
theorem d_x_lookAtMix_25 : decode prog_1_method_48_code 25 = .ok (.iconst 2, 1) := by decide +kernel
theorem d_x_lookAtMix_26 : decode prog_1_method_48_code 26 = .ok (.iload_n 1, 1) := by decide +kernel
theorem d_x_lookAtMix_27 : decode prog_1_method_48_code 27 = .ok (.iconst 3, 1) := by decide +kernel
theorem d_x_lookAtMix_28 : decode prog_1_method_48_code 28 = .ok (.irem, 1) := by decide +kernel
theorem d_x_lookAtMix_29 : decode prog_1_method_48_code 29 = .ok (.iastore, 1) := by decide +kernel
theorem d_x_lookAtMix_30 : decode prog_1_method_48_code 30 = .ok (.return_, 1) := by decide +kernel
theorem d_x_goodMixes_0 : decode prog_1_method_34_code 0 = .ok (.iconst 0, 1) := by decide +kernel
theorem d_x_goodMixes_1 : decode prog_1_method_34_code 1 = .ok (.istore_n 1, 1) := by decide +kernel
theorem d_x_goodMixes_2 : decode prog_1_method_34_code 2 = .ok (.iconst 1, 1) := by decide +kernel
theorem d_x_goodMixes_3 : decode prog_1_method_34_code 3 = .ok (.istore_n 2, 1) := by decide +kernel
theorem d_x_goodMixes_4 : decode prog_1_method_34_code 4 = .ok (.iload_n 2, 1) := by decide +kernel
theorem d_x_goodMixes_5 : decode prog_1_method_34_code 5 = .ok (.bipush 27, 2) := by decide +kernel
theorem d_x_goodMixes_7 : decode prog_1_method_34_code 7 = .ok (.if_icmp .ge 59, 3) := by decide +kernel
theorem d_x_goodMixes_10 : decode prog_1_method_34_code 10 = .ok (.aload_n 0, 1) := by decide +kernel
theorem d_x_goodMixes_11 : decode prog_1_method_34_code 11 = .ok (.iload_n 2, 1) := by decide +kernel
theorem d_x_goodMixes_12 : decode prog_1_method_34_code 12 = .ok (.invokevirtual 209, 3) := by decide +kernel
theorem d_x_goodMixes_15 : decode prog_1_method_34_code 15 = .ok (.aload_n 0, 1) := by decide +kernel
theorem d_x_goodMixes_16 : decode prog_1_method_34_code 16 = .ok (.getfield 27, 3) := by decide +kernel
theorem d_x_goodMixes_19 : decode prog_1_method_34_code 19 = .ok (.aload_n 0, 1) := by decide +kernel
theorem d_x_goodMixes_20 : decode prog_1_method_34_code 20 = .ok (.getfield 12, 3) := by decide +kernel
theorem d_x_goodMixes_23 : decode prog_1_method_34_code 23 = .ok (.aload_n 0, 1) := by decide +kernel
theorem d_x_goodMixes_24 : decode prog_1_method_34_code 24 = .ok (.getfield 31, 3) := by decide +kernel
theorem d_x_goodMixes_27 : decode prog_1_method_34_code 27 = .ok (.invokevirtual 142, 3) := by decide +kernel
theorem d_x_goodMixes_30 : decode prog_1_method_34_code 30 = .ok (.aload_n 0, 1) := by decide +kernel
theorem d_x_goodMixes_31 : decode prog_1_method_34_code 31 = .ok (.getfield 12, 3) := by decide +kernel
theorem d_x_goodMixes_34 : decode prog_1_method_34_code 34 = .ok (.aload_n 0, 1) := by decide +kernel
theorem d_x_goodMixes_35 : decode prog_1_method_34_code 35 = .ok (.getfield 31, 3) := by decide +kernel
theorem d_x_goodMixes_38 : decode prog_1_method_34_code 38 = .ok (.invokevirtual 202, 3) := by decide +kernel
theorem d_x_goodMixes_41 : decode prog_1_method_34_code 41 = .ok (.sipush (-1008), 3) := by decide +kernel
theorem d_x_goodMixes_44 : decode prog_1_method_34_code 44 = .ok (.if_icmp .eq 16, 3) := by decide +kernel
theorem d_x_goodMixes_47 : decode prog_1_method_34_code 47 = .ok (.aload_n 0, 1) := by decide +kernel
theorem d_x_goodMixes_48 : decode prog_1_method_34_code 48 = .ok (.getfield 27, 3) := by decide +kernel
theorem d_x_goodMixes_51 : decode prog_1_method_34_code 51 = .ok (.invokevirtual 212, 3) := by decide +kernel
theorem d_x_goodMixes_54 : decode prog_1_method_34_code 54 = .ok (.ifCond .eq 6, 3) := by decide +kernel
theorem d_x_goodMixes_57 : decode prog_1_method_34_code 57 = .ok (.iinc 1 1, 3) := by decide +kernel
theorem d_x_goodMixes_60 : decode prog_1_method_34_code 60 = .ok (.iinc 2 1, 3) := by decide +kernel
theorem d_x_goodMixes_63 : decode prog_1_method_34_code 63 = .ok (.goto (-59), 3) := by decide +kernel
theorem d_x_goodMixes_66 : decode prog_1_method_34_code 66 = .ok (.iload_n 1, 1) := by decide +kernel
theorem d_x_goodMixes_67 : decode prog_1_method_34_code 67 = .ok (.ireturn, 1) := by decide +kernel
theorem d_x_findBestMix_0 : decode prog_1_method_49_code 0 = .ok (.iconst 0, 1) := by decide +kernel
theorem d_x_findBestMix_1 : decode prog_1_method_49_code 1 = .ok (.istore_n 1, 1) := by decide +kernel
theorem d_x_findBestMix_2 : decode prog_1_method_49_code 2 = .ok (.iconst 0, 1) := by decide +kernel
theorem d_x_findBestMix_3 : decode prog_1_method_49_code 3 = .ok (.istore_n 2, 1) := by decide +kernel
theorem d_x_findBestMix_4 : decode prog_1_method_49_code 4 = .ok (.iconst 0, 1) := by decide +kernel
theorem d_x_findBestMix_5 : decode prog_1_method_49_code 5 = .ok (.istore_n 3, 1) := by decide +kernel
theorem d_x_findBestMix_6 : decode prog_1_method_49_code 6 = .ok (.iconst 1, 1) := by decide +kernel
theorem d_x_findBestMix_7 : decode prog_1_method_49_code 7 = .ok (.istore 4, 2) := by decide +kernel
theorem d_x_findBestMix_9 : decode prog_1_method_49_code 9 = .ok (.iload 4, 2) := by decide +kernel
theorem d_x_findBestMix_11 : decode prog_1_method_49_code 11 = .ok (.bipush 27, 2) := by decide +kernel
theorem d_x_findBestMix_13 : decode prog_1_method_49_code 13 = .ok (.if_icmp .ge 133, 3) := by decide +kernel
theorem d_x_findBestMix_16 : decode prog_1_method_49_code 16 = .ok (.aload_n 0, 1) := by decide +kernel
theorem d_x_findBestMix_17 : decode prog_1_method_49_code 17 = .ok (.iload 4, 2) := by decide +kernel
theorem d_x_findBestMix_19 : decode prog_1_method_49_code 19 = .ok (.invokevirtual 209, 3) := by decide +kernel
theorem d_x_findBestMix_22 : decode prog_1_method_49_code 22 = .ok (.aload_n 0, 1) := by decide +kernel
theorem d_x_findBestMix_23 : decode prog_1_method_49_code 23 = .ok (.getfield 27, 3) := by decide +kernel
theorem d_x_findBestMix_26 : decode prog_1_method_49_code 26 = .ok (.aload_n 0, 1) := by decide +kernel
theorem d_x_findBestMix_27 : decode prog_1_method_49_code 27 = .ok (.getfield 12, 3) := by decide +kernel
theorem d_x_findBestMix_30 : decode prog_1_method_49_code 30 = .ok (.aload_n 0, 1) := by decide +kernel
theorem d_x_findBestMix_31 : decode prog_1_method_49_code 31 = .ok (.getfield 31, 3) := by decide +kernel
theorem d_x_findBestMix_34 : decode prog_1_method_49_code 34 = .ok (.invokevirtual 142, 3) := by decide +kernel
theorem d_x_findBestMix_37 : decode prog_1_method_49_code 37 = .ok (.aload_n 0, 1) := by decide +kernel
theorem d_x_findBestMix_38 : decode prog_1_method_49_code 38 = .ok (.getfield 12, 3) := by decide +kernel
theorem d_x_findBestMix_41 : decode prog_1_method_49_code 41 = .ok (.aload_n 0, 1) := by decide +kernel
theorem d_x_findBestMix_42 : decode prog_1_method_49_code 42 = .ok (.getfield 31, 3) := by decide +kernel
theorem d_x_findBestMix_45 : decode prog_1_method_49_code 45 = .ok (.invokevirtual 202, 3) := by decide +kernel
theorem d_x_findBestMix_48 : decode prog_1_method_49_code 48 = .ok (.istore 5, 2) := by decide +kernel
theorem d_x_findBestMix_50 : decode prog_1_method_49_code 50 = .ok (.iload 5, 2) := by decide +kernel
theorem d_x_findBestMix_52 : decode prog_1_method_49_code 52 = .ok (.sipush (-1008), 3) := by decide +kernel
theorem d_x_findBestMix_55 : decode prog_1_method_49_code 55 = .ok (.if_icmp .eq 85, 3) := by decide +kernel
theorem d_x_findBestMix_58 : decode prog_1_method_49_code 58 = .ok (.aload_n 0, 1) := by decide +kernel
theorem d_x_findBestMix_59 : decode prog_1_method_49_code 59 = .ok (.getfield 27, 3) := by decide +kernel
theorem d_x_findBestMix_62 : decode prog_1_method_49_code 62 = .ok (.invokevirtual 212, 3) := by decide +kernel
theorem d_x_findBestMix_65 : decode prog_1_method_49_code 65 = .ok (.ifCond .eq 75, 3) := by decide +kernel
theorem d_x_findBestMix_68 : decode prog_1_method_49_code 68 = .ok (.iload 5, 2) := by decide +kernel
theorem d_x_findBestMix_70 : decode prog_1_method_49_code 70 = .ok (.aload_n 0, 1) := by decide +kernel
theorem d_x_findBestMix_71 : decode prog_1_method_49_code 71 = .ok (.getfield 27, 3) := by decide +kernel
theorem d_x_findBestMix_74 : decode prog_1_method_49_code 74 = .ok (.aload_n 0, 1) := by decide +kernel
theorem d_x_findBestMix_75 : decode prog_1_method_49_code 75 = .ok (.getfield 12, 3) := by decide +kernel
theorem d_x_findBestMix_78 : decode prog_1_method_49_code 78 = .ok (.getfield 132, 3) := by decide +kernel
theorem d_x_findBestMix_81 : decode prog_1_method_49_code 81 = .ok (.aload_n 0, 1) := by decide +kernel
theorem d_x_findBestMix_82 : decode prog_1_method_49_code 82 = .ok (.getfield 12, 3) := by decide +kernel
theorem d_x_findBestMix_85 : decode prog_1_method_49_code 85 = .ok (.getfield 135, 3) := by decide +kernel
theorem d_x_findBestMix_88 : decode prog_1_method_49_code 88 = .ok (.invokevirtual 193, 3) := by decide +kernel
theorem d_x_findBestMix_91 : decode prog_1_method_49_code 91 = .ok (.imul, 1) := by decide +kernel
theorem d_x_findBestMix_92 : decode prog_1_method_49_code 92 = .ok (.istore 6, 2) := by decide +kernel
theorem d_x_findBestMix_94 : decode prog_1_method_49_code 94 = .ok (.aload_n 0, 1) := by decide +kernel
theorem d_x_findBestMix_95 : decode prog_1_method_49_code 95 = .ok (.getfield 12, 3) := by decide +kernel
theorem d_x_findBestMix_98 : decode prog_1_method_49_code 98 = .ok (.aload_n 0, 1) := by decide +kernel
theorem d_x_findBestMix_99 : decode prog_1_method_49_code 99 = .ok (.getfield 31, 3) := by decide +kernel
theorem d_x_findBestMix_102 : decode prog_1_method_49_code 102 = .ok (.iload 5, 2) := by decide +kernel
theorem d_x_findBestMix_104 : decode prog_1_method_49_code 104 = .ok (.invokevirtual 205, 3) := by decide +kernel
theorem d_x_findBestMix_107 : decode prog_1_method_49_code 107 = .ok (.istore 7, 2) := by decide +kernel
theorem d_x_findBestMix_109 : decode prog_1_method_49_code 109 = .ok (.iload_n 1, 1) := by decide +kernel
theorem d_x_findBestMix_110 : decode prog_1_method_49_code 110 = .ok (.ifCond .eq 21, 3) := by decide +kernel
theorem d_x_findBestMix_113 : decode prog_1_method_49_code 113 = .ok (.iload 6, 2) := by decide +kernel
theorem d_x_findBestMix_115 : decode prog_1_method_49_code 115 = .ok (.iload_n 2, 1) := by decide +kernel
theorem d_x_findBestMix_116 : decode prog_1_method_49_code 116 = .ok (.if_icmp .lt 15, 3) := by decide +kernel
theorem d_x_findBestMix_119 : decode prog_1_method_49_code 119 = .ok (.iload 6, 2) := by decide +kernel
theorem d_x_findBestMix_121 : decode prog_1_method_49_code 121 = .ok (.iload_n 2, 1) := by decide +kernel
theorem d_x_findBestMix_122 : decode prog_1_method_49_code 122 = .ok (.if_icmp .ne 18, 3) := by decide +kernel
theorem d_x_findBestMix_125 : decode prog_1_method_49_code 125 = .ok (.iload 7, 2) := by decide +kernel
theorem d_x_findBestMix_127 : decode prog_1_method_49_code 127 = .ok (.iload_n 3, 1) := by decide +kernel
theorem d_x_findBestMix_128 : decode prog_1_method_49_code 128 = .ok (.if_icmp .ge 12, 3) := by decide +kernel
theorem d_x_findBestMix_131 : decode prog_1_method_49_code 131 = .ok (.iload 4, 2) := by decide +kernel
theorem d_x_findBestMix_133 : decode prog_1_method_49_code 133 = .ok (.istore_n 1, 1) := by decide +kernel
theorem d_x_findBestMix_134 : decode prog_1_method_49_code 134 = .ok (.iload 6, 2) := by decide +kernel
theorem d_x_findBestMix_136 : decode prog_1_method_49_code 136 = .ok (.istore_n 2, 1) := by decide +kernel
theorem d_x_findBestMix_137 : decode prog_1_method_49_code 137 = .ok (.iload 7, 2) := by decide +kernel
theorem d_x_findBestMix_139 : decode prog_1_method_49_code 139 = .ok (.istore_n 3, 1) := by decide +kernel
theorem d_x_findBestMix_140 : decode prog_1_method_49_code 140 = .ok (.iinc 4 1, 3) := by decide +kernel
theorem d_x_findBestMix_143 : decode prog_1_method_49_code 143 = .ok (.goto (-134), 3) := by decide +kernel
theorem d_x_findBestMix_146 : decode prog_1_method_49_code 146 = .ok (.iload_n 1, 1) := by decide +kernel
theorem d_x_findBestMix_147 : decode prog_1_method_49_code 147 = .ok (.ireturn, 1) := by decide +kernel
theorem d_x_bestMix_0 : decode prog_1_method_35_code 0 = .ok (.aload_n 0, 1) := by decide +kernel
theorem d_x_bestMix_1 : decode prog_1_method_35_code 1 = .ok (.invokevirtual 216, 3) := by decide +kernel
theorem d_x_bestMix_4 : decode prog_1_method_35_code 4 = .ok (.istore_n 1, 1) := by decide +kernel
theorem d_x_bestMix_5 : decode prog_1_method_35_code 5 = .ok (.iload_n 1, 1) := by decide +kernel
theorem d_x_bestMix_6 : decode prog_1_method_35_code 6 = .ok (.ifCond .ne 7, 3) := by decide +kernel
theorem d_x_bestMix_9 : decode prog_1_method_35_code 9 = .ok (.sipush (-1009), 3) := by decide +kernel
theorem d_x_bestMix_12 : decode prog_1_method_35_code 12 = .ok (.ireturn, 1) := by decide +kernel
theorem d_x_bestMix_13 : decode prog_1_method_35_code 13 = .ok (.aload_n 0, 1) := by decide +kernel
theorem d_x_bestMix_14 : decode prog_1_method_35_code 14 = .ok (.iload_n 1, 1) := by decide +kernel
theorem d_x_bestMix_15 : decode prog_1_method_35_code 15 = .ok (.invokevirtual 209, 3) := by decide +kernel
theorem d_x_bestMix_18 : decode prog_1_method_35_code 18 = .ok (.bipush 100, 2) := by decide +kernel
theorem d_x_bestMix_20 : decode prog_1_method_35_code 20 = .ok (.aload_n 0, 1) := by decide +kernel
theorem d_x_bestMix_21 : decode prog_1_method_35_code 21 = .ok (.getfield 31, 3) := by decide +kernel
theorem d_x_bestMix_24 : decode prog_1_method_35_code 24 = .ok (.iconst 0, 1) := by decide +kernel
theorem d_x_bestMix_25 : decode prog_1_method_35_code 25 = .ok (.iaload, 1) := by decide +kernel
theorem d_x_bestMix_26 : decode prog_1_method_35_code 26 = .ok (.imul, 1) := by decide +kernel
theorem d_x_bestMix_27 : decode prog_1_method_35_code 27 = .ok (.bipush 10, 2) := by decide +kernel
theorem d_x_bestMix_29 : decode prog_1_method_35_code 29 = .ok (.aload_n 0, 1) := by decide +kernel
theorem d_x_bestMix_30 : decode prog_1_method_35_code 30 = .ok (.getfield 31, 3) := by decide +kernel
theorem d_x_bestMix_33 : decode prog_1_method_35_code 33 = .ok (.iconst 1, 1) := by decide +kernel
theorem d_x_bestMix_34 : decode prog_1_method_35_code 34 = .ok (.iaload, 1) := by decide +kernel
theorem d_x_bestMix_35 : decode prog_1_method_35_code 35 = .ok (.imul, 1) := by decide +kernel
theorem d_x_bestMix_36 : decode prog_1_method_35_code 36 = .ok (.iadd, 1) := by decide +kernel
theorem d_x_bestMix_37 : decode prog_1_method_35_code 37 = .ok (.aload_n 0, 1) := by decide +kernel
theorem d_x_bestMix_38 : decode prog_1_method_35_code 38 = .ok (.getfield 31, 3) := by decide +kernel
theorem d_x_bestMix_41 : decode prog_1_method_35_code 41 = .ok (.iconst 2, 1) := by decide +kernel
theorem d_x_bestMix_42 : decode prog_1_method_35_code 42 = .ok (.iaload, 1) := by decide +kernel
theorem d_x_bestMix_43 : decode prog_1_method_35_code 43 = .ok (.iadd, 1) := by decide +kernel
theorem d_x_bestMix_44 : decode prog_1_method_35_code 44 = .ok (.ireturn, 1) := by decide +kernel
theorem d_x_bestMixCloth_0 : decode prog_1_method_36_code 0 = .ok (.aload_n 0, 1) := by decide +kernel
theorem d_x_bestMixCloth_1 : decode prog_1_method_36_code 1 = .ok (.invokevirtual 216, 3) := by decide +kernel
theorem d_x_bestMixCloth_4 : decode prog_1_method_36_code 4 = .ok (.istore_n 1, 1) := by decide +kernel
theorem d_x_bestMixCloth_5 : decode prog_1_method_36_code 5 = .ok (.iload_n 1, 1) := by decide +kernel
theorem d_x_bestMixCloth_6 : decode prog_1_method_36_code 6 = .ok (.ifCond .ne 7, 3) := by decide +kernel
theorem d_x_bestMixCloth_9 : decode prog_1_method_36_code 9 = .ok (.sipush (-1009), 3) := by decide +kernel
theorem d_x_bestMixCloth_12 : decode prog_1_method_36_code 12 = .ok (.ireturn, 1) := by decide +kernel
theorem d_x_bestMixCloth_13 : decode prog_1_method_36_code 13 = .ok (.aload_n 0, 1) := by decide +kernel
theorem d_x_bestMixCloth_14 : decode prog_1_method_36_code 14 = .ok (.iload_n 1, 1) := by decide +kernel
theorem d_x_bestMixCloth_15 : decode prog_1_method_36_code 15 = .ok (.invokevirtual 209, 3) := by decide +kernel
theorem d_x_bestMixCloth_18 : decode prog_1_method_36_code 18 = .ok (.aload_n 0, 1) := by decide +kernel
theorem d_x_bestMixCloth_19 : decode prog_1_method_36_code 19 = .ok (.getfield 12, 3) := by decide +kernel
theorem d_x_bestMixCloth_22 : decode prog_1_method_36_code 22 = .ok (.aload_n 0, 1) := by decide +kernel
theorem d_x_bestMixCloth_23 : decode prog_1_method_36_code 23 = .ok (.getfield 31, 3) := by decide +kernel
theorem d_x_bestMixCloth_26 : decode prog_1_method_36_code 26 = .ok (.invokevirtual 202, 3) := by decide +kernel
theorem d_x_bestMixCloth_29 : decode prog_1_method_36_code 29 = .ok (.aload_n 0, 1) := by decide +kernel
theorem d_x_bestMixCloth_30 : decode prog_1_method_36_code 30 = .ok (.aload_n 0, 1) := by decide +kernel
theorem d_x_bestMixCloth_31 : decode prog_1_method_36_code 31 = .ok (.getfield 31, 3) := by decide +kernel
theorem d_x_bestMixCloth_34 : decode prog_1_method_36_code 34 = .ok (.invokevirtual 183, 3) := by decide +kernel
theorem d_x_bestMixCloth_37 : decode prog_1_method_36_code 37 = .ok (.imul, 1) := by decide +kernel
theorem d_x_bestMixCloth_38 : decode prog_1_method_36_code 38 = .ok (.ireturn, 1) := by decide +kernel
theorem d_x_applyBestMix_0 : decode prog_1_method_37_code 0 = .ok (.aload_n 0, 1) := by decide +kernel
theorem d_x_applyBestMix_1 : decode prog_1_method_37_code 1 = .ok (.invokevirtual 216, 3) := by decide +kernel
theorem d_x_applyBestMix_4 : decode prog_1_method_37_code 4 = .ok (.istore_n 1, 1) := by decide +kernel
theorem d_x_applyBestMix_5 : decode prog_1_method_37_code 5 = .ok (.iload_n 1, 1) := by decide +kernel
theorem d_x_applyBestMix_6 : decode prog_1_method_37_code 6 = .ok (.ifCond .ne 7, 3) := by decide +kernel
theorem d_x_applyBestMix_9 : decode prog_1_method_37_code 9 = .ok (.sipush (-1009), 3) := by decide +kernel
theorem d_x_applyBestMix_12 : decode prog_1_method_37_code 12 = .ok (.ireturn, 1) := by decide +kernel
theorem d_x_applyBestMix_13 : decode prog_1_method_37_code 13 = .ok (.aload_n 0, 1) := by decide +kernel
theorem d_x_applyBestMix_14 : decode prog_1_method_37_code 14 = .ok (.iload_n 1, 1) := by decide +kernel
theorem d_x_applyBestMix_15 : decode prog_1_method_37_code 15 = .ok (.invokevirtual 209, 3) := by decide +kernel
theorem d_x_applyBestMix_18 : decode prog_1_method_37_code 18 = .ok (.aload_n 0, 1) := by decide +kernel
theorem d_x_applyBestMix_19 : decode prog_1_method_37_code 19 = .ok (.getfield 31, 3) := by decide +kernel
theorem d_x_applyBestMix_22 : decode prog_1_method_37_code 22 = .ok (.iconst 0, 1) := by decide +kernel
theorem d_x_applyBestMix_23 : decode prog_1_method_37_code 23 = .ok (.aload_n 0, 1) := by decide +kernel
theorem d_x_applyBestMix_24 : decode prog_1_method_37_code 24 = .ok (.getfield 12, 3) := by decide +kernel
theorem d_x_applyBestMix_27 : decode prog_1_method_37_code 27 = .ok (.getfield 116, 3) := by decide +kernel
theorem d_x_applyBestMix_30 : decode prog_1_method_37_code 30 = .ok (.iconst 0, 1) := by decide +kernel
theorem d_x_applyBestMix_31 : decode prog_1_method_37_code 31 = .ok (.iconst 3, 1) := by decide +kernel
theorem d_x_applyBestMix_32 : decode prog_1_method_37_code 32 = .ok (.invokestatic 219, 3) := by decide +kernel
theorem d_x_applyBestMix_35 : decode prog_1_method_37_code 35 = .ok (.aload_n 0, 1) := by decide +kernel
theorem d_x_applyBestMix_36 : decode prog_1_method_37_code 36 = .ok (.aload_n 0, 1) := by decide +kernel
theorem d_x_applyBestMix_37 : decode prog_1_method_37_code 37 = .ok (.getfield 12, 3) := by decide +kernel
theorem d_x_applyBestMix_40 : decode prog_1_method_37_code 40 = .ok (.getfield 116, 3) := by decide +kernel
theorem d_x_applyBestMix_43 : decode prog_1_method_37_code 43 = .ok (.invokevirtual 183, 3) := by decide +kernel
theorem d_x_applyBestMix_46 : decode prog_1_method_37_code 46 = .ok (.ireturn, 1) := by decide +kernel
theorem d_x_save_0 : decode prog_1_method_38_code 0 = .ok (.iload_n 1, 1) := by decide +kernel
theorem d_x_save_1 : decode prog_1_method_38_code 1 = .ok (.iconst 0, 1) := by decide +kernel
theorem d_x_save_2 : decode prog_1_method_38_code 2 = .ok (.iconst 1, 1) := by decide +kernel
theorem d_x_save_3 : decode prog_1_method_38_code 3 = .ok (.invokestatic 35, 3) := by decide +kernel
theorem d_x_save_6 : decode prog_1_method_38_code 6 = .ok (.ifCond .ne 7, 3) := by decide +kernel
theorem d_x_save_9 : decode prog_1_method_38_code 9 = .ok (.sipush (-1005), 3) := by decide +kernel
theorem d_x_save_12 : decode prog_1_method_38_code 12 = .ok (.ireturn, 1) := by decide +kernel
theorem d_x_save_13 : decode prog_1_method_38_code 13 = .ok (.aload_n 0, 1) := by decide +kernel
theorem d_x_save_14 : decode prog_1_method_38_code 14 = .ok (.getfield 16, 3) := by decide +kernel
theorem d_x_save_17 : decode prog_1_method_38_code 17 = .ok (.iload_n 1, 1) := by decide +kernel
theorem d_x_save_18 : decode prog_1_method_38_code 18 = .ok (.aaload, 1) := by decide +kernel
theorem d_x_save_19 : decode prog_1_method_38_code 19 = .ok (.aload_n 0, 1) := by decide +kernel
theorem d_x_save_20 : decode prog_1_method_38_code 20 = .ok (.getfield 12, 3) := by decide +kernel
theorem d_x_save_23 : decode prog_1_method_38_code 23 = .ok (.invokevirtual 225, 3) := by decide +kernel
theorem d_x_save_26 : decode prog_1_method_38_code 26 = .ok (.aload_n 0, 1) := by decide +kernel
theorem d_x_save_27 : decode prog_1_method_38_code 27 = .ok (.getfield 20, 3) := by decide +kernel
theorem d_x_save_30 : decode prog_1_method_38_code 30 = .ok (.iload_n 1, 1) := by decide +kernel
theorem d_x_save_31 : decode prog_1_method_38_code 31 = .ok (.iconst 1, 1) := by decide +kernel
theorem d_x_save_32 : decode prog_1_method_38_code 32 = .ok (.bastore, 1) := by decide +kernel
theorem d_x_save_33 : decode prog_1_method_38_code 33 = .ok (.iconst 1, 1) := by decide +kernel
theorem d_x_save_34 : decode prog_1_method_38_code 34 = .ok (.ireturn, 1) := by decide +kernel
theorem d_x_restore_0 : decode prog_1_method_39_code 0 = .ok (.iload_n 1, 1) := by decide +kernel
theorem d_x_restore_1 : decode prog_1_method_39_code 1 = .ok (.iconst 0, 1) := by decide +kernel
theorem d_x_restore_2 : decode prog_1_method_39_code 2 = .ok (.iconst 1, 1) := by decide +kernel
theorem d_x_restore_3 : decode prog_1_method_39_code 3 = .ok (.invokestatic 35, 3) := by decide +kernel
theorem d_x_restore_6 : decode prog_1_method_39_code 6 = .ok (.ifCond .ne 7, 3) := by decide +kernel
theorem d_x_restore_9 : decode prog_1_method_39_code 9 = .ok (.sipush (-1005), 3) := by decide +kernel
theorem d_x_restore_12 : decode prog_1_method_39_code 12 = .ok (.ireturn, 1) := by decide +kernel
theorem d_x_restore_13 : decode prog_1_method_39_code 13 = .ok (.aload_n 0, 1) := by decide +kernel
theorem d_x_restore_14 : decode prog_1_method_39_code 14 = .ok (.getfield 20, 3) := by decide +kernel
theorem d_x_restore_17 : decode prog_1_method_39_code 17 = .ok (.iload_n 1, 1) := by decide +kernel
theorem d_x_restore_18 : decode prog_1_method_39_code 18 = .ok (.baload, 1) := by decide +kernel
theorem d_x_restore_19 : decode prog_1_method_39_code 19 = .ok (.ifCond .ne 7, 3) := by decide +kernel
theorem d_x_restore_22 : decode prog_1_method_39_code 22 = .ok (.sipush (-1011), 3) := by decide +kernel
theorem d_x_restore_25 : decode prog_1_method_39_code 25 = .ok (.ireturn, 1) := by decide +kernel
theorem d_x_restore_26 : decode prog_1_method_39_code 26 = .ok (.aload_n 0, 1) := by decide +kernel
theorem d_x_restore_27 : decode prog_1_method_39_code 27 = .ok (.getfield 12, 3) := by decide +kernel
theorem d_x_restore_30 : decode prog_1_method_39_code 30 = .ok (.aload_n 0, 1) := by decide +kernel
theorem d_x_restore_31 : decode prog_1_method_39_code 31 = .ok (.getfield 16, 3) := by decide +kernel
theorem d_x_restore_34 : decode prog_1_method_39_code 34 = .ok (.iload_n 1, 1) := by decide +kernel
theorem d_x_restore_35 : decode prog_1_method_39_code 35 = .ok (.aaload, 1) := by decide +kernel
theorem d_x_restore_36 : decode prog_1_method_39_code 36 = .ok (.invokevirtual 225, 3) := by decide +kernel
theorem d_x_restore_39 : decode prog_1_method_39_code 39 = .ok (.iconst 1, 1) := by decide +kernel
theorem d_x_restore_40 : decode prog_1_method_39_code 40 = .ok (.ireturn, 1) := by decide +kernel
theorem d_m_in_0 : decode prog_8_method_2_code 0 = .ok (.iload_n 0, 1) := by decide +kernel
theorem d_m_in_1 : decode prog_8_method_2_code 1 = .ok (.iload_n 1, 1) := by decide +kernel
theorem d_m_in_2 : decode prog_8_method_2_code 2 = .ok (.if_icmp .lt 12, 3) := by decide +kernel
theorem d_m_in_5 : decode prog_8_method_2_code 5 = .ok (.iload_n 0, 1) := by decide +kernel
theorem d_m_in_6 : decode prog_8_method_2_code 6 = .ok (.iload_n 2, 1) := by decide +kernel
theorem d_m_in_7 : decode prog_8_method_2_code 7 = .ok (.if_icmp .gt 7, 3) := by decide +kernel
theorem d_m_in_10 : decode prog_8_method_2_code 10 = .ok (.iconst 1, 1) := by decide +kernel
theorem d_m_in_11 : decode prog_8_method_2_code 11 = .ok (.goto 4, 3) := by decide +kernel
theorem d_m_in_14 : decode prog_8_method_2_code 14 = .ok (.iconst 0, 1) := by decide +kernel
theorem d_m_in_15 : decode prog_8_method_2_code 15 = .ok (.ireturn, 1) := by decide +kernel
theorem d_m_isPiece_0 : decode prog_8_method_3_code 0 = .ok (.iload_n 1, 1) := by decide +kernel
theorem d_m_isPiece_1 : decode prog_8_method_3_code 1 = .ok (.iconst 0, 1) := by decide +kernel
theorem d_m_isPiece_2 : decode prog_8_method_3_code 2 = .ok (.iconst 5, 1) := by decide +kernel
theorem d_m_isPiece_3 : decode prog_8_method_3_code 3 = .ok (.invokestatic 59, 3) := by decide +kernel
theorem d_m_isPiece_6 : decode prog_8_method_3_code 6 = .ok (.ifCond .eq 22, 3) := by decide +kernel
theorem d_m_isPiece_9 : decode prog_8_method_3_code 9 = .ok (.aload_n 0, 1) := by decide +kernel
theorem d_m_isPiece_10 : decode prog_8_method_3_code 10 = .ok (.getfield 7, 3) := by decide +kernel
theorem d_m_isPiece_13 : decode prog_8_method_3_code 13 = .ok (.iconst 0, 1) := by decide +kernel
theorem d_m_isPiece_14 : decode prog_8_method_3_code 14 = .ok (.bipush 6, 2) := by decide +kernel
theorem d_m_isPiece_16 : decode prog_8_method_3_code 16 = .ok (.iload_n 1, 1) := by decide +kernel
theorem d_m_isPiece_17 : decode prog_8_method_3_code 17 = .ok (.imul, 1) := by decide +kernel
theorem d_m_isPiece_18 : decode prog_8_method_3_code 18 = .ok (.iadd, 1) := by decide +kernel
theorem d_m_isPiece_19 : decode prog_8_method_3_code 19 = .ok (.iaload, 1) := by decide +kernel
theorem d_m_isPiece_20 : decode prog_8_method_3_code 20 = .ok (.iconst 1, 1) := by decide +kernel
theorem d_m_isPiece_21 : decode prog_8_method_3_code 21 = .ok (.if_icmp .ne 7, 3) := by decide +kernel
theorem d_m_isPiece_24 : decode prog_8_method_3_code 24 = .ok (.iconst 1, 1) := by decide +kernel
theorem d_m_isPiece_25 : decode prog_8_method_3_code 25 = .ok (.goto 4, 3) := by decide +kernel
theorem d_m_isPiece_28 : decode prog_8_method_3_code 28 = .ok (.iconst 0, 1) := by decide +kernel
theorem d_m_isPiece_29 : decode prog_8_method_3_code 29 = .ok (.ireturn, 1) := by decide +kernel
theorem d_m_isSize_0 : decode prog_8_method_4_code 0 = .ok (.iload_n 0, 1) := by decide +kernel
theorem d_m_isSize_1 : decode prog_8_method_4_code 1 = .ok (.iconst 0, 1) := by decide +kernel
theorem d_m_isSize_2 : decode prog_8_method_4_code 2 = .ok (.iconst 2, 1) := by decide +kernel
theorem d_m_isSize_3 : decode prog_8_method_4_code 3 = .ok (.invokestatic 59, 3) := by decide +kernel
theorem d_m_isSize_6 : decode prog_8_method_4_code 6 = .ok (.ireturn, 1) := by decide +kernel
theorem d_m_widthOf_0 : decode prog_8_method_5_code 0 = .ok (.aload_n 0, 1) := by decide +kernel
theorem d_m_widthOf_1 : decode prog_8_method_5_code 1 = .ok (.getfield 7, 3) := by decide +kernel
theorem d_m_widthOf_4 : decode prog_8_method_5_code 4 = .ok (.iconst 0, 1) := by decide +kernel
theorem d_m_widthOf_5 : decode prog_8_method_5_code 5 = .ok (.bipush 6, 2) := by decide +kernel
theorem d_m_widthOf_7 : decode prog_8_method_5_code 7 = .ok (.iload_n 1, 1) := by decide +kernel
theorem d_m_widthOf_8 : decode prog_8_method_5_code 8 = .ok (.imul, 1) := by decide +kernel
theorem d_m_widthOf_9 : decode prog_8_method_5_code 9 = .ok (.iadd, 1) := by decide +kernel
theorem d_m_widthOf_10 : decode prog_8_method_5_code 10 = .ok (.iconst 1, 1) := by decide +kernel
theorem d_m_widthOf_11 : decode prog_8_method_5_code 11 = .ok (.iadd, 1) := by decide +kernel
theorem d_m_widthOf_12 : decode prog_8_method_5_code 12 = .ok (.iaload, 1) := by decide +kernel
theorem d_m_widthOf_13 : decode prog_8_method_5_code 13 = .ok (.iload_n 2, 1) := by decide +kernel
theorem d_m_widthOf_14 : decode prog_8_method_5_code 14 = .ok (.aload_n 0, 1) := by decide +kernel
theorem d_m_widthOf_15 : decode prog_8_method_5_code 15 = .ok (.getfield 7, 3) := by decide +kernel
theorem d_m_widthOf_18 : decode prog_8_method_5_code 18 = .ok (.iconst 0, 1) := by decide +kernel
theorem d_m_widthOf_19 : decode prog_8_method_5_code 19 = .ok (.bipush 6, 2) := by decide +kernel
theorem d_m_widthOf_21 : decode prog_8_method_5_code 21 = .ok (.iload_n 1, 1) := by decide +kernel
theorem d_m_widthOf_22 : decode prog_8_method_5_code 22 = .ok (.imul, 1) := by decide +kernel
theorem d_m_widthOf_23 : decode prog_8_method_5_code 23 = .ok (.iadd, 1) := by decide +kernel
theorem d_m_widthOf_24 : decode prog_8_method_5_code 24 = .ok (.iconst 3, 1) := by decide +kernel
theorem d_m_widthOf_25 : decode prog_8_method_5_code 25 = .ok (.iadd, 1) := by decide +kernel
theorem d_m_widthOf_26 : decode prog_8_method_5_code 26 = .ok (.iaload, 1) := by decide +kernel
theorem d_m_widthOf_27 : decode prog_8_method_5_code 27 = .ok (.imul, 1) := by decide +kernel
theorem d_m_widthOf_28 : decode prog_8_method_5_code 28 = .ok (.iadd, 1) := by decide +kernel
theorem d_m_widthOf_29 : decode prog_8_method_5_code 29 = .ok (.ireturn, 1) := by decide +kernel
theorem d_m_lengthOf_0 : decode prog_8_method_6_code 0 = .ok (.aload_n 0, 1) := by decide +kernel
theorem d_m_lengthOf_1 : decode prog_8_method_6_code 1 = .ok (.getfield 7, 3) := by decide +kernel
theorem d_m_lengthOf_4 : decode prog_8_method_6_code 4 = .ok (.iconst 0, 1) := by decide +kernel
theorem d_m_lengthOf_5 : decode prog_8_method_6_code 5 = .ok (.bipush 6, 2) := by decide +kernel
theorem d_m_lengthOf_7 : decode prog_8_method_6_code 7 = .ok (.iload_n 1, 1) := by decide +kernel
theorem d_m_lengthOf_8 : decode prog_8_method_6_code 8 = .ok (.imul, 1) := by decide +kernel
theorem d_m_lengthOf_9 : decode prog_8_method_6_code 9 = .ok (.iadd, 1) := by decide +kernel
theorem d_m_lengthOf_10 : decode prog_8_method_6_code 10 = .ok (.iconst 2, 1) := by decide +kernel
theorem d_m_lengthOf_11 : decode prog_8_method_6_code 11 = .ok (.iadd, 1) := by decide +kernel
theorem d_m_lengthOf_12 : decode prog_8_method_6_code 12 = .ok (.iaload, 1) := by decide +kernel
theorem d_m_lengthOf_13 : decode prog_8_method_6_code 13 = .ok (.iload_n 2, 1) := by decide +kernel
theorem d_m_lengthOf_14 : decode prog_8_method_6_code 14 = .ok (.aload_n 0, 1) := by decide +kernel
theorem d_m_lengthOf_15 : decode prog_8_method_6_code 15 = .ok (.getfield 7, 3) := by decide +kernel
theorem d_m_lengthOf_18 : decode prog_8_method_6_code 18 = .ok (.iconst 0, 1) := by decide +kernel
theorem d_m_lengthOf_19 : decode prog_8_method_6_code 19 = .ok (.bipush 6, 2) := by decide +kernel
theorem d_m_lengthOf_21 : decode prog_8_method_6_code 21 = .ok (.iload_n 1, 1) := by decide +kernel
theorem d_m_lengthOf_22 : decode prog_8_method_6_code 22 = .ok (.imul, 1) := by decide +kernel
theorem d_m_lengthOf_23 : decode prog_8_method_6_code 23 = .ok (.iadd, 1) := by decide +kernel
theorem d_m_lengthOf_24 : decode prog_8_method_6_code 24 = .ok (.iconst 4, 1) := by decide +kernel
theorem d_m_lengthOf_25 : decode prog_8_method_6_code 25 = .ok (.iadd, 1) := by decide +kernel
theorem d_m_lengthOf_26 : decode prog_8_method_6_code 26 = .ok (.iaload, 1) := by decide +kernel
theorem d_m_lengthOf_27 : decode prog_8_method_6_code 27 = .ok (.imul, 1) := by decide +kernel
theorem d_m_lengthOf_28 : decode prog_8_method_6_code 28 = .ok (.iadd, 1) := by decide +kernel
theorem d_m_lengthOf_29 : decode prog_8_method_6_code 29 = .ok (.ireturn, 1) := by decide +kernel
theorem d_m_definePiece_0 : decode prog_8_method_7_code 0 = .ok (.iload_n 1, 1) := by decide +kernel
theorem d_m_definePiece_1 : decode prog_8_method_7_code 1 = .ok (.iconst 0, 1) := by decide +kernel
theorem d_m_definePiece_2 : decode prog_8_method_7_code 2 = .ok (.iconst 5, 1) := by decide +kernel
theorem d_m_definePiece_3 : decode prog_8_method_7_code 3 = .ok (.invokestatic 59, 3) := by decide +kernel
theorem d_m_definePiece_6 : decode prog_8_method_7_code 6 = .ok (.ifCond .ne 7, 3) := by decide +kernel
theorem d_m_definePiece_9 : decode prog_8_method_7_code 9 = .ok (.sipush (-1001), 3) := by decide +kernel
theorem d_m_definePiece_12 : decode prog_8_method_7_code 12 = .ok (.ireturn, 1) := by decide +kernel
theorem d_m_definePiece_13 : decode prog_8_method_7_code 13 = .ok (.iload_n 2, 1) := by decide +kernel
theorem d_m_definePiece_14 : decode prog_8_method_7_code 14 = .ok (.iconst 1, 1) := by decide +kernel
theorem d_m_definePiece_15 : decode prog_8_method_7_code 15 = .ok (.bipush 12, 2) := by decide +kernel
theorem d_m_definePiece_17 : decode prog_8_method_7_code 17 = .ok (.invokestatic 59, 3) := by decide +kernel
theorem d_m_definePiece_20 : decode prog_8_method_7_code 20 = .ok (.ifCond .eq 43, 3) := by decide +kernel
theorem d_m_definePiece_23 : decode prog_8_method_7_code 23 = .ok (.iload_n 3, 1) := by decide +kernel
theorem d_m_definePiece_24 : decode prog_8_method_7_code 24 = .ok (.iconst 1, 1) := by decide +kernel
theorem d_m_definePiece_25 : decode prog_8_method_7_code 25 = .ok (.bipush 12, 2) := by decide +kernel
theorem d_m_definePiece_27 : decode prog_8_method_7_code 27 = .ok (.invokestatic 59, 3) := by decide +kernel
theorem d_m_definePiece_30 : decode prog_8_method_7_code 30 = .ok (.ifCond .eq 33, 3) := by decide +kernel
theorem d_m_definePiece_33 : decode prog_8_method_7_code 33 = .ok (.iload 4, 2) := by decide +kernel
theorem d_m_definePiece_35 : decode prog_8_method_7_code 35 = .ok (.iconst 0, 1) := by decide +kernel
theorem d_m_definePiece_36 : decode prog_8_method_7_code 36 = .ok (.iconst 3, 1) := by decide +kernel
theorem d_m_definePiece_37 : decode prog_8_method_7_code 37 = .ok (.invokestatic 59, 3) := by decide +kernel
theorem d_m_definePiece_40 : decode prog_8_method_7_code 40 = .ok (.ifCond .eq 23, 3) := by decide +kernel
theorem d_m_definePiece_43 : decode prog_8_method_7_code 43 = .ok (.iload 5, 2) := by decide +kernel
theorem d_m_definePiece_45 : decode prog_8_method_7_code 45 = .ok (.iconst 0, 1) := by decide +kernel
theorem d_m_definePiece_46 : decode prog_8_method_7_code 46 = .ok (.iconst 3, 1) := by decide +kernel
theorem d_m_definePiece_47 : decode prog_8_method_7_code 47 = .ok (.invokestatic 59, 3) := by decide +kernel
theorem d_m_definePiece_50 : decode prog_8_method_7_code 50 = .ok (.ifCond .eq 13, 3) := by decide +kernel
theorem d_m_definePiece_53 : decode prog_8_method_7_code 53 = .ok (.iload 6, 2) := by decide +kernel
theorem d_m_definePiece_55 : decode prog_8_method_7_code 55 = .ok (.iconst 1, 1) := by decide +kernel
theorem d_m_definePiece_56 : decode prog_8_method_7_code 56 = .ok (.iconst 2, 1) := by decide +kernel
theorem d_m_definePiece_57 : decode prog_8_method_7_code 57 = .ok (.invokestatic 59, 3) := by decide +kernel
theorem d_m_definePiece_60 : decode prog_8_method_7_code 60 = .ok (.ifCond .ne 7, 3) := by decide +kernel
theorem d_m_definePiece_63 : decode prog_8_method_7_code 63 = .ok (.sipush (-1005), 3) := by decide +kernel
theorem d_m_definePiece_66 : decode prog_8_method_7_code 66 = .ok (.ireturn, 1) := by decide +kernel
theorem d_m_definePiece_67 : decode prog_8_method_7_code 67 = .ok (.iconst 0, 1) := by decide +kernel
theorem d_m_definePiece_68 : decode prog_8_method_7_code 68 = .ok (.bipush 6, 2) := by decide +kernel
theorem d_m_definePiece_70 : decode prog_8_method_7_code 70 = .ok (.iload_n 1, 1) := by decide +kernel
theorem d_m_definePiece_71 : decode prog_8_method_7_code 71 = .ok (.imul, 1) := by decide +kernel
theorem d_m_definePiece_72 : decode prog_8_method_7_code 72 = .ok (.iadd, 1) := by decide +kernel
theorem d_m_definePiece_73 : decode prog_8_method_7_code 73 = .ok (.istore 7, 2) := by decide +kernel
theorem d_m_definePiece_75 : decode prog_8_method_7_code 75 = .ok (.aload_n 0, 1) := by decide +kernel
theorem d_m_definePiece_76 : decode prog_8_method_7_code 76 = .ok (.getfield 7, 3) := by decide +kernel
theorem d_m_definePiece_79 : decode prog_8_method_7_code 79 = .ok (.iload 7, 2) := by decide +kernel
theorem d_m_definePiece_81 : decode prog_8_method_7_code 81 = .ok (.iconst 1, 1) := by decide +kernel
theorem d_m_definePiece_82 : decode prog_8_method_7_code 82 = .ok (.iastore, 1) := by decide +kernel
theorem d_m_definePiece_83 : decode prog_8_method_7_code 83 = .ok (.aload_n 0, 1) := by decide +kernel
theorem d_m_definePiece_84 : decode prog_8_method_7_code 84 = .ok (.getfield 7, 3) := by decide +kernel
theorem d_m_definePiece_87 : decode prog_8_method_7_code 87 = .ok (.iload 7, 2) := by decide +kernel
theorem d_m_definePiece_89 : decode prog_8_method_7_code 89 = .ok (.iconst 1, 1) := by decide +kernel
theorem d_m_definePiece_90 : decode prog_8_method_7_code 90 = .ok (.iadd, 1) := by decide +kernel
theorem d_m_definePiece_91 : decode prog_8_method_7_code 91 = .ok (.iload_n 2, 1) := by decide +kernel
theorem d_m_definePiece_92 : decode prog_8_method_7_code 92 = .ok (.iastore, 1) := by decide +kernel
theorem d_m_definePiece_93 : decode prog_8_method_7_code 93 = .ok (.aload_n 0, 1) := by decide +kernel
theorem d_m_definePiece_94 : decode prog_8_method_7_code 94 = .ok (.getfield 7, 3) := by decide +kernel
theorem d_m_definePiece_97 : decode prog_8_method_7_code 97 = .ok (.iload 7, 2) := by decide +kernel
theorem d_m_definePiece_99 : decode prog_8_method_7_code 99 = .ok (.iconst 2, 1) := by decide +kernel
theorem d_m_definePiece_100 : decode prog_8_method_7_code 100 = .ok (.iadd, 1) := by decide +kernel
theorem d_m_definePiece_101 : decode prog_8_method_7_code 101 = .ok (.iload_n 3, 1) := by decide +kernel
theorem d_m_definePiece_102 : decode prog_8_method_7_code 102 = .ok (.iastore, 1) := by decide +kernel
theorem d_m_definePiece_103 : decode prog_8_method_7_code 103 = .ok (.aload_n 0, 1) := by decide +kernel
theorem d_m_definePiece_104 : decode prog_8_method_7_code 104 = .ok (.getfield 7, 3) := by decide +kernel
theorem d_m_definePiece_107 : decode prog_8_method_7_code 107 = .ok (.iload 7, 2) := by decide +kernel
theorem d_m_definePiece_109 : decode prog_8_method_7_code 109 = .ok (.iconst 3, 1) := by decide +kernel
theorem d_m_definePiece_110 : decode prog_8_method_7_code 110 = .ok (.iadd, 1) := by decide +kernel
theorem d_m_definePiece_111 : decode prog_8_method_7_code 111 = .ok (.iload 4, 2) := by decide +kernel
theorem d_m_definePiece_113 : decode prog_8_method_7_code 113 = .ok (.iastore, 1) := by decide +kernel
theorem d_m_definePiece_114 : decode prog_8_method_7_code 114 = .ok (.aload_n 0, 1) := by decide +kernel
theorem d_m_definePiece_115 : decode prog_8_method_7_code 115 = .ok (.getfield 7, 3) := by decide +kernel
theorem d_m_definePiece_118 : decode prog_8_method_7_code 118 = .ok (.iload 7, 2) := by decide +kernel
theorem d_m_definePiece_120 : decode prog_8_method_7_code 120 = .ok (.iconst 4, 1) := by decide +kernel
theorem d_m_definePiece_121 : decode prog_8_method_7_code 121 = .ok (.iadd, 1) := by decide +kernel
theorem d_m_definePiece_122 : decode prog_8_method_7_code 122 = .ok (.iload 5, 2) := by decide +kernel
theorem d_m_definePiece_124 : decode prog_8_method_7_code 124 = .ok (.iastore, 1) := by decide +kernel
theorem d_m_definePiece_125 : decode prog_8_method_7_code 125 = .ok (.aload_n 0, 1) := by decide +kernel
theorem d_m_definePiece_126 : decode prog_8_method_7_code 126 = .ok (.getfield 7, 3) := by decide +kernel
theorem d_m_definePiece_129 : decode prog_8_method_7_code 129 = .ok (.iload 7, 2) := by decide +kernel
theorem d_m_definePiece_131 : decode prog_8_method_7_code 131 = .ok (.iconst 5, 1) := by decide +kernel
theorem d_m_definePiece_132 : decode prog_8_method_7_code 132 = .ok (.iadd, 1) := by decide +kernel
theorem d_m_definePiece_133 : decode prog_8_method_7_code 133 = .ok (.iload 6, 2) := by decide +kernel
theorem d_m_definePiece_135 : decode prog_8_method_7_code 135 = .ok (.iastore, 1) := by decide +kernel
theorem d_m_definePiece_136 : decode prog_8_method_7_code 136 = .ok (.iconst 0, 1) := by decide +kernel
theorem d_m_definePiece_137 : decode prog_8_method_7_code 137 = .ok (.istore 8, 2) := by decide +kernel
theorem d_m_definePiece_139 : decode prog_8_method_7_code 139 = .ok (.iconst 0, 1) := by decide +kernel
theorem d_m_definePiece_140 : decode prog_8_method_7_code 140 = .ok (.istore 9, 2) := by decide +kernel
theorem d_m_definePiece_142 : decode prog_8_method_7_code 142 = .ok (.iload 9, 2) := by decide +kernel
theorem d_m_definePiece_144 : decode prog_8_method_7_code 144 = .ok (.bipush 6, 2) := by decide +kernel
theorem d_m_definePiece_146 : decode prog_8_method_7_code 146 = .ok (.if_icmp .ge 26, 3) := by decide +kernel
theorem d_m_definePiece_149 : decode prog_8_method_7_code 149 = .ok (.iload 8, 2) := by decide +kernel
theorem d_m_definePiece_151 : decode prog_8_method_7_code 151 = .ok (.aload_n 0, 1) := by decide +kernel
theorem d_m_definePiece_152 : decode prog_8_method_7_code 152 = .ok (.getfield 7, 3) := by decide +kernel
theorem d_m_definePiece_155 : decode prog_8_method_7_code 155 = .ok (.iconst 0, 1) := by decide +kernel
theorem d_m_definePiece_156 : decode prog_8_method_7_code 156 = .ok (.bipush 6, 2) := by decide +kernel
theorem d_m_definePiece_158 : decode prog_8_method_7_code 158 = .ok (.iload 9, 2) := by decide +kernel
theorem d_m_definePiece_160 : decode prog_8_method_7_code 160 = .ok (.imul, 1) := by decide +kernel
theorem d_m_definePiece_161 : decode prog_8_method_7_code 161 = .ok (.iadd, 1) := by decide +kernel
theorem d_m_definePiece_162 : decode prog_8_method_7_code 162 = .ok (.iaload, 1) := by decide +kernel
theorem d_m_definePiece_163 : decode prog_8_method_7_code 163 = .ok (.iadd, 1) := by decide +kernel
theorem d_m_definePiece_164 : decode prog_8_method_7_code 164 = .ok (.istore 8, 2) := by decide +kernel
theorem d_m_definePiece_166 : decode prog_8_method_7_code 166 = .ok (.iinc 9 1, 3) := by decide +kernel
theorem d_m_definePiece_169 : decode prog_8_method_7_code 169 = .ok (.goto (-27), 3) := by decide +kernel
theorem d_m_definePiece_172 : decode prog_8_method_7_code 172 = .ok (.iload 8, 2) := by decide +kernel
theorem d_m_definePiece_174 : decode prog_8_method_7_code 174 = .ok (.ireturn, 1) := by decide +kernel
theorem d_m_dropSeam_0 : decode prog_8_method_8_code 0 = .ok (.bipush 37, 2) := by decide +kernel
theorem d_m_dropSeam_2 : decode prog_8_method_8_code 2 = .ok (.iconst 5, 1) := by decide +kernel
theorem d_m_dropSeam_3 : decode prog_8_method_8_code 3 = .ok (.iload_n 1, 1) := by decide +kernel
theorem d_m_dropSeam_4 : decode prog_8_method_8_code 4 = .ok (.imul, 1) := by decide +kernel
theorem d_m_dropSeam_5 : decode prog_8_method_8_code 5 = .ok (.iadd, 1) := by decide +kernel
theorem d_m_dropSeam_6 : decode prog_8_method_8_code 6 = .ok (.istore_n 2, 1) := by decide +kernel
theorem d_m_dropSeam_7 : decode prog_8_method_8_code 7 = .ok (.iload_n 2, 1) := by decide +kernel
theorem d_m_dropSeam_8 : decode prog_8_method_8_code 8 = .ok (.iconst 5, 1) := by decide +kernel
theorem d_m_dropSeam_9 : decode prog_8_method_8_code 9 = .ok (.iadd, 1) := by decide +kernel
theorem d_m_dropSeam_10 : decode prog_8_method_8_code 10 = .ok (.bipush 67, 2) := by decide +kernel
theorem d_m_dropSeam_12 : decode prog_8_method_8_code 12 = .ok (.if_icmp .ge 23, 3) := by decide +kernel
theorem d_m_dropSeam_15 : decode prog_8_method_8_code 15 = .ok (.aload_n 0, 1) := by decide +kernel
theorem d_m_dropSeam_16 : decode prog_8_method_8_code 16 = .ok (.getfield 7, 3) := by decide +kernel
theorem d_m_dropSeam_19 : decode prog_8_method_8_code 19 = .ok (.iload_n 2, 1) := by decide +kernel
theorem d_m_dropSeam_20 : decode prog_8_method_8_code 20 = .ok (.aload_n 0, 1) := by decide +kernel
theorem d_m_dropSeam_21 : decode prog_8_method_8_code 21 = .ok (.getfield 7, 3) := by decide +kernel
theorem d_m_dropSeam_24 : decode prog_8_method_8_code 24 = .ok (.iload_n 2, 1) := by decide +kernel
theorem d_m_dropSeam_25 : decode prog_8_method_8_code 25 = .ok (.iconst 5, 1) := by decide +kernel
theorem d_m_dropSeam_26 : decode prog_8_method_8_code 26 = .ok (.iadd, 1) := by decide +kernel
theorem d_m_dropSeam_27 : decode prog_8_method_8_code 27 = .ok (.iaload, 1) := by decide +kernel
theorem d_m_dropSeam_28 : decode prog_8_method_8_code 28 = .ok (.iastore, 1) := by decide +kernel
theorem d_m_dropSeam_29 : decode prog_8_method_8_code 29 = .ok (.iinc 2 1, 3) := by decide +kernel
theorem d_m_dropSeam_32 : decode prog_8_method_8_code 32 = .ok (.goto (-25), 3) := by decide +kernel
theorem d_m_dropSeam_35 : decode prog_8_method_8_code 35 = .ok (.aload_n 0, 1) := by decide +kernel
theorem d_m_dropSeam_36 : decode prog_8_method_8_code 36 = .ok (.getfield 7, 3) := by decide +kernel
theorem d_m_dropSeam_39 : decode prog_8_method_8_code 39 = .ok (.bipush 36, 2) := by decide +kernel
theorem d_m_dropSeam_41 : decode prog_8_method_8_code 41 = .ok (.dup2, 1) := by decide +kernel
theorem d_m_dropSeam_42 : decode prog_8_method_8_code 42 = .ok (.iaload, 1) := by decide +kernel
theorem d_m_dropSeam_43 : decode prog_8_method_8_code 43 = .ok (.iconst 1, 1) := by decide +kernel
theorem d_m_dropSeam_44 : decode prog_8_method_8_code 44 = .ok (.isub, 1) := by decide +kernel
theorem d_m_dropSeam_45 : decode prog_8_method_8_code 45 = .ok (.iastore, 1) := by decide +kernel
theorem d_m_dropSeam_46 : decode prog_8_method_8_code 46 = .ok (.return_, 1) := by decide +kernel
theorem d_m_removePiece_0 : decode prog_8_method_9_code 0 = .ok (.aload_n 0, 1) := by decide +kernel
theorem d_m_removePiece_1 : decode prog_8_method_9_code 1 = .ok (.iload_n 1, 1) := by decide +kernel
theorem d_m_removePiece_2 : decode prog_8_method_9_code 2 = .ok (.invokevirtual 63, 3) := by decide +kernel
theorem d_m_removePiece_5 : decode prog_8_method_9_code 5 = .ok (.ifCond .ne 7, 3) := by decide +kernel
theorem d_m_removePiece_8 : decode prog_8_method_9_code 8 = .ok (.sipush (-1001), 3) := by decide +kernel
theorem d_m_removePiece_11 : decode prog_8_method_9_code 11 = .ok (.ireturn, 1) := by decide +kernel
theorem d_m_removePiece_12 : decode prog_8_method_9_code 12 = .ok (.iconst 0, 1) := by decide +kernel
theorem d_m_removePiece_13 : decode prog_8_method_9_code 13 = .ok (.istore_n 2, 1) := by decide +kernel
theorem d_m_removePiece_14 : decode prog_8_method_9_code 14 = .ok (.iload_n 2, 1) := by decide +kernel
theorem d_m_removePiece_15 : decode prog_8_method_9_code 15 = .ok (.bipush 6, 2) := by decide +kernel
theorem d_m_removePiece_17 : decode prog_8_method_9_code 17 = .ok (.if_icmp .ge 23, 3) := by decide +kernel
theorem d_m_removePiece_20 : decode prog_8_method_9_code 20 = .ok (.aload_n 0, 1) := by decide +kernel
theorem d_m_removePiece_21 : decode prog_8_method_9_code 21 = .ok (.getfield 7, 3) := by decide +kernel
