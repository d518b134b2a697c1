theorem d_m_removePiece_24 : decode prog_8_method_9_code 24 = .ok (.iconst 0, 1) := by decide +kernel
theorem d_m_removePiece_25 : decode prog_8_method_9_code 25 = .ok (.bipush 6, 2) := by decide +kernel
theorem d_m_removePiece_27 : decode prog_8_method_9_code 27 = .ok (.iload_n 1, 1) := by decide +kernel
theorem d_m_removePiece_28 : decode prog_8_method_9_code 28 = .ok (.imul, 1) := by decide +kernel
theorem d_m_removePiece_29 : decode prog_8_method_9_code 29 = .ok (.iadd, 1) := by decide +kernel
theorem d_m_removePiece_30 : decode prog_8_method_9_code 30 = .ok (.iload_n 2, 1) := by decide +kernel
theorem d_m_removePiece_31 : decode prog_8_method_9_code 31 = .ok (.iadd, 1) := by decide +kernel
theorem d_m_removePiece_32 : decode prog_8_method_9_code 32 = .ok (.iconst 0, 1) := by decide +kernel
theorem d_m_removePiece_33 : decode prog_8_method_9_code 33 = .ok (.iastore, 1) := by decide +kernel
theorem d_m_removePiece_34 : decode prog_8_method_9_code 34 = .ok (.iinc 2 1, 3) := by decide +kernel
theorem d_m_removePiece_37 : decode prog_8_method_9_code 37 = .ok (.goto (-23), 3) := by decide +kernel
theorem d_m_removePiece_40 : decode prog_8_method_9_code 40 = .ok (.aload_n 0, 1) := by decide +kernel
theorem d_m_removePiece_41 : decode prog_8_method_9_code 41 = .ok (.getfield 7, 3) := by decide +kernel
theorem d_m_removePiece_44 : decode prog_8_method_9_code 44 = .ok (.bipush 36, 2) := by decide +kernel
theorem d_m_removePiece_46 : decode prog_8_method_9_code 46 = .ok (.iaload, 1) := by decide +kernel
theorem d_m_removePiece_47 : decode prog_8_method_9_code 47 = .ok (.iconst 1, 1) := by decide +kernel
theorem d_m_removePiece_48 : decode prog_8_method_9_code 48 = .ok (.isub, 1) := by decide +kernel
theorem d_m_removePiece_49 : decode prog_8_method_9_code 49 = .ok (.istore_n 2, 1) := by decide +kernel
theorem d_m_removePiece_50 : decode prog_8_method_9_code 50 = .ok (.iload_n 2, 1) := by decide +kernel
theorem d_m_removePiece_51 : decode prog_8_method_9_code 51 = .ok (.ifCond .lt 46, 3) := by decide +kernel
theorem d_m_removePiece_54 : decode prog_8_method_9_code 54 = .ok (.aload_n 0, 1) := by decide +kernel
theorem d_m_removePiece_55 : decode prog_8_method_9_code 55 = .ok (.getfield 7, 3) := by decide +kernel
theorem d_m_removePiece_58 : decode prog_8_method_9_code 58 = .ok (.bipush 37, 2) := by decide +kernel
theorem d_m_removePiece_60 : decode prog_8_method_9_code 60 = .ok (.iconst 5, 1) := by decide +kernel
theorem d_m_removePiece_61 : decode prog_8_method_9_code 61 = .ok (.iload_n 2, 1) := by decide +kernel
theorem d_m_removePiece_62 : decode prog_8_method_9_code 62 = .ok (.imul, 1) := by decide +kernel
theorem d_m_removePiece_63 : decode prog_8_method_9_code 63 = .ok (.iadd, 1) := by decide +kernel
theorem d_m_removePiece_64 : decode prog_8_method_9_code 64 = .ok (.iaload, 1) := by decide +kernel
theorem d_m_removePiece_65 : decode prog_8_method_9_code 65 = .ok (.iload_n 1, 1) := by decide +kernel
theorem d_m_removePiece_66 : decode prog_8_method_9_code 66 = .ok (.if_icmp .eq 20, 3) := by decide +kernel
theorem d_m_removePiece_69 : decode prog_8_method_9_code 69 = .ok (.aload_n 0, 1) := by decide +kernel
theorem d_m_removePiece_70 : decode prog_8_method_9_code 70 = .ok (.getfield 7, 3) := by decide +kernel
theorem d_m_removePiece_73 : decode prog_8_method_9_code 73 = .ok (.bipush 37, 2) := by decide +kernel
theorem d_m_removePiece_75 : decode prog_8_method_9_code 75 = .ok (.iconst 5, 1) := by decide +kernel
theorem d_m_removePiece_76 : decode prog_8_method_9_code 76 = .ok (.iload_n 2, 1) := by decide +kernel
theorem d_m_removePiece_77 : decode prog_8_method_9_code 77 = .ok (.imul, 1) := by decide +kernel
theorem d_m_removePiece_78 : decode prog_8_method_9_code 78 = .ok (.iadd, 1) := by decide +kernel
theorem d_m_removePiece_79 : decode prog_8_method_9_code 79 = .ok (.iconst 2, 1) := by decide +kernel
theorem d_m_removePiece_80 : decode prog_8_method_9_code 80 = .ok (.iadd, 1) := by decide +kernel
theorem d_m_removePiece_81 : decode prog_8_method_9_code 81 = .ok (.iaload, 1) := by decide +kernel
theorem d_m_removePiece_82 : decode prog_8_method_9_code 82 = .ok (.iload_n 1, 1) := by decide +kernel
theorem d_m_removePiece_83 : decode prog_8_method_9_code 83 = .ok (.if_icmp .ne 8, 3) := by decide +kernel
theorem d_m_removePiece_86 : decode prog_8_method_9_code 86 = .ok (.aload_n 0, 1) := by decide +kernel
theorem d_m_removePiece_87 : decode prog_8_method_9_code 87 = .ok (.iload_n 2, 1) := by decide +kernel
theorem d_m_removePiece_88 : decode prog_8_method_9_code 88 = .ok (.invokevirtual 67, 3) := by decide +kernel
theorem d_m_removePiece_91 : decode prog_8_method_9_code 91 = .ok (.iinc 2 (-1), 3) := by decide +kernel
theorem d_m_removePiece_94 : decode prog_8_method_9_code 94 = .ok (.goto (-44), 3) := by decide +kernel
theorem d_m_removePiece_97 : decode prog_8_method_9_code 97 = .ok (.aload_n 0, 1) := by decide +kernel
theorem d_m_removePiece_98 : decode prog_8_method_9_code 98 = .ok (.getfield 7, 3) := by decide +kernel
theorem d_m_removePiece_101 : decode prog_8_method_9_code 101 = .ok (.bipush 36, 2) := by decide +kernel
theorem d_m_removePiece_103 : decode prog_8_method_9_code 103 = .ok (.iaload, 1) := by decide +kernel
theorem d_m_removePiece_104 : decode prog_8_method_9_code 104 = .ok (.ireturn, 1) := by decide +kernel
theorem d_m_pieceWidth_0 : decode prog_8_method_10_code 0 = .ok (.aload_n 0, 1) := by decide +kernel
theorem d_m_pieceWidth_1 : decode prog_8_method_10_code 1 = .ok (.iload_n 1, 1) := by decide +kernel
theorem d_m_pieceWidth_2 : decode prog_8_method_10_code 2 = .ok (.invokevirtual 63, 3) := by decide +kernel
theorem d_m_pieceWidth_5 : decode prog_8_method_10_code 5 = .ok (.ifCond .ne 7, 3) := by decide +kernel
theorem d_m_pieceWidth_8 : decode prog_8_method_10_code 8 = .ok (.sipush (-1001), 3) := by decide +kernel
theorem d_m_pieceWidth_11 : decode prog_8_method_10_code 11 = .ok (.ireturn, 1) := by decide +kernel
theorem d_m_pieceWidth_12 : decode prog_8_method_10_code 12 = .ok (.iload_n 2, 1) := by decide +kernel
theorem d_m_pieceWidth_13 : decode prog_8_method_10_code 13 = .ok (.invokestatic 71, 3) := by decide +kernel
theorem d_m_pieceWidth_16 : decode prog_8_method_10_code 16 = .ok (.ifCond .eq 12, 3) := by decide +kernel
theorem d_m_pieceWidth_19 : decode prog_8_method_10_code 19 = .ok (.aload_n 0, 1) := by decide +kernel
theorem d_m_pieceWidth_20 : decode prog_8_method_10_code 20 = .ok (.iload_n 1, 1) := by decide +kernel
theorem d_m_pieceWidth_21 : decode prog_8_method_10_code 21 = .ok (.iload_n 2, 1) := by decide +kernel
theorem d_m_pieceWidth_22 : decode prog_8_method_10_code 22 = .ok (.invokevirtual 74, 3) := by decide +kernel
theorem d_m_pieceWidth_25 : decode prog_8_method_10_code 25 = .ok (.goto 6, 3) := by decide +kernel
theorem d_m_pieceWidth_28 : decode prog_8_method_10_code 28 = .ok (.sipush (-1002), 3) := by decide +kernel
theorem d_m_pieceWidth_31 : decode prog_8_method_10_code 31 = .ok (.ireturn, 1) := by decide +kernel
theorem d_m_pieceLength_0 : decode prog_8_method_11_code 0 = .ok (.aload_n 0, 1) := by decide +kernel
theorem d_m_pieceLength_1 : decode prog_8_method_11_code 1 = .ok (.iload_n 1, 1) := by decide +kernel
theorem d_m_pieceLength_2 : decode prog_8_method_11_code 2 = .ok (.invokevirtual 63, 3) := by decide +kernel
theorem d_m_pieceLength_5 : decode prog_8_method_11_code 5 = .ok (.ifCond .ne 7, 3) := by decide +kernel
theorem d_m_pieceLength_8 : decode prog_8_method_11_code 8 = .ok (.sipush (-1001), 3) := by decide +kernel
theorem d_m_pieceLength_11 : decode prog_8_method_11_code 11 = .ok (.ireturn, 1) := by decide +kernel
theorem d_m_pieceLength_12 : decode prog_8_method_11_code 12 = .ok (.iload_n 2, 1) := by decide +kernel
theorem d_m_pieceLength_13 : decode prog_8_method_11_code 13 = .ok (.invokestatic 71, 3) := by decide +kernel
theorem d_m_pieceLength_16 : decode prog_8_method_11_code 16 = .ok (.ifCond .eq 12, 3) := by decide +kernel
theorem d_m_pieceLength_19 : decode prog_8_method_11_code 19 = .ok (.aload_n 0, 1) := by decide +kernel
theorem d_m_pieceLength_20 : decode prog_8_method_11_code 20 = .ok (.iload_n 1, 1) := by decide +kernel
theorem d_m_pieceLength_21 : decode prog_8_method_11_code 21 = .ok (.iload_n 2, 1) := by decide +kernel
theorem d_m_pieceLength_22 : decode prog_8_method_11_code 22 = .ok (.invokevirtual 78, 3) := by decide +kernel
theorem d_m_pieceLength_25 : decode prog_8_method_11_code 25 = .ok (.goto 6, 3) := by decide +kernel
theorem d_m_pieceLength_28 : decode prog_8_method_11_code 28 = .ok (.sipush (-1002), 3) := by decide +kernel
theorem d_m_pieceLength_31 : decode prog_8_method_11_code 31 = .ok (.ireturn, 1) := by decide +kernel
theorem d_m_addSeam_0 : decode prog_8_method_12_code 0 = .ok (.aload_n 0, 1) := by decide +kernel
theorem d_m_addSeam_1 : decode prog_8_method_12_code 1 = .ok (.iload_n 1, 1) := by decide +kernel
theorem d_m_addSeam_2 : decode prog_8_method_12_code 2 = .ok (.invokevirtual 63, 3) := by decide +kernel
theorem d_m_addSeam_5 : decode prog_8_method_12_code 5 = .ok (.ifCond .eq 11, 3) := by decide +kernel
theorem d_m_addSeam_8 : decode prog_8_method_12_code 8 = .ok (.aload_n 0, 1) := by decide +kernel
theorem d_m_addSeam_9 : decode prog_8_method_12_code 9 = .ok (.iload_n 3, 1) := by decide +kernel
theorem d_m_addSeam_10 : decode prog_8_method_12_code 10 = .ok (.invokevirtual 63, 3) := by decide +kernel
theorem d_m_addSeam_13 : decode prog_8_method_12_code 13 = .ok (.ifCond .ne 7, 3) := by decide +kernel
theorem d_m_addSeam_16 : decode prog_8_method_12_code 16 = .ok (.sipush (-1001), 3) := by decide +kernel
theorem d_m_addSeam_19 : decode prog_8_method_12_code 19 = .ok (.ireturn, 1) := by decide +kernel
theorem d_m_addSeam_20 : decode prog_8_method_12_code 20 = .ok (.iload_n 2, 1) := by decide +kernel
theorem d_m_addSeam_21 : decode prog_8_method_12_code 21 = .ok (.iconst 0, 1) := by decide +kernel
theorem d_m_addSeam_22 : decode prog_8_method_12_code 22 = .ok (.iconst 1, 1) := by decide +kernel
theorem d_m_addSeam_23 : decode prog_8_method_12_code 23 = .ok (.invokestatic 59, 3) := by decide +kernel
theorem d_m_addSeam_26 : decode prog_8_method_12_code 26 = .ok (.ifCond .eq 24, 3) := by decide +kernel
theorem d_m_addSeam_29 : decode prog_8_method_12_code 29 = .ok (.iload 4, 2) := by decide +kernel
theorem d_m_addSeam_31 : decode prog_8_method_12_code 31 = .ok (.iconst 0, 1) := by decide +kernel
theorem d_m_addSeam_32 : decode prog_8_method_12_code 32 = .ok (.iconst 1, 1) := by decide +kernel
theorem d_m_addSeam_33 : decode prog_8_method_12_code 33 = .ok (.invokestatic 59, 3) := by decide +kernel
theorem d_m_addSeam_36 : decode prog_8_method_12_code 36 = .ok (.ifCond .eq 14, 3) := by decide +kernel
theorem d_m_addSeam_39 : decode prog_8_method_12_code 39 = .ok (.iload 5, 2) := by decide +kernel
theorem d_m_addSeam_41 : decode prog_8_method_12_code 41 = .ok (.bipush (-3), 2) := by decide +kernel
theorem d_m_addSeam_43 : decode prog_8_method_12_code 43 = .ok (.iconst 3, 1) := by decide +kernel
theorem d_m_addSeam_44 : decode prog_8_method_12_code 44 = .ok (.invokestatic 59, 3) := by decide +kernel
theorem d_m_addSeam_47 : decode prog_8_method_12_code 47 = .ok (.ifCond .ne 7, 3) := by decide +kernel
theorem d_m_addSeam_50 : decode prog_8_method_12_code 50 = .ok (.sipush (-1005), 3) := by decide +kernel
theorem d_m_addSeam_53 : decode prog_8_method_12_code 53 = .ok (.ireturn, 1) := by decide +kernel
theorem d_m_addSeam_54 : decode prog_8_method_12_code 54 = .ok (.aload_n 0, 1) := by decide +kernel
theorem d_m_addSeam_55 : decode prog_8_method_12_code 55 = .ok (.getfield 7, 3) := by decide +kernel
theorem d_m_addSeam_58 : decode prog_8_method_12_code 58 = .ok (.bipush 36, 2) := by decide +kernel
theorem d_m_addSeam_60 : decode prog_8_method_12_code 60 = .ok (.iaload, 1) := by decide +kernel
theorem d_m_addSeam_61 : decode prog_8_method_12_code 61 = .ok (.bipush 6, 2) := by decide +kernel
theorem d_m_addSeam_63 : decode prog_8_method_12_code 63 = .ok (.if_icmp .ne 7, 3) := by decide +kernel
theorem d_m_addSeam_66 : decode prog_8_method_12_code 66 = .ok (.sipush (-1006), 3) := by decide +kernel
theorem d_m_addSeam_69 : decode prog_8_method_12_code 69 = .ok (.ireturn, 1) := by decide +kernel
theorem d_m_addSeam_70 : decode prog_8_method_12_code 70 = .ok (.bipush 37, 2) := by decide +kernel
theorem d_m_addSeam_72 : decode prog_8_method_12_code 72 = .ok (.iconst 5, 1) := by decide +kernel
theorem d_m_addSeam_73 : decode prog_8_method_12_code 73 = .ok (.aload_n 0, 1) := by decide +kernel
theorem d_m_addSeam_74 : decode prog_8_method_12_code 74 = .ok (.getfield 7, 3) := by decide +kernel
theorem d_m_addSeam_77 : decode prog_8_method_12_code 77 = .ok (.bipush 36, 2) := by decide +kernel
theorem d_m_addSeam_79 : decode prog_8_method_12_code 79 = .ok (.iaload, 1) := by decide +kernel
theorem d_m_addSeam_80 : decode prog_8_method_12_code 80 = .ok (.imul, 1) := by decide +kernel
theorem d_m_addSeam_81 : decode prog_8_method_12_code 81 = .ok (.iadd, 1) := by decide +kernel
theorem d_m_addSeam_82 : decode prog_8_method_12_code 82 = .ok (.istore 6, 2) := by decide +kernel
theorem d_m_addSeam_84 : decode prog_8_method_12_code 84 = .ok (.aload_n 0, 1) := by decide +kernel
theorem d_m_addSeam_85 : decode prog_8_method_12_code 85 = .ok (.getfield 7, 3) := by decide +kernel
theorem d_m_addSeam_88 : decode prog_8_method_12_code 88 = .ok (.iload 6, 2) := by decide +kernel
theorem d_m_addSeam_90 : decode prog_8_method_12_code 90 = .ok (.iload_n 1, 1) := by decide +kernel
theorem d_m_addSeam_91 : decode prog_8_method_12_code 91 = .ok (.iastore, 1) := by decide +kernel
theorem d_m_addSeam_92 : decode prog_8_method_12_code 92 = .ok (.aload_n 0, 1) := by decide +kernel
theorem d_m_addSeam_93 : decode prog_8_method_12_code 93 = .ok (.getfield 7, 3) := by decide +kernel
theorem d_m_addSeam_96 : decode prog_8_method_12_code 96 = .ok (.iload 6, 2) := by decide +kernel
theorem d_m_addSeam_98 : decode prog_8_method_12_code 98 = .ok (.iconst 1, 1) := by decide +kernel
theorem d_m_addSeam_99 : decode prog_8_method_12_code 99 = .ok (.iadd, 1) := by decide +kernel
theorem d_m_addSeam_100 : decode prog_8_method_12_code 100 = .ok (.iload_n 2, 1) := by decide +kernel
theorem d_m_addSeam_101 : decode prog_8_method_12_code 101 = .ok (.iastore, 1) := by decide +kernel
theorem d_m_addSeam_102 : decode prog_8_method_12_code 102 = .ok (.aload_n 0, 1) := by decide +kernel
theorem d_m_addSeam_103 : decode prog_8_method_12_code 103 = .ok (.getfield 7, 3) := by decide +kernel
theorem d_m_addSeam_106 : decode prog_8_method_12_code 106 = .ok (.iload 6, 2) := by decide +kernel
theorem d_m_addSeam_108 : decode prog_8_method_12_code 108 = .ok (.iconst 2, 1) := by decide +kernel
theorem d_m_addSeam_109 : decode prog_8_method_12_code 109 = .ok (.iadd, 1) := by decide +kernel
theorem d_m_addSeam_110 : decode prog_8_method_12_code 110 = .ok (.iload_n 3, 1) := by decide +kernel
theorem d_m_addSeam_111 : decode prog_8_method_12_code 111 = .ok (.iastore, 1) := by decide +kernel
theorem d_m_addSeam_112 : decode prog_8_method_12_code 112 = .ok (.aload_n 0, 1) := by decide +kernel
theorem d_m_addSeam_113 : decode prog_8_method_12_code 113 = .ok (.getfield 7, 3) := by decide +kernel
theorem d_m_addSeam_116 : decode prog_8_method_12_code 116 = .ok (.iload 6, 2) := by decide +kernel
theorem d_m_addSeam_118 : decode prog_8_method_12_code 118 = .ok (.iconst 3, 1) := by decide +kernel
theorem d_m_addSeam_119 : decode prog_8_method_12_code 119 = .ok (.iadd, 1) := by decide +kernel
theorem d_m_addSeam_120 : decode prog_8_method_12_code 120 = .ok (.iload 4, 2) := by decide +kernel
theorem d_m_addSeam_122 : decode prog_8_method_12_code 122 = .ok (.iastore, 1) := by decide +kernel
theorem d_m_addSeam_123 : decode prog_8_method_12_code 123 = .ok (.aload_n 0, 1) := by decide +kernel
theorem d_m_addSeam_124 : decode prog_8_method_12_code 124 = .ok (.getfield 7, 3) := by decide +kernel
theorem d_m_addSeam_127 : decode prog_8_method_12_code 127 = .ok (.iload 6, 2) := by decide +kernel
theorem d_m_addSeam_129 : decode prog_8_method_12_code 129 = .ok (.iconst 4, 1) := by decide +kernel
theorem d_m_addSeam_130 : decode prog_8_method_12_code 130 = .ok (.iadd, 1) := by decide +kernel
theorem d_m_addSeam_131 : decode prog_8_method_12_code 131 = .ok (.iload 5, 2) := by decide +kernel
theorem d_m_addSeam_133 : decode prog_8_method_12_code 133 = .ok (.iastore, 1) := by decide +kernel
theorem d_m_addSeam_134 : decode prog_8_method_12_code 134 = .ok (.aload_n 0, 1) := by decide +kernel
theorem d_m_addSeam_135 : decode prog_8_method_12_code 135 = .ok (.getfield 7, 3) := by decide +kernel
theorem d_m_addSeam_138 : decode prog_8_method_12_code 138 = .ok (.bipush 36, 2) := by decide +kernel
theorem d_m_addSeam_140 : decode prog_8_method_12_code 140 = .ok (.dup2, 1) := by decide +kernel
theorem d_m_addSeam_141 : decode prog_8_method_12_code 141 = .ok (.iaload, 1) := by decide +kernel
theorem d_m_addSeam_142 : decode prog_8_method_12_code 142 = .ok (.iconst 1, 1) := by decide +kernel
theorem d_m_addSeam_143 : decode prog_8_method_12_code 143 = .ok (.iadd, 1) := by decide +kernel
theorem d_m_addSeam_144 : decode prog_8_method_12_code 144 = .ok (.iastore, 1) := by decide +kernel
theorem d_m_addSeam_145 : decode prog_8_method_12_code 145 = .ok (.aload_n 0, 1) := by decide +kernel
theorem d_m_addSeam_146 : decode prog_8_method_12_code 146 = .ok (.getfield 7, 3) := by decide +kernel
theorem d_m_addSeam_149 : decode prog_8_method_12_code 149 = .ok (.bipush 36, 2) := by decide +kernel
theorem d_m_addSeam_151 : decode prog_8_method_12_code 151 = .ok (.iaload, 1) := by decide +kernel
theorem d_m_addSeam_152 : decode prog_8_method_12_code 152 = .ok (.iconst 1, 1) := by decide +kernel
theorem d_m_addSeam_153 : decode prog_8_method_12_code 153 = .ok (.isub, 1) := by decide +kernel
theorem d_m_addSeam_154 : decode prog_8_method_12_code 154 = .ok (.ireturn, 1) := by decide +kernel
theorem d_m_seamCount_0 : decode prog_8_method_13_code 0 = .ok (.aload_n 0, 1) := by decide +kernel
theorem d_m_seamCount_1 : decode prog_8_method_13_code 1 = .ok (.getfield 7, 3) := by decide +kernel
theorem d_m_seamCount_4 : decode prog_8_method_13_code 4 = .ok (.bipush 36, 2) := by decide +kernel
theorem d_m_seamCount_6 : decode prog_8_method_13_code 6 = .ok (.iaload, 1) := by decide +kernel
theorem d_m_seamCount_7 : decode prog_8_method_13_code 7 = .ok (.ireturn, 1) := by decide +kernel
theorem d_m_sideOf_0 : decode prog_8_method_14_code 0 = .ok (.iload_n 2, 1) := by decide +kernel
theorem d_m_sideOf_1 : decode prog_8_method_14_code 1 = .ok (.ifCond .ne 12, 3) := by decide +kernel
theorem d_m_sideOf_4 : decode prog_8_method_14_code 4 = .ok (.aload_n 0, 1) := by decide +kernel
theorem d_m_sideOf_5 : decode prog_8_method_14_code 5 = .ok (.iload_n 1, 1) := by decide +kernel
theorem d_m_sideOf_6 : decode prog_8_method_14_code 6 = .ok (.iload_n 3, 1) := by decide +kernel
theorem d_m_sideOf_7 : decode prog_8_method_14_code 7 = .ok (.invokevirtual 74, 3) := by decide +kernel
theorem d_m_sideOf_10 : decode prog_8_method_14_code 10 = .ok (.goto 9, 3) := by decide +kernel
theorem d_m_sideOf_13 : decode prog_8_method_14_code 13 = .ok (.aload_n 0, 1) := by decide +kernel
theorem d_m_sideOf_14 : decode prog_8_method_14_code 14 = .ok (.iload_n 1, 1) := by decide +kernel
theorem d_m_sideOf_15 : decode prog_8_method_14_code 15 = .ok (.iload_n 3, 1) := by decide +kernel
theorem d_m_sideOf_16 : decode prog_8_method_14_code 16 = .ok (.invokevirtual 78, 3) := by decide +kernel
theorem d_m_sideOf_19 : decode prog_8_method_14_code 19 = .ok (.ireturn, 1) := by decide +kernel
theorem d_m_differenceOf_0 : decode prog_8_method_15_code 0 = .ok (.bipush 37, 2) := by decide +kernel
theorem d_m_differenceOf_2 : decode prog_8_method_15_code 2 = .ok (.iconst 5, 1) := by decide +kernel
theorem d_m_differenceOf_3 : decode prog_8_method_15_code 3 = .ok (.iload_n 1, 1) := by decide +kernel
theorem d_m_differenceOf_4 : decode prog_8_method_15_code 4 = .ok (.imul, 1) := by decide +kernel
theorem d_m_differenceOf_5 : decode prog_8_method_15_code 5 = .ok (.iadd, 1) := by decide +kernel
theorem d_m_differenceOf_6 : decode prog_8_method_15_code 6 = .ok (.istore_n 3, 1) := by decide +kernel
theorem d_m_differenceOf_7 : decode prog_8_method_15_code 7 = .ok (.aload_n 0, 1) := by decide +kernel
theorem d_m_differenceOf_8 : decode prog_8_method_15_code 8 = .ok (.aload_n 0, 1) := by decide +kernel
theorem d_m_differenceOf_9 : decode prog_8_method_15_code 9 = .ok (.getfield 7, 3) := by decide +kernel
theorem d_m_differenceOf_12 : decode prog_8_method_15_code 12 = .ok (.iload_n 3, 1) := by decide +kernel
theorem d_m_differenceOf_13 : decode prog_8_method_15_code 13 = .ok (.iaload, 1) := by decide +kernel
theorem d_m_differenceOf_14 : decode prog_8_method_15_code 14 = .ok (.aload_n 0, 1) := by decide +kernel
theorem d_m_differenceOf_15 : decode prog_8_method_15_code 15 = .ok (.getfield 7, 3) := by decide +kernel
theorem d_m_differenceOf_18 : decode prog_8_method_15_code 18 = .ok (.iload_n 3, 1) := by decide +kernel
theorem d_m_differenceOf_19 : decode prog_8_method_15_code 19 = .ok (.iconst 1, 1) := by decide +kernel
theorem d_m_differenceOf_20 : decode prog_8_method_15_code 20 = .ok (.iadd, 1) := by decide +kernel
theorem d_m_differenceOf_21 : decode prog_8_method_15_code 21 = .ok (.iaload, 1) := by decide +kernel
theorem d_m_differenceOf_22 : decode prog_8_method_15_code 22 = .ok (.iload_n 2, 1) := by decide +kernel
theorem d_m_differenceOf_23 : decode prog_8_method_15_code 23 = .ok (.invokevirtual 81, 3) := by decide +kernel
theorem d_m_differenceOf_26 : decode prog_8_method_15_code 26 = .ok (.aload_n 0, 1) := by decide +kernel
theorem d_m_differenceOf_27 : decode prog_8_method_15_code 27 = .ok (.aload_n 0, 1) := by decide +kernel
theorem d_m_differenceOf_28 : decode prog_8_method_15_code 28 = .ok (.getfield 7, 3) := by decide +kernel
theorem d_m_differenceOf_31 : decode prog_8_method_15_code 31 = .ok (.iload_n 3, 1) := by decide +kernel
theorem d_m_differenceOf_32 : decode prog_8_method_15_code 32 = .ok (.iconst 2, 1) := by decide +kernel
theorem d_m_differenceOf_33 : decode prog_8_method_15_code 33 = .ok (.iadd, 1) := by decide +kernel
theorem d_m_differenceOf_34 : decode prog_8_method_15_code 34 = .ok (.iaload, 1) := by decide +kernel
theorem d_m_differenceOf_35 : decode prog_8_method_15_code 35 = .ok (.aload_n 0, 1) := by decide +kernel
theorem d_m_differenceOf_36 : decode prog_8_method_15_code 36 = .ok (.getfield 7, 3) := by decide +kernel
theorem d_m_differenceOf_39 : decode prog_8_method_15_code 39 = .ok (.iload_n 3, 1) := by decide +kernel
theorem d_m_differenceOf_40 : decode prog_8_method_15_code 40 = .ok (.iconst 3, 1) := by decide +kernel
theorem d_m_differenceOf_41 : decode prog_8_method_15_code 41 = .ok (.iadd, 1) := by decide +kernel
theorem d_m_differenceOf_42 : decode prog_8_method_15_code 42 = .ok (.iaload, 1) := by decide +kernel
theorem d_m_differenceOf_43 : decode prog_8_method_15_code 43 = .ok (.iload_n 2, 1) := by decide +kernel
theorem d_m_differenceOf_44 : decode prog_8_method_15_code 44 = .ok (.invokevirtual 81, 3) := by decide +kernel
theorem d_m_differenceOf_47 : decode prog_8_method_15_code 47 = .ok (.isub, 1) := by decide +kernel
theorem d_m_differenceOf_48 : decode prog_8_method_15_code 48 = .ok (.aload_n 0, 1) := by decide +kernel
theorem d_m_differenceOf_49 : decode prog_8_method_15_code 49 = .ok (.getfield 7, 3) := by decide +kernel
theorem d_m_differenceOf_52 : decode prog_8_method_15_code 52 = .ok (.iload_n 3, 1) := by decide +kernel
theorem d_m_differenceOf_53 : decode prog_8_method_15_code 53 = .ok (.iconst 4, 1) := by decide +kernel
theorem d_m_differenceOf_54 : decode prog_8_method_15_code 54 = .ok (.iadd, 1) := by decide +kernel
theorem d_m_differenceOf_55 : decode prog_8_method_15_code 55 = .ok (.iaload, 1) := by decide +kernel
theorem d_m_differenceOf_56 : decode prog_8_method_15_code 56 = .ok (.isub, 1) := by decide +kernel
theorem d_m_differenceOf_57 : decode prog_8_method_15_code 57 = .ok (.ireturn, 1) := by decide +kernel
theorem d_m_seamDifference_0 : decode prog_8_method_16_code 0 = .ok (.iload_n 1, 1) := by decide +kernel
theorem d_m_seamDifference_1 : decode prog_8_method_16_code 1 = .ok (.iconst 0, 1) := by decide +kernel
theorem d_m_seamDifference_2 : decode prog_8_method_16_code 2 = .ok (.aload_n 0, 1) := by decide +kernel
theorem d_m_seamDifference_3 : decode prog_8_method_16_code 3 = .ok (.getfield 7, 3) := by decide +kernel
theorem d_m_seamDifference_6 : decode prog_8_method_16_code 6 = .ok (.bipush 36, 2) := by decide +kernel
theorem d_m_seamDifference_8 : decode prog_8_method_16_code 8 = .ok (.iaload, 1) := by decide +kernel
theorem d_m_seamDifference_9 : decode prog_8_method_16_code 9 = .ok (.iconst 1, 1) := by decide +kernel
theorem d_m_seamDifference_10 : decode prog_8_method_16_code 10 = .ok (.isub, 1) := by decide +kernel
theorem d_m_seamDifference_11 : decode prog_8_method_16_code 11 = .ok (.invokestatic 59, 3) := by decide +kernel
theorem d_m_seamDifference_14 : decode prog_8_method_16_code 14 = .ok (.ifCond .ne 7, 3) := by decide +kernel
theorem d_m_seamDifference_17 : decode prog_8_method_16_code 17 = .ok (.sipush (-1003), 3) := by decide +kernel
theorem d_m_seamDifference_20 : decode prog_8_method_16_code 20 = .ok (.ireturn, 1) := by decide +kernel
theorem d_m_seamDifference_21 : decode prog_8_method_16_code 21 = .ok (.iload_n 2, 1) := by decide +kernel
theorem d_m_seamDifference_22 : decode prog_8_method_16_code 22 = .ok (.invokestatic 71, 3) := by decide +kernel
theorem d_m_seamDifference_25 : decode prog_8_method_16_code 25 = .ok (.ifCond .eq 12, 3) := by decide +kernel
theorem d_m_seamDifference_28 : decode prog_8_method_16_code 28 = .ok (.aload_n 0, 1) := by decide +kernel
theorem d_m_seamDifference_29 : decode prog_8_method_16_code 29 = .ok (.iload_n 1, 1) := by decide +kernel
theorem d_m_seamDifference_30 : decode prog_8_method_16_code 30 = .ok (.iload_n 2, 1) := by decide +kernel
theorem d_m_seamDifference_31 : decode prog_8_method_16_code 31 = .ok (.invokevirtual 85, 3) := by decide +kernel
theorem d_m_seamDifference_34 : decode prog_8_method_16_code 34 = .ok (.goto 6, 3) := by decide +kernel
theorem d_m_seamDifference_37 : decode prog_8_method_16_code 37 = .ok (.sipush (-1002), 3) := by decide +kernel
theorem d_m_seamDifference_40 : decode prog_8_method_16_code 40 = .ok (.ireturn, 1) := by decide +kernel
theorem d_m_matches_0 : decode prog_8_method_17_code 0 = .ok (.aload_n 0, 1) := by decide +kernel
theorem d_m_matches_1 : decode prog_8_method_17_code 1 = .ok (.iload_n 1, 1) := by decide +kernel
theorem d_m_matches_2 : decode prog_8_method_17_code 2 = .ok (.iconst 0, 1) := by decide +kernel
theorem d_m_matches_3 : decode prog_8_method_17_code 3 = .ok (.invokevirtual 85, 3) := by decide +kernel
theorem d_m_matches_6 : decode prog_8_method_17_code 6 = .ok (.ifCond .ne 25, 3) := by decide +kernel
theorem d_m_matches_9 : decode prog_8_method_17_code 9 = .ok (.aload_n 0, 1) := by decide +kernel
theorem d_m_matches_10 : decode prog_8_method_17_code 10 = .ok (.iload_n 1, 1) := by decide +kernel
theorem d_m_matches_11 : decode prog_8_method_17_code 11 = .ok (.iconst 1, 1) := by decide +kernel
theorem d_m_matches_12 : decode prog_8_method_17_code 12 = .ok (.invokevirtual 85, 3) := by decide +kernel
theorem d_m_matches_15 : decode prog_8_method_17_code 15 = .ok (.ifCond .ne 16, 3) := by decide +kernel
theorem d_m_matches_18 : decode prog_8_method_17_code 18 = .ok (.aload_n 0, 1) := by decide +kernel
theorem d_m_matches_19 : decode prog_8_method_17_code 19 = .ok (.iload_n 1, 1) := by decide +kernel
theorem d_m_matches_20 : decode prog_8_method_17_code 20 = .ok (.iconst 2, 1) := by decide +kernel
theorem d_m_matches_21 : decode prog_8_method_17_code 21 = .ok (.invokevirtual 85, 3) := by decide +kernel
theorem d_m_matches_24 : decode prog_8_method_17_code 24 = .ok (.ifCond .ne 7, 3) := by decide +kernel
theorem d_m_matches_27 : decode prog_8_method_17_code 27 = .ok (.iconst 1, 1) := by decide +kernel
theorem d_m_matches_28 : decode prog_8_method_17_code 28 = .ok (.goto 4, 3) := by decide +kernel
theorem d_m_matches_31 : decode prog_8_method_17_code 31 = .ok (.iconst 0, 1) := by decide +kernel
theorem d_m_matches_32 : decode prog_8_method_17_code 32 = .ok (.ireturn, 1) := by decide +kernel
theorem d_m_matchingSeams_0 : decode prog_8_method_18_code 0 = .ok (.iconst 0, 1) := by decide +kernel
theorem d_m_matchingSeams_1 : decode prog_8_method_18_code 1 = .ok (.istore_n 1, 1) := by decide +kernel
theorem d_m_matchingSeams_2 : decode prog_8_method_18_code 2 = .ok (.iconst 0, 1) := by decide +kernel
theorem d_m_matchingSeams_3 : decode prog_8_method_18_code 3 = .ok (.istore_n 2, 1) := by decide +kernel
theorem d_m_matchingSeams_4 : decode prog_8_method_18_code 4 = .ok (.iload_n 2, 1) := by decide +kernel
theorem d_m_matchingSeams_5 : decode prog_8_method_18_code 5 = .ok (.aload_n 0, 1) := by decide +kernel
theorem d_m_matchingSeams_6 : decode prog_8_method_18_code 6 = .ok (.getfield 7, 3) := by decide +kernel
theorem d_m_matchingSeams_9 : decode prog_8_method_18_code 9 = .ok (.bipush 36, 2) := by decide +kernel
theorem d_m_matchingSeams_11 : decode prog_8_method_18_code 11 = .ok (.iaload, 1) := by decide +kernel
theorem d_m_matchingSeams_12 : decode prog_8_method_18_code 12 = .ok (.if_icmp .ge 25, 3) := by decide +kernel
theorem d_m_matchingSeams_15 : decode prog_8_method_18_code 15 = .ok (.iload_n 1, 1) := by decide +kernel
theorem d_m_matchingSeams_16 : decode prog_8_method_18_code 16 = .ok (.aload_n 0, 1) := by decide +kernel
theorem d_m_matchingSeams_17 : decode prog_8_method_18_code 17 = .ok (.iload_n 2, 1) := by decide +kernel
theorem d_m_matchingSeams_18 : decode prog_8_method_18_code 18 = .ok (.invokevirtual 88, 3) := by decide +kernel
theorem d_m_matchingSeams_21 : decode prog_8_method_18_code 21 = .ok (.ifCond .eq 7, 3) := by decide +kernel
theorem d_m_matchingSeams_24 : decode prog_8_method_18_code 24 = .ok (.iconst 1, 1) := by decide +kernel
theorem d_m_matchingSeams_25 : decode prog_8_method_18_code 25 = .ok (.goto 4, 3) := by decide +kernel
theorem d_m_matchingSeams_28 : decode prog_8_method_18_code 28 = .ok (.iconst 0, 1) := by decide +kernel
theorem d_m_matchingSeams_29 : decode prog_8_method_18_code 29 = .ok (.iadd, 1) := by decide +kernel
theorem d_m_matchingSeams_30 : decode prog_8_method_18_code 30 = .ok (.istore_n 1, 1) := by decide +kernel
theorem d_m_matchingSeams_31 : decode prog_8_method_18_code 31 = .ok (.iinc 2 1, 3) := by decide +kernel
theorem d_m_matchingSeams_34 : decode prog_8_method_18_code 34 = .ok (.goto (-30), 3) := by decide +kernel
theorem d_m_matchingSeams_37 : decode prog_8_method_18_code 37 = .ok (.iload_n 1, 1) := by decide +kernel
theorem d_m_matchingSeams_38 : decode prog_8_method_18_code 38 = .ok (.ireturn, 1) := by decide +kernel
theorem d_m_firstMismatch_0 : decode prog_8_method_19_code 0 = .ok (.iconst 0, 1) := by decide +kernel
theorem d_m_firstMismatch_1 : decode prog_8_method_19_code 1 = .ok (.istore_n 1, 1) := by decide +kernel
theorem d_m_firstMismatch_2 : decode prog_8_method_19_code 2 = .ok (.iload_n 1, 1) := by decide +kernel
theorem d_m_firstMismatch_3 : decode prog_8_method_19_code 3 = .ok (.aload_n 0, 1) := by decide +kernel
theorem d_m_firstMismatch_4 : decode prog_8_method_19_code 4 = .ok (.getfield 7, 3) := by decide +kernel
theorem d_m_firstMismatch_7 : decode prog_8_method_19_code 7 = .ok (.bipush 36, 2) := by decide +kernel
theorem d_m_firstMismatch_9 : decode prog_8_method_19_code 9 = .ok (.iaload, 1) := by decide +kernel
theorem d_m_firstMismatch_10 : decode prog_8_method_19_code 10 = .ok (.if_icmp .ge 19, 3) := by decide +kernel
theorem d_m_firstMismatch_13 : decode prog_8_method_19_code 13 = .ok (.aload_n 0, 1) := by decide +kernel
theorem d_m_firstMismatch_14 : decode prog_8_method_19_code 14 = .ok (.iload_n 1, 1) := by decide +kernel
theorem d_m_firstMismatch_15 : decode prog_8_method_19_code 15 = .ok (.invokevirtual 88, 3) := by decide +kernel
theorem d_m_firstMismatch_18 : decode prog_8_method_19_code 18 = .ok (.ifCond .ne 5, 3) := by decide +kernel
theorem d_m_firstMismatch_21 : decode prog_8_method_19_code 21 = .ok (.iload_n 1, 1) := by decide +kernel
theorem d_m_firstMismatch_22 : decode prog_8_method_19_code 22 = .ok (.ireturn, 1) := by decide +kernel
theorem d_m_firstMismatch_23 : decode prog_8_method_19_code 23 = .ok (.iinc 1 1, 3) := by decide +kernel
theorem d_m_firstMismatch_26 : decode prog_8_method_19_code 26 = .ok (.goto (-24), 3) := by decide +kernel
theorem d_m_firstMismatch_29 : decode prog_8_method_19_code 29 = .ok (.sipush (-1010), 3) := by decide +kernel
theorem d_m_firstMismatch_32 : decode prog_8_method_19_code 32 = .ok (.ireturn, 1) := by decide +kernel
theorem d_m_set_0 : decode prog_8_method_20_code 0 = .ok (.aload_n 0, 1) := by decide +kernel
theorem d_m_set_1 : decode prog_8_method_20_code 1 = .ok (.getfield 7, 3) := by decide +kernel
theorem d_m_set_4 : decode prog_8_method_20_code 4 = .ok (.iload_n 1, 1) := by decide +kernel
theorem d_m_set_5 : decode prog_8_method_20_code 5 = .ok (.iaload, 1) := by decide +kernel
theorem d_m_set_6 : decode prog_8_method_20_code 6 = .ok (.istore_n 3, 1) := by decide +kernel
theorem d_m_set_7 : decode prog_8_method_20_code 7 = .ok (.aload_n 0, 1) := by decide +kernel
theorem d_m_set_8 : decode prog_8_method_20_code 8 = .ok (.getfield 7, 3) := by decide +kernel
theorem d_m_set_11 : decode prog_8_method_20_code 11 = .ok (.iload_n 1, 1) := by decide +kernel
theorem d_m_set_12 : decode prog_8_method_20_code 12 = .ok (.iload_n 2, 1) := by decide +kernel
theorem d_m_set_13 : decode prog_8_method_20_code 13 = .ok (.iastore, 1) := by decide +kernel
theorem d_m_set_14 : decode prog_8_method_20_code 14 = .ok (.iload_n 3, 1) := by decide +kernel
theorem d_m_set_15 : decode prog_8_method_20_code 15 = .ok (.ireturn, 1) := by decide +kernel
theorem d_m_setRatio_0 : decode prog_8_method_21_code 0 = .ok (.iload_n 1, 1) := by decide +kernel
theorem d_m_setRatio_1 : decode prog_8_method_21_code 1 = .ok (.invokestatic 71, 3) := by decide +kernel
theorem d_m_setRatio_4 : decode prog_8_method_21_code 4 = .ok (.ifCond .ne 7, 3) := by decide +kernel
theorem d_m_setRatio_7 : decode prog_8_method_21_code 7 = .ok (.sipush (-1002), 3) := by decide +kernel
theorem d_m_setRatio_10 : decode prog_8_method_21_code 10 = .ok (.ireturn, 1) := by decide +kernel
theorem d_m_setRatio_11 : decode prog_8_method_21_code 11 = .ok (.iload_n 2, 1) := by decide +kernel
theorem d_m_setRatio_12 : decode prog_8_method_21_code 12 = .ok (.iconst 0, 1) := by decide +kernel
theorem d_m_setRatio_13 : decode prog_8_method_21_code 13 = .ok (.iconst 2, 1) := by decide +kernel
theorem d_m_setRatio_14 : decode prog_8_method_21_code 14 = .ok (.invokestatic 59, 3) := by decide +kernel
theorem d_m_setRatio_17 : decode prog_8_method_21_code 17 = .ok (.ifCond .eq 15, 3) := by decide +kernel
theorem d_m_setRatio_20 : decode prog_8_method_21_code 20 = .ok (.aload_n 0, 1) := by decide +kernel
theorem d_m_setRatio_21 : decode prog_8_method_21_code 21 = .ok (.bipush 67, 2) := by decide +kernel
theorem d_m_setRatio_23 : decode prog_8_method_21_code 23 = .ok (.iload_n 1, 1) := by decide +kernel
theorem d_m_setRatio_24 : decode prog_8_method_21_code 24 = .ok (.iadd, 1) := by decide +kernel
theorem d_m_setRatio_25 : decode prog_8_method_21_code 25 = .ok (.iload_n 2, 1) := by decide +kernel
theorem d_m_setRatio_26 : decode prog_8_method_21_code 26 = .ok (.invokevirtual 91, 3) := by decide +kernel
theorem d_m_setRatio_29 : decode prog_8_method_21_code 29 = .ok (.goto 6, 3) := by decide +kernel
theorem d_m_setRatio_32 : decode prog_8_method_21_code 32 = .ok (.sipush (-1005), 3) := by decide +kernel
theorem d_m_setRatio_35 : decode prog_8_method_21_code 35 = .ok (.ireturn, 1) := by decide +kernel
theorem d_m_ratio_0 : decode prog_8_method_22_code 0 = .ok (.iload_n 1, 1) := by decide +kernel
theorem d_m_ratio_1 : decode prog_8_method_22_code 1 = .ok (.invokestatic 71, 3) := by decide +kernel
theorem d_m_ratio_4 : decode prog_8_method_22_code 4 = .ok (.ifCond .eq 15, 3) := by decide +kernel
theorem d_m_ratio_7 : decode prog_8_method_22_code 7 = .ok (.aload_n 0, 1) := by decide +kernel
theorem d_m_ratio_8 : decode prog_8_method_22_code 8 = .ok (.getfield 7, 3) := by decide +kernel
theorem d_m_ratio_11 : decode prog_8_method_22_code 11 = .ok (.bipush 67, 2) := by decide +kernel
theorem d_m_ratio_13 : decode prog_8_method_22_code 13 = .ok (.iload_n 1, 1) := by decide +kernel
theorem d_m_ratio_14 : decode prog_8_method_22_code 14 = .ok (.iadd, 1) := by decide +kernel
theorem d_m_ratio_15 : decode prog_8_method_22_code 15 = .ok (.iaload, 1) := by decide +kernel
theorem d_m_ratio_16 : decode prog_8_method_22_code 16 = .ok (.goto 6, 3) := by decide +kernel
theorem d_m_ratio_19 : decode prog_8_method_22_code 19 = .ok (.sipush (-1002), 3) := by decide +kernel
theorem d_m_ratio_22 : decode prog_8_method_22_code 22 = .ok (.ireturn, 1) := by decide +kernel
theorem d_m_setClothWidth_0 : decode prog_8_method_23_code 0 = .ok (.iload_n 1, 1) := by decide +kernel
theorem d_m_setClothWidth_1 : decode prog_8_method_23_code 1 = .ok (.iconst 4, 1) := by decide +kernel
theorem d_m_setClothWidth_2 : decode prog_8_method_23_code 2 = .ok (.bipush 24, 2) := by decide +kernel
theorem d_m_setClothWidth_4 : decode prog_8_method_23_code 4 = .ok (.invokestatic 59, 3) := by decide +kernel
theorem d_m_setClothWidth_7 : decode prog_8_method_23_code 7 = .ok (.ifCond .eq 13, 3) := by decide +kernel
theorem d_m_setClothWidth_10 : decode prog_8_method_23_code 10 = .ok (.aload_n 0, 1) := by decide +kernel
theorem d_m_setClothWidth_11 : decode prog_8_method_23_code 11 = .ok (.bipush 70, 2) := by decide +kernel
theorem d_m_setClothWidth_13 : decode prog_8_method_23_code 13 = .ok (.iload_n 1, 1) := by decide +kernel
theorem d_m_setClothWidth_14 : decode prog_8_method_23_code 14 = .ok (.invokevirtual 91, 3) := by decide +kernel
theorem d_m_setClothWidth_17 : decode prog_8_method_23_code 17 = .ok (.goto 6, 3) := by decide +kernel
theorem d_m_setClothWidth_20 : decode prog_8_method_23_code 20 = .ok (.sipush (-1005), 3) := by decide +kernel
theorem d_m_setClothWidth_23 : decode prog_8_method_23_code 23 = .ok (.ireturn, 1) := by decide +kernel
theorem d_m_setFolded_0 : decode prog_8_method_24_code 0 = .ok (.aload_n 0, 1) := by decide +kernel
theorem d_m_setFolded_1 : decode prog_8_method_24_code 1 = .ok (.bipush 71, 2) := by decide +kernel
theorem d_m_setFolded_3 : decode prog_8_method_24_code 3 = .ok (.iload_n 1, 1) := by decide +kernel
theorem d_m_setFolded_4 : decode prog_8_method_24_code 4 = .ok (.ifCond .eq 7, 3) := by decide +kernel
theorem d_m_setFolded_7 : decode prog_8_method_24_code 7 = .ok (.iconst 1, 1) := by decide +kernel
theorem d_m_setFolded_8 : decode prog_8_method_24_code 8 = .ok (.goto 4, 3) := by decide +kernel
theorem d_m_setFolded_11 : decode prog_8_method_24_code 11 = .ok (.iconst 0, 1) := by decide +kernel
theorem d_m_setFolded_12 : decode prog_8_method_24_code 12 = .ok (.invokevirtual 91, 3) := by decide +kernel
theorem d_m_setFolded_15 : decode prog_8_method_24_code 15 = .ok (.iconst 1, 1) := by decide +kernel
theorem d_m_setFolded_16 : decode prog_8_method_24_code 16 = .ok (.if_icmp .ne 7, 3) := by decide +kernel
theorem d_m_setFolded_19 : decode prog_8_method_24_code 19 = .ok (.iconst 1, 1) := by decide +kernel
theorem d_m_setFolded_20 : decode prog_8_method_24_code 20 = .ok (.goto 4, 3) := by decide +kernel
theorem d_m_setFolded_23 : decode prog_8_method_24_code 23 = .ok (.iconst 0, 1) := by decide +kernel
theorem d_m_setFolded_24 : decode prog_8_method_24_code 24 = .ok (.ireturn, 1) := by decide +kernel
theorem d_m_setRotation_0 : decode prog_8_method_25_code 0 = .ok (.aload_n 0, 1) := by decide +kernel
theorem d_m_setRotation_1 : decode prog_8_method_25_code 1 = .ok (.bipush 72, 2) := by decide +kernel
theorem d_m_setRotation_3 : decode prog_8_method_25_code 3 = .ok (.iload_n 1, 1) := by decide +kernel
theorem d_m_setRotation_4 : decode prog_8_method_25_code 4 = .ok (.ifCond .eq 7, 3) := by decide +kernel
theorem d_m_setRotation_7 : decode prog_8_method_25_code 7 = .ok (.iconst 1, 1) := by decide +kernel
theorem d_m_setRotation_8 : decode prog_8_method_25_code 8 = .ok (.goto 4, 3) := by decide +kernel
theorem d_m_setRotation_11 : decode prog_8_method_25_code 11 = .ok (.iconst 0, 1) := by decide +kernel
theorem d_m_setRotation_12 : decode prog_8_method_25_code 12 = .ok (.invokevirtual 91, 3) := by decide +kernel
theorem d_m_setRotation_15 : decode prog_8_method_25_code 15 = .ok (.iconst 1, 1) := by decide +kernel
theorem d_m_setRotation_16 : decode prog_8_method_25_code 16 = .ok (.if_icmp .ne 7, 3) := by decide +kernel
theorem d_m_setRotation_19 : decode prog_8_method_25_code 19 = .ok (.iconst 1, 1) := by decide +kernel
theorem d_m_setRotation_20 : decode prog_8_method_25_code 20 = .ok (.goto 4, 3) := by decide +kernel
theorem d_m_setRotation_23 : decode prog_8_method_25_code 23 = .ok (.iconst 0, 1) := by decide +kernel
theorem d_m_setRotation_24 : decode prog_8_method_25_code 24 = .ok (.ireturn, 1) := by decide +kernel
theorem d_m_isPacking_0 : decode prog_8_method_26_code 0 = .ok (.iload_n 0, 1) := by decide +kernel
theorem d_m_isPacking_1 : decode prog_8_method_26_code 1 = .ok (.iconst 0, 1) := by decide +kernel
theorem d_m_isPacking_2 : decode prog_8_method_26_code 2 = .ok (.iconst 1, 1) := by decide +kernel
theorem d_m_isPacking_3 : decode prog_8_method_26_code 3 = .ok (.invokestatic 59, 3) := by decide +kernel
theorem d_m_isPacking_6 : decode prog_8_method_26_code 6 = .ok (.ifCond .eq 16, 3) := by decide +kernel
theorem d_m_isPacking_9 : decode prog_8_method_26_code 9 = .ok (.iload_n 1, 1) := by decide +kernel
theorem d_m_isPacking_10 : decode prog_8_method_26_code 10 = .ok (.iconst 0, 1) := by decide +kernel
theorem d_m_isPacking_11 : decode prog_8_method_26_code 11 = .ok (.iconst 3, 1) := by decide +kernel
theorem d_m_isPacking_12 : decode prog_8_method_26_code 12 = .ok (.invokestatic 59, 3) := by decide +kernel
theorem d_m_isPacking_15 : decode prog_8_method_26_code 15 = .ok (.ifCond .eq 7, 3) := by decide +kernel
theorem d_m_isPacking_18 : decode prog_8_method_26_code 18 = .ok (.iconst 1, 1) := by decide +kernel
theorem d_m_isPacking_19 : decode prog_8_method_26_code 19 = .ok (.goto 4, 3) := by decide +kernel
theorem d_m_isPacking_22 : decode prog_8_method_26_code 22 = .ok (.iconst 0, 1) := by decide +kernel
theorem d_m_isPacking_23 : decode prog_8_method_26_code 23 = .ok (.ireturn, 1) := by decide +kernel
theorem d_m_setPacking_0 : decode prog_8_method_27_code 0 = .ok (.iload_n 1, 1) := by decide +kernel
theorem d_m_setPacking_1 : decode prog_8_method_27_code 1 = .ok (.iload_n 2, 1) := by decide +kernel
theorem d_m_setPacking_2 : decode prog_8_method_27_code 2 = .ok (.invokestatic 94, 3) := by decide +kernel
theorem d_m_setPacking_5 : decode prog_8_method_27_code 5 = .ok (.ifCond .ne 7, 3) := by decide +kernel
theorem d_m_setPacking_8 : decode prog_8_method_27_code 8 = .ok (.sipush (-1005), 3) := by decide +kernel
theorem d_m_setPacking_11 : decode prog_8_method_27_code 11 = .ok (.ireturn, 1) := by decide +kernel
theorem d_m_setPacking_12 : decode prog_8_method_27_code 12 = .ok (.bipush 10, 2) := by decide +kernel
theorem d_m_setPacking_14 : decode prog_8_method_27_code 14 = .ok (.aload_n 0, 1) := by decide +kernel
theorem d_m_setPacking_15 : decode prog_8_method_27_code 15 = .ok (.getfield 7, 3) := by decide +kernel
theorem d_m_setPacking_18 : decode prog_8_method_27_code 18 = .ok (.bipush 73, 2) := by decide +kernel
theorem d_m_setPacking_20 : decode prog_8_method_27_code 20 = .ok (.iaload, 1) := by decide +kernel
theorem d_m_setPacking_21 : decode prog_8_method_27_code 21 = .ok (.imul, 1) := by decide +kernel
theorem d_m_setPacking_22 : decode prog_8_method_27_code 22 = .ok (.aload_n 0, 1) := by decide +kernel
theorem d_m_setPacking_23 : decode prog_8_method_27_code 23 = .ok (.getfield 7, 3) := by decide +kernel
theorem d_m_setPacking_26 : decode prog_8_method_27_code 26 = .ok (.bipush 74, 2) := by decide +kernel
theorem d_m_setPacking_28 : decode prog_8_method_27_code 28 = .ok (.iaload, 1) := by decide +kernel
theorem d_m_setPacking_29 : decode prog_8_method_27_code 29 = .ok (.iadd, 1) := by decide +kernel
theorem d_m_setPacking_30 : decode prog_8_method_27_code 30 = .ok (.istore_n 3, 1) := by decide +kernel
theorem d_m_setPacking_31 : decode prog_8_method_27_code 31 = .ok (.aload_n 0, 1) := by decide +kernel
theorem d_m_setPacking_32 : decode prog_8_method_27_code 32 = .ok (.getfield 7, 3) := by decide +kernel
theorem d_m_setPacking_35 : decode prog_8_method_27_code 35 = .ok (.bipush 73, 2) := by decide +kernel
theorem d_m_setPacking_37 : decode prog_8_method_27_code 37 = .ok (.iload_n 1, 1) := by decide +kernel
theorem d_m_setPacking_38 : decode prog_8_method_27_code 38 = .ok (.iastore, 1) := by decide +kernel
theorem d_m_setPacking_39 : decode prog_8_method_27_code 39 = .ok (.aload_n 0, 1) := by decide +kernel
theorem d_m_setPacking_40 : decode prog_8_method_27_code 40 = .ok (.getfield 7, 3) := by decide +kernel
theorem d_m_setPacking_43 : decode prog_8_method_27_code 43 = .ok (.bipush 74, 2) := by decide +kernel
theorem d_m_setPacking_45 : decode prog_8_method_27_code 45 = .ok (.iload_n 2, 1) := by decide +kernel
theorem d_m_setPacking_46 : decode prog_8_method_27_code 46 = .ok (.iastore, 1) := by decide +kernel
theorem d_m_setPacking_47 : decode prog_8_method_27_code 47 = .ok (.iload_n 3, 1) := by decide +kernel
theorem d_m_setPacking_48 : decode prog_8_method_27_code 48 = .ok (.ireturn, 1) := by decide +kernel
theorem d_m_stripWidth_0 : decode prog_8_method_28_code 0 = .ok (.aload_n 0, 1) := by decide +kernel
theorem d_m_stripWidth_1 : decode prog_8_method_28_code 1 = .ok (.getfield 7, 3) := by decide +kernel
theorem d_m_stripWidth_4 : decode prog_8_method_28_code 4 = .ok (.bipush 71, 2) := by decide +kernel
theorem d_m_stripWidth_6 : decode prog_8_method_28_code 6 = .ok (.iaload, 1) := by decide +kernel
theorem d_m_stripWidth_7 : decode prog_8_method_28_code 7 = .ok (.iconst 1, 1) := by decide +kernel
theorem d_m_stripWidth_8 : decode prog_8_method_28_code 8 = .ok (.if_icmp .ne 15, 3) := by decide +kernel
theorem d_m_stripWidth_11 : decode prog_8_method_28_code 11 = .ok (.aload_n 0, 1) := by decide +kernel
theorem d_m_stripWidth_12 : decode prog_8_method_28_code 12 = .ok (.getfield 7, 3) := by decide +kernel
theorem d_m_stripWidth_15 : decode prog_8_method_28_code 15 = .ok (.bipush 70, 2) := by decide +kernel
theorem d_m_stripWidth_17 : decode prog_8_method_28_code 17 = .ok (.iaload, 1) := by decide +kernel
theorem d_m_stripWidth_18 : decode prog_8_method_28_code 18 = .ok (.iconst 2, 1) := by decide +kernel
theorem d_m_stripWidth_19 : decode prog_8_method_28_code 19 = .ok (.idiv, 1) := by decide +kernel
theorem d_m_stripWidth_20 : decode prog_8_method_28_code 20 = .ok (.goto 10, 3) := by decide +kernel
theorem d_m_stripWidth_23 : decode prog_8_method_28_code 23 = .ok (.aload_n 0, 1) := by decide +kernel
theorem d_m_stripWidth_24 : decode prog_8_method_28_code 24 = .ok (.getfield 7, 3) := by decide +kernel
theorem d_m_stripWidth_27 : decode prog_8_method_28_code 27 = .ok (.bipush 70, 2) := by decide +kernel
theorem d_m_stripWidth_29 : decode prog_8_method_28_code 29 = .ok (.iaload, 1) := by decide +kernel
theorem d_m_stripWidth_30 : decode prog_8_method_28_code 30 = .ok (.ireturn, 1) := by decide +kernel
theorem d_m_addPart_0 : decode prog_8_method_29_code 0 = .ok (.aload_n 0, 1) := by decide +kernel
theorem d_m_addPart_1 : decode prog_8_method_29_code 1 = .ok (.iload_n 2, 1) := by decide +kernel
theorem d_m_addPart_2 : decode prog_8_method_29_code 2 = .ok (.iload_n 1, 1) := by decide +kernel
theorem d_m_addPart_3 : decode prog_8_method_29_code 3 = .ok (.invokevirtual 74, 3) := by decide +kernel
theorem d_m_addPart_6 : decode prog_8_method_29_code 6 = .ok (.istore_n 3, 1) := by decide +kernel
theorem d_m_addPart_7 : decode prog_8_method_29_code 7 = .ok (.aload_n 0, 1) := by decide +kernel
theorem d_m_addPart_8 : decode prog_8_method_29_code 8 = .ok (.iload_n 2, 1) := by decide +kernel
theorem d_m_addPart_9 : decode prog_8_method_29_code 9 = .ok (.iload_n 1, 1) := by decide +kernel
theorem d_m_addPart_10 : decode prog_8_method_29_code 10 = .ok (.invokevirtual 78, 3) := by decide +kernel
theorem d_m_addPart_13 : decode prog_8_method_29_code 13 = .ok (.istore 4, 2) := by decide +kernel
theorem d_m_addPart_15 : decode prog_8_method_29_code 15 = .ok (.aload_n 0, 1) := by decide +kernel
theorem d_m_addPart_16 : decode prog_8_method_29_code 16 = .ok (.getfield 7, 3) := by decide +kernel
theorem d_m_addPart_19 : decode prog_8_method_29_code 19 = .ok (.bipush 71, 2) := by decide +kernel
theorem d_m_addPart_21 : decode prog_8_method_29_code 21 = .ok (.iaload, 1) := by decide +kernel
theorem d_m_addPart_22 : decode prog_8_method_29_code 22 = .ok (.iconst 1, 1) := by decide +kernel
theorem d_m_addPart_23 : decode prog_8_method_29_code 23 = .ok (.if_icmp .ne 24, 3) := by decide +kernel
theorem d_m_addPart_26 : decode prog_8_method_29_code 26 = .ok (.aload_n 0, 1) := by decide +kernel
theorem d_m_addPart_27 : decode prog_8_method_29_code 27 = .ok (.getfield 7, 3) := by decide +kernel
theorem d_m_addPart_30 : decode prog_8_method_29_code 30 = .ok (.iconst 0, 1) := by decide +kernel
theorem d_m_addPart_31 : decode prog_8_method_29_code 31 = .ok (.bipush 6, 2) := by decide +kernel
theorem d_m_addPart_33 : decode prog_8_method_29_code 33 = .ok (.iload_n 2, 1) := by decide +kernel
theorem d_m_addPart_34 : decode prog_8_method_29_code 34 = .ok (.imul, 1) := by decide +kernel
theorem d_m_addPart_35 : decode prog_8_method_29_code 35 = .ok (.iadd, 1) := by decide +kernel
theorem d_m_addPart_36 : decode prog_8_method_29_code 36 = .ok (.iconst 5, 1) := by decide +kernel
theorem d_m_addPart_37 : decode prog_8_method_29_code 37 = .ok (.iadd, 1) := by decide +kernel
theorem d_m_addPart_38 : decode prog_8_method_29_code 38 = .ok (.iaload, 1) := by decide +kernel
theorem d_m_addPart_39 : decode prog_8_method_29_code 39 = .ok (.iconst 1, 1) := by decide +kernel
theorem d_m_addPart_40 : decode prog_8_method_29_code 40 = .ok (.if_icmp .ne 7, 3) := by decide +kernel
theorem d_m_addPart_43 : decode prog_8_method_29_code 43 = .ok (.iconst 1, 1) := by decide +kernel
theorem d_m_addPart_44 : decode prog_8_method_29_code 44 = .ok (.goto 4, 3) := by decide +kernel
theorem d_m_addPart_47 : decode prog_8_method_29_code 47 = .ok (.iconst 0, 1) := by decide +kernel
theorem d_m_addPart_48 : decode prog_8_method_29_code 48 = .ok (.istore 5, 2) := by decide +kernel
theorem d_m_addPart_50 : decode prog_8_method_29_code 50 = .ok (.aload_n 0, 1) := by decide +kernel
theorem d_m_addPart_51 : decode prog_8_method_29_code 51 = .ok (.invokevirtual 98, 3) := by decide +kernel
theorem d_m_addPart_54 : decode prog_8_method_29_code 54 = .ok (.istore 6, 2) := by decide +kernel
theorem d_m_addPart_56 : decode prog_8_method_29_code 56 = .ok (.aload_n 0, 1) := by decide +kernel
theorem d_m_addPart_57 : decode prog_8_method_29_code 57 = .ok (.getfield 7, 3) := by decide +kernel
theorem d_m_addPart_60 : decode prog_8_method_29_code 60 = .ok (.bipush 72, 2) := by decide +kernel
theorem d_m_addPart_62 : decode prog_8_method_29_code 62 = .ok (.iaload, 1) := by decide +kernel
theorem d_m_addPart_63 : decode prog_8_method_29_code 63 = .ok (.iconst 1, 1) := by decide +kernel
theorem d_m_addPart_64 : decode prog_8_method_29_code 64 = .ok (.if_icmp .ne 31, 3) := by decide +kernel
theorem d_m_addPart_67 : decode prog_8_method_29_code 67 = .ok (.iload 5, 2) := by decide +kernel
theorem d_m_addPart_69 : decode prog_8_method_29_code 69 = .ok (.ifCond .ne 26, 3) := by decide +kernel
theorem d_m_addPart_72 : decode prog_8_method_29_code 72 = .ok (.iload 4, 2) := by decide +kernel
theorem d_m_addPart_74 : decode prog_8_method_29_code 74 = .ok (.iload 6, 2) := by decide +kernel
theorem d_m_addPart_76 : decode prog_8_method_29_code 76 = .ok (.if_icmp .gt 19, 3) := by decide +kernel
theorem d_m_addPart_79 : decode prog_8_method_29_code 79 = .ok (.iload_n 3, 1) := by decide +kernel
theorem d_m_addPart_80 : decode prog_8_method_29_code 80 = .ok (.iload 6, 2) := by decide +kernel
theorem d_m_addPart_82 : decode prog_8_method_29_code 82 = .ok (.if_icmp .gt 9, 3) := by decide +kernel
theorem d_m_addPart_85 : decode prog_8_method_29_code 85 = .ok (.iload_n 3, 1) := by decide +kernel
theorem d_m_addPart_86 : decode prog_8_method_29_code 86 = .ok (.iload 4, 2) := by decide +kernel
theorem d_m_addPart_88 : decode prog_8_method_29_code 88 = .ok (.if_icmp .ge 7, 3) := by decide +kernel
theorem d_m_addPart_91 : decode prog_8_method_29_code 91 = .ok (.iconst 1, 1) := by decide +kernel
theorem d_m_addPart_92 : decode prog_8_method_29_code 92 = .ok (.goto 4, 3) := by decide +kernel
theorem d_m_addPart_95 : decode prog_8_method_29_code 95 = .ok (.iconst 0, 1) := by decide +kernel
theorem d_m_addPart_96 : decode prog_8_method_29_code 96 = .ok (.istore 7, 2) := by decide +kernel
theorem d_m_addPart_98 : decode prog_8_method_29_code 98 = .ok (.aload_n 0, 1) := by decide +kernel
theorem d_m_addPart_99 : decode prog_8_method_29_code 99 = .ok (.getfield 20, 3) := by decide +kernel
theorem d_m_addPart_102 : decode prog_8_method_29_code 102 = .ok (.aload_n 0, 1) := by decide +kernel
theorem d_m_addPart_103 : decode prog_8_method_29_code 103 = .ok (.getfield 102, 3) := by decide +kernel
theorem d_m_addPart_106 : decode prog_8_method_29_code 106 = .ok (.iload_n 1, 1) := by decide +kernel
theorem d_m_addPart_107 : decode prog_8_method_29_code 107 = .ok (.iastore, 1) := by decide +kernel
theorem d_m_addPart_108 : decode prog_8_method_29_code 108 = .ok (.aload_n 0, 1) := by decide +kernel
theorem d_m_addPart_109 : decode prog_8_method_29_code 109 = .ok (.getfield 23, 3) := by decide +kernel
theorem d_m_addPart_112 : decode prog_8_method_29_code 112 = .ok (.aload_n 0, 1) := by decide +kernel
theorem d_m_addPart_113 : decode prog_8_method_29_code 113 = .ok (.getfield 102, 3) := by decide +kernel
theorem d_m_addPart_116 : decode prog_8_method_29_code 116 = .ok (.iload_n 2, 1) := by decide +kernel
theorem d_m_addPart_117 : decode prog_8_method_29_code 117 = .ok (.iastore, 1) := by decide +kernel
theorem d_m_addPart_118 : decode prog_8_method_29_code 118 = .ok (.aload_n 0, 1) := by decide +kernel
theorem d_m_addPart_119 : decode prog_8_method_29_code 119 = .ok (.getfield 26, 3) := by decide +kernel
theorem d_m_addPart_122 : decode prog_8_method_29_code 122 = .ok (.aload_n 0, 1) := by decide +kernel
theorem d_m_addPart_123 : decode prog_8_method_29_code 123 = .ok (.getfield 102, 3) := by decide +kernel
theorem d_m_addPart_126 : decode prog_8_method_29_code 126 = .ok (.iload 5, 2) := by decide +kernel
theorem d_m_addPart_128 : decode prog_8_method_29_code 128 = .ok (.ifCond .eq 11, 3) := by decide +kernel
theorem d_m_addPart_131 : decode prog_8_method_29_code 131 = .ok (.iload_n 3, 1) := by decide +kernel
theorem d_m_addPart_132 : decode prog_8_method_29_code 132 = .ok (.iconst 1, 1) := by decide +kernel
theorem d_m_addPart_133 : decode prog_8_method_29_code 133 = .ok (.iadd, 1) := by decide +kernel
theorem d_m_addPart_134 : decode prog_8_method_29_code 134 = .ok (.iconst 2, 1) := by decide +kernel
theorem d_m_addPart_135 : decode prog_8_method_29_code 135 = .ok (.idiv, 1) := by decide +kernel
theorem d_m_addPart_136 : decode prog_8_method_29_code 136 = .ok (.goto 14, 3) := by decide +kernel
theorem d_m_addPart_139 : decode prog_8_method_29_code 139 = .ok (.iload 7, 2) := by decide +kernel
theorem d_m_addPart_141 : decode prog_8_method_29_code 141 = .ok (.ifCond .eq 8, 3) := by decide +kernel
theorem d_m_addPart_144 : decode prog_8_method_29_code 144 = .ok (.iload 4, 2) := by decide +kernel
theorem d_m_addPart_146 : decode prog_8_method_29_code 146 = .ok (.goto 4, 3) := by decide +kernel
theorem d_m_addPart_149 : decode prog_8_method_29_code 149 = .ok (.iload_n 3, 1) := by decide +kernel
theorem d_m_addPart_150 : decode prog_8_method_29_code 150 = .ok (.iastore, 1) := by decide +kernel
theorem d_m_addPart_151 : decode prog_8_method_29_code 151 = .ok (.aload_n 0, 1) := by decide +kernel
theorem d_m_addPart_152 : decode prog_8_method_29_code 152 = .ok (.getfield 29, 3) := by decide +kernel
theorem d_m_addPart_155 : decode prog_8_method_29_code 155 = .ok (.aload_n 0, 1) := by decide +kernel
theorem d_m_addPart_156 : decode prog_8_method_29_code 156 = .ok (.getfield 102, 3) := by decide +kernel
theorem d_m_addPart_159 : decode prog_8_method_29_code 159 = .ok (.iload 7, 2) := by decide +kernel
theorem d_m_addPart_161 : decode prog_8_method_29_code 161 = .ok (.ifCond .eq 7, 3) := by decide +kernel
theorem d_m_addPart_164 : decode prog_8_method_29_code 164 = .ok (.iload_n 3, 1) := by decide +kernel
theorem d_m_addPart_165 : decode prog_8_method_29_code 165 = .ok (.goto 5, 3) := by decide +kernel
theorem d_m_addPart_168 : decode prog_8_method_29_code 168 = .ok (.iload 4, 2) := by decide +kernel
theorem d_m_addPart_170 : decode prog_8_method_29_code 170 = .ok (.iastore, 1) := by decide +kernel
theorem d_m_addPart_171 : decode prog_8_method_29_code 171 = .ok (.aload_n 0, 1) := by decide +kernel
theorem d_m_addPart_172 : decode prog_8_method_29_code 172 = .ok (.getfield 32, 3) := by decide +kernel
theorem d_m_addPart_175 : decode prog_8_method_29_code 175 = .ok (.aload_n 0, 1) := by decide +kernel
theorem d_m_addPart_176 : decode prog_8_method_29_code 176 = .ok (.getfield 102, 3) := by decide +kernel
theorem d_m_addPart_179 : decode prog_8_method_29_code 179 = .ok (.iload 5, 2) := by decide +kernel
theorem d_m_addPart_181 : decode prog_8_method_29_code 181 = .ok (.bastore, 1) := by decide +kernel
theorem d_m_addPart_182 : decode prog_8_method_29_code 182 = .ok (.aload_n 0, 1) := by decide +kernel
theorem d_m_addPart_183 : decode prog_8_method_29_code 183 = .ok (.dup, 1) := by decide +kernel
theorem d_m_addPart_184 : decode prog_8_method_29_code 184 = .ok (.getfield 102, 3) := by decide +kernel
theorem d_m_addPart_187 : decode prog_8_method_29_code 187 = .ok (.iconst 1, 1) := by decide +kernel
theorem d_m_addPart_188 : decode prog_8_method_29_code 188 = .ok (.iadd, 1) := by decide +kernel
theorem d_m_addPart_189 : decode prog_8_method_29_code 189 = .ok (.putfield 102, 3) := by decide +kernel
theorem d_m_addPart_192 : decode prog_8_method_29_code 192 = .ok (.return_, 1) := by decide +kernel
theorem d_m_layParts_0 : decode prog_8_method_30_code 0 = .ok (.aload_n 0, 1) := by decide +kernel
theorem d_m_layParts_1 : decode prog_8_method_30_code 1 = .ok (.iconst 0, 1) := by decide +kernel
theorem d_m_layParts_2 : decode prog_8_method_30_code 2 = .ok (.putfield 102, 3) := by decide +kernel
theorem d_m_layParts_5 : decode prog_8_method_30_code 5 = .ok (.iconst 0, 1) := by decide +kernel
theorem d_m_layParts_6 : decode prog_8_method_30_code 6 = .ok (.istore_n 1, 1) := by decide +kernel
theorem d_m_layParts_7 : decode prog_8_method_30_code 7 = .ok (.iload_n 1, 1) := by decide +kernel
theorem d_m_layParts_8 : decode prog_8_method_30_code 8 = .ok (.iconst 3, 1) := by decide +kernel
theorem d_m_layParts_9 : decode prog_8_method_30_code 9 = .ok (.if_icmp .ge 108, 3) := by decide +kernel
theorem d_m_layParts_12 : decode prog_8_method_30_code 12 = .ok (.iconst 0, 1) := by decide +kernel
theorem d_m_layParts_13 : decode prog_8_method_30_code 13 = .ok (.istore_n 2, 1) := by decide +kernel
theorem d_m_layParts_14 : decode prog_8_method_30_code 14 = .ok (.iload_n 2, 1) := by decide +kernel
theorem d_m_layParts_15 : decode prog_8_method_30_code 15 = .ok (.aload_n 0, 1) := by decide +kernel
theorem d_m_layParts_16 : decode prog_8_method_30_code 16 = .ok (.getfield 7, 3) := by decide +kernel
theorem d_m_layParts_19 : decode prog_8_method_30_code 19 = .ok (.bipush 67, 2) := by decide +kernel
theorem d_m_layParts_21 : decode prog_8_method_30_code 21 = .ok (.iload_n 1, 1) := by decide +kernel
theorem d_m_layParts_22 : decode prog_8_method_30_code 22 = .ok (.iadd, 1) := by decide +kernel
theorem d_m_layParts_23 : decode prog_8_method_30_code 23 = .ok (.iaload, 1) := by decide +kernel
theorem d_m_layParts_24 : decode prog_8_method_30_code 24 = .ok (.if_icmp .ge 87, 3) := by decide +kernel
theorem d_m_layParts_27 : decode prog_8_method_30_code 27 = .ok (.iconst 0, 1) := by decide +kernel
theorem d_m_layParts_28 : decode prog_8_method_30_code 28 = .ok (.istore_n 3, 1) := by decide +kernel
theorem d_m_layParts_29 : decode prog_8_method_30_code 29 = .ok (.iload_n 3, 1) := by decide +kernel
theorem d_m_layParts_30 : decode prog_8_method_30_code 30 = .ok (.bipush 6, 2) := by decide +kernel
theorem d_m_layParts_32 : decode prog_8_method_30_code 32 = .ok (.if_icmp .ge 73, 3) := by decide +kernel
theorem d_m_layParts_35 : decode prog_8_method_30_code 35 = .ok (.aload_n 0, 1) := by decide +kernel
theorem d_m_layParts_36 : decode prog_8_method_30_code 36 = .ok (.iload_n 3, 1) := by decide +kernel
theorem d_m_layParts_37 : decode prog_8_method_30_code 37 = .ok (.invokevirtual 63, 3) := by decide +kernel
theorem d_m_layParts_40 : decode prog_8_method_30_code 40 = .ok (.ifCond .ne 7, 3) := by decide +kernel
theorem d_m_layParts_43 : decode prog_8_method_30_code 43 = .ok (.iconst 0, 1) := by decide +kernel
theorem d_m_layParts_44 : decode prog_8_method_30_code 44 = .ok (.goto 31, 3) := by decide +kernel
theorem d_m_layParts_47 : decode prog_8_method_30_code 47 = .ok (.aload_n 0, 1) := by decide +kernel
theorem d_m_layParts_48 : decode prog_8_method_30_code 48 = .ok (.getfield 7, 3) := by decide +kernel
theorem d_m_layParts_51 : decode prog_8_method_30_code 51 = .ok (.bipush 71, 2) := by decide +kernel
theorem d_m_layParts_53 : decode prog_8_method_30_code 53 = .ok (.iaload, 1) := by decide +kernel
theorem d_m_layParts_54 : decode prog_8_method_30_code 54 = .ok (.iconst 1, 1) := by decide +kernel
theorem d_m_layParts_55 : decode prog_8_method_30_code 55 = .ok (.if_icmp .ne 7, 3) := by decide +kernel
theorem d_m_layParts_58 : decode prog_8_method_30_code 58 = .ok (.iconst 1, 1) := by decide +kernel
theorem d_m_layParts_59 : decode prog_8_method_30_code 59 = .ok (.goto 16, 3) := by decide +kernel
theorem d_m_layParts_62 : decode prog_8_method_30_code 62 = .ok (.aload_n 0, 1) := by decide +kernel
theorem d_m_layParts_63 : decode prog_8_method_30_code 63 = .ok (.getfield 7, 3) := by decide +kernel
theorem d_m_layParts_66 : decode prog_8_method_30_code 66 = .ok (.iconst 0, 1) := by decide +kernel
theorem d_m_layParts_67 : decode prog_8_method_30_code 67 = .ok (.bipush 6, 2) := by decide +kernel
theorem d_m_layParts_69 : decode prog_8_method_30_code 69 = .ok (.iload_n 3, 1) := by decide +kernel
theorem d_m_layParts_70 : decode prog_8_method_30_code 70 = .ok (.imul, 1) := by decide +kernel
theorem d_m_layParts_71 : decode prog_8_method_30_code 71 = .ok (.iadd, 1) := by decide +kernel
theorem d_m_layParts_72 : decode prog_8_method_30_code 72 = .ok (.iconst 5, 1) := by decide +kernel
theorem d_m_layParts_73 : decode prog_8_method_30_code 73 = .ok (.iadd, 1) := by decide +kernel
theorem d_m_layParts_74 : decode prog_8_method_30_code 74 = .ok (.iaload, 1) := by decide +kernel
theorem d_m_layParts_75 : decode prog_8_method_30_code 75 = .ok (.istore 4, 2) := by decide +kernel
theorem d_m_layParts_77 : decode prog_8_method_30_code 77 = .ok (.iconst 0, 1) := by decide +kernel
theorem d_m_layParts_78 : decode prog_8_method_30_code 78 = .ok (.istore 5, 2) := by decide +kernel
theorem d_m_layParts_80 : decode prog_8_method_30_code 80 = .ok (.iload 5, 2) := by decide +kernel
theorem d_m_layParts_82 : decode prog_8_method_30_code 82 = .ok (.iload 4, 2) := by decide +kernel
theorem d_m_layParts_84 : decode prog_8_method_30_code 84 = .ok (.if_icmp .ge 15, 3) := by decide +kernel
theorem d_m_layParts_87 : decode prog_8_method_30_code 87 = .ok (.aload_n 0, 1) := by decide +kernel
theorem d_m_layParts_88 : decode prog_8_method_30_code 88 = .ok (.iload_n 1, 1) := by decide +kernel
theorem d_m_layParts_89 : decode prog_8_method_30_code 89 = .ok (.iload_n 3, 1) := by decide +kernel
theorem d_m_layParts_90 : decode prog_8_method_30_code 90 = .ok (.invokevirtual 106, 3) := by decide +kernel
theorem d_m_layParts_93 : decode prog_8_method_30_code 93 = .ok (.iinc 5 1, 3) := by decide +kernel
theorem d_m_layParts_96 : decode prog_8_method_30_code 96 = .ok (.goto (-16), 3) := by decide +kernel
theorem d_m_layParts_99 : decode prog_8_method_30_code 99 = .ok (.iinc 3 1, 3) := by decide +kernel
theorem d_m_layParts_102 : decode prog_8_method_30_code 102 = .ok (.goto (-73), 3) := by decide +kernel
theorem d_m_layParts_105 : decode prog_8_method_30_code 105 = .ok (.iinc 2 1, 3) := by decide +kernel
theorem d_m_layParts_108 : decode prog_8_method_30_code 108 = .ok (.goto (-94), 3) := by decide +kernel
theorem d_m_layParts_111 : decode prog_8_method_30_code 111 = .ok (.iinc 1 1, 3) := by decide +kernel
theorem d_m_layParts_114 : decode prog_8_method_30_code 114 = .ok (.goto (-107), 3) := by decide +kernel
theorem d_m_layParts_117 : decode prog_8_method_30_code 117 = .ok (.return_, 1) := by decide +kernel
theorem d_m_isPart_0 : decode prog_8_method_31_code 0 = .ok (.aload_n 0, 1) := by decide +kernel
theorem d_m_isPart_1 : decode prog_8_method_31_code 1 = .ok (.invokevirtual 110, 3) := by decide +kernel
theorem d_m_isPart_4 : decode prog_8_method_31_code 4 = .ok (.iload_n 1, 1) := by decide +kernel
theorem d_m_isPart_5 : decode prog_8_method_31_code 5 = .ok (.iconst 0, 1) := by decide +kernel
theorem d_m_isPart_6 : decode prog_8_method_31_code 6 = .ok (.aload_n 0, 1) := by decide +kernel
theorem d_m_isPart_7 : decode prog_8_method_31_code 7 = .ok (.getfield 102, 3) := by decide +kernel
theorem d_m_isPart_10 : decode prog_8_method_31_code 10 = .ok (.iconst 1, 1) := by decide +kernel
theorem d_m_isPart_11 : decode prog_8_method_31_code 11 = .ok (.isub, 1) := by decide +kernel
theorem d_m_isPart_12 : decode prog_8_method_31_code 12 = .ok (.invokestatic 59, 3) := by decide +kernel
theorem d_m_isPart_15 : decode prog_8_method_31_code 15 = .ok (.ireturn, 1) := by decide +kernel
theorem d_m_partCount_0 : decode prog_8_method_32_code 0 = .ok (.aload_n 0, 1) := by decide +kernel
theorem d_m_partCount_1 : decode prog_8_method_32_code 1 = .ok (.invokevirtual 110, 3) := by decide +kernel
theorem d_m_partCount_4 : decode prog_8_method_32_code 4 = .ok (.aload_n 0, 1) := by decide +kernel
theorem d_m_partCount_5 : decode prog_8_method_32_code 5 = .ok (.getfield 102, 3) := by decide +kernel
theorem d_m_partCount_8 : decode prog_8_method_32_code 8 = .ok (.ireturn, 1) := by decide +kernel
theorem d_m_foldPartCount_0 : decode prog_8_method_33_code 0 = .ok (.aload_n 0, 1) := by decide +kernel
theorem d_m_foldPartCount_1 : decode prog_8_method_33_code 1 = .ok (.invokevirtual 110, 3) := by decide +kernel
theorem d_m_foldPartCount_4 : decode prog_8_method_33_code 4 = .ok (.iconst 0, 1) := by decide +kernel
theorem d_m_foldPartCount_5 : decode prog_8_method_33_code 5 = .ok (.istore_n 1, 1) := by decide +kernel
theorem d_m_foldPartCount_6 : decode prog_8_method_33_code 6 = .ok (.iconst 0, 1) := by decide +kernel
theorem d_m_foldPartCount_7 : decode prog_8_method_33_code 7 = .ok (.istore_n 2, 1) := by decide +kernel
theorem d_m_foldPartCount_8 : decode prog_8_method_33_code 8 = .ok (.iload_n 2, 1) := by decide +kernel
theorem d_m_foldPartCount_9 : decode prog_8_method_33_code 9 = .ok (.aload_n 0, 1) := by decide +kernel
theorem d_m_foldPartCount_10 : decode prog_8_method_33_code 10 = .ok (.getfield 102, 3) := by decide +kernel
theorem d_m_foldPartCount_13 : decode prog_8_method_33_code 13 = .ok (.if_icmp .ge 26, 3) := by decide +kernel
theorem d_m_foldPartCount_16 : decode prog_8_method_33_code 16 = .ok (.iload_n 1, 1) := by decide +kernel
theorem d_m_foldPartCount_17 : decode prog_8_method_33_code 17 = .ok (.aload_n 0, 1) := by decide +kernel
theorem d_m_foldPartCount_18 : decode prog_8_method_33_code 18 = .ok (.getfield 32, 3) := by decide +kernel
theorem d_m_foldPartCount_21 : decode prog_8_method_33_code 21 = .ok (.iload_n 2, 1) := by decide +kernel
theorem d_m_foldPartCount_22 : decode prog_8_method_33_code 22 = .ok (.baload, 1) := by decide +kernel
theorem d_m_foldPartCount_23 : decode prog_8_method_33_code 23 = .ok (.ifCond .eq 7, 3) := by decide +kernel
theorem d_m_foldPartCount_26 : decode prog_8_method_33_code 26 = .ok (.iconst 1, 1) := by decide +kernel
theorem d_m_foldPartCount_27 : decode prog_8_method_33_code 27 = .ok (.goto 4, 3) := by decide +kernel
theorem d_m_foldPartCount_30 : decode prog_8_method_33_code 30 = .ok (.iconst 0, 1) := by decide +kernel
theorem d_m_foldPartCount_31 : decode prog_8_method_33_code 31 = .ok (.iadd, 1) := by decide +kernel
theorem d_m_foldPartCount_32 : decode prog_8_method_33_code 32 = .ok (.istore_n 1, 1) := by decide +kernel
theorem d_m_foldPartCount_33 : decode prog_8_method_33_code 33 = .ok (.iinc 2 1, 3) := by decide +kernel
theorem d_m_foldPartCount_36 : decode prog_8_method_33_code 36 = .ok (.goto (-28), 3) := by decide +kernel
theorem d_m_foldPartCount_39 : decode prog_8_method_33_code 39 = .ok (.iload_n 1, 1) := by decide +kernel
theorem d_m_foldPartCount_40 : decode prog_8_method_33_code 40 = .ok (.ireturn, 1) := by decide +kernel
theorem d_m_partSize_0 : decode prog_8_method_34_code 0 = .ok (.aload_n 0, 1) := by decide +kernel
theorem d_m_partSize_1 : decode prog_8_method_34_code 1 = .ok (.iload_n 1, 1) := by decide +kernel
theorem d_m_partSize_2 : decode prog_8_method_34_code 2 = .ok (.invokevirtual 113, 3) := by decide +kernel
theorem d_m_partSize_5 : decode prog_8_method_34_code 5 = .ok (.ifCond .eq 12, 3) := by decide +kernel
theorem d_m_partSize_8 : decode prog_8_method_34_code 8 = .ok (.aload_n 0, 1) := by decide +kernel
theorem d_m_partSize_9 : decode prog_8_method_34_code 9 = .ok (.getfield 20, 3) := by decide +kernel
theorem d_m_partSize_12 : decode prog_8_method_34_code 12 = .ok (.iload_n 1, 1) := by decide +kernel
theorem d_m_partSize_13 : decode prog_8_method_34_code 13 = .ok (.iaload, 1) := by decide +kernel
theorem d_m_partSize_14 : decode prog_8_method_34_code 14 = .ok (.goto 6, 3) := by decide +kernel
theorem d_m_partSize_17 : decode prog_8_method_34_code 17 = .ok (.sipush (-1004), 3) := by decide +kernel
theorem d_m_partSize_20 : decode prog_8_method_34_code 20 = .ok (.ireturn, 1) := by decide +kernel
theorem d_m_partPiece_0 : decode prog_8_method_35_code 0 = .ok (.aload_n 0, 1) := by decide +kernel
theorem d_m_partPiece_1 : decode prog_8_method_35_code 1 = .ok (.iload_n 1, 1) := by decide +kernel
theorem d_m_partPiece_2 : decode prog_8_method_35_code 2 = .ok (.invokevirtual 113, 3) := by decide +kernel
theorem d_m_partPiece_5 : decode prog_8_method_35_code 5 = .ok (.ifCond .eq 12, 3) := by decide +kernel
theorem d_m_partPiece_8 : decode prog_8_method_35_code 8 = .ok (.aload_n 0, 1) := by decide +kernel
theorem d_m_partPiece_9 : decode prog_8_method_35_code 9 = .ok (.getfield 23, 3) := by decide +kernel
theorem d_m_partPiece_12 : decode prog_8_method_35_code 12 = .ok (.iload_n 1, 1) := by decide +kernel
theorem d_m_partPiece_13 : decode prog_8_method_35_code 13 = .ok (.iaload, 1) := by decide +kernel
theorem d_m_partPiece_14 : decode prog_8_method_35_code 14 = .ok (.goto 6, 3) := by decide +kernel
theorem d_m_partPiece_17 : decode prog_8_method_35_code 17 = .ok (.sipush (-1004), 3) := by decide +kernel
theorem d_m_partPiece_20 : decode prog_8_method_35_code 20 = .ok (.ireturn, 1) := by decide +kernel
theorem d_m_keyOf_0 : decode prog_8_method_36_code 0 = .ok (.iload_n 2, 1) := by decide +kernel
theorem d_m_keyOf_1 : decode prog_8_method_36_code 1 = .ok (.ifCond .ne 7, 3) := by decide +kernel
theorem d_m_keyOf_4 : decode prog_8_method_36_code 4 = .ok (.iconst 0, 1) := by decide +kernel
theorem d_m_keyOf_5 : decode prog_8_method_36_code 5 = .ok (.goto 44, 3) := by decide +kernel
theorem d_m_keyOf_8 : decode prog_8_method_36_code 8 = .ok (.iload_n 2, 1) := by decide +kernel
theorem d_m_keyOf_9 : decode prog_8_method_36_code 9 = .ok (.iconst 1, 1) := by decide +kernel
theorem d_m_keyOf_10 : decode prog_8_method_36_code 10 = .ok (.if_icmp .ne 12, 3) := by decide +kernel
theorem d_m_keyOf_13 : decode prog_8_method_36_code 13 = .ok (.aload_n 0, 1) := by decide +kernel
theorem d_m_keyOf_14 : decode prog_8_method_36_code 14 = .ok (.getfield 29, 3) := by decide +kernel
theorem d_m_keyOf_17 : decode prog_8_method_36_code 17 = .ok (.iload_n 1, 1) := by decide +kernel
theorem d_m_keyOf_18 : decode prog_8_method_36_code 18 = .ok (.iaload, 1) := by decide +kernel
theorem d_m_keyOf_19 : decode prog_8_method_36_code 19 = .ok (.goto 30, 3) := by decide +kernel
theorem d_m_keyOf_22 : decode prog_8_method_36_code 22 = .ok (.iload_n 2, 1) := by decide +kernel
theorem d_m_keyOf_23 : decode prog_8_method_36_code 23 = .ok (.iconst 2, 1) := by decide +kernel
theorem d_m_keyOf_24 : decode prog_8_method_36_code 24 = .ok (.if_icmp .ne 12, 3) := by decide +kernel
theorem d_m_keyOf_27 : decode prog_8_method_36_code 27 = .ok (.aload_n 0, 1) := by decide +kernel
theorem d_m_keyOf_28 : decode prog_8_method_36_code 28 = .ok (.getfield 26, 3) := by decide +kernel
theorem d_m_keyOf_31 : decode prog_8_method_36_code 31 = .ok (.iload_n 1, 1) := by decide +kernel
theorem d_m_keyOf_32 : decode prog_8_method_36_code 32 = .ok (.iaload, 1) := by decide +kernel
theorem d_m_keyOf_33 : decode prog_8_method_36_code 33 = .ok (.goto 16, 3) := by decide +kernel
theorem d_m_keyOf_36 : decode prog_8_method_36_code 36 = .ok (.aload_n 0, 1) := by decide +kernel
theorem d_m_keyOf_37 : decode prog_8_method_36_code 37 = .ok (.getfield 29, 3) := by decide +kernel
theorem d_m_keyOf_40 : decode prog_8_method_36_code 40 = .ok (.iload_n 1, 1) := by decide +kernel
theorem d_m_keyOf_41 : decode prog_8_method_36_code 41 = .ok (.iaload, 1) := by decide +kernel
theorem d_m_keyOf_42 : decode prog_8_method_36_code 42 = .ok (.aload_n 0, 1) := by decide +kernel
theorem d_m_keyOf_43 : decode prog_8_method_36_code 43 = .ok (.getfield 26, 3) := by decide +kernel
theorem d_m_keyOf_46 : decode prog_8_method_36_code 46 = .ok (.iload_n 1, 1) := by decide +kernel
theorem d_m_keyOf_47 : decode prog_8_method_36_code 47 = .ok (.iaload, 1) := by decide +kernel
theorem d_m_keyOf_48 : decode prog_8_method_36_code 48 = .ok (.imul, 1) := by decide +kernel
theorem d_m_keyOf_49 : decode prog_8_method_36_code 49 = .ok (.ireturn, 1) := by decide +kernel
theorem d_m_layOrder_0 : decode prog_8_method_37_code 0 = .ok (.iconst 0, 1) := by decide +kernel
theorem d_m_layOrder_1 : decode prog_8_method_37_code 1 = .ok (.istore_n 2, 1) := by decide +kernel
theorem d_m_layOrder_2 : decode prog_8_method_37_code 2 = .ok (.iload_n 2, 1) := by decide +kernel
theorem d_m_layOrder_3 : decode prog_8_method_37_code 3 = .ok (.aload_n 0, 1) := by decide +kernel
theorem d_m_layOrder_4 : decode prog_8_method_37_code 4 = .ok (.getfield 102, 3) := by decide +kernel
theorem d_m_layOrder_7 : decode prog_8_method_37_code 7 = .ok (.if_icmp .ge 64, 3) := by decide +kernel
theorem d_m_layOrder_10 : decode prog_8_method_37_code 10 = .ok (.iload_n 2, 1) := by decide +kernel
theorem d_m_layOrder_11 : decode prog_8_method_37_code 11 = .ok (.istore_n 3, 1) := by decide +kernel
theorem d_m_layOrder_12 : decode prog_8_method_37_code 12 = .ok (.iload_n 3, 1) := by decide +kernel
theorem d_m_layOrder_13 : decode prog_8_method_37_code 13 = .ok (.ifCond .le 45, 3) := by decide +kernel
theorem d_m_layOrder_16 : decode prog_8_method_37_code 16 = .ok (.aload_n 0, 1) := by decide +kernel
theorem d_m_layOrder_17 : decode prog_8_method_37_code 17 = .ok (.aload_n 0, 1) := by decide +kernel
theorem d_m_layOrder_18 : decode prog_8_method_37_code 18 = .ok (.getfield 35, 3) := by decide +kernel
theorem d_m_layOrder_21 : decode prog_8_method_37_code 21 = .ok (.iload_n 3, 1) := by decide +kernel
theorem d_m_layOrder_22 : decode prog_8_method_37_code 22 = .ok (.iconst 1, 1) := by decide +kernel
theorem d_m_layOrder_23 : decode prog_8_method_37_code 23 = .ok (.isub, 1) := by decide +kernel
theorem d_m_layOrder_24 : decode prog_8_method_37_code 24 = .ok (.iaload, 1) := by decide +kernel
theorem d_m_layOrder_25 : decode prog_8_method_37_code 25 = .ok (.iload_n 1, 1) := by decide +kernel
theorem d_m_layOrder_26 : decode prog_8_method_37_code 26 = .ok (.invokevirtual 116, 3) := by decide +kernel
theorem d_m_layOrder_29 : decode prog_8_method_37_code 29 = .ok (.aload_n 0, 1) := by decide +kernel
theorem d_m_layOrder_30 : decode prog_8_method_37_code 30 = .ok (.iload_n 2, 1) := by decide +kernel
theorem d_m_layOrder_31 : decode prog_8_method_37_code 31 = .ok (.iload_n 1, 1) := by decide +kernel
theorem d_m_layOrder_32 : decode prog_8_method_37_code 32 = .ok (.invokevirtual 116, 3) := by decide +kernel
theorem d_m_layOrder_35 : decode prog_8_method_37_code 35 = .ok (.if_icmp .ge 23, 3) := by decide +kernel
theorem d_m_layOrder_38 : decode prog_8_method_37_code 38 = .ok (.aload_n 0, 1) := by decide +kernel
theorem d_m_layOrder_39 : decode prog_8_method_37_code 39 = .ok (.getfield 35, 3) := by decide +kernel
theorem d_m_layOrder_42 : decode prog_8_method_37_code 42 = .ok (.iload_n 3, 1) := by decide +kernel
theorem d_m_layOrder_43 : decode prog_8_method_37_code 43 = .ok (.aload_n 0, 1) := by decide +kernel
theorem d_m_layOrder_44 : decode prog_8_method_37_code 44 = .ok (.getfield 35, 3) := by decide +kernel
theorem d_m_layOrder_47 : decode prog_8_method_37_code 47 = .ok (.iload_n 3, 1) := by decide +kernel
theorem d_m_layOrder_48 : decode prog_8_method_37_code 48 = .ok (.iconst 1, 1) := by decide +kernel
theorem d_m_layOrder_49 : decode prog_8_method_37_code 49 = .ok (.isub, 1) := by decide +kernel
theorem d_m_layOrder_50 : decode prog_8_method_37_code 50 = .ok (.iaload, 1) := by decide +kernel
theorem d_m_layOrder_51 : decode prog_8_method_37_code 51 = .ok (.iastore, 1) := by decide +kernel
theorem d_m_layOrder_52 : decode prog_8_method_37_code 52 = .ok (.iinc 3 (-1), 3) := by decide +kernel
theorem d_m_layOrder_55 : decode prog_8_method_37_code 55 = .ok (.goto (-43), 3) := by decide +kernel
theorem d_m_layOrder_58 : decode prog_8_method_37_code 58 = .ok (.aload_n 0, 1) := by decide +kernel
theorem d_m_layOrder_59 : decode prog_8_method_37_code 59 = .ok (.getfield 35, 3) := by decide +kernel
theorem d_m_layOrder_62 : decode prog_8_method_37_code 62 = .ok (.iload_n 3, 1) := by decide +kernel
theorem d_m_layOrder_63 : decode prog_8_method_37_code 63 = .ok (.iload_n 2, 1) := by decide +kernel
theorem d_m_layOrder_64 : decode prog_8_method_37_code 64 = .ok (.iastore, 1) := by decide +kernel
theorem d_m_layOrder_65 : decode prog_8_method_37_code 65 = .ok (.iinc 2 1, 3) := by decide +kernel
theorem d_m_layOrder_68 : decode prog_8_method_37_code 68 = .ok (.goto (-66), 3) := by decide +kernel
theorem d_m_layOrder_71 : decode prog_8_method_37_code 71 = .ok (.return_, 1) := by decide +kernel
theorem d_m_shelfFor_0 : decode prog_8_method_38_code 0 = .ok (.iconst 0, 1) := by decide +kernel
theorem d_m_shelfFor_1 : decode prog_8_method_38_code 1 = .ok (.istore_n 3, 1) := by decide +kernel
theorem d_m_shelfFor_2 : decode prog_8_method_38_code 2 = .ok (.iload_n 3, 1) := by decide +kernel
theorem d_m_shelfFor_3 : decode prog_8_method_38_code 3 = .ok (.aload_n 0, 1) := by decide +kernel
theorem d_m_shelfFor_4 : decode prog_8_method_38_code 4 = .ok (.getfield 119, 3) := by decide +kernel
theorem d_m_shelfFor_7 : decode prog_8_method_38_code 7 = .ok (.if_icmp .ge 52, 3) := by decide +kernel
theorem d_m_shelfFor_10 : decode prog_8_method_38_code 10 = .ok (.aload_n 0, 1) := by decide +kernel
theorem d_m_shelfFor_11 : decode prog_8_method_38_code 11 = .ok (.getfield 32, 3) := by decide +kernel
theorem d_m_shelfFor_14 : decode prog_8_method_38_code 14 = .ok (.iload_n 1, 1) := by decide +kernel
theorem d_m_shelfFor_15 : decode prog_8_method_38_code 15 = .ok (.baload, 1) := by decide +kernel
theorem d_m_shelfFor_16 : decode prog_8_method_38_code 16 = .ok (.ifCond .ne 43, 3) := by decide +kernel
theorem d_m_shelfFor_19 : decode prog_8_method_38_code 19 = .ok (.aload_n 0, 1) := by decide +kernel
theorem d_m_shelfFor_20 : decode prog_8_method_38_code 20 = .ok (.getfield 29, 3) := by decide +kernel
theorem d_m_shelfFor_23 : decode prog_8_method_38_code 23 = .ok (.iload_n 1, 1) := by decide +kernel
theorem d_m_shelfFor_24 : decode prog_8_method_38_code 24 = .ok (.iaload, 1) := by decide +kernel
theorem d_m_shelfFor_25 : decode prog_8_method_38_code 25 = .ok (.aload_n 0, 1) := by decide +kernel
theorem d_m_shelfFor_26 : decode prog_8_method_38_code 26 = .ok (.getfield 47, 3) := by decide +kernel
theorem d_m_shelfFor_29 : decode prog_8_method_38_code 29 = .ok (.iload_n 3, 1) := by decide +kernel
theorem d_m_shelfFor_30 : decode prog_8_method_38_code 30 = .ok (.iaload, 1) := by decide +kernel
theorem d_m_shelfFor_31 : decode prog_8_method_38_code 31 = .ok (.if_icmp .gt 22, 3) := by decide +kernel
theorem d_m_shelfFor_34 : decode prog_8_method_38_code 34 = .ok (.aload_n 0, 1) := by decide +kernel
theorem d_m_shelfFor_35 : decode prog_8_method_38_code 35 = .ok (.getfield 50, 3) := by decide +kernel
theorem d_m_shelfFor_38 : decode prog_8_method_38_code 38 = .ok (.iload_n 3, 1) := by decide +kernel
theorem d_m_shelfFor_39 : decode prog_8_method_38_code 39 = .ok (.iaload, 1) := by decide +kernel
theorem d_m_shelfFor_40 : decode prog_8_method_38_code 40 = .ok (.aload_n 0, 1) := by decide +kernel
theorem d_m_shelfFor_41 : decode prog_8_method_38_code 41 = .ok (.getfield 26, 3) := by decide +kernel
theorem d_m_shelfFor_44 : decode prog_8_method_38_code 44 = .ok (.iload_n 1, 1) := by decide +kernel
theorem d_m_shelfFor_45 : decode prog_8_method_38_code 45 = .ok (.iaload, 1) := by decide +kernel
theorem d_m_shelfFor_46 : decode prog_8_method_38_code 46 = .ok (.iadd, 1) := by decide +kernel
theorem d_m_shelfFor_47 : decode prog_8_method_38_code 47 = .ok (.iload_n 2, 1) := by decide +kernel
theorem d_m_shelfFor_48 : decode prog_8_method_38_code 48 = .ok (.if_icmp .gt 5, 3) := by decide +kernel
theorem d_m_shelfFor_51 : decode prog_8_method_38_code 51 = .ok (.iload_n 3, 1) := by decide +kernel
theorem d_m_shelfFor_52 : decode prog_8_method_38_code 52 = .ok (.ireturn, 1) := by decide +kernel
theorem d_m_shelfFor_53 : decode prog_8_method_38_code 53 = .ok (.iinc 3 1, 3) := by decide +kernel
theorem d_m_shelfFor_56 : decode prog_8_method_38_code 56 = .ok (.goto (-54), 3) := by decide +kernel
theorem d_m_shelfFor_59 : decode prog_8_method_38_code 59 = .ok (.aload_n 0, 1) := by decide +kernel
theorem d_m_shelfFor_60 : decode prog_8_method_38_code 60 = .ok (.getfield 119, 3) := by decide +kernel
theorem d_m_shelfFor_63 : decode prog_8_method_38_code 63 = .ok (.ifCond .ne 7, 3) := by decide +kernel
theorem d_m_shelfFor_66 : decode prog_8_method_38_code 66 = .ok (.iconst 0, 1) := by decide +kernel
theorem d_m_shelfFor_67 : decode prog_8_method_38_code 67 = .ok (.goto 26, 3) := by decide +kernel
theorem d_m_shelfFor_70 : decode prog_8_method_38_code 70 = .ok (.aload_n 0, 1) := by decide +kernel
theorem d_m_shelfFor_71 : decode prog_8_method_38_code 71 = .ok (.getfield 44, 3) := by decide +kernel
theorem d_m_shelfFor_74 : decode prog_8_method_38_code 74 = .ok (.aload_n 0, 1) := by decide +kernel
theorem d_m_shelfFor_75 : decode prog_8_method_38_code 75 = .ok (.getfield 119, 3) := by decide +kernel
theorem d_m_shelfFor_78 : decode prog_8_method_38_code 78 = .ok (.iconst 1, 1) := by decide +kernel
theorem d_m_shelfFor_79 : decode prog_8_method_38_code 79 = .ok (.isub, 1) := by decide +kernel
theorem d_m_shelfFor_80 : decode prog_8_method_38_code 80 = .ok (.iaload, 1) := by decide +kernel
theorem d_m_shelfFor_81 : decode prog_8_method_38_code 81 = .ok (.aload_n 0, 1) := by decide +kernel
theorem d_m_shelfFor_82 : decode prog_8_method_38_code 82 = .ok (.getfield 47, 3) := by decide +kernel
theorem d_m_shelfFor_85 : decode prog_8_method_38_code 85 = .ok (.aload_n 0, 1) := by decide +kernel
theorem d_m_shelfFor_86 : decode prog_8_method_38_code 86 = .ok (.getfield 119, 3) := by decide +kernel
theorem d_m_shelfFor_89 : decode prog_8_method_38_code 89 = .ok (.iconst 1, 1) := by decide +kernel
theorem d_m_shelfFor_90 : decode prog_8_method_38_code 90 = .ok (.isub, 1) := by decide +kernel
theorem d_m_shelfFor_91 : decode prog_8_method_38_code 91 = .ok (.iaload, 1) := by decide +kernel
theorem d_m_shelfFor_92 : decode prog_8_method_38_code 92 = .ok (.iadd, 1) := by decide +kernel
theorem d_m_shelfFor_93 : decode prog_8_method_38_code 93 = .ok (.istore_n 3, 1) := by decide +kernel
theorem d_m_shelfFor_94 : decode prog_8_method_38_code 94 = .ok (.aload_n 0, 1) := by decide +kernel
theorem d_m_shelfFor_95 : decode prog_8_method_38_code 95 = .ok (.getfield 44, 3) := by decide +kernel
theorem d_m_shelfFor_98 : decode prog_8_method_38_code 98 = .ok (.aload_n 0, 1) := by decide +kernel
theorem d_m_shelfFor_99 : decode prog_8_method_38_code 99 = .ok (.getfield 119, 3) := by decide +kernel
theorem d_m_shelfFor_102 : decode prog_8_method_38_code 102 = .ok (.iload_n 3, 1) := by decide +kernel
theorem d_m_shelfFor_103 : decode prog_8_method_38_code 103 = .ok (.iastore, 1) := by decide +kernel
theorem d_m_shelfFor_104 : decode prog_8_method_38_code 104 = .ok (.aload_n 0, 1) := by decide +kernel
theorem d_m_shelfFor_105 : decode prog_8_method_38_code 105 = .ok (.getfield 47, 3) := by decide +kernel
theorem d_m_shelfFor_108 : decode prog_8_method_38_code 108 = .ok (.aload_n 0, 1) := by decide +kernel
theorem d_m_shelfFor_109 : decode prog_8_method_38_code 109 = .ok (.getfield 119, 3) := by decide +kernel
theorem d_m_shelfFor_112 : decode prog_8_method_38_code 112 = .ok (.aload_n 0, 1) := by decide +kernel
theorem d_m_shelfFor_113 : decode prog_8_method_38_code 113 = .ok (.getfield 29, 3) := by decide +kernel
theorem d_m_shelfFor_116 : decode prog_8_method_38_code 116 = .ok (.iload_n 1, 1) := by decide +kernel
theorem d_m_shelfFor_117 : decode prog_8_method_38_code 117 = .ok (.iaload, 1) := by decide +kernel
theorem d_m_shelfFor_118 : decode prog_8_method_38_code 118 = .ok (.iastore, 1) := by decide +kernel
theorem d_m_shelfFor_119 : decode prog_8_method_38_code 119 = .ok (.aload_n 0, 1) := by decide +kernel
theorem d_m_shelfFor_120 : decode prog_8_method_38_code 120 = .ok (.getfield 50, 3) := by decide +kernel
theorem d_m_shelfFor_123 : decode prog_8_method_38_code 123 = .ok (.aload_n 0, 1) := by decide +kernel
theorem d_m_shelfFor_124 : decode prog_8_method_38_code 124 = .ok (.getfield 119, 3) := by decide +kernel
theorem d_m_shelfFor_127 : decode prog_8_method_38_code 127 = .ok (.iconst 0, 1) := by decide +kernel
theorem d_m_shelfFor_128 : decode prog_8_method_38_code 128 = .ok (.iastore, 1) := by decide +kernel
theorem d_m_shelfFor_129 : decode prog_8_method_38_code 129 = .ok (.aload_n 0, 1) := by decide +kernel
theorem d_m_shelfFor_130 : decode prog_8_method_38_code 130 = .ok (.dup, 1) := by decide +kernel
theorem d_m_shelfFor_131 : decode prog_8_method_38_code 131 = .ok (.getfield 119, 3) := by decide +kernel
theorem d_m_shelfFor_134 : decode prog_8_method_38_code 134 = .ok (.iconst 1, 1) := by decide +kernel
theorem d_m_shelfFor_135 : decode prog_8_method_38_code 135 = .ok (.iadd, 1) := by decide +kernel
theorem d_m_shelfFor_136 : decode prog_8_method_38_code 136 = .ok (.putfield 119, 3) := by decide +kernel
theorem d_m_shelfFor_139 : decode prog_8_method_38_code 139 = .ok (.aload_n 0, 1) := by decide +kernel
theorem d_m_shelfFor_140 : decode prog_8_method_38_code 140 = .ok (.getfield 119, 3) := by decide +kernel
theorem d_m_shelfFor_143 : decode prog_8_method_38_code 143 = .ok (.iconst 1, 1) := by decide +kernel
theorem d_m_shelfFor_144 : decode prog_8_method_38_code 144 = .ok (.isub, 1) := by decide +kernel
theorem d_m_shelfFor_145 : decode prog_8_method_38_code 145 = .ok (.ireturn, 1) := by decide +kernel
theorem d_m_packShelves_0 : decode prog_8_method_39_code 0 = .ok (.aload_n 0, 1) := by decide +kernel
theorem d_m_packShelves_1 : decode prog_8_method_39_code 1 = .ok (.iconst 0, 1) := by decide +kernel
theorem d_m_packShelves_2 : decode prog_8_method_39_code 2 = .ok (.putfield 119, 3) := by decide +kernel
theorem d_m_packShelves_5 : decode prog_8_method_39_code 5 = .ok (.iconst 0, 1) := by decide +kernel
theorem d_m_packShelves_6 : decode prog_8_method_39_code 6 = .ok (.istore_n 2, 1) := by decide +kernel
theorem d_m_packShelves_7 : decode prog_8_method_39_code 7 = .ok (.iload_n 2, 1) := by decide +kernel
theorem d_m_packShelves_8 : decode prog_8_method_39_code 8 = .ok (.aload_n 0, 1) := by decide +kernel
theorem d_m_packShelves_9 : decode prog_8_method_39_code 9 = .ok (.getfield 102, 3) := by decide +kernel
theorem d_m_packShelves_12 : decode prog_8_method_39_code 12 = .ok (.if_icmp .ge 66, 3) := by decide +kernel
theorem d_m_packShelves_15 : decode prog_8_method_39_code 15 = .ok (.aload_n 0, 1) := by decide +kernel
theorem d_m_packShelves_16 : decode prog_8_method_39_code 16 = .ok (.getfield 35, 3) := by decide +kernel
theorem d_m_packShelves_19 : decode prog_8_method_39_code 19 = .ok (.iload_n 2, 1) := by decide +kernel
theorem d_m_packShelves_20 : decode prog_8_method_39_code 20 = .ok (.iaload, 1) := by decide +kernel
theorem d_m_packShelves_21 : decode prog_8_method_39_code 21 = .ok (.istore_n 3, 1) := by decide +kernel
theorem d_m_packShelves_22 : decode prog_8_method_39_code 22 = .ok (.aload_n 0, 1) := by decide +kernel
theorem d_m_packShelves_23 : decode prog_8_method_39_code 23 = .ok (.iload_n 3, 1) := by decide +kernel
theorem d_m_packShelves_24 : decode prog_8_method_39_code 24 = .ok (.iload_n 1, 1) := by decide +kernel
theorem d_m_packShelves_25 : decode prog_8_method_39_code 25 = .ok (.invokevirtual 122, 3) := by decide +kernel
theorem d_m_packShelves_28 : decode prog_8_method_39_code 28 = .ok (.istore 4, 2) := by decide +kernel
theorem d_m_packShelves_30 : decode prog_8_method_39_code 30 = .ok (.aload_n 0, 1) := by decide +kernel
theorem d_m_packShelves_31 : decode prog_8_method_39_code 31 = .ok (.getfield 38, 3) := by decide +kernel
theorem d_m_packShelves_34 : decode prog_8_method_39_code 34 = .ok (.iload_n 3, 1) := by decide +kernel
theorem d_m_packShelves_35 : decode prog_8_method_39_code 35 = .ok (.aload_n 0, 1) := by decide +kernel
theorem d_m_packShelves_36 : decode prog_8_method_39_code 36 = .ok (.getfield 44, 3) := by decide +kernel
theorem d_m_packShelves_39 : decode prog_8_method_39_code 39 = .ok (.iload 4, 2) := by decide +kernel
theorem d_m_packShelves_41 : decode prog_8_method_39_code 41 = .ok (.iaload, 1) := by decide +kernel
theorem d_m_packShelves_42 : decode prog_8_method_39_code 42 = .ok (.iastore, 1) := by decide +kernel
theorem d_m_packShelves_43 : decode prog_8_method_39_code 43 = .ok (.aload_n 0, 1) := by decide +kernel
theorem d_m_packShelves_44 : decode prog_8_method_39_code 44 = .ok (.getfield 41, 3) := by decide +kernel
theorem d_m_packShelves_47 : decode prog_8_method_39_code 47 = .ok (.iload_n 3, 1) := by decide +kernel
theorem d_m_packShelves_48 : decode prog_8_method_39_code 48 = .ok (.aload_n 0, 1) := by decide +kernel
theorem d_m_packShelves_49 : decode prog_8_method_39_code 49 = .ok (.getfield 50, 3) := by decide +kernel
theorem d_m_packShelves_52 : decode prog_8_method_39_code 52 = .ok (.iload 4, 2) := by decide +kernel
theorem d_m_packShelves_54 : decode prog_8_method_39_code 54 = .ok (.iaload, 1) := by decide +kernel
theorem d_m_packShelves_55 : decode prog_8_method_39_code 55 = .ok (.iastore, 1) := by decide +kernel
theorem d_m_packShelves_56 : decode prog_8_method_39_code 56 = .ok (.aload_n 0, 1) := by decide +kernel
theorem d_m_packShelves_57 : decode prog_8_method_39_code 57 = .ok (.getfield 50, 3) := by decide +kernel
theorem d_m_packShelves_60 : decode prog_8_method_39_code 60 = .ok (.iload 4, 2) := by decide +kernel
theorem d_m_packShelves_62 : decode prog_8_method_39_code 62 = .ok (.dup2, 1) := by decide +kernel
theorem d_m_packShelves_63 : decode prog_8_method_39_code 63 = .ok (.iaload, 1) := by decide +kernel
theorem d_m_packShelves_64 : decode prog_8_method_39_code 64 = .ok (.aload_n 0, 1) := by decide +kernel
theorem d_m_packShelves_65 : decode prog_8_method_39_code 65 = .ok (.getfield 26, 3) := by decide +kernel
theorem d_m_packShelves_68 : decode prog_8_method_39_code 68 = .ok (.iload_n 3, 1) := by decide +kernel
theorem d_m_packShelves_69 : decode prog_8_method_39_code 69 = .ok (.iaload, 1) := by decide +kernel
theorem d_m_packShelves_70 : decode prog_8_method_39_code 70 = .ok (.iadd, 1) := by decide +kernel
theorem d_m_packShelves_71 : decode prog_8_method_39_code 71 = .ok (.iastore, 1) := by decide +kernel
theorem d_m_packShelves_72 : decode prog_8_method_39_code 72 = .ok (.iinc 2 1, 3) := by decide +kernel
theorem d_m_packShelves_75 : decode prog_8_method_39_code 75 = .ok (.goto (-68), 3) := by decide +kernel
theorem d_m_packShelves_78 : decode prog_8_method_39_code 78 = .ok (.return_, 1) := by decide +kernel
theorem d_m_takenFrom_0 : decode prog_8_method_40_code 0 = .ok (.iconst 0, 1) := by decide +kernel
theorem d_m_takenFrom_1 : decode prog_8_method_40_code 1 = .ok (.istore_n 3, 1) := by decide +kernel
theorem d_m_takenFrom_2 : decode prog_8_method_40_code 2 = .ok (.iconst 0, 1) := by decide +kernel
theorem d_m_takenFrom_3 : decode prog_8_method_40_code 3 = .ok (.istore 4, 2) := by decide +kernel
theorem d_m_takenFrom_5 : decode prog_8_method_40_code 5 = .ok (.iload 4, 2) := by decide +kernel
theorem d_m_takenFrom_7 : decode prog_8_method_40_code 7 = .ok (.iload_n 2, 1) := by decide +kernel
theorem d_m_takenFrom_8 : decode prog_8_method_40_code 8 = .ok (.if_icmp .ge 21, 3) := by decide +kernel
theorem d_m_takenFrom_11 : decode prog_8_method_40_code 11 = .ok (.iload_n 3, 1) := by decide +kernel
theorem d_m_takenFrom_12 : decode prog_8_method_40_code 12 = .ok (.aload_n 0, 1) := by decide +kernel
theorem d_m_takenFrom_13 : decode prog_8_method_40_code 13 = .ok (.getfield 53, 3) := by decide +kernel
theorem d_m_takenFrom_16 : decode prog_8_method_40_code 16 = .ok (.iload_n 1, 1) := by decide +kernel
theorem d_m_takenFrom_17 : decode prog_8_method_40_code 17 = .ok (.iload 4, 2) := by decide +kernel
theorem d_m_takenFrom_19 : decode prog_8_method_40_code 19 = .ok (.iadd, 1) := by decide +kernel
theorem d_m_takenFrom_20 : decode prog_8_method_40_code 20 = .ok (.iaload, 1) := by decide +kernel
theorem d_m_takenFrom_21 : decode prog_8_method_40_code 21 = .ok (.ior, 1) := by decide +kernel
theorem d_m_takenFrom_22 : decode prog_8_method_40_code 22 = .ok (.istore_n 3, 1) := by decide +kernel
theorem d_m_takenFrom_23 : decode prog_8_method_40_code 23 = .ok (.iinc 4 1, 3) := by decide +kernel
theorem d_m_takenFrom_26 : decode prog_8_method_40_code 26 = .ok (.goto (-21), 3) := by decide +kernel
theorem d_m_takenFrom_29 : decode prog_8_method_40_code 29 = .ok (.iload_n 3, 1) := by decide +kernel
theorem d_m_takenFrom_30 : decode prog_8_method_40_code 30 = .ok (.ireturn, 1) := by decide +kernel
theorem d_m_freeAt_0 : decode prog_8_method_41_code 0 = .ok (.aload_n 0, 1) := by decide +kernel
theorem d_m_freeAt_1 : decode prog_8_method_41_code 1 = .ok (.iload_n 2, 1) := by decide +kernel
theorem d_m_freeAt_2 : decode prog_8_method_41_code 2 = .ok (.aload_n 0, 1) := by decide +kernel
theorem d_m_freeAt_3 : decode prog_8_method_41_code 3 = .ok (.getfield 29, 3) := by decide +kernel
theorem d_m_freeAt_6 : decode prog_8_method_41_code 6 = .ok (.iload_n 1, 1) := by decide +kernel
theorem d_m_freeAt_7 : decode prog_8_method_41_code 7 = .ok (.iaload, 1) := by decide +kernel
theorem d_m_freeAt_8 : decode prog_8_method_41_code 8 = .ok (.invokevirtual 125, 3) := by decide +kernel
theorem d_m_freeAt_11 : decode prog_8_method_41_code 11 = .ok (.istore 4, 2) := by decide +kernel
theorem d_m_freeAt_13 : decode prog_8_method_41_code 13 = .ok (.iconst 1, 1) := by decide +kernel
theorem d_m_freeAt_14 : decode prog_8_method_41_code 14 = .ok (.aload_n 0, 1) := by decide +kernel
theorem d_m_freeAt_15 : decode prog_8_method_41_code 15 = .ok (.getfield 26, 3) := by decide +kernel
theorem d_m_freeAt_18 : decode prog_8_method_41_code 18 = .ok (.iload_n 1, 1) := by decide +kernel
theorem d_m_freeAt_19 : decode prog_8_method_41_code 19 = .ok (.iaload, 1) := by decide +kernel
theorem d_m_freeAt_20 : decode prog_8_method_41_code 20 = .ok (.ishl, 1) := by decide +kernel
theorem d_m_freeAt_21 : decode prog_8_method_41_code 21 = .ok (.iconst 1, 1) := by decide +kernel
theorem d_m_freeAt_22 : decode prog_8_method_41_code 22 = .ok (.isub, 1) := by decide +kernel
theorem d_m_freeAt_23 : decode prog_8_method_41_code 23 = .ok (.istore 5, 2) := by decide +kernel
theorem d_m_freeAt_25 : decode prog_8_method_41_code 25 = .ok (.aload_n 0, 1) := by decide +kernel
theorem d_m_freeAt_26 : decode prog_8_method_41_code 26 = .ok (.getfield 32, 3) := by decide +kernel
theorem d_m_freeAt_29 : decode prog_8_method_41_code 29 = .ok (.iload_n 1, 1) := by decide +kernel
theorem d_m_freeAt_30 : decode prog_8_method_41_code 30 = .ok (.baload, 1) := by decide +kernel
theorem d_m_freeAt_31 : decode prog_8_method_41_code 31 = .ok (.ifCond .eq 7, 3) := by decide +kernel
theorem d_m_freeAt_34 : decode prog_8_method_41_code 34 = .ok (.iconst 0, 1) := by decide +kernel
theorem d_m_freeAt_35 : decode prog_8_method_41_code 35 = .ok (.goto 11, 3) := by decide +kernel
theorem d_m_freeAt_38 : decode prog_8_method_41_code 38 = .ok (.iload_n 3, 1) := by decide +kernel
theorem d_m_freeAt_39 : decode prog_8_method_41_code 39 = .ok (.aload_n 0, 1) := by decide +kernel
theorem d_m_freeAt_40 : decode prog_8_method_41_code 40 = .ok (.getfield 26, 3) := by decide +kernel
theorem d_m_freeAt_43 : decode prog_8_method_41_code 43 = .ok (.iload_n 1, 1) := by decide +kernel
theorem d_m_freeAt_44 : decode prog_8_method_41_code 44 = .ok (.iaload, 1) := by decide +kernel
theorem d_m_freeAt_45 : decode prog_8_method_41_code 45 = .ok (.isub, 1) := by decide +kernel
theorem d_m_freeAt_46 : decode prog_8_method_41_code 46 = .ok (.istore 6, 2) := by decide +kernel
theorem d_m_freeAt_48 : decode prog_8_method_41_code 48 = .ok (.iconst 0, 1) := by decide +kernel
theorem d_m_freeAt_49 : decode prog_8_method_41_code 49 = .ok (.istore 7, 2) := by decide +kernel
theorem d_m_freeAt_51 : decode prog_8_method_41_code 51 = .ok (.iload 7, 2) := by decide +kernel
theorem d_m_freeAt_53 : decode prog_8_method_41_code 53 = .ok (.iload 6, 2) := by decide +kernel
theorem d_m_freeAt_55 : decode prog_8_method_41_code 55 = .ok (.if_icmp .gt 23, 3) := by decide +kernel
theorem d_m_freeAt_58 : decode prog_8_method_41_code 58 = .ok (.iload 4, 2) := by decide +kernel
theorem d_m_freeAt_60 : decode prog_8_method_41_code 60 = .ok (.iload 5, 2) := by decide +kernel
theorem d_m_freeAt_62 : decode prog_8_method_41_code 62 = .ok (.iload 7, 2) := by decide +kernel
theorem d_m_freeAt_64 : decode prog_8_method_41_code 64 = .ok (.ishl, 1) := by decide +kernel
theorem d_m_freeAt_65 : decode prog_8_method_41_code 65 = .ok (.iand, 1) := by decide +kernel
theorem d_m_freeAt_66 : decode prog_8_method_41_code 66 = .ok (.ifCond .ne 6, 3) := by decide +kernel
theorem d_m_freeAt_69 : decode prog_8_method_41_code 69 = .ok (.iload 7, 2) := by decide +kernel
theorem d_m_freeAt_71 : decode prog_8_method_41_code 71 = .ok (.ireturn, 1) := by decide +kernel
theorem d_m_freeAt_72 : decode prog_8_method_41_code 72 = .ok (.iinc 7 1, 3) := by decide +kernel
theorem d_m_freeAt_75 : decode prog_8_method_41_code 75 = .ok (.goto (-24), 3) := by decide +kernel
theorem d_m_freeAt_78 : decode prog_8_method_41_code 78 = .ok (.sipush (-1010), 3) := by decide +kernel
theorem d_m_freeAt_81 : decode prog_8_method_41_code 81 = .ok (.ireturn, 1) := by decide +kernel
theorem d_m_packFree_0 : decode prog_8_method_42_code 0 = .ok (.iconst 0, 1) := by decide +kernel
theorem d_m_packFree_1 : decode prog_8_method_42_code 1 = .ok (.istore_n 2, 1) := by decide +kernel
theorem d_m_packFree_2 : decode prog_8_method_42_code 2 = .ok (.iload_n 2, 1) := by decide +kernel
theorem d_m_packFree_3 : decode prog_8_method_42_code 3 = .ok (.aload_n 0, 1) := by decide +kernel
theorem d_m_packFree_4 : decode prog_8_method_42_code 4 = .ok (.getfield 53, 3) := by decide +kernel
theorem d_m_packFree_7 : decode prog_8_method_42_code 7 = .ok (.arraylength, 1) := by decide +kernel
theorem d_m_packFree_8 : decode prog_8_method_42_code 8 = .ok (.if_icmp .ge 16, 3) := by decide +kernel
theorem d_m_packFree_11 : decode prog_8_method_42_code 11 = .ok (.aload_n 0, 1) := by decide +kernel
theorem d_m_packFree_12 : decode prog_8_method_42_code 12 = .ok (.getfield 53, 3) := by decide +kernel
theorem d_m_packFree_15 : decode prog_8_method_42_code 15 = .ok (.iload_n 2, 1) := by decide +kernel
theorem d_m_packFree_16 : decode prog_8_method_42_code 16 = .ok (.iconst 0, 1) := by decide +kernel
theorem d_m_packFree_17 : decode prog_8_method_42_code 17 = .ok (.iastore, 1) := by decide +kernel
theorem d_m_packFree_18 : decode prog_8_method_42_code 18 = .ok (.iinc 2 1, 3) := by decide +kernel
theorem d_m_packFree_21 : decode prog_8_method_42_code 21 = .ok (.goto (-19), 3) := by decide +kernel
theorem d_m_packFree_24 : decode prog_8_method_42_code 24 = .ok (.iconst 0, 1) := by decide +kernel
theorem d_m_packFree_25 : decode prog_8_method_42_code 25 = .ok (.istore_n 2, 1) := by decide +kernel
theorem d_m_packFree_26 : decode prog_8_method_42_code 26 = .ok (.iload_n 2, 1) := by decide +kernel
theorem d_m_packFree_27 : decode prog_8_method_42_code 27 = .ok (.aload_n 0, 1) := by decide +kernel
theorem d_m_packFree_28 : decode prog_8_method_42_code 28 = .ok (.getfield 102, 3) := by decide +kernel
theorem d_m_packFree_31 : decode prog_8_method_42_code 31 = .ok (.if_icmp .ge 112, 3) := by decide +kernel
theorem d_m_packFree_34 : decode prog_8_method_42_code 34 = .ok (.aload_n 0, 1) := by decide +kernel
theorem d_m_packFree_35 : decode prog_8_method_42_code 35 = .ok (.getfield 35, 3) := by decide +kernel
theorem d_m_packFree_38 : decode prog_8_method_42_code 38 = .ok (.iload_n 2, 1) := by decide +kernel
theorem d_m_packFree_39 : decode prog_8_method_42_code 39 = .ok (.iaload, 1) := by decide +kernel
theorem d_m_packFree_40 : decode prog_8_method_42_code 40 = .ok (.istore_n 3, 1) := by decide +kernel
theorem d_m_packFree_41 : decode prog_8_method_42_code 41 = .ok (.iconst 0, 1) := by decide +kernel
theorem d_m_packFree_42 : decode prog_8_method_42_code 42 = .ok (.istore 4, 2) := by decide +kernel
theorem d_m_packFree_44 : decode prog_8_method_42_code 44 = .ok (.aload_n 0, 1) := by decide +kernel
theorem d_m_packFree_45 : decode prog_8_method_42_code 45 = .ok (.iload_n 3, 1) := by decide +kernel
theorem d_m_packFree_46 : decode prog_8_method_42_code 46 = .ok (.iload 4, 2) := by decide +kernel
theorem d_m_packFree_48 : decode prog_8_method_42_code 48 = .ok (.iload_n 1, 1) := by decide +kernel
theorem d_m_packFree_49 : decode prog_8_method_42_code 49 = .ok (.invokevirtual 128, 3) := by decide +kernel
theorem d_m_packFree_52 : decode prog_8_method_42_code 52 = .ok (.istore 5, 2) := by decide +kernel
theorem d_m_packFree_54 : decode prog_8_method_42_code 54 = .ok (.iload 5, 2) := by decide +kernel
theorem d_m_packFree_56 : decode prog_8_method_42_code 56 = .ok (.ifCond .ge 19, 3) := by decide +kernel
theorem d_m_packFree_59 : decode prog_8_method_42_code 59 = .ok (.iinc 4 1, 3) := by decide +kernel
theorem d_m_packFree_62 : decode prog_8_method_42_code 62 = .ok (.aload_n 0, 1) := by decide +kernel
theorem d_m_packFree_63 : decode prog_8_method_42_code 63 = .ok (.iload_n 3, 1) := by decide +kernel
theorem d_m_packFree_64 : decode prog_8_method_42_code 64 = .ok (.iload 4, 2) := by decide +kernel
theorem d_m_packFree_66 : decode prog_8_method_42_code 66 = .ok (.iload_n 1, 1) := by decide +kernel
theorem d_m_packFree_67 : decode prog_8_method_42_code 67 = .ok (.invokevirtual 128, 3) := by decide +kernel
theorem d_m_packFree_70 : decode prog_8_method_42_code 70 = .ok (.istore 5, 2) := by decide +kernel
theorem d_m_packFree_72 : decode prog_8_method_42_code 72 = .ok (.goto (-18), 3) := by decide +kernel
theorem d_m_packFree_75 : decode prog_8_method_42_code 75 = .ok (.aload_n 0, 1) := by decide +kernel
theorem d_m_packFree_76 : decode prog_8_method_42_code 76 = .ok (.getfield 38, 3) := by decide +kernel
theorem d_m_packFree_79 : decode prog_8_method_42_code 79 = .ok (.iload_n 3, 1) := by decide +kernel
theorem d_m_packFree_80 : decode prog_8_method_42_code 80 = .ok (.iload 4, 2) := by decide +kernel
theorem d_m_packFree_82 : decode prog_8_method_42_code 82 = .ok (.iastore, 1) := by decide +kernel
theorem d_m_packFree_83 : decode prog_8_method_42_code 83 = .ok (.aload_n 0, 1) := by decide +kernel
theorem d_m_packFree_84 : decode prog_8_method_42_code 84 = .ok (.getfield 41, 3) := by decide +kernel
theorem d_m_packFree_87 : decode prog_8_method_42_code 87 = .ok (.iload_n 3, 1) := by decide +kernel
theorem d_m_packFree_88 : decode prog_8_method_42_code 88 = .ok (.iload 5, 2) := by decide +kernel
theorem d_m_packFree_90 : decode prog_8_method_42_code 90 = .ok (.iastore, 1) := by decide +kernel
theorem d_m_packFree_91 : decode prog_8_method_42_code 91 = .ok (.iconst 0, 1) := by decide +kernel
theorem d_m_packFree_92 : decode prog_8_method_42_code 92 = .ok (.istore 6, 2) := by decide +kernel
theorem d_m_packFree_94 : decode prog_8_method_42_code 94 = .ok (.iload 6, 2) := by decide +kernel
theorem d_m_packFree_96 : decode prog_8_method_42_code 96 = .ok (.aload_n 0, 1) := by decide +kernel
theorem d_m_packFree_97 : decode prog_8_method_42_code 97 = .ok (.getfield 29, 3) := by decide +kernel
theorem d_m_packFree_100 : decode prog_8_method_42_code 100 = .ok (.iload_n 3, 1) := by decide +kernel
theorem d_m_packFree_101 : decode prog_8_method_42_code 101 = .ok (.iaload, 1) := by decide +kernel
theorem d_m_packFree_102 : decode prog_8_method_42_code 102 = .ok (.if_icmp .ge 35, 3) := by decide +kernel
theorem d_m_packFree_105 : decode prog_8_method_42_code 105 = .ok (.aload_n 0, 1) := by decide +kernel
theorem d_m_packFree_106 : decode prog_8_method_42_code 106 = .ok (.getfield 53, 3) := by decide +kernel
theorem d_m_packFree_109 : decode prog_8_method_42_code 109 = .ok (.iload 4, 2) := by decide +kernel
theorem d_m_packFree_111 : decode prog_8_method_42_code 111 = .ok (.iload 6, 2) := by decide +kernel
theorem d_m_packFree_113 : decode prog_8_method_42_code 113 = .ok (.iadd, 1) := by decide +kernel
theorem d_m_packFree_114 : decode prog_8_method_42_code 114 = .ok (.dup2, 1) := by decide +kernel
theorem d_m_packFree_115 : decode prog_8_method_42_code 115 = .ok (.iaload, 1) := by decide +kernel
theorem d_m_packFree_116 : decode prog_8_method_42_code 116 = .ok (.iconst 1, 1) := by decide +kernel
theorem d_m_packFree_117 : decode prog_8_method_42_code 117 = .ok (.aload_n 0, 1) := by decide +kernel
theorem d_m_packFree_118 : decode prog_8_method_42_code 118 = .ok (.getfield 26, 3) := by decide +kernel
theorem d_m_packFree_121 : decode prog_8_method_42_code 121 = .ok (.iload_n 3, 1) := by decide +kernel
theorem d_m_packFree_122 : decode prog_8_method_42_code 122 = .ok (.iaload, 1) := by decide +kernel
theorem d_m_packFree_123 : decode prog_8_method_42_code 123 = .ok (.ishl, 1) := by decide +kernel
theorem d_m_packFree_124 : decode prog_8_method_42_code 124 = .ok (.iconst 1, 1) := by decide +kernel
theorem d_m_packFree_125 : decode prog_8_method_42_code 125 = .ok (.isub, 1) := by decide +kernel
theorem d_m_packFree_126 : decode prog_8_method_42_code 126 = .ok (.iload 5, 2) := by decide +kernel
theorem d_m_packFree_128 : decode prog_8_method_42_code 128 = .ok (.ishl, 1) := by decide +kernel
theorem d_m_packFree_129 : decode prog_8_method_42_code 129 = .ok (.ior, 1) := by decide +kernel
theorem d_m_packFree_130 : decode prog_8_method_42_code 130 = .ok (.iastore, 1) := by decide +kernel
theorem d_m_packFree_131 : decode prog_8_method_42_code 131 = .ok (.iinc 6 1, 3) := by decide +kernel
theorem d_m_packFree_134 : decode prog_8_method_42_code 134 = .ok (.goto (-40), 3) := by decide +kernel
theorem d_m_packFree_137 : decode prog_8_method_42_code 137 = .ok (.iinc 2 1, 3) := by decide +kernel
theorem d_m_packFree_140 : decode prog_8_method_42_code 140 = .ok (.goto (-114), 3) := by decide +kernel
theorem d_m_packFree_143 : decode prog_8_method_42_code 143 = .ok (.return_, 1) := by decide +kernel
theorem d_m_pack_0 : decode prog_8_method_43_code 0 = .ok (.aload_n 0, 1) := by decide +kernel
theorem d_m_pack_1 : decode prog_8_method_43_code 1 = .ok (.invokevirtual 110, 3) := by decide +kernel
theorem d_m_pack_4 : decode prog_8_method_43_code 4 = .ok (.aload_n 0, 1) := by decide +kernel
theorem d_m_pack_5 : decode prog_8_method_43_code 5 = .ok (.invokevirtual 98, 3) := by decide +kernel
theorem d_m_pack_8 : decode prog_8_method_43_code 8 = .ok (.istore_n 3, 1) := by decide +kernel
theorem d_m_pack_9 : decode prog_8_method_43_code 9 = .ok (.iconst 0, 1) := by decide +kernel
theorem d_m_pack_10 : decode prog_8_method_43_code 10 = .ok (.istore 4, 2) := by decide +kernel
theorem d_m_pack_12 : decode prog_8_method_43_code 12 = .ok (.iload 4, 2) := by decide +kernel
theorem d_m_pack_14 : decode prog_8_method_43_code 14 = .ok (.aload_n 0, 1) := by decide +kernel
theorem d_m_pack_15 : decode prog_8_method_43_code 15 = .ok (.getfield 102, 3) := by decide +kernel
theorem d_m_pack_18 : decode prog_8_method_43_code 18 = .ok (.if_icmp .ge 22, 3) := by decide +kernel
theorem d_m_pack_21 : decode prog_8_method_43_code 21 = .ok (.aload_n 0, 1) := by decide +kernel
theorem d_m_pack_22 : decode prog_8_method_43_code 22 = .ok (.getfield 26, 3) := by decide +kernel
theorem d_m_pack_25 : decode prog_8_method_43_code 25 = .ok (.iload 4, 2) := by decide +kernel
theorem d_m_pack_27 : decode prog_8_method_43_code 27 = .ok (.iaload, 1) := by decide +kernel
theorem d_m_pack_28 : decode prog_8_method_43_code 28 = .ok (.iload_n 3, 1) := by decide +kernel
theorem d_m_pack_29 : decode prog_8_method_43_code 29 = .ok (.if_icmp .le 5, 3) := by decide +kernel
theorem d_m_pack_32 : decode prog_8_method_43_code 32 = .ok (.iconst 0, 1) := by decide +kernel
theorem d_m_pack_33 : decode prog_8_method_43_code 33 = .ok (.ireturn, 1) := by decide +kernel
theorem d_m_pack_34 : decode prog_8_method_43_code 34 = .ok (.iinc 4 1, 3) := by decide +kernel
theorem d_m_pack_37 : decode prog_8_method_43_code 37 = .ok (.goto (-25), 3) := by decide +kernel
theorem d_m_pack_40 : decode prog_8_method_43_code 40 = .ok (.aload_n 0, 1) := by decide +kernel
theorem d_m_pack_41 : decode prog_8_method_43_code 41 = .ok (.iload_n 2, 1) := by decide +kernel
theorem d_m_pack_42 : decode prog_8_method_43_code 42 = .ok (.invokevirtual 131, 3) := by decide +kernel
theorem d_m_pack_45 : decode prog_8_method_43_code 45 = .ok (.iload_n 1, 1) := by decide +kernel
theorem d_m_pack_46 : decode prog_8_method_43_code 46 = .ok (.ifCond .ne 11, 3) := by decide +kernel
theorem d_m_pack_49 : decode prog_8_method_43_code 49 = .ok (.aload_n 0, 1) := by decide +kernel
theorem d_m_pack_50 : decode prog_8_method_43_code 50 = .ok (.iload_n 3, 1) := by decide +kernel
theorem d_m_pack_51 : decode prog_8_method_43_code 51 = .ok (.invokevirtual 134, 3) := by decide +kernel
theorem d_m_pack_54 : decode prog_8_method_43_code 54 = .ok (.goto 8, 3) := by decide +kernel
theorem d_m_pack_57 : decode prog_8_method_43_code 57 = .ok (.aload_n 0, 1) := by decide +kernel
theorem d_m_pack_58 : decode prog_8_method_43_code 58 = .ok (.iload_n 3, 1) := by decide +kernel
theorem d_m_pack_59 : decode prog_8_method_43_code 59 = .ok (.invokevirtual 137, 3) := by decide +kernel
theorem d_m_pack_62 : decode prog_8_method_43_code 62 = .ok (.iconst 1, 1) := by decide +kernel
theorem d_m_pack_63 : decode prog_8_method_43_code 63 = .ok (.ireturn, 1) := by decide +kernel
