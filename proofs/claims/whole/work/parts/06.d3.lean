theorem d_m_packNow_0 : decode prog_8_method_44_code 0 = .ok (.aload_n 0, 1) := by decide +kernel
theorem d_m_packNow_1 : decode prog_8_method_44_code 1 = .ok (.aload_n 0, 1) := by decide +kernel
theorem d_m_packNow_2 : decode prog_8_method_44_code 2 = .ok (.getfield 7, 3) := by decide +kernel
theorem d_m_packNow_5 : decode prog_8_method_44_code 5 = .ok (.bipush 73, 2) := by decide +kernel
theorem d_m_packNow_7 : decode prog_8_method_44_code 7 = .ok (.iaload, 1) := by decide +kernel
theorem d_m_packNow_8 : decode prog_8_method_44_code 8 = .ok (.aload_n 0, 1) := by decide +kernel
theorem d_m_packNow_9 : decode prog_8_method_44_code 9 = .ok (.getfield 7, 3) := by decide +kernel
theorem d_m_packNow_12 : decode prog_8_method_44_code 12 = .ok (.bipush 74, 2) := by decide +kernel
theorem d_m_packNow_14 : decode prog_8_method_44_code 14 = .ok (.iaload, 1) := by decide +kernel
theorem d_m_packNow_15 : decode prog_8_method_44_code 15 = .ok (.invokevirtual 140, 3) := by decide +kernel
theorem d_m_packNow_18 : decode prog_8_method_44_code 18 = .ok (.ireturn, 1) := by decide +kernel
theorem d_m_packedLength_0 : decode prog_8_method_45_code 0 = .ok (.iconst 0, 1) := by decide +kernel
theorem d_m_packedLength_1 : decode prog_8_method_45_code 1 = .ok (.istore_n 1, 1) := by decide +kernel
theorem d_m_packedLength_2 : decode prog_8_method_45_code 2 = .ok (.iconst 0, 1) := by decide +kernel
theorem d_m_packedLength_3 : decode prog_8_method_45_code 3 = .ok (.istore_n 2, 1) := by decide +kernel
theorem d_m_packedLength_4 : decode prog_8_method_45_code 4 = .ok (.iload_n 2, 1) := by decide +kernel
theorem d_m_packedLength_5 : decode prog_8_method_45_code 5 = .ok (.aload_n 0, 1) := by decide +kernel
theorem d_m_packedLength_6 : decode prog_8_method_45_code 6 = .ok (.getfield 102, 3) := by decide +kernel
theorem d_m_packedLength_9 : decode prog_8_method_45_code 9 = .ok (.if_icmp .ge 44, 3) := by decide +kernel
theorem d_m_packedLength_12 : decode prog_8_method_45_code 12 = .ok (.aload_n 0, 1) := by decide +kernel
theorem d_m_packedLength_13 : decode prog_8_method_45_code 13 = .ok (.getfield 38, 3) := by decide +kernel
theorem d_m_packedLength_16 : decode prog_8_method_45_code 16 = .ok (.iload_n 2, 1) := by decide +kernel
theorem d_m_packedLength_17 : decode prog_8_method_45_code 17 = .ok (.iaload, 1) := by decide +kernel
theorem d_m_packedLength_18 : decode prog_8_method_45_code 18 = .ok (.aload_n 0, 1) := by decide +kernel
theorem d_m_packedLength_19 : decode prog_8_method_45_code 19 = .ok (.getfield 29, 3) := by decide +kernel
theorem d_m_packedLength_22 : decode prog_8_method_45_code 22 = .ok (.iload_n 2, 1) := by decide +kernel
theorem d_m_packedLength_23 : decode prog_8_method_45_code 23 = .ok (.iaload, 1) := by decide +kernel
theorem d_m_packedLength_24 : decode prog_8_method_45_code 24 = .ok (.iadd, 1) := by decide +kernel
theorem d_m_packedLength_25 : decode prog_8_method_45_code 25 = .ok (.iload_n 1, 1) := by decide +kernel
theorem d_m_packedLength_26 : decode prog_8_method_45_code 26 = .ok (.if_icmp .le 19, 3) := by decide +kernel
theorem d_m_packedLength_29 : decode prog_8_method_45_code 29 = .ok (.aload_n 0, 1) := by decide +kernel
theorem d_m_packedLength_30 : decode prog_8_method_45_code 30 = .ok (.getfield 38, 3) := by decide +kernel
theorem d_m_packedLength_33 : decode prog_8_method_45_code 33 = .ok (.iload_n 2, 1) := by decide +kernel
theorem d_m_packedLength_34 : decode prog_8_method_45_code 34 = .ok (.iaload, 1) := by decide +kernel
theorem d_m_packedLength_35 : decode prog_8_method_45_code 35 = .ok (.aload_n 0, 1) := by decide +kernel
theorem d_m_packedLength_36 : decode prog_8_method_45_code 36 = .ok (.getfield 29, 3) := by decide +kernel
theorem d_m_packedLength_39 : decode prog_8_method_45_code 39 = .ok (.iload_n 2, 1) := by decide +kernel
theorem d_m_packedLength_40 : decode prog_8_method_45_code 40 = .ok (.iaload, 1) := by decide +kernel
theorem d_m_packedLength_41 : decode prog_8_method_45_code 41 = .ok (.iadd, 1) := by decide +kernel
theorem d_m_packedLength_42 : decode prog_8_method_45_code 42 = .ok (.goto 4, 3) := by decide +kernel
theorem d_m_packedLength_45 : decode prog_8_method_45_code 45 = .ok (.iload_n 1, 1) := by decide +kernel
theorem d_m_packedLength_46 : decode prog_8_method_45_code 46 = .ok (.istore_n 1, 1) := by decide +kernel
theorem d_m_packedLength_47 : decode prog_8_method_45_code 47 = .ok (.iinc 2 1, 3) := by decide +kernel
theorem d_m_packedLength_50 : decode prog_8_method_45_code 50 = .ok (.goto (-46), 3) := by decide +kernel
theorem d_m_packedLength_53 : decode prog_8_method_45_code 53 = .ok (.iload_n 1, 1) := by decide +kernel
theorem d_m_packedLength_54 : decode prog_8_method_45_code 54 = .ok (.ireturn, 1) := by decide +kernel
theorem d_m_lengthBy_0 : decode prog_8_method_46_code 0 = .ok (.aload_n 0, 1) := by decide +kernel
theorem d_m_lengthBy_1 : decode prog_8_method_46_code 1 = .ok (.iload_n 1, 1) := by decide +kernel
theorem d_m_lengthBy_2 : decode prog_8_method_46_code 2 = .ok (.iload_n 2, 1) := by decide +kernel
theorem d_m_lengthBy_3 : decode prog_8_method_46_code 3 = .ok (.invokevirtual 140, 3) := by decide +kernel
theorem d_m_lengthBy_6 : decode prog_8_method_46_code 6 = .ok (.ifCond .eq 10, 3) := by decide +kernel
theorem d_m_lengthBy_9 : decode prog_8_method_46_code 9 = .ok (.aload_n 0, 1) := by decide +kernel
theorem d_m_lengthBy_10 : decode prog_8_method_46_code 10 = .ok (.invokevirtual 143, 3) := by decide +kernel
theorem d_m_lengthBy_13 : decode prog_8_method_46_code 13 = .ok (.goto 6, 3) := by decide +kernel
theorem d_m_lengthBy_16 : decode prog_8_method_46_code 16 = .ok (.sipush (-1007), 3) := by decide +kernel
theorem d_m_lengthBy_19 : decode prog_8_method_46_code 19 = .ok (.ireturn, 1) := by decide +kernel
theorem d_m_lengthNow_0 : decode prog_8_method_47_code 0 = .ok (.aload_n 0, 1) := by decide +kernel
theorem d_m_lengthNow_1 : decode prog_8_method_47_code 1 = .ok (.aload_n 0, 1) := by decide +kernel
theorem d_m_lengthNow_2 : decode prog_8_method_47_code 2 = .ok (.getfield 7, 3) := by decide +kernel
theorem d_m_lengthNow_5 : decode prog_8_method_47_code 5 = .ok (.bipush 73, 2) := by decide +kernel
theorem d_m_lengthNow_7 : decode prog_8_method_47_code 7 = .ok (.iaload, 1) := by decide +kernel
theorem d_m_lengthNow_8 : decode prog_8_method_47_code 8 = .ok (.aload_n 0, 1) := by decide +kernel
theorem d_m_lengthNow_9 : decode prog_8_method_47_code 9 = .ok (.getfield 7, 3) := by decide +kernel
theorem d_m_lengthNow_12 : decode prog_8_method_47_code 12 = .ok (.bipush 74, 2) := by decide +kernel
theorem d_m_lengthNow_14 : decode prog_8_method_47_code 14 = .ok (.iaload, 1) := by decide +kernel
theorem d_m_lengthNow_15 : decode prog_8_method_47_code 15 = .ok (.invokevirtual 146, 3) := by decide +kernel
theorem d_m_lengthNow_18 : decode prog_8_method_47_code 18 = .ok (.ireturn, 1) := by decide +kernel
theorem d_m_partAlong_0 : decode prog_8_method_48_code 0 = .ok (.aload_n 0, 1) := by decide +kernel
theorem d_m_partAlong_1 : decode prog_8_method_48_code 1 = .ok (.iload_n 1, 1) := by decide +kernel
theorem d_m_partAlong_2 : decode prog_8_method_48_code 2 = .ok (.invokevirtual 113, 3) := by decide +kernel
theorem d_m_partAlong_5 : decode prog_8_method_48_code 5 = .ok (.ifCond .ne 7, 3) := by decide +kernel
theorem d_m_partAlong_8 : decode prog_8_method_48_code 8 = .ok (.sipush (-1004), 3) := by decide +kernel
theorem d_m_partAlong_11 : decode prog_8_method_48_code 11 = .ok (.ireturn, 1) := by decide +kernel
theorem d_m_partAlong_12 : decode prog_8_method_48_code 12 = .ok (.aload_n 0, 1) := by decide +kernel
theorem d_m_partAlong_13 : decode prog_8_method_48_code 13 = .ok (.invokevirtual 149, 3) := by decide +kernel
theorem d_m_partAlong_16 : decode prog_8_method_48_code 16 = .ok (.ifCond .eq 12, 3) := by decide +kernel
theorem d_m_partAlong_19 : decode prog_8_method_48_code 19 = .ok (.aload_n 0, 1) := by decide +kernel
theorem d_m_partAlong_20 : decode prog_8_method_48_code 20 = .ok (.getfield 38, 3) := by decide +kernel
theorem d_m_partAlong_23 : decode prog_8_method_48_code 23 = .ok (.iload_n 1, 1) := by decide +kernel
theorem d_m_partAlong_24 : decode prog_8_method_48_code 24 = .ok (.iaload, 1) := by decide +kernel
theorem d_m_partAlong_25 : decode prog_8_method_48_code 25 = .ok (.goto 6, 3) := by decide +kernel
theorem d_m_partAlong_28 : decode prog_8_method_48_code 28 = .ok (.sipush (-1007), 3) := by decide +kernel
theorem d_m_partAlong_31 : decode prog_8_method_48_code 31 = .ok (.ireturn, 1) := by decide +kernel
theorem d_m_partAcross_0 : decode prog_8_method_49_code 0 = .ok (.aload_n 0, 1) := by decide +kernel
theorem d_m_partAcross_1 : decode prog_8_method_49_code 1 = .ok (.iload_n 1, 1) := by decide +kernel
theorem d_m_partAcross_2 : decode prog_8_method_49_code 2 = .ok (.invokevirtual 113, 3) := by decide +kernel
theorem d_m_partAcross_5 : decode prog_8_method_49_code 5 = .ok (.ifCond .ne 7, 3) := by decide +kernel
theorem d_m_partAcross_8 : decode prog_8_method_49_code 8 = .ok (.sipush (-1004), 3) := by decide +kernel
theorem d_m_partAcross_11 : decode prog_8_method_49_code 11 = .ok (.ireturn, 1) := by decide +kernel
theorem d_m_partAcross_12 : decode prog_8_method_49_code 12 = .ok (.aload_n 0, 1) := by decide +kernel
theorem d_m_partAcross_13 : decode prog_8_method_49_code 13 = .ok (.invokevirtual 149, 3) := by decide +kernel
theorem d_m_partAcross_16 : decode prog_8_method_49_code 16 = .ok (.ifCond .eq 12, 3) := by decide +kernel
theorem d_m_partAcross_19 : decode prog_8_method_49_code 19 = .ok (.aload_n 0, 1) := by decide +kernel
theorem d_m_partAcross_20 : decode prog_8_method_49_code 20 = .ok (.getfield 41, 3) := by decide +kernel
theorem d_m_partAcross_23 : decode prog_8_method_49_code 23 = .ok (.iload_n 1, 1) := by decide +kernel
theorem d_m_partAcross_24 : decode prog_8_method_49_code 24 = .ok (.iaload, 1) := by decide +kernel
theorem d_m_partAcross_25 : decode prog_8_method_49_code 25 = .ok (.goto 6, 3) := by decide +kernel
theorem d_m_partAcross_28 : decode prog_8_method_49_code 28 = .ok (.sipush (-1007), 3) := by decide +kernel
theorem d_m_partAcross_31 : decode prog_8_method_49_code 31 = .ok (.ireturn, 1) := by decide +kernel
theorem d_m_partAlongExtent_0 : decode prog_8_method_50_code 0 = .ok (.aload_n 0, 1) := by decide +kernel
theorem d_m_partAlongExtent_1 : decode prog_8_method_50_code 1 = .ok (.iload_n 1, 1) := by decide +kernel
theorem d_m_partAlongExtent_2 : decode prog_8_method_50_code 2 = .ok (.invokevirtual 113, 3) := by decide +kernel
theorem d_m_partAlongExtent_5 : decode prog_8_method_50_code 5 = .ok (.ifCond .eq 12, 3) := by decide +kernel
theorem d_m_partAlongExtent_8 : decode prog_8_method_50_code 8 = .ok (.aload_n 0, 1) := by decide +kernel
theorem d_m_partAlongExtent_9 : decode prog_8_method_50_code 9 = .ok (.getfield 29, 3) := by decide +kernel
theorem d_m_partAlongExtent_12 : decode prog_8_method_50_code 12 = .ok (.iload_n 1, 1) := by decide +kernel
theorem d_m_partAlongExtent_13 : decode prog_8_method_50_code 13 = .ok (.iaload, 1) := by decide +kernel
theorem d_m_partAlongExtent_14 : decode prog_8_method_50_code 14 = .ok (.goto 6, 3) := by decide +kernel
theorem d_m_partAlongExtent_17 : decode prog_8_method_50_code 17 = .ok (.sipush (-1004), 3) := by decide +kernel
theorem d_m_partAlongExtent_20 : decode prog_8_method_50_code 20 = .ok (.ireturn, 1) := by decide +kernel
theorem d_m_partAcrossExtent_0 : decode prog_8_method_51_code 0 = .ok (.aload_n 0, 1) := by decide +kernel
theorem d_m_partAcrossExtent_1 : decode prog_8_method_51_code 1 = .ok (.iload_n 1, 1) := by decide +kernel
theorem d_m_partAcrossExtent_2 : decode prog_8_method_51_code 2 = .ok (.invokevirtual 113, 3) := by decide +kernel
theorem d_m_partAcrossExtent_5 : decode prog_8_method_51_code 5 = .ok (.ifCond .eq 12, 3) := by decide +kernel
theorem d_m_partAcrossExtent_8 : decode prog_8_method_51_code 8 = .ok (.aload_n 0, 1) := by decide +kernel
theorem d_m_partAcrossExtent_9 : decode prog_8_method_51_code 9 = .ok (.getfield 26, 3) := by decide +kernel
theorem d_m_partAcrossExtent_12 : decode prog_8_method_51_code 12 = .ok (.iload_n 1, 1) := by decide +kernel
theorem d_m_partAcrossExtent_13 : decode prog_8_method_51_code 13 = .ok (.iaload, 1) := by decide +kernel
theorem d_m_partAcrossExtent_14 : decode prog_8_method_51_code 14 = .ok (.goto 6, 3) := by decide +kernel
theorem d_m_partAcrossExtent_17 : decode prog_8_method_51_code 17 = .ok (.sipush (-1004), 3) := by decide +kernel
theorem d_m_partAcrossExtent_20 : decode prog_8_method_51_code 20 = .ok (.ireturn, 1) := by decide +kernel
theorem d_m_markerLength_0 : decode prog_8_method_52_code 0 = .ok (.aload_n 0, 1) := by decide +kernel
theorem d_m_markerLength_1 : decode prog_8_method_52_code 1 = .ok (.invokevirtual 153, 3) := by decide +kernel
theorem d_m_markerLength_4 : decode prog_8_method_52_code 4 = .ok (.ireturn, 1) := by decide +kernel
theorem d_m_wastedArea_0 : decode prog_8_method_53_code 0 = .ok (.aload_n 0, 1) := by decide +kernel
theorem d_m_wastedArea_1 : decode prog_8_method_53_code 1 = .ok (.invokevirtual 153, 3) := by decide +kernel
theorem d_m_wastedArea_4 : decode prog_8_method_53_code 4 = .ok (.istore_n 1, 1) := by decide +kernel
theorem d_m_wastedArea_5 : decode prog_8_method_53_code 5 = .ok (.iload_n 1, 1) := by decide +kernel
theorem d_m_wastedArea_6 : decode prog_8_method_53_code 6 = .ok (.ifCond .ge 7, 3) := by decide +kernel
theorem d_m_wastedArea_9 : decode prog_8_method_53_code 9 = .ok (.sipush (-1007), 3) := by decide +kernel
theorem d_m_wastedArea_12 : decode prog_8_method_53_code 12 = .ok (.ireturn, 1) := by decide +kernel
theorem d_m_wastedArea_13 : decode prog_8_method_53_code 13 = .ok (.aload_n 0, 1) := by decide +kernel
theorem d_m_wastedArea_14 : decode prog_8_method_53_code 14 = .ok (.invokevirtual 98, 3) := by decide +kernel
theorem d_m_wastedArea_17 : decode prog_8_method_53_code 17 = .ok (.iload_n 1, 1) := by decide +kernel
theorem d_m_wastedArea_18 : decode prog_8_method_53_code 18 = .ok (.imul, 1) := by decide +kernel
theorem d_m_wastedArea_19 : decode prog_8_method_53_code 19 = .ok (.istore_n 2, 1) := by decide +kernel
theorem d_m_wastedArea_20 : decode prog_8_method_53_code 20 = .ok (.iconst 0, 1) := by decide +kernel
theorem d_m_wastedArea_21 : decode prog_8_method_53_code 21 = .ok (.istore_n 3, 1) := by decide +kernel
theorem d_m_wastedArea_22 : decode prog_8_method_53_code 22 = .ok (.iload_n 3, 1) := by decide +kernel
theorem d_m_wastedArea_23 : decode prog_8_method_53_code 23 = .ok (.aload_n 0, 1) := by decide +kernel
theorem d_m_wastedArea_24 : decode prog_8_method_53_code 24 = .ok (.getfield 102, 3) := by decide +kernel
theorem d_m_wastedArea_27 : decode prog_8_method_53_code 27 = .ok (.if_icmp .ge 25, 3) := by decide +kernel
theorem d_m_wastedArea_30 : decode prog_8_method_53_code 30 = .ok (.iload_n 2, 1) := by decide +kernel
theorem d_m_wastedArea_31 : decode prog_8_method_53_code 31 = .ok (.aload_n 0, 1) := by decide +kernel
theorem d_m_wastedArea_32 : decode prog_8_method_53_code 32 = .ok (.getfield 29, 3) := by decide +kernel
theorem d_m_wastedArea_35 : decode prog_8_method_53_code 35 = .ok (.iload_n 3, 1) := by decide +kernel
theorem d_m_wastedArea_36 : decode prog_8_method_53_code 36 = .ok (.iaload, 1) := by decide +kernel
theorem d_m_wastedArea_37 : decode prog_8_method_53_code 37 = .ok (.aload_n 0, 1) := by decide +kernel
theorem d_m_wastedArea_38 : decode prog_8_method_53_code 38 = .ok (.getfield 26, 3) := by decide +kernel
theorem d_m_wastedArea_41 : decode prog_8_method_53_code 41 = .ok (.iload_n 3, 1) := by decide +kernel
theorem d_m_wastedArea_42 : decode prog_8_method_53_code 42 = .ok (.iaload, 1) := by decide +kernel
theorem d_m_wastedArea_43 : decode prog_8_method_53_code 43 = .ok (.imul, 1) := by decide +kernel
theorem d_m_wastedArea_44 : decode prog_8_method_53_code 44 = .ok (.isub, 1) := by decide +kernel
theorem d_m_wastedArea_45 : decode prog_8_method_53_code 45 = .ok (.istore_n 2, 1) := by decide +kernel
theorem d_m_wastedArea_46 : decode prog_8_method_53_code 46 = .ok (.iinc 3 1, 3) := by decide +kernel
theorem d_m_wastedArea_49 : decode prog_8_method_53_code 49 = .ok (.goto (-27), 3) := by decide +kernel
theorem d_m_wastedArea_52 : decode prog_8_method_53_code 52 = .ok (.iload_n 2, 1) := by decide +kernel
theorem d_m_wastedArea_53 : decode prog_8_method_53_code 53 = .ok (.ireturn, 1) := by decide +kernel
theorem d_m_markerLengthWith_0 : decode prog_8_method_54_code 0 = .ok (.iload_n 1, 1) := by decide +kernel
theorem d_m_markerLengthWith_1 : decode prog_8_method_54_code 1 = .ok (.iload_n 2, 1) := by decide +kernel
theorem d_m_markerLengthWith_2 : decode prog_8_method_54_code 2 = .ok (.invokestatic 94, 3) := by decide +kernel
theorem d_m_markerLengthWith_5 : decode prog_8_method_54_code 5 = .ok (.ifCond .eq 12, 3) := by decide +kernel
theorem d_m_markerLengthWith_8 : decode prog_8_method_54_code 8 = .ok (.aload_n 0, 1) := by decide +kernel
theorem d_m_markerLengthWith_9 : decode prog_8_method_54_code 9 = .ok (.iload_n 1, 1) := by decide +kernel
theorem d_m_markerLengthWith_10 : decode prog_8_method_54_code 10 = .ok (.iload_n 2, 1) := by decide +kernel
theorem d_m_markerLengthWith_11 : decode prog_8_method_54_code 11 = .ok (.invokevirtual 146, 3) := by decide +kernel
theorem d_m_markerLengthWith_14 : decode prog_8_method_54_code 14 = .ok (.goto 6, 3) := by decide +kernel
theorem d_m_markerLengthWith_17 : decode prog_8_method_54_code 17 = .ok (.sipush (-1005), 3) := by decide +kernel
theorem d_m_markerLengthWith_20 : decode prog_8_method_54_code 20 = .ok (.ireturn, 1) := by decide +kernel
theorem d_m_findBest_0 : decode prog_8_method_55_code 0 = .ok (.sipush (-1007), 3) := by decide +kernel
theorem d_m_findBest_3 : decode prog_8_method_55_code 3 = .ok (.istore_n 1, 1) := by decide +kernel
theorem d_m_findBest_4 : decode prog_8_method_55_code 4 = .ok (.iconst 0, 1) := by decide +kernel
theorem d_m_findBest_5 : decode prog_8_method_55_code 5 = .ok (.istore_n 2, 1) := by decide +kernel
theorem d_m_findBest_6 : decode prog_8_method_55_code 6 = .ok (.iload_n 2, 1) := by decide +kernel
theorem d_m_findBest_7 : decode prog_8_method_55_code 7 = .ok (.bipush 8, 2) := by decide +kernel
theorem d_m_findBest_9 : decode prog_8_method_55_code 9 = .ok (.if_icmp .ge 49, 3) := by decide +kernel
theorem d_m_findBest_12 : decode prog_8_method_55_code 12 = .ok (.aload_n 0, 1) := by decide +kernel
theorem d_m_findBest_13 : decode prog_8_method_55_code 13 = .ok (.iload_n 2, 1) := by decide +kernel
theorem d_m_findBest_14 : decode prog_8_method_55_code 14 = .ok (.iconst 4, 1) := by decide +kernel
theorem d_m_findBest_15 : decode prog_8_method_55_code 15 = .ok (.idiv, 1) := by decide +kernel
theorem d_m_findBest_16 : decode prog_8_method_55_code 16 = .ok (.iload_n 2, 1) := by decide +kernel
theorem d_m_findBest_17 : decode prog_8_method_55_code 17 = .ok (.iconst 4, 1) := by decide +kernel
theorem d_m_findBest_18 : decode prog_8_method_55_code 18 = .ok (.irem, 1) := by decide +kernel
theorem d_m_findBest_19 : decode prog_8_method_55_code 19 = .ok (.invokevirtual 146, 3) := by decide +kernel
theorem d_m_findBest_22 : decode prog_8_method_55_code 22 = .ok (.istore_n 3, 1) := by decide +kernel
theorem d_m_findBest_23 : decode prog_8_method_55_code 23 = .ok (.iload_n 3, 1) := by decide +kernel
theorem d_m_findBest_24 : decode prog_8_method_55_code 24 = .ok (.ifCond .lt 28, 3) := by decide +kernel
theorem d_m_findBest_27 : decode prog_8_method_55_code 27 = .ok (.iload_n 1, 1) := by decide +kernel
theorem d_m_findBest_28 : decode prog_8_method_55_code 28 = .ok (.ifCond .lt 8, 3) := by decide +kernel
theorem d_m_findBest_31 : decode prog_8_method_55_code 31 = .ok (.iload_n 3, 1) := by decide +kernel
theorem d_m_findBest_32 : decode prog_8_method_55_code 32 = .ok (.iload_n 1, 1) := by decide +kernel
theorem d_m_findBest_33 : decode prog_8_method_55_code 33 = .ok (.if_icmp .ge 19, 3) := by decide +kernel
theorem d_m_findBest_36 : decode prog_8_method_55_code 36 = .ok (.iload_n 3, 1) := by decide +kernel
theorem d_m_findBest_37 : decode prog_8_method_55_code 37 = .ok (.istore_n 1, 1) := by decide +kernel
theorem d_m_findBest_38 : decode prog_8_method_55_code 38 = .ok (.aload_n 0, 1) := by decide +kernel
theorem d_m_findBest_39 : decode prog_8_method_55_code 39 = .ok (.bipush 10, 2) := by decide +kernel
theorem d_m_findBest_41 : decode prog_8_method_55_code 41 = .ok (.iload_n 2, 1) := by decide +kernel
theorem d_m_findBest_42 : decode prog_8_method_55_code 42 = .ok (.iconst 4, 1) := by decide +kernel
theorem d_m_findBest_43 : decode prog_8_method_55_code 43 = .ok (.idiv, 1) := by decide +kernel
theorem d_m_findBest_44 : decode prog_8_method_55_code 44 = .ok (.imul, 1) := by decide +kernel
theorem d_m_findBest_45 : decode prog_8_method_55_code 45 = .ok (.iload_n 2, 1) := by decide +kernel
theorem d_m_findBest_46 : decode prog_8_method_55_code 46 = .ok (.iconst 4, 1) := by decide +kernel
theorem d_m_findBest_47 : decode prog_8_method_55_code 47 = .ok (.irem, 1) := by decide +kernel
theorem d_m_findBest_48 : decode prog_8_method_55_code 48 = .ok (.iadd, 1) := by decide +kernel
theorem d_m_findBest_49 : decode prog_8_method_55_code 49 = .ok (.putfield 156, 3) := by decide +kernel
theorem d_m_findBest_52 : decode prog_8_method_55_code 52 = .ok (.iinc 2 1, 3) := by decide +kernel
theorem d_m_findBest_55 : decode prog_8_method_55_code 55 = .ok (.goto (-49), 3) := by decide +kernel
theorem d_m_findBest_58 : decode prog_8_method_55_code 58 = .ok (.iload_n 1, 1) := by decide +kernel
theorem d_m_findBest_59 : decode prog_8_method_55_code 59 = .ok (.ireturn, 1) := by decide +kernel
theorem d_m_bestLength_0 : decode prog_8_method_56_code 0 = .ok (.aload_n 0, 1) := by decide +kernel
theorem d_m_bestLength_1 : decode prog_8_method_56_code 1 = .ok (.invokevirtual 159, 3) := by decide +kernel
theorem d_m_bestLength_4 : decode prog_8_method_56_code 4 = .ok (.ireturn, 1) := by decide +kernel
theorem d_m_bestPacking_0 : decode prog_8_method_57_code 0 = .ok (.aload_n 0, 1) := by decide +kernel
theorem d_m_bestPacking_1 : decode prog_8_method_57_code 1 = .ok (.invokevirtual 159, 3) := by decide +kernel
theorem d_m_bestPacking_4 : decode prog_8_method_57_code 4 = .ok (.ifCond .ge 9, 3) := by decide +kernel
theorem d_m_bestPacking_7 : decode prog_8_method_57_code 7 = .ok (.sipush (-1007), 3) := by decide +kernel
theorem d_m_bestPacking_10 : decode prog_8_method_57_code 10 = .ok (.goto 7, 3) := by decide +kernel
theorem d_m_bestPacking_13 : decode prog_8_method_57_code 13 = .ok (.aload_n 0, 1) := by decide +kernel
theorem d_m_bestPacking_14 : decode prog_8_method_57_code 14 = .ok (.getfield 156, 3) := by decide +kernel
theorem d_m_bestPacking_17 : decode prog_8_method_57_code 17 = .ok (.ireturn, 1) := by decide +kernel
theorem d_m_setOrdered_0 : decode prog_8_method_58_code 0 = .ok (.iload_n 1, 1) := by decide +kernel
theorem d_m_setOrdered_1 : decode prog_8_method_58_code 1 = .ok (.invokestatic 71, 3) := by decide +kernel
theorem d_m_setOrdered_4 : decode prog_8_method_58_code 4 = .ok (.ifCond .ne 7, 3) := by decide +kernel
theorem d_m_setOrdered_7 : decode prog_8_method_58_code 7 = .ok (.sipush (-1002), 3) := by decide +kernel
theorem d_m_setOrdered_10 : decode prog_8_method_58_code 10 = .ok (.ireturn, 1) := by decide +kernel
theorem d_m_setOrdered_11 : decode prog_8_method_58_code 11 = .ok (.iload_n 2, 1) := by decide +kernel
theorem d_m_setOrdered_12 : decode prog_8_method_58_code 12 = .ok (.iconst 0, 1) := by decide +kernel
theorem d_m_setOrdered_13 : decode prog_8_method_58_code 13 = .ok (.bipush 99, 2) := by decide +kernel
theorem d_m_setOrdered_15 : decode prog_8_method_58_code 15 = .ok (.invokestatic 59, 3) := by decide +kernel
theorem d_m_setOrdered_18 : decode prog_8_method_58_code 18 = .ok (.ifCond .eq 15, 3) := by decide +kernel
theorem d_m_setOrdered_21 : decode prog_8_method_58_code 21 = .ok (.aload_n 0, 1) := by decide +kernel
theorem d_m_setOrdered_22 : decode prog_8_method_58_code 22 = .ok (.bipush 75, 2) := by decide +kernel
theorem d_m_setOrdered_24 : decode prog_8_method_58_code 24 = .ok (.iload_n 1, 1) := by decide +kernel
theorem d_m_setOrdered_25 : decode prog_8_method_58_code 25 = .ok (.iadd, 1) := by decide +kernel
theorem d_m_setOrdered_26 : decode prog_8_method_58_code 26 = .ok (.iload_n 2, 1) := by decide +kernel
theorem d_m_setOrdered_27 : decode prog_8_method_58_code 27 = .ok (.invokevirtual 91, 3) := by decide +kernel
theorem d_m_setOrdered_30 : decode prog_8_method_58_code 30 = .ok (.goto 6, 3) := by decide +kernel
theorem d_m_setOrdered_33 : decode prog_8_method_58_code 33 = .ok (.sipush (-1005), 3) := by decide +kernel
theorem d_m_setOrdered_36 : decode prog_8_method_58_code 36 = .ok (.ireturn, 1) := by decide +kernel
theorem d_m_pliesNow_0 : decode prog_8_method_59_code 0 = .ok (.iconst 0, 1) := by decide +kernel
theorem d_m_pliesNow_1 : decode prog_8_method_59_code 1 = .ok (.istore_n 1, 1) := by decide +kernel
theorem d_m_pliesNow_2 : decode prog_8_method_59_code 2 = .ok (.iconst 0, 1) := by decide +kernel
theorem d_m_pliesNow_3 : decode prog_8_method_59_code 3 = .ok (.istore_n 2, 1) := by decide +kernel
theorem d_m_pliesNow_4 : decode prog_8_method_59_code 4 = .ok (.iload_n 2, 1) := by decide +kernel
theorem d_m_pliesNow_5 : decode prog_8_method_59_code 5 = .ok (.iconst 3, 1) := by decide +kernel
theorem d_m_pliesNow_6 : decode prog_8_method_59_code 6 = .ok (.if_icmp .ge 76, 3) := by decide +kernel
theorem d_m_pliesNow_9 : decode prog_8_method_59_code 9 = .ok (.aload_n 0, 1) := by decide +kernel
theorem d_m_pliesNow_10 : decode prog_8_method_59_code 10 = .ok (.getfield 7, 3) := by decide +kernel
theorem d_m_pliesNow_13 : decode prog_8_method_59_code 13 = .ok (.bipush 75, 2) := by decide +kernel
theorem d_m_pliesNow_15 : decode prog_8_method_59_code 15 = .ok (.iload_n 2, 1) := by decide +kernel
theorem d_m_pliesNow_16 : decode prog_8_method_59_code 16 = .ok (.iadd, 1) := by decide +kernel
theorem d_m_pliesNow_17 : decode prog_8_method_59_code 17 = .ok (.iaload, 1) := by decide +kernel
theorem d_m_pliesNow_18 : decode prog_8_method_59_code 18 = .ok (.istore_n 3, 1) := by decide +kernel
theorem d_m_pliesNow_19 : decode prog_8_method_59_code 19 = .ok (.aload_n 0, 1) := by decide +kernel
theorem d_m_pliesNow_20 : decode prog_8_method_59_code 20 = .ok (.getfield 7, 3) := by decide +kernel
theorem d_m_pliesNow_23 : decode prog_8_method_59_code 23 = .ok (.bipush 67, 2) := by decide +kernel
theorem d_m_pliesNow_25 : decode prog_8_method_59_code 25 = .ok (.iload_n 2, 1) := by decide +kernel
theorem d_m_pliesNow_26 : decode prog_8_method_59_code 26 = .ok (.iadd, 1) := by decide +kernel
theorem d_m_pliesNow_27 : decode prog_8_method_59_code 27 = .ok (.iaload, 1) := by decide +kernel
theorem d_m_pliesNow_28 : decode prog_8_method_59_code 28 = .ok (.istore 4, 2) := by decide +kernel
theorem d_m_pliesNow_30 : decode prog_8_method_59_code 30 = .ok (.iload_n 3, 1) := by decide +kernel
theorem d_m_pliesNow_31 : decode prog_8_method_59_code 31 = .ok (.ifCond .le 12, 3) := by decide +kernel
theorem d_m_pliesNow_34 : decode prog_8_method_59_code 34 = .ok (.iload 4, 2) := by decide +kernel
theorem d_m_pliesNow_36 : decode prog_8_method_59_code 36 = .ok (.ifCond .ne 7, 3) := by decide +kernel
theorem d_m_pliesNow_39 : decode prog_8_method_59_code 39 = .ok (.sipush (-1008), 3) := by decide +kernel
theorem d_m_pliesNow_42 : decode prog_8_method_59_code 42 = .ok (.ireturn, 1) := by decide +kernel
theorem d_m_pliesNow_43 : decode prog_8_method_59_code 43 = .ok (.iload 4, 2) := by decide +kernel
theorem d_m_pliesNow_45 : decode prog_8_method_59_code 45 = .ok (.ifCond .ne 7, 3) := by decide +kernel
theorem d_m_pliesNow_48 : decode prog_8_method_59_code 48 = .ok (.iconst 0, 1) := by decide +kernel
theorem d_m_pliesNow_49 : decode prog_8_method_59_code 49 = .ok (.goto 12, 3) := by decide +kernel
theorem d_m_pliesNow_52 : decode prog_8_method_59_code 52 = .ok (.iload_n 3, 1) := by decide +kernel
theorem d_m_pliesNow_53 : decode prog_8_method_59_code 53 = .ok (.iload 4, 2) := by decide +kernel
theorem d_m_pliesNow_55 : decode prog_8_method_59_code 55 = .ok (.iadd, 1) := by decide +kernel
theorem d_m_pliesNow_56 : decode prog_8_method_59_code 56 = .ok (.iconst 1, 1) := by decide +kernel
theorem d_m_pliesNow_57 : decode prog_8_method_59_code 57 = .ok (.isub, 1) := by decide +kernel
theorem d_m_pliesNow_58 : decode prog_8_method_59_code 58 = .ok (.iload 4, 2) := by decide +kernel
theorem d_m_pliesNow_60 : decode prog_8_method_59_code 60 = .ok (.idiv, 1) := by decide +kernel
theorem d_m_pliesNow_61 : decode prog_8_method_59_code 61 = .ok (.istore 5, 2) := by decide +kernel
theorem d_m_pliesNow_63 : decode prog_8_method_59_code 63 = .ok (.iload 5, 2) := by decide +kernel
theorem d_m_pliesNow_65 : decode prog_8_method_59_code 65 = .ok (.iload_n 1, 1) := by decide +kernel
theorem d_m_pliesNow_66 : decode prog_8_method_59_code 66 = .ok (.if_icmp .le 8, 3) := by decide +kernel
theorem d_m_pliesNow_69 : decode prog_8_method_59_code 69 = .ok (.iload 5, 2) := by decide +kernel
theorem d_m_pliesNow_71 : decode prog_8_method_59_code 71 = .ok (.goto 4, 3) := by decide +kernel
theorem d_m_pliesNow_74 : decode prog_8_method_59_code 74 = .ok (.iload_n 1, 1) := by decide +kernel
theorem d_m_pliesNow_75 : decode prog_8_method_59_code 75 = .ok (.istore_n 1, 1) := by decide +kernel
theorem d_m_pliesNow_76 : decode prog_8_method_59_code 76 = .ok (.iinc 2 1, 3) := by decide +kernel
theorem d_m_pliesNow_79 : decode prog_8_method_59_code 79 = .ok (.goto (-75), 3) := by decide +kernel
theorem d_m_pliesNow_82 : decode prog_8_method_59_code 82 = .ok (.iload_n 1, 1) := by decide +kernel
theorem d_m_pliesNow_83 : decode prog_8_method_59_code 83 = .ok (.ireturn, 1) := by decide +kernel
theorem d_m_plies_0 : decode prog_8_method_60_code 0 = .ok (.aload_n 0, 1) := by decide +kernel
theorem d_m_plies_1 : decode prog_8_method_60_code 1 = .ok (.invokevirtual 162, 3) := by decide +kernel
theorem d_m_plies_4 : decode prog_8_method_60_code 4 = .ok (.ireturn, 1) := by decide +kernel
theorem d_m_clothNow_0 : decode prog_8_method_61_code 0 = .ok (.aload_n 0, 1) := by decide +kernel
theorem d_m_clothNow_1 : decode prog_8_method_61_code 1 = .ok (.invokevirtual 162, 3) := by decide +kernel
theorem d_m_clothNow_4 : decode prog_8_method_61_code 4 = .ok (.istore_n 1, 1) := by decide +kernel
theorem d_m_clothNow_5 : decode prog_8_method_61_code 5 = .ok (.iload_n 1, 1) := by decide +kernel
theorem d_m_clothNow_6 : decode prog_8_method_61_code 6 = .ok (.ifCond .ge 7, 3) := by decide +kernel
theorem d_m_clothNow_9 : decode prog_8_method_61_code 9 = .ok (.sipush (-1008), 3) := by decide +kernel
theorem d_m_clothNow_12 : decode prog_8_method_61_code 12 = .ok (.ireturn, 1) := by decide +kernel
theorem d_m_clothNow_13 : decode prog_8_method_61_code 13 = .ok (.aload_n 0, 1) := by decide +kernel
theorem d_m_clothNow_14 : decode prog_8_method_61_code 14 = .ok (.invokevirtual 153, 3) := by decide +kernel
theorem d_m_clothNow_17 : decode prog_8_method_61_code 17 = .ok (.istore_n 2, 1) := by decide +kernel
theorem d_m_clothNow_18 : decode prog_8_method_61_code 18 = .ok (.iload_n 2, 1) := by decide +kernel
theorem d_m_clothNow_19 : decode prog_8_method_61_code 19 = .ok (.ifCond .ge 9, 3) := by decide +kernel
theorem d_m_clothNow_22 : decode prog_8_method_61_code 22 = .ok (.sipush (-1007), 3) := by decide +kernel
theorem d_m_clothNow_25 : decode prog_8_method_61_code 25 = .ok (.goto 6, 3) := by decide +kernel
theorem d_m_clothNow_28 : decode prog_8_method_61_code 28 = .ok (.iload_n 1, 1) := by decide +kernel
theorem d_m_clothNow_29 : decode prog_8_method_61_code 29 = .ok (.iload_n 2, 1) := by decide +kernel
theorem d_m_clothNow_30 : decode prog_8_method_61_code 30 = .ok (.imul, 1) := by decide +kernel
theorem d_m_clothNow_31 : decode prog_8_method_61_code 31 = .ok (.ireturn, 1) := by decide +kernel
theorem d_m_clothLength_0 : decode prog_8_method_62_code 0 = .ok (.aload_n 0, 1) := by decide +kernel
theorem d_m_clothLength_1 : decode prog_8_method_62_code 1 = .ok (.invokevirtual 165, 3) := by decide +kernel
theorem d_m_clothLength_4 : decode prog_8_method_62_code 4 = .ok (.ireturn, 1) := by decide +kernel
theorem d_m_surplusNow_0 : decode prog_8_method_63_code 0 = .ok (.aload_n 0, 1) := by decide +kernel
theorem d_m_surplusNow_1 : decode prog_8_method_63_code 1 = .ok (.invokevirtual 162, 3) := by decide +kernel
theorem d_m_surplusNow_4 : decode prog_8_method_63_code 4 = .ok (.istore_n 1, 1) := by decide +kernel
theorem d_m_surplusNow_5 : decode prog_8_method_63_code 5 = .ok (.iconst 0, 1) := by decide +kernel
theorem d_m_surplusNow_6 : decode prog_8_method_63_code 6 = .ok (.istore_n 2, 1) := by decide +kernel
theorem d_m_surplusNow_7 : decode prog_8_method_63_code 7 = .ok (.iconst 0, 1) := by decide +kernel
theorem d_m_surplusNow_8 : decode prog_8_method_63_code 8 = .ok (.istore_n 3, 1) := by decide +kernel
theorem d_m_surplusNow_9 : decode prog_8_method_63_code 9 = .ok (.iload_n 3, 1) := by decide +kernel
theorem d_m_surplusNow_10 : decode prog_8_method_63_code 10 = .ok (.iconst 3, 1) := by decide +kernel
theorem d_m_surplusNow_11 : decode prog_8_method_63_code 11 = .ok (.if_icmp .ge 33, 3) := by decide +kernel
theorem d_m_surplusNow_14 : decode prog_8_method_63_code 14 = .ok (.iload_n 2, 1) := by decide +kernel
theorem d_m_surplusNow_15 : decode prog_8_method_63_code 15 = .ok (.iload_n 1, 1) := by decide +kernel
theorem d_m_surplusNow_16 : decode prog_8_method_63_code 16 = .ok (.aload_n 0, 1) := by decide +kernel
theorem d_m_surplusNow_17 : decode prog_8_method_63_code 17 = .ok (.getfield 7, 3) := by decide +kernel
theorem d_m_surplusNow_20 : decode prog_8_method_63_code 20 = .ok (.bipush 67, 2) := by decide +kernel
theorem d_m_surplusNow_22 : decode prog_8_method_63_code 22 = .ok (.iload_n 3, 1) := by decide +kernel
theorem d_m_surplusNow_23 : decode prog_8_method_63_code 23 = .ok (.iadd, 1) := by decide +kernel
theorem d_m_surplusNow_24 : decode prog_8_method_63_code 24 = .ok (.iaload, 1) := by decide +kernel
theorem d_m_surplusNow_25 : decode prog_8_method_63_code 25 = .ok (.imul, 1) := by decide +kernel
theorem d_m_surplusNow_26 : decode prog_8_method_63_code 26 = .ok (.aload_n 0, 1) := by decide +kernel
theorem d_m_surplusNow_27 : decode prog_8_method_63_code 27 = .ok (.getfield 7, 3) := by decide +kernel
theorem d_m_surplusNow_30 : decode prog_8_method_63_code 30 = .ok (.bipush 75, 2) := by decide +kernel
theorem d_m_surplusNow_32 : decode prog_8_method_63_code 32 = .ok (.iload_n 3, 1) := by decide +kernel
theorem d_m_surplusNow_33 : decode prog_8_method_63_code 33 = .ok (.iadd, 1) := by decide +kernel
theorem d_m_surplusNow_34 : decode prog_8_method_63_code 34 = .ok (.iaload, 1) := by decide +kernel
theorem d_m_surplusNow_35 : decode prog_8_method_63_code 35 = .ok (.isub, 1) := by decide +kernel
theorem d_m_surplusNow_36 : decode prog_8_method_63_code 36 = .ok (.iadd, 1) := by decide +kernel
theorem d_m_surplusNow_37 : decode prog_8_method_63_code 37 = .ok (.istore_n 2, 1) := by decide +kernel
theorem d_m_surplusNow_38 : decode prog_8_method_63_code 38 = .ok (.iinc 3 1, 3) := by decide +kernel
theorem d_m_surplusNow_41 : decode prog_8_method_63_code 41 = .ok (.goto (-32), 3) := by decide +kernel
theorem d_m_surplusNow_44 : decode prog_8_method_63_code 44 = .ok (.iload_n 1, 1) := by decide +kernel
theorem d_m_surplusNow_45 : decode prog_8_method_63_code 45 = .ok (.ifCond .ge 9, 3) := by decide +kernel
theorem d_m_surplusNow_48 : decode prog_8_method_63_code 48 = .ok (.sipush (-1008), 3) := by decide +kernel
theorem d_m_surplusNow_51 : decode prog_8_method_63_code 51 = .ok (.goto 4, 3) := by decide +kernel
theorem d_m_surplusNow_54 : decode prog_8_method_63_code 54 = .ok (.iload_n 2, 1) := by decide +kernel
theorem d_m_surplusNow_55 : decode prog_8_method_63_code 55 = .ok (.ireturn, 1) := by decide +kernel
theorem d_m_surplus_0 : decode prog_8_method_64_code 0 = .ok (.aload_n 0, 1) := by decide +kernel
theorem d_m_surplus_1 : decode prog_8_method_64_code 1 = .ok (.invokevirtual 168, 3) := by decide +kernel
theorem d_m_surplus_4 : decode prog_8_method_64_code 4 = .ok (.ireturn, 1) := by decide +kernel
theorem d_m_setMix_0 : decode prog_8_method_65_code 0 = .ok (.aload_n 0, 1) := by decide +kernel
theorem d_m_setMix_1 : decode prog_8_method_65_code 1 = .ok (.getfield 7, 3) := by decide +kernel
theorem d_m_setMix_4 : decode prog_8_method_65_code 4 = .ok (.bipush 67, 2) := by decide +kernel
theorem d_m_setMix_6 : decode prog_8_method_65_code 6 = .ok (.iload_n 1, 1) := by decide +kernel
theorem d_m_setMix_7 : decode prog_8_method_65_code 7 = .ok (.bipush 100, 2) := by decide +kernel
theorem d_m_setMix_9 : decode prog_8_method_65_code 9 = .ok (.idiv, 1) := by decide +kernel
theorem d_m_setMix_10 : decode prog_8_method_65_code 10 = .ok (.iastore, 1) := by decide +kernel
theorem d_m_setMix_11 : decode prog_8_method_65_code 11 = .ok (.aload_n 0, 1) := by decide +kernel
theorem d_m_setMix_12 : decode prog_8_method_65_code 12 = .ok (.getfield 7, 3) := by decide +kernel
theorem d_m_setMix_15 : decode prog_8_method_65_code 15 = .ok (.bipush 68, 2) := by decide +kernel
theorem d_m_setMix_17 : decode prog_8_method_65_code 17 = .ok (.iload_n 1, 1) := by decide +kernel
theorem d_m_setMix_18 : decode prog_8_method_65_code 18 = .ok (.bipush 10, 2) := by decide +kernel
theorem d_m_setMix_20 : decode prog_8_method_65_code 20 = .ok (.idiv, 1) := by decide +kernel
theorem d_m_setMix_21 : decode prog_8_method_65_code 21 = .ok (.bipush 10, 2) := by decide +kernel
theorem d_m_setMix_23 : decode prog_8_method_65_code 23 = .ok (.irem, 1) := by decide +kernel
theorem d_m_setMix_24 : decode prog_8_method_65_code 24 = .ok (.iastore, 1) := by decide +kernel
theorem d_m_setMix_25 : decode prog_8_method_65_code 25 = .ok (.aload_n 0, 1) := by decide +kernel
theorem d_m_setMix_26 : decode prog_8_method_65_code 26 = .ok (.getfield 7, 3) := by decide +kernel
theorem d_m_setMix_29 : decode prog_8_method_65_code 29 = .ok (.bipush 69, 2) := by decide +kernel
theorem d_m_setMix_31 : decode prog_8_method_65_code 31 = .ok (.iload_n 1, 1) := by decide +kernel
theorem d_m_setMix_32 : decode prog_8_method_65_code 32 = .ok (.bipush 10, 2) := by decide +kernel
theorem d_m_setMix_34 : decode prog_8_method_65_code 34 = .ok (.irem, 1) := by decide +kernel
theorem d_m_setMix_35 : decode prog_8_method_65_code 35 = .ok (.iastore, 1) := by decide +kernel
theorem d_m_setMix_36 : decode prog_8_method_65_code 36 = .ok (.return_, 1) := by decide +kernel
theorem d_m_tryMix_0 : decode prog_8_method_66_code 0 = .ok (.aload_n 0, 1) := by decide +kernel
theorem d_m_tryMix_1 : decode prog_8_method_66_code 1 = .ok (.iload_n 1, 1) := by decide +kernel
theorem d_m_tryMix_2 : decode prog_8_method_66_code 2 = .ok (.invokevirtual 171, 3) := by decide +kernel
theorem d_m_tryMix_5 : decode prog_8_method_66_code 5 = .ok (.aload_n 0, 1) := by decide +kernel
theorem d_m_tryMix_6 : decode prog_8_method_66_code 6 = .ok (.invokevirtual 165, 3) := by decide +kernel
theorem d_m_tryMix_9 : decode prog_8_method_66_code 9 = .ok (.istore_n 2, 1) := by decide +kernel
theorem d_m_tryMix_10 : decode prog_8_method_66_code 10 = .ok (.iload_n 2, 1) := by decide +kernel
theorem d_m_tryMix_11 : decode prog_8_method_66_code 11 = .ok (.ifCond .lt 64, 3) := by decide +kernel
theorem d_m_tryMix_14 : decode prog_8_method_66_code 14 = .ok (.aload_n 0, 1) := by decide +kernel
theorem d_m_tryMix_15 : decode prog_8_method_66_code 15 = .ok (.dup, 1) := by decide +kernel
theorem d_m_tryMix_16 : decode prog_8_method_66_code 16 = .ok (.getfield 174, 3) := by decide +kernel
theorem d_m_tryMix_19 : decode prog_8_method_66_code 19 = .ok (.iconst 1, 1) := by decide +kernel
theorem d_m_tryMix_20 : decode prog_8_method_66_code 20 = .ok (.iadd, 1) := by decide +kernel
theorem d_m_tryMix_21 : decode prog_8_method_66_code 21 = .ok (.putfield 174, 3) := by decide +kernel
theorem d_m_tryMix_24 : decode prog_8_method_66_code 24 = .ok (.aload_n 0, 1) := by decide +kernel
theorem d_m_tryMix_25 : decode prog_8_method_66_code 25 = .ok (.invokevirtual 168, 3) := by decide +kernel
theorem d_m_tryMix_28 : decode prog_8_method_66_code 28 = .ok (.istore_n 3, 1) := by decide +kernel
theorem d_m_tryMix_29 : decode prog_8_method_66_code 29 = .ok (.aload_n 0, 1) := by decide +kernel
theorem d_m_tryMix_30 : decode prog_8_method_66_code 30 = .ok (.getfield 177, 3) := by decide +kernel
theorem d_m_tryMix_33 : decode prog_8_method_66_code 33 = .ok (.ifCond .lt 27, 3) := by decide +kernel
theorem d_m_tryMix_36 : decode prog_8_method_66_code 36 = .ok (.iload_n 2, 1) := by decide +kernel
theorem d_m_tryMix_37 : decode prog_8_method_66_code 37 = .ok (.aload_n 0, 1) := by decide +kernel
theorem d_m_tryMix_38 : decode prog_8_method_66_code 38 = .ok (.getfield 180, 3) := by decide +kernel
theorem d_m_tryMix_41 : decode prog_8_method_66_code 41 = .ok (.if_icmp .lt 19, 3) := by decide +kernel
theorem d_m_tryMix_44 : decode prog_8_method_66_code 44 = .ok (.iload_n 2, 1) := by decide +kernel
theorem d_m_tryMix_45 : decode prog_8_method_66_code 45 = .ok (.aload_n 0, 1) := by decide +kernel
theorem d_m_tryMix_46 : decode prog_8_method_66_code 46 = .ok (.getfield 180, 3) := by decide +kernel
theorem d_m_tryMix_49 : decode prog_8_method_66_code 49 = .ok (.if_icmp .ne 26, 3) := by decide +kernel
theorem d_m_tryMix_52 : decode prog_8_method_66_code 52 = .ok (.iload_n 3, 1) := by decide +kernel
theorem d_m_tryMix_53 : decode prog_8_method_66_code 53 = .ok (.aload_n 0, 1) := by decide +kernel
theorem d_m_tryMix_54 : decode prog_8_method_66_code 54 = .ok (.getfield 183, 3) := by decide +kernel
theorem d_m_tryMix_57 : decode prog_8_method_66_code 57 = .ok (.if_icmp .ge 18, 3) := by decide +kernel
theorem d_m_tryMix_60 : decode prog_8_method_66_code 60 = .ok (.aload_n 0, 1) := by decide +kernel
theorem d_m_tryMix_61 : decode prog_8_method_66_code 61 = .ok (.iload_n 1, 1) := by decide +kernel
theorem d_m_tryMix_62 : decode prog_8_method_66_code 62 = .ok (.putfield 177, 3) := by decide +kernel
theorem d_m_tryMix_65 : decode prog_8_method_66_code 65 = .ok (.aload_n 0, 1) := by decide +kernel
theorem d_m_tryMix_66 : decode prog_8_method_66_code 66 = .ok (.iload_n 2, 1) := by decide +kernel
theorem d_m_tryMix_67 : decode prog_8_method_66_code 67 = .ok (.putfield 180, 3) := by decide +kernel
theorem d_m_tryMix_70 : decode prog_8_method_66_code 70 = .ok (.aload_n 0, 1) := by decide +kernel
theorem d_m_tryMix_71 : decode prog_8_method_66_code 71 = .ok (.iload_n 3, 1) := by decide +kernel
theorem d_m_tryMix_72 : decode prog_8_method_66_code 72 = .ok (.putfield 183, 3) := by decide +kernel
theorem d_m_tryMix_75 : decode prog_8_method_66_code 75 = .ok (.return_, 1) := by decide +kernel
theorem d_m_findMix_0 : decode prog_8_method_67_code 0 = .ok (.iconst 0, 1) := by decide +kernel
theorem d_m_findMix_1 : decode prog_8_method_67_code 1 = .ok (.istore_n 1, 1) := by decide +kernel
theorem d_m_findMix_2 : decode prog_8_method_67_code 2 = .ok (.iload_n 1, 1) := by decide +kernel
theorem d_m_findMix_3 : decode prog_8_method_67_code 3 = .ok (.iconst 3, 1) := by decide +kernel
theorem d_m_findMix_4 : decode prog_8_method_67_code 4 = .ok (.if_icmp .ge 24, 3) := by decide +kernel
theorem d_m_findMix_7 : decode prog_8_method_67_code 7 = .ok (.aload_n 0, 1) := by decide +kernel
theorem d_m_findMix_8 : decode prog_8_method_67_code 8 = .ok (.getfield 56, 3) := by decide +kernel
theorem d_m_findMix_11 : decode prog_8_method_67_code 11 = .ok (.iload_n 1, 1) := by decide +kernel
theorem d_m_findMix_12 : decode prog_8_method_67_code 12 = .ok (.aload_n 0, 1) := by decide +kernel
theorem d_m_findMix_13 : decode prog_8_method_67_code 13 = .ok (.getfield 7, 3) := by decide +kernel
theorem d_m_findMix_16 : decode prog_8_method_67_code 16 = .ok (.bipush 67, 2) := by decide +kernel
theorem d_m_findMix_18 : decode prog_8_method_67_code 18 = .ok (.iload_n 1, 1) := by decide +kernel
theorem d_m_findMix_19 : decode prog_8_method_67_code 19 = .ok (.iadd, 1) := by decide +kernel
theorem d_m_findMix_20 : decode prog_8_method_67_code 20 = .ok (.iaload, 1) := by decide +kernel
theorem d_m_findMix_21 : decode prog_8_method_67_code 21 = .ok (.iastore, 1) := by decide +kernel
theorem d_m_findMix_22 : decode prog_8_method_67_code 22 = .ok (.iinc 1 1, 3) := by decide +kernel
theorem d_m_findMix_25 : decode prog_8_method_67_code 25 = .ok (.goto (-23), 3) := by decide +kernel
theorem d_m_findMix_28 : decode prog_8_method_67_code 28 = .ok (.aload_n 0, 1) := by decide +kernel
theorem d_m_findMix_29 : decode prog_8_method_67_code 29 = .ok (.iconst 0, 1) := by decide +kernel
theorem d_m_findMix_30 : decode prog_8_method_67_code 30 = .ok (.putfield 174, 3) := by decide +kernel
theorem d_m_findMix_33 : decode prog_8_method_67_code 33 = .ok (.aload_n 0, 1) := by decide +kernel
theorem d_m_findMix_34 : decode prog_8_method_67_code 34 = .ok (.sipush (-1009), 3) := by decide +kernel
theorem d_m_findMix_37 : decode prog_8_method_67_code 37 = .ok (.putfield 177, 3) := by decide +kernel
theorem d_m_findMix_40 : decode prog_8_method_67_code 40 = .ok (.aload_n 0, 1) := by decide +kernel
theorem d_m_findMix_41 : decode prog_8_method_67_code 41 = .ok (.sipush (-1009), 3) := by decide +kernel
theorem d_m_findMix_44 : decode prog_8_method_67_code 44 = .ok (.putfield 180, 3) := by decide +kernel
theorem d_m_findMix_47 : decode prog_8_method_67_code 47 = .ok (.iconst 1, 1) := by decide +kernel
theorem d_m_findMix_48 : decode prog_8_method_67_code 48 = .ok (.istore_n 1, 1) := by decide +kernel
theorem d_m_findMix_49 : decode prog_8_method_67_code 49 = .ok (.iload_n 1, 1) := by decide +kernel
theorem d_m_findMix_50 : decode prog_8_method_67_code 50 = .ok (.bipush 27, 2) := by decide +kernel
theorem d_m_findMix_52 : decode prog_8_method_67_code 52 = .ok (.if_icmp .ge 33, 3) := by decide +kernel
theorem d_m_findMix_55 : decode prog_8_method_67_code 55 = .ok (.aload_n 0, 1) := by decide +kernel
theorem d_m_findMix_56 : decode prog_8_method_67_code 56 = .ok (.bipush 100, 2) := by decide +kernel
theorem d_m_findMix_58 : decode prog_8_method_67_code 58 = .ok (.iload_n 1, 1) := by decide +kernel
theorem d_m_findMix_59 : decode prog_8_method_67_code 59 = .ok (.bipush 9, 2) := by decide +kernel
theorem d_m_findMix_61 : decode prog_8_method_67_code 61 = .ok (.idiv, 1) := by decide +kernel
theorem d_m_findMix_62 : decode prog_8_method_67_code 62 = .ok (.imul, 1) := by decide +kernel
theorem d_m_findMix_63 : decode prog_8_method_67_code 63 = .ok (.bipush 10, 2) := by decide +kernel
theorem d_m_findMix_65 : decode prog_8_method_67_code 65 = .ok (.iload_n 1, 1) := by decide +kernel
theorem d_m_findMix_66 : decode prog_8_method_67_code 66 = .ok (.iconst 3, 1) := by decide +kernel
theorem d_m_findMix_67 : decode prog_8_method_67_code 67 = .ok (.idiv, 1) := by decide +kernel
theorem d_m_findMix_68 : decode prog_8_method_67_code 68 = .ok (.iconst 3, 1) := by decide +kernel
theorem d_m_findMix_69 : decode prog_8_method_67_code 69 = .ok (.irem, 1) := by decide +kernel
theorem d_m_findMix_70 : decode prog_8_method_67_code 70 = .ok (.imul, 1) := by decide +kernel
theorem d_m_findMix_71 : decode prog_8_method_67_code 71 = .ok (.iadd, 1) := by decide +kernel
theorem d_m_findMix_72 : decode prog_8_method_67_code 72 = .ok (.iload_n 1, 1) := by decide +kernel
theorem d_m_findMix_73 : decode prog_8_method_67_code 73 = .ok (.iconst 3, 1) := by decide +kernel
theorem d_m_findMix_74 : decode prog_8_method_67_code 74 = .ok (.irem, 1) := by decide +kernel
theorem d_m_findMix_75 : decode prog_8_method_67_code 75 = .ok (.iadd, 1) := by decide +kernel
theorem d_m_findMix_76 : decode prog_8_method_67_code 76 = .ok (.invokevirtual 186, 3) := by decide +kernel
theorem d_m_findMix_79 : decode prog_8_method_67_code 79 = .ok (.iinc 1 1, 3) := by decide +kernel
theorem d_m_findMix_82 : decode prog_8_method_67_code 82 = .ok (.goto (-33), 3) := by decide +kernel
theorem d_m_findMix_85 : decode prog_8_method_67_code 85 = .ok (.iconst 0, 1) := by decide +kernel
theorem d_m_findMix_86 : decode prog_8_method_67_code 86 = .ok (.istore_n 1, 1) := by decide +kernel
theorem d_m_findMix_87 : decode prog_8_method_67_code 87 = .ok (.iload_n 1, 1) := by decide +kernel
theorem d_m_findMix_88 : decode prog_8_method_67_code 88 = .ok (.iconst 3, 1) := by decide +kernel
theorem d_m_findMix_89 : decode prog_8_method_67_code 89 = .ok (.if_icmp .ge 24, 3) := by decide +kernel
theorem d_m_findMix_92 : decode prog_8_method_67_code 92 = .ok (.aload_n 0, 1) := by decide +kernel
theorem d_m_findMix_93 : decode prog_8_method_67_code 93 = .ok (.getfield 7, 3) := by decide +kernel
theorem d_m_findMix_96 : decode prog_8_method_67_code 96 = .ok (.bipush 67, 2) := by decide +kernel
theorem d_m_findMix_98 : decode prog_8_method_67_code 98 = .ok (.iload_n 1, 1) := by decide +kernel
theorem d_m_findMix_99 : decode prog_8_method_67_code 99 = .ok (.iadd, 1) := by decide +kernel
theorem d_m_findMix_100 : decode prog_8_method_67_code 100 = .ok (.aload_n 0, 1) := by decide +kernel
theorem d_m_findMix_101 : decode prog_8_method_67_code 101 = .ok (.getfield 56, 3) := by decide +kernel
theorem d_m_findMix_104 : decode prog_8_method_67_code 104 = .ok (.iload_n 1, 1) := by decide +kernel
theorem d_m_findMix_105 : decode prog_8_method_67_code 105 = .ok (.iaload, 1) := by decide +kernel
theorem d_m_findMix_106 : decode prog_8_method_67_code 106 = .ok (.iastore, 1) := by decide +kernel
theorem d_m_findMix_107 : decode prog_8_method_67_code 107 = .ok (.iinc 1 1, 3) := by decide +kernel
theorem d_m_findMix_110 : decode prog_8_method_67_code 110 = .ok (.goto (-23), 3) := by decide +kernel
theorem d_m_findMix_113 : decode prog_8_method_67_code 113 = .ok (.return_, 1) := by decide +kernel
theorem d_m_goodMixes_0 : decode prog_8_method_68_code 0 = .ok (.aload_n 0, 1) := by decide +kernel
theorem d_m_goodMixes_1 : decode prog_8_method_68_code 1 = .ok (.invokevirtual 189, 3) := by decide +kernel
theorem d_m_goodMixes_4 : decode prog_8_method_68_code 4 = .ok (.aload_n 0, 1) := by decide +kernel
theorem d_m_goodMixes_5 : decode prog_8_method_68_code 5 = .ok (.getfield 174, 3) := by decide +kernel
theorem d_m_goodMixes_8 : decode prog_8_method_68_code 8 = .ok (.ireturn, 1) := by decide +kernel
theorem d_m_bestMix_0 : decode prog_8_method_69_code 0 = .ok (.aload_n 0, 1) := by decide +kernel
theorem d_m_bestMix_1 : decode prog_8_method_69_code 1 = .ok (.invokevirtual 189, 3) := by decide +kernel
theorem d_m_bestMix_4 : decode prog_8_method_69_code 4 = .ok (.aload_n 0, 1) := by decide +kernel
theorem d_m_bestMix_5 : decode prog_8_method_69_code 5 = .ok (.getfield 177, 3) := by decide +kernel
theorem d_m_bestMix_8 : decode prog_8_method_69_code 8 = .ok (.ireturn, 1) := by decide +kernel
theorem d_m_bestMixCloth_0 : decode prog_8_method_70_code 0 = .ok (.aload_n 0, 1) := by decide +kernel
theorem d_m_bestMixCloth_1 : decode prog_8_method_70_code 1 = .ok (.invokevirtual 189, 3) := by decide +kernel
theorem d_m_bestMixCloth_4 : decode prog_8_method_70_code 4 = .ok (.aload_n 0, 1) := by decide +kernel
theorem d_m_bestMixCloth_5 : decode prog_8_method_70_code 5 = .ok (.getfield 180, 3) := by decide +kernel
theorem d_m_bestMixCloth_8 : decode prog_8_method_70_code 8 = .ok (.ireturn, 1) := by decide +kernel
theorem d_m_applyBestMix_0 : decode prog_8_method_71_code 0 = .ok (.aload_n 0, 1) := by decide +kernel
theorem d_m_applyBestMix_1 : decode prog_8_method_71_code 1 = .ok (.invokevirtual 189, 3) := by decide +kernel
theorem d_m_applyBestMix_4 : decode prog_8_method_71_code 4 = .ok (.aload_n 0, 1) := by decide +kernel
theorem d_m_applyBestMix_5 : decode prog_8_method_71_code 5 = .ok (.getfield 177, 3) := by decide +kernel
theorem d_m_applyBestMix_8 : decode prog_8_method_71_code 8 = .ok (.ifCond .ge 7, 3) := by decide +kernel
theorem d_m_applyBestMix_11 : decode prog_8_method_71_code 11 = .ok (.sipush (-1009), 3) := by decide +kernel
theorem d_m_applyBestMix_14 : decode prog_8_method_71_code 14 = .ok (.ireturn, 1) := by decide +kernel
theorem d_m_applyBestMix_15 : decode prog_8_method_71_code 15 = .ok (.aload_n 0, 1) := by decide +kernel
theorem d_m_applyBestMix_16 : decode prog_8_method_71_code 16 = .ok (.aload_n 0, 1) := by decide +kernel
theorem d_m_applyBestMix_17 : decode prog_8_method_71_code 17 = .ok (.getfield 177, 3) := by decide +kernel
theorem d_m_applyBestMix_20 : decode prog_8_method_71_code 20 = .ok (.invokevirtual 171, 3) := by decide +kernel
theorem d_m_applyBestMix_23 : decode prog_8_method_71_code 23 = .ok (.aload_n 0, 1) := by decide +kernel
theorem d_m_applyBestMix_24 : decode prog_8_method_71_code 24 = .ok (.invokevirtual 153, 3) := by decide +kernel
theorem d_m_applyBestMix_27 : decode prog_8_method_71_code 27 = .ok (.ireturn, 1) := by decide +kernel
theorem d_m_save_0 : decode prog_8_method_72_code 0 = .ok (.iload_n 1, 1) := by decide +kernel
theorem d_m_save_1 : decode prog_8_method_72_code 1 = .ok (.iconst 0, 1) := by decide +kernel
theorem d_m_save_2 : decode prog_8_method_72_code 2 = .ok (.iconst 1, 1) := by decide +kernel
theorem d_m_save_3 : decode prog_8_method_72_code 3 = .ok (.invokestatic 59, 3) := by decide +kernel
theorem d_m_save_6 : decode prog_8_method_72_code 6 = .ok (.ifCond .ne 7, 3) := by decide +kernel
theorem d_m_save_9 : decode prog_8_method_72_code 9 = .ok (.sipush (-1005), 3) := by decide +kernel
theorem d_m_save_12 : decode prog_8_method_72_code 12 = .ok (.ireturn, 1) := by decide +kernel
theorem d_m_save_13 : decode prog_8_method_72_code 13 = .ok (.iconst 0, 1) := by decide +kernel
theorem d_m_save_14 : decode prog_8_method_72_code 14 = .ok (.istore_n 2, 1) := by decide +kernel
theorem d_m_save_15 : decode prog_8_method_72_code 15 = .ok (.iload_n 2, 1) := by decide +kernel
theorem d_m_save_16 : decode prog_8_method_72_code 16 = .ok (.bipush 78, 2) := by decide +kernel
theorem d_m_save_18 : decode prog_8_method_72_code 18 = .ok (.if_icmp .ge 26, 3) := by decide +kernel
theorem d_m_save_21 : decode prog_8_method_72_code 21 = .ok (.aload_n 0, 1) := by decide +kernel
theorem d_m_save_22 : decode prog_8_method_72_code 22 = .ok (.getfield 13, 3) := by decide +kernel
theorem d_m_save_25 : decode prog_8_method_72_code 25 = .ok (.bipush 78, 2) := by decide +kernel
theorem d_m_save_27 : decode prog_8_method_72_code 27 = .ok (.iload_n 1, 1) := by decide +kernel
theorem d_m_save_28 : decode prog_8_method_72_code 28 = .ok (.imul, 1) := by decide +kernel
theorem d_m_save_29 : decode prog_8_method_72_code 29 = .ok (.iload_n 2, 1) := by decide +kernel
theorem d_m_save_30 : decode prog_8_method_72_code 30 = .ok (.iadd, 1) := by decide +kernel
theorem d_m_save_31 : decode prog_8_method_72_code 31 = .ok (.aload_n 0, 1) := by decide +kernel
theorem d_m_save_32 : decode prog_8_method_72_code 32 = .ok (.getfield 7, 3) := by decide +kernel
theorem d_m_save_35 : decode prog_8_method_72_code 35 = .ok (.iload_n 2, 1) := by decide +kernel
theorem d_m_save_36 : decode prog_8_method_72_code 36 = .ok (.iaload, 1) := by decide +kernel
theorem d_m_save_37 : decode prog_8_method_72_code 37 = .ok (.iastore, 1) := by decide +kernel
theorem d_m_save_38 : decode prog_8_method_72_code 38 = .ok (.iinc 2 1, 3) := by decide +kernel
theorem d_m_save_41 : decode prog_8_method_72_code 41 = .ok (.goto (-26), 3) := by decide +kernel
theorem d_m_save_44 : decode prog_8_method_72_code 44 = .ok (.aload_n 0, 1) := by decide +kernel
theorem d_m_save_45 : decode prog_8_method_72_code 45 = .ok (.getfield 16, 3) := by decide +kernel
theorem d_m_save_48 : decode prog_8_method_72_code 48 = .ok (.iload_n 1, 1) := by decide +kernel
theorem d_m_save_49 : decode prog_8_method_72_code 49 = .ok (.iconst 1, 1) := by decide +kernel
theorem d_m_save_50 : decode prog_8_method_72_code 50 = .ok (.bastore, 1) := by decide +kernel
theorem d_m_save_51 : decode prog_8_method_72_code 51 = .ok (.iconst 1, 1) := by decide +kernel
theorem d_m_save_52 : decode prog_8_method_72_code 52 = .ok (.ireturn, 1) := by decide +kernel
theorem d_m_restore_0 : decode prog_8_method_73_code 0 = .ok (.iload_n 1, 1) := by decide +kernel
theorem d_m_restore_1 : decode prog_8_method_73_code 1 = .ok (.iconst 0, 1) := by decide +kernel
theorem d_m_restore_2 : decode prog_8_method_73_code 2 = .ok (.iconst 1, 1) := by decide +kernel
theorem d_m_restore_3 : decode prog_8_method_73_code 3 = .ok (.invokestatic 59, 3) := by decide +kernel
theorem d_m_restore_6 : decode prog_8_method_73_code 6 = .ok (.ifCond .ne 7, 3) := by decide +kernel
theorem d_m_restore_9 : decode prog_8_method_73_code 9 = .ok (.sipush (-1005), 3) := by decide +kernel
theorem d_m_restore_12 : decode prog_8_method_73_code 12 = .ok (.ireturn, 1) := by decide +kernel
theorem d_m_restore_13 : decode prog_8_method_73_code 13 = .ok (.aload_n 0, 1) := by decide +kernel
theorem d_m_restore_14 : decode prog_8_method_73_code 14 = .ok (.getfield 16, 3) := by decide +kernel
theorem d_m_restore_17 : decode prog_8_method_73_code 17 = .ok (.iload_n 1, 1) := by decide +kernel
theorem d_m_restore_18 : decode prog_8_method_73_code 18 = .ok (.baload, 1) := by decide +kernel
theorem d_m_restore_19 : decode prog_8_method_73_code 19 = .ok (.ifCond .ne 7, 3) := by decide +kernel
theorem d_m_restore_22 : decode prog_8_method_73_code 22 = .ok (.sipush (-1011), 3) := by decide +kernel
theorem d_m_restore_25 : decode prog_8_method_73_code 25 = .ok (.ireturn, 1) := by decide +kernel
theorem d_m_restore_26 : decode prog_8_method_73_code 26 = .ok (.iconst 0, 1) := by decide +kernel
theorem d_m_restore_27 : decode prog_8_method_73_code 27 = .ok (.istore_n 2, 1) := by decide +kernel
theorem d_m_restore_28 : decode prog_8_method_73_code 28 = .ok (.iload_n 2, 1) := by decide +kernel
theorem d_m_restore_29 : decode prog_8_method_73_code 29 = .ok (.bipush 78, 2) := by decide +kernel
theorem d_m_restore_31 : decode prog_8_method_73_code 31 = .ok (.if_icmp .ge 26, 3) := by decide +kernel
theorem d_m_restore_34 : decode prog_8_method_73_code 34 = .ok (.aload_n 0, 1) := by decide +kernel
theorem d_m_restore_35 : decode prog_8_method_73_code 35 = .ok (.getfield 7, 3) := by decide +kernel
theorem d_m_restore_38 : decode prog_8_method_73_code 38 = .ok (.iload_n 2, 1) := by decide +kernel
theorem d_m_restore_39 : decode prog_8_method_73_code 39 = .ok (.aload_n 0, 1) := by decide +kernel
theorem d_m_restore_40 : decode prog_8_method_73_code 40 = .ok (.getfield 13, 3) := by decide +kernel
theorem d_m_restore_43 : decode prog_8_method_73_code 43 = .ok (.bipush 78, 2) := by decide +kernel
theorem d_m_restore_45 : decode prog_8_method_73_code 45 = .ok (.iload_n 1, 1) := by decide +kernel
theorem d_m_restore_46 : decode prog_8_method_73_code 46 = .ok (.imul, 1) := by decide +kernel
theorem d_m_restore_47 : decode prog_8_method_73_code 47 = .ok (.iload_n 2, 1) := by decide +kernel
theorem d_m_restore_48 : decode prog_8_method_73_code 48 = .ok (.iadd, 1) := by decide +kernel
theorem d_m_restore_49 : decode prog_8_method_73_code 49 = .ok (.iaload, 1) := by decide +kernel
theorem d_m_restore_50 : decode prog_8_method_73_code 50 = .ok (.iastore, 1) := by decide +kernel
theorem d_m_restore_51 : decode prog_8_method_73_code 51 = .ok (.iinc 2 1, 3) := by decide +kernel
theorem d_m_restore_54 : decode prog_8_method_73_code 54 = .ok (.goto (-26), 3) := by decide +kernel
theorem d_m_restore_57 : decode prog_8_method_73_code 57 = .ok (.iconst 1, 1) := by decide +kernel
theorem d_m_restore_58 : decode prog_8_method_73_code 58 = .ok (.ireturn, 1) := by decide +kernel
