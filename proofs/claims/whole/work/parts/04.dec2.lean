theorem dX9_occupancy_7 : decode cX9_occupancy 7 = .ok (.istore_n 1, 1) := by decide +kernel
theorem dX9_occupancy_8 : decode cX9_occupancy 8 = .ok (.iload_n 1, 1) := by decide +kernel
theorem dX9_occupancy_9 : decode cX9_occupancy 9 = .ok (.ifCond .ne 14, 3) := by decide +kernel
theorem dX9_occupancy_12 : decode cX9_occupancy 12 = .ok (.new 259, 3) := by decide +kernel
theorem dX9_occupancy_15 : decode cX9_occupancy 15 = .ok (.dup, 1) := by decide +kernel
theorem dX9_occupancy_16 : decode cX9_occupancy 16 = .ok (.ldc_w 267, 3) := by decide +kernel
theorem dX9_occupancy_19 : decode cX9_occupancy 19 = .ok (.invokespecial 263, 3) := by decide +kernel
theorem dX9_occupancy_22 : decode cX9_occupancy 22 = .ok (.athrow, 1) := by decide +kernel
theorem dX9_occupancy_23 : decode cX9_occupancy 23 = .ok (.aload_n 0, 1) := by decide +kernel
theorem dX9_occupancy_24 : decode cX9_occupancy 24 = .ok (.getfield 12, 3) := by decide +kernel
theorem dX9_occupancy_27 : decode cX9_occupancy 27 = .ok (.invokevirtual 171, 3) := by decide +kernel
theorem dX9_occupancy_30 : decode cX9_occupancy 30 = .ok (.i2f, 1) := by decide +kernel
theorem dX9_occupancy_31 : decode cX9_occupancy 31 = .ok (.iload_n 1, 1) := by decide +kernel
theorem dX9_occupancy_32 : decode cX9_occupancy 32 = .ok (.i2f, 1) := by decide +kernel
theorem dX9_occupancy_33 : decode cX9_occupancy 33 = .ok (.fdiv, 1) := by decide +kernel
theorem dX9_occupancy_34 : decode cX9_occupancy 34 = .ok (.freturn, 1) := by decide +kernel
theorem dX9_isConsistent_0 : decode cX9_isConsistent 0 = .ok (.aload_n 0, 1) := by decide +kernel
theorem dX9_isConsistent_1 : decode cX9_isConsistent 1 = .ok (.getfield 12, 3) := by decide +kernel
theorem dX9_isConsistent_4 : decode cX9_isConsistent 4 = .ok (.invokevirtual 269, 3) := by decide +kernel
theorem dX9_isConsistent_7 : decode cX9_isConsistent 7 = .ok (.ifCond .eq 46, 3) := by decide +kernel
theorem dX9_isConsistent_10 : decode cX9_isConsistent 10 = .ok (.aload_n 0, 1) := by decide +kernel
theorem dX9_isConsistent_11 : decode cX9_isConsistent 11 = .ok (.getfield 39, 3) := by decide +kernel
theorem dX9_isConsistent_14 : decode cX9_isConsistent 14 = .ok (.aload_n 0, 1) := by decide +kernel
theorem dX9_isConsistent_15 : decode cX9_isConsistent 15 = .ok (.getfield 12, 3) := by decide +kernel
theorem dX9_isConsistent_18 : decode cX9_isConsistent 18 = .ok (.invokevirtual 213, 3) := by decide +kernel
theorem dX9_isConsistent_21 : decode cX9_isConsistent 21 = .ok (.aload_n 0, 1) := by decide +kernel
theorem dX9_isConsistent_22 : decode cX9_isConsistent 22 = .ok (.getfield 39, 3) := by decide +kernel
theorem dX9_isConsistent_25 : decode cX9_isConsistent 25 = .ok (.aload_n 0, 1) := by decide +kernel
theorem dX9_isConsistent_26 : decode cX9_isConsistent 26 = .ok (.getfield 12, 3) := by decide +kernel
theorem dX9_isConsistent_29 : decode cX9_isConsistent 29 = .ok (.invokevirtual 217, 3) := by decide +kernel
theorem dX9_isConsistent_32 : decode cX9_isConsistent 32 = .ok (.if_icmp .ne 21, 3) := by decide +kernel
theorem dX9_isConsistent_35 : decode cX9_isConsistent 35 = .ok (.aload_n 0, 1) := by decide +kernel
theorem dX9_isConsistent_36 : decode cX9_isConsistent 36 = .ok (.getfield 32, 3) := by decide +kernel
theorem dX9_isConsistent_39 : decode cX9_isConsistent 39 = .ok (.aload_n 0, 1) := by decide +kernel
theorem dX9_isConsistent_40 : decode cX9_isConsistent 40 = .ok (.getfield 12, 3) := by decide +kernel
theorem dX9_isConsistent_43 : decode cX9_isConsistent 43 = .ok (.invokevirtual 273, 3) := by decide +kernel
theorem dX9_isConsistent_46 : decode cX9_isConsistent 46 = .ok (.ifCond .eq 7, 3) := by decide +kernel
theorem dX9_isConsistent_49 : decode cX9_isConsistent 49 = .ok (.iconst 1, 1) := by decide +kernel
theorem dX9_isConsistent_50 : decode cX9_isConsistent 50 = .ok (.goto 4, 3) := by decide +kernel
theorem dX9_isConsistent_53 : decode cX9_isConsistent 53 = .ok (.iconst 0, 1) := by decide +kernel
theorem dX9_isConsistent_54 : decode cX9_isConsistent 54 = .ok (.ireturn, 1) := by decide +kernel
theorem dX9_writeFloor_0 : decode cX9_writeFloor 0 = .ok (.iload_n 1, 1) := by decide +kernel
theorem dX9_writeFloor_1 : decode cX9_writeFloor 1 = .ok (.invokestatic 207, 3) := by decide +kernel
theorem dX9_writeFloor_4 : decode cX9_writeFloor 4 = .ok (.aload_n 0, 1) := by decide +kernel
theorem dX9_writeFloor_5 : decode cX9_writeFloor 5 = .ok (.getfield 57, 3) := by decide +kernel
theorem dX9_writeFloor_8 : decode cX9_writeFloor 8 = .ok (.invokevirtual 276, 3) := by decide +kernel
theorem dX9_writeFloor_11 : decode cX9_writeFloor 11 = .ok (.aload_n 0, 1) := by decide +kernel
theorem dX9_writeFloor_12 : decode cX9_writeFloor 12 = .ok (.getfield 57, 3) := by decide +kernel
theorem dX9_writeFloor_15 : decode cX9_writeFloor 15 = .ok (.iload_n 1, 1) := by decide +kernel
theorem dX9_writeFloor_16 : decode cX9_writeFloor 16 = .ok (.invokevirtual 279, 3) := by decide +kernel
theorem dX9_writeFloor_19 : decode cX9_writeFloor 19 = .ok (.aload_n 0, 1) := by decide +kernel
theorem dX9_writeFloor_20 : decode cX9_writeFloor 20 = .ok (.getfield 57, 3) := by decide +kernel
theorem dX9_writeFloor_23 : decode cX9_writeFloor 23 = .ok (.bipush 126, 2) := by decide +kernel
theorem dX9_writeFloor_25 : decode cX9_writeFloor 25 = .ok (.invokevirtual 282, 3) := by decide +kernel
theorem dX9_writeFloor_28 : decode cX9_writeFloor 28 = .ok (.aload_n 0, 1) := by decide +kernel
theorem dX9_writeFloor_29 : decode cX9_writeFloor 29 = .ok (.getfield 57, 3) := by decide +kernel
theorem dX9_writeFloor_32 : decode cX9_writeFloor 32 = .ok (.aload_n 0, 1) := by decide +kernel
theorem dX9_writeFloor_33 : decode cX9_writeFloor 33 = .ok (.getfield 12, 3) := by decide +kernel
theorem dX9_writeFloor_36 : decode cX9_writeFloor 36 = .ok (.iload_n 1, 1) := by decide +kernel
theorem dX9_writeFloor_37 : decode cX9_writeFloor 37 = .ok (.invokevirtual 210, 3) := by decide +kernel
theorem dX9_writeFloor_40 : decode cX9_writeFloor 40 = .ok (.invokevirtual 279, 3) := by decide +kernel
theorem dX9_writeFloor_43 : decode cX9_writeFloor 43 = .ok (.iconst 0, 1) := by decide +kernel
theorem dX9_writeFloor_44 : decode cX9_writeFloor 44 = .ok (.istore_n 2, 1) := by decide +kernel
theorem dX9_writeFloor_45 : decode cX9_writeFloor 45 = .ok (.iload_n 2, 1) := by decide +kernel
theorem dX9_writeFloor_46 : decode cX9_writeFloor 46 = .ok (.aload_n 0, 1) := by decide +kernel
theorem dX9_writeFloor_47 : decode cX9_writeFloor 47 = .ok (.getfield 12, 3) := by decide +kernel
theorem dX9_writeFloor_50 : decode cX9_writeFloor 50 = .ok (.getfield 144, 3) := by decide +kernel
theorem dX9_writeFloor_53 : decode cX9_writeFloor 53 = .ok (.if_icmp .ge 27, 3) := by decide +kernel
theorem dX9_writeFloor_56 : decode cX9_writeFloor 56 = .ok (.aload_n 0, 1) := by decide +kernel
theorem dX9_writeFloor_57 : decode cX9_writeFloor 57 = .ok (.getfield 12, 3) := by decide +kernel
theorem dX9_writeFloor_60 : decode cX9_writeFloor 60 = .ok (.getfield 151, 3) := by decide +kernel
theorem dX9_writeFloor_63 : decode cX9_writeFloor 63 = .ok (.iload_n 2, 1) := by decide +kernel
theorem dX9_writeFloor_64 : decode cX9_writeFloor 64 = .ok (.iaload, 1) := by decide +kernel
theorem dX9_writeFloor_65 : decode cX9_writeFloor 65 = .ok (.iload_n 1, 1) := by decide +kernel
theorem dX9_writeFloor_66 : decode cX9_writeFloor 66 = .ok (.if_icmp .ne 8, 3) := by decide +kernel
theorem dX9_writeFloor_69 : decode cX9_writeFloor 69 = .ok (.aload_n 0, 1) := by decide +kernel
theorem dX9_writeFloor_70 : decode cX9_writeFloor 70 = .ok (.iload_n 2, 1) := by decide +kernel
theorem dX9_writeFloor_71 : decode cX9_writeFloor 71 = .ok (.invokevirtual 286, 3) := by decide +kernel
theorem dX9_writeFloor_74 : decode cX9_writeFloor 74 = .ok (.iinc 2 1, 3) := by decide +kernel
theorem dX9_writeFloor_77 : decode cX9_writeFloor 77 = .ok (.goto (-32), 3) := by decide +kernel
theorem dX9_writeFloor_80 : decode cX9_writeFloor 80 = .ok (.aload_n 0, 1) := by decide +kernel
theorem dX9_writeFloor_81 : decode cX9_writeFloor 81 = .ok (.getfield 57, 3) := by decide +kernel
theorem dX9_writeFloor_84 : decode cX9_writeFloor 84 = .ok (.getfield 289, 3) := by decide +kernel
theorem dX9_writeFloor_87 : decode cX9_writeFloor 87 = .ok (.ireturn, 1) := by decide +kernel
theorem dX9_writePlan_0 : decode cX9_writePlan 0 = .ok (.aload_n 0, 1) := by decide +kernel
theorem dX9_writePlan_1 : decode cX9_writePlan 1 = .ok (.getfield 32, 3) := by decide +kernel
theorem dX9_writePlan_4 : decode cX9_writePlan 4 = .ok (.aload_n 0, 1) := by decide +kernel
theorem dX9_writePlan_5 : decode cX9_writePlan 5 = .ok (.getfield 12, 3) := by decide +kernel
theorem dX9_writePlan_8 : decode cX9_writePlan 8 = .ok (.invokevirtual 130, 3) := by decide +kernel
theorem dX9_writePlan_11 : decode cX9_writePlan 11 = .ok (.astore_n 1, 1) := by decide +kernel
theorem dX9_writePlan_12 : decode cX9_writePlan 12 = .ok (.aload_n 0, 1) := by decide +kernel
theorem dX9_writePlan_13 : decode cX9_writePlan 13 = .ok (.getfield 57, 3) := by decide +kernel
theorem dX9_writePlan_16 : decode cX9_writePlan 16 = .ok (.invokevirtual 276, 3) := by decide +kernel
theorem dX9_writePlan_19 : decode cX9_writePlan 19 = .ok (.iconst 0, 1) := by decide +kernel
theorem dX9_writePlan_20 : decode cX9_writePlan 20 = .ok (.istore_n 2, 1) := by decide +kernel
theorem dX9_writePlan_21 : decode cX9_writePlan 21 = .ok (.iload_n 2, 1) := by decide +kernel
theorem dX9_writePlan_22 : decode cX9_writePlan 22 = .ok (.aload_n 0, 1) := by decide +kernel
theorem dX9_writePlan_23 : decode cX9_writePlan 23 = .ok (.getfield 12, 3) := by decide +kernel
theorem dX9_writePlan_26 : decode cX9_writePlan 26 = .ok (.getfield 175, 3) := by decide +kernel
theorem dX9_writePlan_29 : decode cX9_writePlan 29 = .ok (.if_icmp .ge 76, 3) := by decide +kernel
theorem dX9_writePlan_32 : decode cX9_writePlan 32 = .ok (.iload_n 2, 1) := by decide +kernel
theorem dX9_writePlan_33 : decode cX9_writePlan 33 = .ok (.ifCond .le 12, 3) := by decide +kernel
theorem dX9_writePlan_36 : decode cX9_writePlan 36 = .ok (.aload_n 0, 1) := by decide +kernel
theorem dX9_writePlan_37 : decode cX9_writePlan 37 = .ok (.getfield 57, 3) := by decide +kernel
theorem dX9_writePlan_40 : decode cX9_writePlan 40 = .ok (.bipush 32, 2) := by decide +kernel
theorem dX9_writePlan_42 : decode cX9_writePlan 42 = .ok (.invokevirtual 282, 3) := by decide +kernel
theorem dX9_writePlan_45 : decode cX9_writePlan 45 = .ok (.aload_n 0, 1) := by decide +kernel
theorem dX9_writePlan_46 : decode cX9_writePlan 46 = .ok (.getfield 57, 3) := by decide +kernel
theorem dX9_writePlan_49 : decode cX9_writePlan 49 = .ok (.aload_n 0, 1) := by decide +kernel
theorem dX9_writePlan_50 : decode cX9_writePlan 50 = .ok (.getfield 12, 3) := by decide +kernel
theorem dX9_writePlan_53 : decode cX9_writePlan 53 = .ok (.getfield 168, 3) := by decide +kernel
theorem dX9_writePlan_56 : decode cX9_writePlan 56 = .ok (.iload_n 2, 1) := by decide +kernel
theorem dX9_writePlan_57 : decode cX9_writePlan 57 = .ok (.iaload, 1) := by decide +kernel
theorem dX9_writePlan_58 : decode cX9_writePlan 58 = .ok (.invokevirtual 279, 3) := by decide +kernel
theorem dX9_writePlan_61 : decode cX9_writePlan 61 = .ok (.aload_n 0, 1) := by decide +kernel
theorem dX9_writePlan_62 : decode cX9_writePlan 62 = .ok (.getfield 57, 3) := by decide +kernel
theorem dX9_writePlan_65 : decode cX9_writePlan 65 = .ok (.bipush 62, 2) := by decide +kernel
theorem dX9_writePlan_67 : decode cX9_writePlan 67 = .ok (.invokevirtual 282, 3) := by decide +kernel
theorem dX9_writePlan_70 : decode cX9_writePlan 70 = .ok (.aload_n 1, 1) := by decide +kernel
theorem dX9_writePlan_71 : decode cX9_writePlan 71 = .ok (.iload_n 2, 1) := by decide +kernel
theorem dX9_writePlan_72 : decode cX9_writePlan 72 = .ok (.iaload, 1) := by decide +kernel
theorem dX9_writePlan_73 : decode cX9_writePlan 73 = .ok (.iconst (-1), 1) := by decide +kernel
theorem dX9_writePlan_74 : decode cX9_writePlan 74 = .ok (.if_icmp .ne 15, 3) := by decide +kernel
theorem dX9_writePlan_77 : decode cX9_writePlan 77 = .ok (.aload_n 0, 1) := by decide +kernel
theorem dX9_writePlan_78 : decode cX9_writePlan 78 = .ok (.getfield 57, 3) := by decide +kernel
theorem dX9_writePlan_81 : decode cX9_writePlan 81 = .ok (.bipush 45, 2) := by decide +kernel
theorem dX9_writePlan_83 : decode cX9_writePlan 83 = .ok (.invokevirtual 282, 3) := by decide +kernel
theorem dX9_writePlan_86 : decode cX9_writePlan 86 = .ok (.goto 13, 3) := by decide +kernel
theorem dX9_writePlan_89 : decode cX9_writePlan 89 = .ok (.aload_n 0, 1) := by decide +kernel
theorem dX9_writePlan_90 : decode cX9_writePlan 90 = .ok (.getfield 57, 3) := by decide +kernel
theorem dX9_writePlan_93 : decode cX9_writePlan 93 = .ok (.aload_n 1, 1) := by decide +kernel
theorem dX9_writePlan_94 : decode cX9_writePlan 94 = .ok (.iload_n 2, 1) := by decide +kernel
theorem dX9_writePlan_95 : decode cX9_writePlan 95 = .ok (.iaload, 1) := by decide +kernel
theorem dX9_writePlan_96 : decode cX9_writePlan 96 = .ok (.invokevirtual 279, 3) := by decide +kernel
theorem dX9_writePlan_99 : decode cX9_writePlan 99 = .ok (.iinc 2 1, 3) := by decide +kernel
theorem dX9_writePlan_102 : decode cX9_writePlan 102 = .ok (.goto (-81), 3) := by decide +kernel
theorem dX9_writePlan_105 : decode cX9_writePlan 105 = .ok (.aload_n 0, 1) := by decide +kernel
theorem dX9_writePlan_106 : decode cX9_writePlan 106 = .ok (.getfield 57, 3) := by decide +kernel
theorem dX9_writePlan_109 : decode cX9_writePlan 109 = .ok (.getfield 289, 3) := by decide +kernel
theorem dX9_writePlan_112 : decode cX9_writePlan 112 = .ok (.ireturn, 1) := by decide +kernel
theorem dX9_charAt_0 : decode cX9_charAt 0 = .ok (.iload_n 1, 1) := by decide +kernel
theorem dX9_charAt_1 : decode cX9_charAt 1 = .ok (.ifCond .lt 14, 3) := by decide +kernel
theorem dX9_charAt_4 : decode cX9_charAt 4 = .ok (.iload_n 1, 1) := by decide +kernel
theorem dX9_charAt_5 : decode cX9_charAt 5 = .ok (.aload_n 0, 1) := by decide +kernel
theorem dX9_charAt_6 : decode cX9_charAt 6 = .ok (.getfield 57, 3) := by decide +kernel
theorem dX9_charAt_9 : decode cX9_charAt 9 = .ok (.getfield 289, 3) := by decide +kernel
theorem dX9_charAt_12 : decode cX9_charAt 12 = .ok (.if_icmp .lt 14, 3) := by decide +kernel
theorem dX9_charAt_15 : decode cX9_charAt 15 = .ok (.new 292, 3) := by decide +kernel
theorem dX9_charAt_18 : decode cX9_charAt 18 = .ok (.dup, 1) := by decide +kernel
theorem dX9_charAt_19 : decode cX9_charAt 19 = .ok (.ldc_w 294, 3) := by decide +kernel
theorem dX9_charAt_22 : decode cX9_charAt 22 = .ok (.invokespecial 296, 3) := by decide +kernel
theorem dX9_charAt_25 : decode cX9_charAt 25 = .ok (.athrow, 1) := by decide +kernel
theorem dX9_charAt_26 : decode cX9_charAt 26 = .ok (.aload_n 0, 1) := by decide +kernel
theorem dX9_charAt_27 : decode cX9_charAt 27 = .ok (.getfield 57, 3) := by decide +kernel
theorem dX9_charAt_30 : decode cX9_charAt 30 = .ok (.getfield 297, 3) := by decide +kernel
theorem dX9_charAt_33 : decode cX9_charAt 33 = .ok (.iload_n 1, 1) := by decide +kernel
theorem dX9_charAt_34 : decode cX9_charAt 34 = .ok (.caload, 1) := by decide +kernel
theorem dX9_charAt_35 : decode cX9_charAt 35 = .ok (.ireturn, 1) := by decide +kernel
theorem dX9_type_0 : decode cX9_type 0 = .ok (.aload_n 0, 1) := by decide +kernel
theorem dX9_type_1 : decode cX9_type 1 = .ok (.getfield 53, 3) := by decide +kernel
theorem dX9_type_4 : decode cX9_type 4 = .ok (.getfield 289, 3) := by decide +kernel
theorem dX9_type_7 : decode cX9_type 7 = .ok (.bipush 60, 2) := by decide +kernel
theorem dX9_type_9 : decode cX9_type 9 = .ok (.if_icmp .lt 14, 3) := by decide +kernel
theorem dX9_type_12 : decode cX9_type 12 = .ok (.new 301, 3) := by decide +kernel
theorem dX9_type_15 : decode cX9_type 15 = .ok (.dup, 1) := by decide +kernel
theorem dX9_type_16 : decode cX9_type 16 = .ok (.ldc_w 303, 3) := by decide +kernel
theorem dX9_type_19 : decode cX9_type 19 = .ok (.invokespecial 305, 3) := by decide +kernel
theorem dX9_type_22 : decode cX9_type 22 = .ok (.athrow, 1) := by decide +kernel
theorem dX9_type_23 : decode cX9_type 23 = .ok (.aload_n 0, 1) := by decide +kernel
theorem dX9_type_24 : decode cX9_type 24 = .ok (.getfield 53, 3) := by decide +kernel
theorem dX9_type_27 : decode cX9_type 27 = .ok (.iload_n 1, 1) := by decide +kernel
theorem dX9_type_28 : decode cX9_type 28 = .ok (.invokevirtual 282, 3) := by decide +kernel
theorem dX9_type_31 : decode cX9_type 31 = .ok (.aload_n 0, 1) := by decide +kernel
theorem dX9_type_32 : decode cX9_type 32 = .ok (.getfield 53, 3) := by decide +kernel
theorem dX9_type_35 : decode cX9_type 35 = .ok (.getfield 289, 3) := by decide +kernel
theorem dX9_type_38 : decode cX9_type 38 = .ok (.ireturn, 1) := by decide +kernel
theorem dX9_run_0 : decode cX9_run 0 = .ok (.aload_n 0, 1) := by decide +kernel
theorem dX9_run_1 : decode cX9_run 1 = .ok (.getfield 46, 3) := by decide +kernel
theorem dX9_run_4 : decode cX9_run 4 = .ok (.aload_n 0, 1) := by decide +kernel
theorem dX9_run_5 : decode cX9_run 5 = .ok (.getfield 53, 3) := by decide +kernel
theorem dX9_run_8 : decode cX9_run 8 = .ok (.invokevirtual 306, 3) := by decide +kernel
theorem dX9_run_11 : decode cX9_run 11 = .ok (.istore_n 1, 1) := by decide +kernel
theorem dX9_run_12 : decode cX9_run 12 = .ok (.iload_n 1, 1) := by decide +kernel
theorem dX9_run_13 : decode cX9_run 13 = .ok (.iconst (-1), 1) := by decide +kernel
theorem dX9_run_14 : decode cX9_run 14 = .ok (.if_icmp .ne 32, 3) := by decide +kernel
theorem dX9_run_17 : decode cX9_run 17 = .ok (.aload_n 0, 1) := by decide +kernel
theorem dX9_run_18 : decode cX9_run 18 = .ok (.aload_n 0, 1) := by decide +kernel
theorem dX9_run_19 : decode cX9_run 19 = .ok (.getfield 46, 3) := by decide +kernel
theorem dX9_run_22 : decode cX9_run 22 = .ok (.getfield 310, 3) := by decide +kernel
theorem dX9_run_25 : decode cX9_run 25 = .ok (.putfield 64, 3) := by decide +kernel
theorem dX9_run_28 : decode cX9_run 28 = .ok (.aload_n 0, 1) := by decide +kernel
theorem dX9_run_29 : decode cX9_run 29 = .ok (.getfield 53, 3) := by decide +kernel
theorem dX9_run_32 : decode cX9_run 32 = .ok (.invokevirtual 276, 3) := by decide +kernel
theorem dX9_run_35 : decode cX9_run 35 = .ok (.new 313, 3) := by decide +kernel
theorem dX9_run_38 : decode cX9_run 38 = .ok (.dup, 1) := by decide +kernel
theorem dX9_run_39 : decode cX9_run 39 = .ok (.ldc_w 315, 3) := by decide +kernel
theorem dX9_run_42 : decode cX9_run 42 = .ok (.invokespecial 317, 3) := by decide +kernel
theorem dX9_run_45 : decode cX9_run 45 = .ok (.athrow, 1) := by decide +kernel
theorem dX9_run_46 : decode cX9_run 46 = .ok (.aload_n 0, 1) := by decide +kernel
theorem dX9_run_47 : decode cX9_run 47 = .ok (.getfield 16, 3) := by decide +kernel
theorem dX9_run_50 : decode cX9_run 50 = .ok (.aload_n 0, 1) := by decide +kernel
theorem dX9_run_51 : decode cX9_run 51 = .ok (.getfield 12, 3) := by decide +kernel
theorem dX9_run_54 : decode cX9_run 54 = .ok (.invokevirtual 237, 3) := by decide +kernel
theorem dX9_run_57 : decode cX9_run 57 = .ok (.aload_n 0, 1) := by decide +kernel
theorem dX9_run_58 : decode cX9_run 58 = .ok (.getfield 46, 3) := by decide +kernel
theorem dX9_run_61 : decode cX9_run 61 = .ok (.invokevirtual 318, 3) := by decide +kernel
theorem dX9_run_64 : decode cX9_run 64 = .ok (.iconst 0, 1) := by decide +kernel
theorem dX9_run_65 : decode cX9_run 65 = .ok (.istore_n 2, 1) := by decide +kernel
theorem dX9_run_66 : decode cX9_run 66 = .ok (.iload_n 2, 1) := by decide +kernel
theorem dX9_run_67 : decode cX9_run 67 = .ok (.iload_n 1, 1) := by decide +kernel
theorem dX9_run_68 : decode cX9_run 68 = .ok (.if_icmp .ge 21, 3) := by decide +kernel
theorem dX9_run_71 : decode cX9_run 71 = .ok (.aload_n 0, 1) := by decide +kernel
theorem dX9_run_72 : decode cX9_run 72 = .ok (.iload_n 2, 1) := by decide +kernel
theorem dX9_run_73 : decode cX9_run 73 = .ok (.invokevirtual 321, 3) := by decide +kernel
theorem dX9_run_76 : decode cX9_run 76 = .ok (.ifCond .eq 13, 3) := by decide +kernel
theorem dX9_run_79 : decode cX9_run 79 = .ok (.aload_n 0, 1) := by decide +kernel
theorem dX9_run_80 : decode cX9_run 80 = .ok (.invokevirtual 325, 3) := by decide +kernel
theorem dX9_run_83 : decode cX9_run 83 = .ok (.iinc 2 1, 3) := by decide +kernel
theorem dX9_run_86 : decode cX9_run 86 = .ok (.goto (-20), 3) := by decide +kernel
theorem dX9_run_89 : decode cX9_run 89 = .ok (.aload_n 0, 1) := by decide +kernel
theorem dX9_run_90 : decode cX9_run 90 = .ok (.getfield 53, 3) := by decide +kernel
theorem dX9_run_93 : decode cX9_run 93 = .ok (.invokevirtual 276, 3) := by decide +kernel
theorem dX9_run_96 : decode cX9_run 96 = .ok (.iload_n 2, 1) := by decide +kernel
theorem dX9_run_97 : decode cX9_run 97 = .ok (.iload_n 1, 1) := by decide +kernel
theorem dX9_run_98 : decode cX9_run 98 = .ok (.if_icmp .ge 30, 3) := by decide +kernel
theorem dX9_run_101 : decode cX9_run 101 = .ok (.aload_n 0, 1) := by decide +kernel
theorem dX9_run_102 : decode cX9_run 102 = .ok (.getfield 12, 3) := by decide +kernel
theorem dX9_run_105 : decode cX9_run 105 = .ok (.aload_n 0, 1) := by decide +kernel
theorem dX9_run_106 : decode cX9_run 106 = .ok (.getfield 16, 3) := by decide +kernel
theorem dX9_run_109 : decode cX9_run 109 = .ok (.invokevirtual 237, 3) := by decide +kernel
theorem dX9_run_112 : decode cX9_run 112 = .ok (.aload_n 0, 1) := by decide +kernel
theorem dX9_run_113 : decode cX9_run 113 = .ok (.iload_n 2, 1) := by decide +kernel
theorem dX9_run_114 : decode cX9_run 114 = .ok (.putfield 68, 3) := by decide +kernel
theorem dX9_run_117 : decode cX9_run 117 = .ok (.new 328, 3) := by decide +kernel
theorem dX9_run_120 : decode cX9_run 120 = .ok (.dup, 1) := by decide +kernel
theorem dX9_run_121 : decode cX9_run 121 = .ok (.ldc_w 330, 3) := by decide +kernel
theorem dX9_run_124 : decode cX9_run 124 = .ok (.invokespecial 332, 3) := by decide +kernel
theorem dX9_run_127 : decode cX9_run 127 = .ok (.athrow, 1) := by decide +kernel
theorem dX9_run_128 : decode cX9_run 128 = .ok (.aload_n 0, 1) := by decide +kernel
theorem dX9_run_129 : decode cX9_run 129 = .ok (.getfield 25, 3) := by decide +kernel
theorem dX9_run_132 : decode cX9_run 132 = .ok (.aload_n 0, 1) := by decide +kernel
theorem dX9_run_133 : decode cX9_run 133 = .ok (.getfield 16, 3) := by decide +kernel
theorem dX9_run_136 : decode cX9_run 136 = .ok (.invokevirtual 79, 3) := by decide +kernel
theorem dX9_run_139 : decode cX9_run 139 = .ok (.iload_n 1, 1) := by decide +kernel
theorem dX9_run_140 : decode cX9_run 140 = .ok (.ireturn, 1) := by decide +kernel
theorem dX9_errorPosition_0 : decode cX9_errorPosition 0 = .ok (.aload_n 0, 1) := by decide +kernel
theorem dX9_errorPosition_1 : decode cX9_errorPosition 1 = .ok (.getfield 64, 3) := by decide +kernel
theorem dX9_errorPosition_4 : decode cX9_errorPosition 4 = .ok (.iconst (-1), 1) := by decide +kernel
theorem dX9_errorPosition_5 : decode cX9_errorPosition 5 = .ok (.if_icmp .ne 14, 3) := by decide +kernel
theorem dX9_errorPosition_8 : decode cX9_errorPosition 8 = .ok (.new 161, 3) := by decide +kernel
theorem dX9_errorPosition_11 : decode cX9_errorPosition 11 = .ok (.dup, 1) := by decide +kernel
theorem dX9_errorPosition_12 : decode cX9_errorPosition 12 = .ok (.ldc_w 333, 3) := by decide +kernel
theorem dX9_errorPosition_15 : decode cX9_errorPosition 15 = .ok (.invokespecial 165, 3) := by decide +kernel
theorem dX9_errorPosition_18 : decode cX9_errorPosition 18 = .ok (.athrow, 1) := by decide +kernel
theorem dX9_errorPosition_19 : decode cX9_errorPosition 19 = .ok (.aload_n 0, 1) := by decide +kernel
theorem dX9_errorPosition_20 : decode cX9_errorPosition 20 = .ok (.getfield 64, 3) := by decide +kernel
theorem dX9_errorPosition_23 : decode cX9_errorPosition 23 = .ok (.ireturn, 1) := by decide +kernel
theorem dX9_failedCommand_0 : decode cX9_failedCommand 0 = .ok (.aload_n 0, 1) := by decide +kernel
theorem dX9_failedCommand_1 : decode cX9_failedCommand 1 = .ok (.getfield 68, 3) := by decide +kernel
theorem dX9_failedCommand_4 : decode cX9_failedCommand 4 = .ok (.iconst (-1), 1) := by decide +kernel
theorem dX9_failedCommand_5 : decode cX9_failedCommand 5 = .ok (.if_icmp .ne 14, 3) := by decide +kernel
theorem dX9_failedCommand_8 : decode cX9_failedCommand 8 = .ok (.new 161, 3) := by decide +kernel
theorem dX9_failedCommand_11 : decode cX9_failedCommand 11 = .ok (.dup, 1) := by decide +kernel
theorem dX9_failedCommand_12 : decode cX9_failedCommand 12 = .ok (.ldc_w 335, 3) := by decide +kernel
theorem dX9_failedCommand_15 : decode cX9_failedCommand 15 = .ok (.invokespecial 165, 3) := by decide +kernel
theorem dX9_failedCommand_18 : decode cX9_failedCommand 18 = .ok (.athrow, 1) := by decide +kernel
theorem dX9_failedCommand_19 : decode cX9_failedCommand 19 = .ok (.aload_n 0, 1) := by decide +kernel
theorem dX9_failedCommand_20 : decode cX9_failedCommand 20 = .ok (.getfield 68, 3) := by decide +kernel
theorem dX9_failedCommand_23 : decode cX9_failedCommand 23 = .ok (.ireturn, 1) := by decide +kernel
theorem dX9_undo_0 : decode cX9_undo 0 = .ok (.aload_n 0, 1) := by decide +kernel
theorem dX9_undo_1 : decode cX9_undo 1 = .ok (.getfield 25, 3) := by decide +kernel
theorem dX9_undo_4 : decode cX9_undo 4 = .ok (.getfield 337, 3) := by decide +kernel
theorem dX9_undo_7 : decode cX9_undo 7 = .ok (.ifCond .ne 14, 3) := by decide +kernel
theorem dX9_undo_10 : decode cX9_undo 10 = .ok (.new 301, 3) := by decide +kernel
theorem dX9_undo_13 : decode cX9_undo 13 = .ok (.dup, 1) := by decide +kernel
theorem dX9_undo_14 : decode cX9_undo 14 = .ok (.ldc_w 340, 3) := by decide +kernel
theorem dX9_undo_17 : decode cX9_undo 17 = .ok (.invokespecial 305, 3) := by decide +kernel
theorem dX9_undo_20 : decode cX9_undo 20 = .ok (.athrow, 1) := by decide +kernel
theorem dX9_undo_21 : decode cX9_undo 21 = .ok (.aload_n 0, 1) := by decide +kernel
theorem dX9_undo_22 : decode cX9_undo 22 = .ok (.getfield 25, 3) := by decide +kernel
theorem dX9_undo_25 : decode cX9_undo 25 = .ok (.aload_n 0, 1) := by decide +kernel
theorem dX9_undo_26 : decode cX9_undo 26 = .ok (.getfield 12, 3) := by decide +kernel
theorem dX9_undo_29 : decode cX9_undo 29 = .ok (.invokevirtual 342, 3) := by decide +kernel
theorem dX9_undo_32 : decode cX9_undo 32 = .ok (.aload_n 0, 1) := by decide +kernel
theorem dX9_undo_33 : decode cX9_undo 33 = .ok (.getfield 25, 3) := by decide +kernel
theorem dX9_undo_36 : decode cX9_undo 36 = .ok (.getfield 337, 3) := by decide +kernel
theorem dX9_undo_39 : decode cX9_undo 39 = .ok (.ireturn, 1) := by decide +kernel
theorem dX9_save_0 : decode cX9_save 0 = .ok (.aload_n 0, 1) := by decide +kernel
theorem dX9_save_1 : decode cX9_save 1 = .ok (.getfield 19, 3) := by decide +kernel
theorem dX9_save_4 : decode cX9_save 4 = .ok (.aload_n 0, 1) := by decide +kernel
theorem dX9_save_5 : decode cX9_save 5 = .ok (.getfield 12, 3) := by decide +kernel
theorem dX9_save_8 : decode cX9_save 8 = .ok (.invokevirtual 237, 3) := by decide +kernel
theorem dX9_save_11 : decode cX9_save 11 = .ok (.aload_n 0, 1) := by decide +kernel
theorem dX9_save_12 : decode cX9_save 12 = .ok (.iconst 1, 1) := by decide +kernel
theorem dX9_save_13 : decode cX9_save 13 = .ok (.putfield 60, 3) := by decide +kernel
theorem dX9_save_16 : decode cX9_save 16 = .ok (.aload_n 0, 1) := by decide +kernel
theorem dX9_save_17 : decode cX9_save 17 = .ok (.getfield 19, 3) := by decide +kernel
theorem dX9_save_20 : decode cX9_save 20 = .ok (.getfield 175, 3) := by decide +kernel
theorem dX9_save_23 : decode cX9_save 23 = .ok (.ireturn, 1) := by decide +kernel
theorem dX9_restore_0 : decode cX9_restore 0 = .ok (.aload_n 0, 1) := by decide +kernel
theorem dX9_restore_1 : decode cX9_restore 1 = .ok (.getfield 60, 3) := by decide +kernel
theorem dX9_restore_4 : decode cX9_restore 4 = .ok (.ifCond .ne 14, 3) := by decide +kernel
theorem dX9_restore_7 : decode cX9_restore 7 = .ok (.new 301, 3) := by decide +kernel
theorem dX9_restore_10 : decode cX9_restore 10 = .ok (.dup, 1) := by decide +kernel
theorem dX9_restore_11 : decode cX9_restore 11 = .ok (.ldc_w 345, 3) := by decide +kernel
theorem dX9_restore_14 : decode cX9_restore 14 = .ok (.invokespecial 305, 3) := by decide +kernel
theorem dX9_restore_17 : decode cX9_restore 17 = .ok (.athrow, 1) := by decide +kernel
theorem dX9_restore_18 : decode cX9_restore 18 = .ok (.aload_n 0, 1) := by decide +kernel
theorem dX9_restore_19 : decode cX9_restore 19 = .ok (.getfield 12, 3) := by decide +kernel
theorem dX9_restore_22 : decode cX9_restore 22 = .ok (.aload_n 0, 1) := by decide +kernel
theorem dX9_restore_23 : decode cX9_restore 23 = .ok (.getfield 19, 3) := by decide +kernel
theorem dX9_restore_26 : decode cX9_restore 26 = .ok (.invokevirtual 237, 3) := by decide +kernel
theorem dX9_restore_29 : decode cX9_restore 29 = .ok (.aload_n 0, 1) := by decide +kernel
theorem dX9_restore_30 : decode cX9_restore 30 = .ok (.getfield 25, 3) := by decide +kernel
theorem dX9_restore_33 : decode cX9_restore 33 = .ok (.invokevirtual 347, 3) := by decide +kernel
theorem dX9_restore_36 : decode cX9_restore 36 = .ok (.aload_n 0, 1) := by decide +kernel
theorem dX9_restore_37 : decode cX9_restore 37 = .ok (.getfield 12, 3) := by decide +kernel
theorem dX9_restore_40 : decode cX9_restore 40 = .ok (.getfield 175, 3) := by decide +kernel
theorem dX9_restore_43 : decode cX9_restore 43 = .ok (.ireturn, 1) := by decide +kernel
theorem dX9_refuse_0 : decode cX9_refuse 0 = .ok (.getstatic 350, 3) := by decide +kernel
theorem dX9_refuse_3 : decode cX9_refuse 3 = .ok (.aload_n 0, 1) := by decide +kernel
theorem dX9_refuse_4 : decode cX9_refuse 4 = .ok (.invokevirtual 355, 3) := by decide +kernel
theorem dX9_refuse_7 : decode cX9_refuse 7 = .ok (.iaload, 1) := by decide +kernel
theorem dX9_refuse_8 : decode cX9_refuse 8 = .ok (.tableswitch 91 1 5 #[36, 47, 58, 69, 80], 36) := by decide +kernel
theorem dX9_refuse_44 : decode cX9_refuse 44 = .ok (.new 161, 3) := by decide +kernel
theorem dX9_refuse_47 : decode cX9_refuse 47 = .ok (.dup, 1) := by decide +kernel
theorem dX9_refuse_48 : decode cX9_refuse 48 = .ok (.ldc_w 360, 3) := by decide +kernel
theorem dX9_refuse_51 : decode cX9_refuse 51 = .ok (.invokespecial 165, 3) := by decide +kernel
theorem dX9_refuse_54 : decode cX9_refuse 54 = .ok (.athrow, 1) := by decide +kernel
theorem dX9_refuse_55 : decode cX9_refuse 55 = .ok (.new 292, 3) := by decide +kernel
theorem dX9_refuse_58 : decode cX9_refuse 58 = .ok (.dup, 1) := by decide +kernel
theorem dX9_refuse_59 : decode cX9_refuse 59 = .ok (.ldc_w 362, 3) := by decide +kernel
theorem dX9_refuse_62 : decode cX9_refuse 62 = .ok (.invokespecial 296, 3) := by decide +kernel
theorem dX9_refuse_65 : decode cX9_refuse 65 = .ok (.athrow, 1) := by decide +kernel
theorem dX9_refuse_66 : decode cX9_refuse 66 = .ok (.new 313, 3) := by decide +kernel
theorem dX9_refuse_69 : decode cX9_refuse 69 = .ok (.dup, 1) := by decide +kernel
theorem dX9_refuse_70 : decode cX9_refuse 70 = .ok (.ldc_w 364, 3) := by decide +kernel
theorem dX9_refuse_73 : decode cX9_refuse 73 = .ok (.invokespecial 317, 3) := by decide +kernel
theorem dX9_refuse_76 : decode cX9_refuse 76 = .ok (.athrow, 1) := by decide +kernel
theorem dX9_refuse_77 : decode cX9_refuse 77 = .ok (.new 301, 3) := by decide +kernel
theorem dX9_refuse_80 : decode cX9_refuse 80 = .ok (.dup, 1) := by decide +kernel
theorem dX9_refuse_81 : decode cX9_refuse 81 = .ok (.ldc_w 366, 3) := by decide +kernel
theorem dX9_refuse_84 : decode cX9_refuse 84 = .ok (.invokespecial 305, 3) := by decide +kernel
theorem dX9_refuse_87 : decode cX9_refuse 87 = .ok (.athrow, 1) := by decide +kernel
theorem dX9_refuse_88 : decode cX9_refuse 88 = .ok (.new 328, 3) := by decide +kernel
theorem dX9_refuse_91 : decode cX9_refuse 91 = .ok (.dup, 1) := by decide +kernel
theorem dX9_refuse_92 : decode cX9_refuse 92 = .ok (.ldc_w 368, 3) := by decide +kernel
theorem dX9_refuse_95 : decode cX9_refuse 95 = .ok (.invokespecial 332, 3) := by decide +kernel
theorem dX9_refuse_98 : decode cX9_refuse 98 = .ok (.athrow, 1) := by decide +kernel
theorem dX9_refuse_99 : decode cX9_refuse 99 = .ok (.return_, 1) := by decide +kernel
theorem dX9_requireFlat_0 : decode cX9_requireFlat 0 = .ok (.aload_n 0, 1) := by decide +kernel
theorem dX9_requireFlat_1 : decode cX9_requireFlat 1 = .ok (.getfield 12, 3) := by decide +kernel
theorem dX9_requireFlat_4 : decode cX9_requireFlat 4 = .ok (.iload_n 1, 1) := by decide +kernel
theorem dX9_requireFlat_5 : decode cX9_requireFlat 5 = .ok (.invokevirtual 370, 3) := by decide +kernel
theorem dX9_requireFlat_8 : decode cX9_requireFlat 8 = .ok (.ifCond .ne 14, 3) := by decide +kernel
theorem dX9_requireFlat_11 : decode cX9_requireFlat 11 = .ok (.new 292, 3) := by decide +kernel
theorem dX9_requireFlat_14 : decode cX9_requireFlat 14 = .ok (.dup, 1) := by decide +kernel
theorem dX9_requireFlat_15 : decode cX9_requireFlat 15 = .ok (.ldc_w 362, 3) := by decide +kernel
theorem dX9_requireFlat_18 : decode cX9_requireFlat 18 = .ok (.invokespecial 296, 3) := by decide +kernel
theorem dX9_requireFlat_21 : decode cX9_requireFlat 21 = .ok (.athrow, 1) := by decide +kernel
theorem dX9_requireFlat_22 : decode cX9_requireFlat 22 = .ok (.return_, 1) := by decide +kernel
theorem dX9_requireFloor_0 : decode cX9_requireFloor 0 = .ok (.iload_n 0, 1) := by decide +kernel
theorem dX9_requireFloor_1 : decode cX9_requireFloor 1 = .ok (.iconst 0, 1) := by decide +kernel
theorem dX9_requireFloor_2 : decode cX9_requireFloor 2 = .ok (.iconst 5, 1) := by decide +kernel
theorem dX9_requireFloor_3 : decode cX9_requireFloor 3 = .ok (.invokestatic 373, 3) := by decide +kernel
theorem dX9_requireFloor_6 : decode cX9_requireFloor 6 = .ok (.ifCond .ne 14, 3) := by decide +kernel
theorem dX9_requireFloor_9 : decode cX9_requireFloor 9 = .ok (.new 292, 3) := by decide +kernel
theorem dX9_requireFloor_12 : decode cX9_requireFloor 12 = .ok (.dup, 1) := by decide +kernel
theorem dX9_requireFloor_13 : decode cX9_requireFloor 13 = .ok (.ldc_w 377, 3) := by decide +kernel
theorem dX9_requireFloor_16 : decode cX9_requireFloor 16 = .ok (.invokespecial 296, 3) := by decide +kernel
theorem dX9_requireFloor_19 : decode cX9_requireFloor 19 = .ok (.athrow, 1) := by decide +kernel
theorem dX9_requireFloor_20 : decode cX9_requireFloor 20 = .ok (.return_, 1) := by decide +kernel
theorem dX9_requireGiven_0 : decode cX9_requireGiven 0 = .ok (.iload_n 0, 1) := by decide +kernel
theorem dX9_requireGiven_1 : decode cX9_requireGiven 1 = .ok (.iconst (-1), 1) := by decide +kernel
theorem dX9_requireGiven_2 : decode cX9_requireGiven 2 = .ok (.if_icmp .ne 14, 3) := by decide +kernel
theorem dX9_requireGiven_5 : decode cX9_requireGiven 5 = .ok (.new 161, 3) := by decide +kernel
theorem dX9_requireGiven_8 : decode cX9_requireGiven 8 = .ok (.dup, 1) := by decide +kernel
theorem dX9_requireGiven_9 : decode cX9_requireGiven 9 = .ok (.ldc_w 379, 3) := by decide +kernel
theorem dX9_requireGiven_12 : decode cX9_requireGiven 12 = .ok (.invokespecial 165, 3) := by decide +kernel
theorem dX9_requireGiven_15 : decode cX9_requireGiven 15 = .ok (.athrow, 1) := by decide +kernel
theorem dX9_requireGiven_16 : decode cX9_requireGiven 16 = .ok (.iload_n 0, 1) := by decide +kernel
theorem dX9_requireGiven_17 : decode cX9_requireGiven 17 = .ok (.ireturn, 1) := by decide +kernel
theorem dX9_presentSlot_0 : decode cX9_presentSlot 0 = .ok (.aload_n 0, 1) := by decide +kernel
theorem dX9_presentSlot_1 : decode cX9_presentSlot 1 = .ok (.getfield 12, 3) := by decide +kernel
theorem dX9_presentSlot_4 : decode cX9_presentSlot 4 = .ok (.iload_n 1, 1) := by decide +kernel
theorem dX9_presentSlot_5 : decode cX9_presentSlot 5 = .ok (.invokevirtual 99, 3) := by decide +kernel
theorem dX9_presentSlot_8 : decode cX9_presentSlot 8 = .ok (.istore_n 2, 1) := by decide +kernel
theorem dX9_presentSlot_9 : decode cX9_presentSlot 9 = .ok (.iload_n 2, 1) := by decide +kernel
theorem dX9_presentSlot_10 : decode cX9_presentSlot 10 = .ok (.iconst (-1), 1) := by decide +kernel
theorem dX9_presentSlot_11 : decode cX9_presentSlot 11 = .ok (.if_icmp .ne 14, 3) := by decide +kernel
theorem dX9_presentSlot_14 : decode cX9_presentSlot 14 = .ok (.new 161, 3) := by decide +kernel
theorem dX9_presentSlot_17 : decode cX9_presentSlot 17 = .ok (.dup, 1) := by decide +kernel
theorem dX9_presentSlot_18 : decode cX9_presentSlot 18 = .ok (.ldc_w 360, 3) := by decide +kernel
theorem dX9_presentSlot_21 : decode cX9_presentSlot 21 = .ok (.invokespecial 165, 3) := by decide +kernel
theorem dX9_presentSlot_24 : decode cX9_presentSlot 24 = .ok (.athrow, 1) := by decide +kernel
theorem dX9_presentSlot_25 : decode cX9_presentSlot 25 = .ok (.iload_n 2, 1) := by decide +kernel
theorem dX9_presentSlot_26 : decode cX9_presentSlot 26 = .ok (.ireturn, 1) := by decide +kernel
theorem dX9_housedSlot_0 : decode cX9_housedSlot 0 = .ok (.aload_n 0, 1) := by decide +kernel
theorem dX9_housedSlot_1 : decode cX9_housedSlot 1 = .ok (.iload_n 1, 1) := by decide +kernel
theorem dX9_housedSlot_2 : decode cX9_housedSlot 2 = .ok (.invokevirtual 181, 3) := by decide +kernel
theorem dX9_housedSlot_5 : decode cX9_housedSlot 5 = .ok (.istore_n 2, 1) := by decide +kernel
theorem dX9_housedSlot_6 : decode cX9_housedSlot 6 = .ok (.aload_n 0, 1) := by decide +kernel
theorem dX9_housedSlot_7 : decode cX9_housedSlot 7 = .ok (.getfield 12, 3) := by decide +kernel
theorem dX9_housedSlot_10 : decode cX9_housedSlot 10 = .ok (.getfield 190, 3) := by decide +kernel
theorem dX9_housedSlot_13 : decode cX9_housedSlot 13 = .ok (.iload_n 2, 1) := by decide +kernel
theorem dX9_housedSlot_14 : decode cX9_housedSlot 14 = .ok (.iaload, 1) := by decide +kernel
theorem dX9_housedSlot_15 : decode cX9_housedSlot 15 = .ok (.iconst (-1), 1) := by decide +kernel
theorem dX9_housedSlot_16 : decode cX9_housedSlot 16 = .ok (.if_icmp .ne 14, 3) := by decide +kernel
theorem dX9_housedSlot_19 : decode cX9_housedSlot 19 = .ok (.new 161, 3) := by decide +kernel
theorem dX9_housedSlot_22 : decode cX9_housedSlot 22 = .ok (.dup, 1) := by decide +kernel
theorem dX9_housedSlot_23 : decode cX9_housedSlot 23 = .ok (.ldc_w 381, 3) := by decide +kernel
theorem dX9_housedSlot_26 : decode cX9_housedSlot 26 = .ok (.invokespecial 165, 3) := by decide +kernel
theorem dX9_housedSlot_29 : decode cX9_housedSlot 29 = .ok (.athrow, 1) := by decide +kernel
theorem dX9_housedSlot_30 : decode cX9_housedSlot 30 = .ok (.iload_n 2, 1) := by decide +kernel
theorem dX9_housedSlot_31 : decode cX9_housedSlot 31 = .ok (.ireturn, 1) := by decide +kernel
theorem dX9_isWithin_0 : decode cX9_isWithin 0 = .ok (.iload_n 0, 1) := by decide +kernel
theorem dX9_isWithin_1 : decode cX9_isWithin 1 = .ok (.iload_n 1, 1) := by decide +kernel
theorem dX9_isWithin_2 : decode cX9_isWithin 2 = .ok (.if_icmp .lt 12, 3) := by decide +kernel
theorem dX9_isWithin_5 : decode cX9_isWithin 5 = .ok (.iload_n 0, 1) := by decide +kernel
theorem dX9_isWithin_6 : decode cX9_isWithin 6 = .ok (.iload_n 2, 1) := by decide +kernel
theorem dX9_isWithin_7 : decode cX9_isWithin 7 = .ok (.if_icmp .gt 7, 3) := by decide +kernel
theorem dX9_isWithin_10 : decode cX9_isWithin 10 = .ok (.iconst 1, 1) := by decide +kernel
theorem dX9_isWithin_11 : decode cX9_isWithin 11 = .ok (.goto 4, 3) := by decide +kernel
theorem dX9_isWithin_14 : decode cX9_isWithin 14 = .ok (.iconst 0, 1) := by decide +kernel
theorem dX9_isWithin_15 : decode cX9_isWithin 15 = .ok (.ireturn, 1) := by decide +kernel
theorem dX9_fill_0 : decode cX9_fill 0 = .ok (.iconst 0, 1) := by decide +kernel
theorem dX9_fill_1 : decode cX9_fill 1 = .ok (.istore_n 2, 1) := by decide +kernel
theorem dX9_fill_2 : decode cX9_fill 2 = .ok (.iload_n 2, 1) := by decide +kernel
theorem dX9_fill_3 : decode cX9_fill 3 = .ok (.aload_n 0, 1) := by decide +kernel
theorem dX9_fill_4 : decode cX9_fill 4 = .ok (.arraylength, 1) := by decide +kernel
theorem dX9_fill_5 : decode cX9_fill 5 = .ok (.if_icmp .ge 13, 3) := by decide +kernel
theorem dX9_fill_8 : decode cX9_fill 8 = .ok (.aload_n 0, 1) := by decide +kernel
theorem dX9_fill_9 : decode cX9_fill 9 = .ok (.iload_n 2, 1) := by decide +kernel
theorem dX9_fill_10 : decode cX9_fill 10 = .ok (.iload_n 1, 1) := by decide +kernel
theorem dX9_fill_11 : decode cX9_fill 11 = .ok (.iastore, 1) := by decide +kernel
theorem dX9_fill_12 : decode cX9_fill 12 = .ok (.iinc 2 1, 3) := by decide +kernel
theorem dX9_fill_15 : decode cX9_fill 15 = .ok (.goto (-13), 3) := by decide +kernel
theorem dX9_fill_18 : decode cX9_fill 18 = .ok (.return_, 1) := by decide +kernel
theorem dX9_appendFlat_0 : decode cX9_appendFlat 0 = .ok (.aload_n 0, 1) := by decide +kernel
theorem dX9_appendFlat_1 : decode cX9_appendFlat 1 = .ok (.getfield 57, 3) := by decide +kernel
theorem dX9_appendFlat_4 : decode cX9_appendFlat 4 = .ok (.bipush 32, 2) := by decide +kernel
theorem dX9_appendFlat_6 : decode cX9_appendFlat 6 = .ok (.invokevirtual 282, 3) := by decide +kernel
theorem dX9_appendFlat_9 : decode cX9_appendFlat 9 = .ok (.aload_n 0, 1) := by decide +kernel
theorem dX9_appendFlat_10 : decode cX9_appendFlat 10 = .ok (.getfield 57, 3) := by decide +kernel
theorem dX9_appendFlat_13 : decode cX9_appendFlat 13 = .ok (.iload_n 1, 1) := by decide +kernel
theorem dX9_appendFlat_14 : decode cX9_appendFlat 14 = .ok (.invokevirtual 279, 3) := by decide +kernel
theorem dX9_appendFlat_17 : decode cX9_appendFlat 17 = .ok (.aload_n 0, 1) := by decide +kernel
theorem dX9_appendFlat_18 : decode cX9_appendFlat 18 = .ok (.getfield 57, 3) := by decide +kernel
theorem dX9_appendFlat_21 : decode cX9_appendFlat 21 = .ok (.bipush 61, 2) := by decide +kernel
theorem dX9_appendFlat_23 : decode cX9_appendFlat 23 = .ok (.invokevirtual 282, 3) := by decide +kernel
theorem dX9_appendFlat_26 : decode cX9_appendFlat 26 = .ok (.aload_n 0, 1) := by decide +kernel
theorem dX9_appendFlat_27 : decode cX9_appendFlat 27 = .ok (.getfield 57, 3) := by decide +kernel
theorem dX9_appendFlat_30 : decode cX9_appendFlat 30 = .ok (.aload_n 0, 1) := by decide +kernel
theorem dX9_appendFlat_31 : decode cX9_appendFlat 31 = .ok (.getfield 12, 3) := by decide +kernel
theorem dX9_appendFlat_34 : decode cX9_appendFlat 34 = .ok (.getfield 155, 3) := by decide +kernel
theorem dX9_appendFlat_37 : decode cX9_appendFlat 37 = .ok (.iload_n 1, 1) := by decide +kernel
theorem dX9_appendFlat_38 : decode cX9_appendFlat 38 = .ok (.iaload, 1) := by decide +kernel
theorem dX9_appendFlat_39 : decode cX9_appendFlat 39 = .ok (.invokevirtual 279, 3) := by decide +kernel
theorem dX9_appendFlat_42 : decode cX9_appendFlat 42 = .ok (.aload_n 0, 1) := by decide +kernel
theorem dX9_appendFlat_43 : decode cX9_appendFlat 43 = .ok (.getfield 12, 3) := by decide +kernel
theorem dX9_appendFlat_46 : decode cX9_appendFlat 46 = .ok (.iload_n 1, 1) := by decide +kernel
theorem dX9_appendFlat_47 : decode cX9_appendFlat 47 = .ok (.invokevirtual 158, 3) := by decide +kernel
theorem dX9_appendFlat_50 : decode cX9_appendFlat 50 = .ok (.istore_n 2, 1) := by decide +kernel
theorem dX9_appendFlat_51 : decode cX9_appendFlat 51 = .ok (.iload_n 2, 1) := by decide +kernel
theorem dX9_appendFlat_52 : decode cX9_appendFlat 52 = .ok (.iconst (-1), 1) := by decide +kernel
theorem dX9_appendFlat_53 : decode cX9_appendFlat 53 = .ok (.if_icmp .eq 28, 3) := by decide +kernel
theorem dX9_appendFlat_56 : decode cX9_appendFlat 56 = .ok (.aload_n 0, 1) := by decide +kernel
theorem dX9_appendFlat_57 : decode cX9_appendFlat 57 = .ok (.getfield 57, 3) := by decide +kernel
theorem dX9_appendFlat_60 : decode cX9_appendFlat 60 = .ok (.bipush 58, 2) := by decide +kernel
theorem dX9_appendFlat_62 : decode cX9_appendFlat 62 = .ok (.invokevirtual 282, 3) := by decide +kernel
theorem dX9_appendFlat_65 : decode cX9_appendFlat 65 = .ok (.aload_n 0, 1) := by decide +kernel
theorem dX9_appendFlat_66 : decode cX9_appendFlat 66 = .ok (.getfield 57, 3) := by decide +kernel
theorem dX9_appendFlat_69 : decode cX9_appendFlat 69 = .ok (.aload_n 0, 1) := by decide +kernel
theorem dX9_appendFlat_70 : decode cX9_appendFlat 70 = .ok (.getfield 12, 3) := by decide +kernel
theorem dX9_appendFlat_73 : decode cX9_appendFlat 73 = .ok (.getfield 168, 3) := by decide +kernel
theorem dX9_appendFlat_76 : decode cX9_appendFlat 76 = .ok (.iload_n 2, 1) := by decide +kernel
theorem dX9_appendFlat_77 : decode cX9_appendFlat 77 = .ok (.iaload, 1) := by decide +kernel
theorem dX9_appendFlat_78 : decode cX9_appendFlat 78 = .ok (.invokevirtual 279, 3) := by decide +kernel
theorem dX9_appendFlat_81 : decode cX9_appendFlat 81 = .ok (.return_, 1) := by decide +kernel
theorem dX9_isNextAllowed_0 : decode cX9_isNextAllowed 0 = .ok (.aload_n 0, 1) := by decide +kernel
theorem dX9_isNextAllowed_1 : decode cX9_isNextAllowed 1 = .ok (.getfield 46, 3) := by decide +kernel
theorem dX9_isNextAllowed_4 : decode cX9_isNextAllowed 4 = .ok (.aload_n 0, 1) := by decide +kernel
theorem dX9_isNextAllowed_5 : decode cX9_isNextAllowed 5 = .ok (.getfield 53, 3) := by decide +kernel
theorem dX9_isNextAllowed_8 : decode cX9_isNextAllowed 8 = .ok (.iload_n 1, 1) := by decide +kernel
theorem dX9_isNextAllowed_9 : decode cX9_isNextAllowed 9 = .ok (.invokevirtual 383, 3) := by decide +kernel
theorem dX9_isNextAllowed_12 : decode cX9_isNextAllowed 12 = .ok (.aload_n 0, 1) := by decide +kernel
theorem dX9_isNextAllowed_13 : decode cX9_isNextAllowed 13 = .ok (.aload_n 0, 1) := by decide +kernel
theorem dX9_isNextAllowed_14 : decode cX9_isNextAllowed 14 = .ok (.getfield 46, 3) := by decide +kernel
theorem dX9_isNextAllowed_17 : decode cX9_isNextAllowed 17 = .ok (.getfield 387, 3) := by decide +kernel
theorem dX9_isNextAllowed_20 : decode cX9_isNextAllowed 20 = .ok (.invokevirtual 390, 3) := by decide +kernel
theorem dX9_isNextAllowed_23 : decode cX9_isNextAllowed 23 = .ok (.getstatic 394, 3) := by decide +kernel
theorem dX9_isNextAllowed_26 : decode cX9_isNextAllowed 26 = .ok (.if_acmp .ne 7, 3) := by decide +kernel
theorem dX9_isNextAllowed_29 : decode cX9_isNextAllowed 29 = .ok (.iconst 1, 1) := by decide +kernel
theorem dX9_isNextAllowed_30 : decode cX9_isNextAllowed 30 = .ok (.goto 4, 3) := by decide +kernel
theorem dX9_isNextAllowed_33 : decode cX9_isNextAllowed 33 = .ok (.iconst 0, 1) := by decide +kernel
theorem dX9_isNextAllowed_34 : decode cX9_isNextAllowed 34 = .ok (.ireturn, 1) := by decide +kernel
theorem dX9_refusalOfCommand_0 : decode cX9_refusalOfCommand 0 = .ok (.getstatic 398, 3) := by decide +kernel
theorem dX9_refusalOfCommand_3 : decode cX9_refusalOfCommand 3 = .ok (.aload_n 0, 1) := by decide +kernel
theorem dX9_refusalOfCommand_4 : decode cX9_refusalOfCommand 4 = .ok (.getfield 46, 3) := by decide +kernel
theorem dX9_refusalOfCommand_7 : decode cX9_refusalOfCommand 7 = .ok (.getfield 401, 3) := by decide +kernel
theorem dX9_refusalOfCommand_10 : decode cX9_refusalOfCommand 10 = .ok (.invokevirtual 405, 3) := by decide +kernel
theorem dX9_refusalOfCommand_13 : decode cX9_refusalOfCommand 13 = .ok (.iaload, 1) := by decide +kernel
theorem dX9_refusalOfCommand_14 : decode cX9_refusalOfCommand 14 = .ok (.tableswitch 140 1 7 #[42, 56, 76, 90, 101, 115, 129], 42) := by decide +kernel
theorem dX9_refusalOfCommand_56 : decode cX9_refusalOfCommand 56 = .ok (.aload_n 0, 1) := by decide +kernel
theorem dX9_refusalOfCommand_57 : decode cX9_refusalOfCommand 57 = .ok (.getfield 12, 3) := by decide +kernel
theorem dX9_refusalOfCommand_60 : decode cX9_refusalOfCommand 60 = .ok (.aload_n 1, 1) := by decide +kernel
theorem dX9_refusalOfCommand_61 : decode cX9_refusalOfCommand 61 = .ok (.iconst 0, 1) := by decide +kernel
theorem dX9_refusalOfCommand_62 : decode cX9_refusalOfCommand 62 = .ok (.iaload, 1) := by decide +kernel
theorem dX9_refusalOfCommand_63 : decode cX9_refusalOfCommand 63 = .ok (.aload_n 1, 1) := by decide +kernel
theorem dX9_refusalOfCommand_64 : decode cX9_refusalOfCommand 64 = .ok (.iconst 1, 1) := by decide +kernel
theorem dX9_refusalOfCommand_65 : decode cX9_refusalOfCommand 65 = .ok (.iaload, 1) := by decide +kernel
theorem dX9_refusalOfCommand_66 : decode cX9_refusalOfCommand 66 = .ok (.invokevirtual 71, 3) := by decide +kernel
theorem dX9_refusalOfCommand_69 : decode cX9_refusalOfCommand 69 = .ok (.areturn, 1) := by decide +kernel
theorem dX9_refusalOfCommand_70 : decode cX9_refusalOfCommand 70 = .ok (.aload_n 0, 1) := by decide +kernel
theorem dX9_refusalOfCommand_71 : decode cX9_refusalOfCommand 71 = .ok (.getfield 12, 3) := by decide +kernel
theorem dX9_refusalOfCommand_74 : decode cX9_refusalOfCommand 74 = .ok (.aload_n 1, 1) := by decide +kernel
theorem dX9_refusalOfCommand_75 : decode cX9_refusalOfCommand 75 = .ok (.iconst 0, 1) := by decide +kernel
theorem dX9_refusalOfCommand_76 : decode cX9_refusalOfCommand 76 = .ok (.iaload, 1) := by decide +kernel
theorem dX9_refusalOfCommand_77 : decode cX9_refusalOfCommand 77 = .ok (.aload_n 1, 1) := by decide +kernel
theorem dX9_refusalOfCommand_78 : decode cX9_refusalOfCommand 78 = .ok (.iconst 1, 1) := by decide +kernel
theorem dX9_refusalOfCommand_79 : decode cX9_refusalOfCommand 79 = .ok (.iaload, 1) := by decide +kernel
theorem dX9_refusalOfCommand_80 : decode cX9_refusalOfCommand 80 = .ok (.aload_n 1, 1) := by decide +kernel
theorem dX9_refusalOfCommand_81 : decode cX9_refusalOfCommand 81 = .ok (.iconst 2, 1) := by decide +kernel
theorem dX9_refusalOfCommand_82 : decode cX9_refusalOfCommand 82 = .ok (.iaload, 1) := by decide +kernel
theorem dX9_refusalOfCommand_83 : decode cX9_refusalOfCommand 83 = .ok (.aload_n 1, 1) := by decide +kernel
theorem dX9_refusalOfCommand_84 : decode cX9_refusalOfCommand 84 = .ok (.iconst 3, 1) := by decide +kernel
theorem dX9_refusalOfCommand_85 : decode cX9_refusalOfCommand 85 = .ok (.iaload, 1) := by decide +kernel
theorem dX9_refusalOfCommand_86 : decode cX9_refusalOfCommand 86 = .ok (.invokevirtual 87, 3) := by decide +kernel
theorem dX9_refusalOfCommand_89 : decode cX9_refusalOfCommand 89 = .ok (.areturn, 1) := by decide +kernel
theorem dX9_refusalOfCommand_90 : decode cX9_refusalOfCommand 90 = .ok (.aload_n 0, 1) := by decide +kernel
theorem dX9_refusalOfCommand_91 : decode cX9_refusalOfCommand 91 = .ok (.getfield 12, 3) := by decide +kernel
theorem dX9_refusalOfCommand_94 : decode cX9_refusalOfCommand 94 = .ok (.aload_n 1, 1) := by decide +kernel
theorem dX9_refusalOfCommand_95 : decode cX9_refusalOfCommand 95 = .ok (.iconst 0, 1) := by decide +kernel
theorem dX9_refusalOfCommand_96 : decode cX9_refusalOfCommand 96 = .ok (.iaload, 1) := by decide +kernel
theorem dX9_refusalOfCommand_97 : decode cX9_refusalOfCommand 97 = .ok (.aload_n 1, 1) := by decide +kernel
theorem dX9_refusalOfCommand_98 : decode cX9_refusalOfCommand 98 = .ok (.iconst 1, 1) := by decide +kernel
theorem dX9_refusalOfCommand_99 : decode cX9_refusalOfCommand 99 = .ok (.iaload, 1) := by decide +kernel
theorem dX9_refusalOfCommand_100 : decode cX9_refusalOfCommand 100 = .ok (.invokevirtual 106, 3) := by decide +kernel
theorem dX9_refusalOfCommand_103 : decode cX9_refusalOfCommand 103 = .ok (.areturn, 1) := by decide +kernel
theorem dX9_refusalOfCommand_104 : decode cX9_refusalOfCommand 104 = .ok (.aload_n 0, 1) := by decide +kernel
theorem dX9_refusalOfCommand_105 : decode cX9_refusalOfCommand 105 = .ok (.getfield 12, 3) := by decide +kernel
theorem dX9_refusalOfCommand_108 : decode cX9_refusalOfCommand 108 = .ok (.aload_n 1, 1) := by decide +kernel
theorem dX9_refusalOfCommand_109 : decode cX9_refusalOfCommand 109 = .ok (.iconst 0, 1) := by decide +kernel
theorem dX9_refusalOfCommand_110 : decode cX9_refusalOfCommand 110 = .ok (.iaload, 1) := by decide +kernel
theorem dX9_refusalOfCommand_111 : decode cX9_refusalOfCommand 111 = .ok (.invokevirtual 112, 3) := by decide +kernel
theorem dX9_refusalOfCommand_114 : decode cX9_refusalOfCommand 114 = .ok (.areturn, 1) := by decide +kernel
theorem dX9_refusalOfCommand_115 : decode cX9_refusalOfCommand 115 = .ok (.aload_n 0, 1) := by decide +kernel
theorem dX9_refusalOfCommand_116 : decode cX9_refusalOfCommand 116 = .ok (.getfield 12, 3) := by decide +kernel
theorem dX9_refusalOfCommand_119 : decode cX9_refusalOfCommand 119 = .ok (.aload_n 1, 1) := by decide +kernel
theorem dX9_refusalOfCommand_120 : decode cX9_refusalOfCommand 120 = .ok (.iconst 0, 1) := by decide +kernel
theorem dX9_refusalOfCommand_121 : decode cX9_refusalOfCommand 121 = .ok (.iaload, 1) := by decide +kernel
theorem dX9_refusalOfCommand_122 : decode cX9_refusalOfCommand 122 = .ok (.aload_n 1, 1) := by decide +kernel
theorem dX9_refusalOfCommand_123 : decode cX9_refusalOfCommand 123 = .ok (.iconst 1, 1) := by decide +kernel
theorem dX9_refusalOfCommand_124 : decode cX9_refusalOfCommand 124 = .ok (.iaload, 1) := by decide +kernel
theorem dX9_refusalOfCommand_125 : decode cX9_refusalOfCommand 125 = .ok (.invokevirtual 118, 3) := by decide +kernel
theorem dX9_refusalOfCommand_128 : decode cX9_refusalOfCommand 128 = .ok (.areturn, 1) := by decide +kernel
theorem dX9_refusalOfCommand_129 : decode cX9_refusalOfCommand 129 = .ok (.aload_n 0, 1) := by decide +kernel
theorem dX9_refusalOfCommand_130 : decode cX9_refusalOfCommand 130 = .ok (.getfield 12, 3) := by decide +kernel
theorem dX9_refusalOfCommand_133 : decode cX9_refusalOfCommand 133 = .ok (.aload_n 1, 1) := by decide +kernel
theorem dX9_refusalOfCommand_134 : decode cX9_refusalOfCommand 134 = .ok (.iconst 0, 1) := by decide +kernel
theorem dX9_refusalOfCommand_135 : decode cX9_refusalOfCommand 135 = .ok (.iaload, 1) := by decide +kernel
theorem dX9_refusalOfCommand_136 : decode cX9_refusalOfCommand 136 = .ok (.aload_n 1, 1) := by decide +kernel
theorem dX9_refusalOfCommand_137 : decode cX9_refusalOfCommand 137 = .ok (.iconst 1, 1) := by decide +kernel
theorem dX9_refusalOfCommand_138 : decode cX9_refusalOfCommand 138 = .ok (.iaload, 1) := by decide +kernel
theorem dX9_refusalOfCommand_139 : decode cX9_refusalOfCommand 139 = .ok (.invokevirtual 124, 3) := by decide +kernel
theorem dX9_refusalOfCommand_142 : decode cX9_refusalOfCommand 142 = .ok (.areturn, 1) := by decide +kernel
theorem dX9_refusalOfCommand_143 : decode cX9_refusalOfCommand 143 = .ok (.aload_n 0, 1) := by decide +kernel
theorem dX9_refusalOfCommand_144 : decode cX9_refusalOfCommand 144 = .ok (.getfield 12, 3) := by decide +kernel
theorem dX9_refusalOfCommand_147 : decode cX9_refusalOfCommand 147 = .ok (.aload_n 1, 1) := by decide +kernel
theorem dX9_refusalOfCommand_148 : decode cX9_refusalOfCommand 148 = .ok (.iconst 0, 1) := by decide +kernel
theorem dX9_refusalOfCommand_149 : decode cX9_refusalOfCommand 149 = .ok (.iaload, 1) := by decide +kernel
theorem dX9_refusalOfCommand_150 : decode cX9_refusalOfCommand 150 = .ok (.invokevirtual 138, 3) := by decide +kernel
theorem dX9_refusalOfCommand_153 : decode cX9_refusalOfCommand 153 = .ok (.areturn, 1) := by decide +kernel
theorem dX9_refusalOfCommand_154 : decode cX9_refusalOfCommand 154 = .ok (.getstatic 394, 3) := by decide +kernel
theorem dX9_refusalOfCommand_157 : decode cX9_refusalOfCommand 157 = .ok (.areturn, 1) := by decide +kernel
theorem dX9_perform_0 : decode cX9_perform 0 = .ok (.aload_n 0, 1) := by decide +kernel
theorem dX9_perform_1 : decode cX9_perform 1 = .ok (.getfield 46, 3) := by decide +kernel
theorem dX9_perform_4 : decode cX9_perform 4 = .ok (.getfield 387, 3) := by decide +kernel
theorem dX9_perform_7 : decode cX9_perform 7 = .ok (.astore_n 1, 1) := by decide +kernel
theorem dX9_perform_8 : decode cX9_perform 8 = .ok (.getstatic 398, 3) := by decide +kernel
theorem dX9_perform_11 : decode cX9_perform 11 = .ok (.aload_n 0, 1) := by decide +kernel
theorem dX9_perform_12 : decode cX9_perform 12 = .ok (.getfield 46, 3) := by decide +kernel
theorem dX9_perform_15 : decode cX9_perform 15 = .ok (.getfield 401, 3) := by decide +kernel
theorem dX9_perform_18 : decode cX9_perform 18 = .ok (.invokevirtual 405, 3) := by decide +kernel
theorem dX9_perform_21 : decode cX9_perform 21 = .ok (.iaload, 1) := by decide +kernel
theorem dX9_perform_22 : decode cX9_perform 22 = .ok (.tableswitch 208 1 8 #[46, 63, 86, 110, 131, 148, 194, 172], 46) := by decide +kernel
theorem dX9_perform_68 : decode cX9_perform 68 = .ok (.aload_n 0, 1) := by decide +kernel
theorem dX9_perform_69 : decode cX9_perform 69 = .ok (.getfield 12, 3) := by decide +kernel
theorem dX9_perform_72 : decode cX9_perform 72 = .ok (.aload_n 1, 1) := by decide +kernel
theorem dX9_perform_73 : decode cX9_perform 73 = .ok (.iconst 0, 1) := by decide +kernel
theorem dX9_perform_74 : decode cX9_perform 74 = .ok (.iaload, 1) := by decide +kernel
theorem dX9_perform_75 : decode cX9_perform 75 = .ok (.aload_n 1, 1) := by decide +kernel
theorem dX9_perform_76 : decode cX9_perform 76 = .ok (.iconst 1, 1) := by decide +kernel
theorem dX9_perform_77 : decode cX9_perform 77 = .ok (.iaload, 1) := by decide +kernel
theorem dX9_perform_78 : decode cX9_perform 78 = .ok (.invokevirtual 83, 3) := by decide +kernel
theorem dX9_perform_81 : decode cX9_perform 81 = .ok (.pop, 1) := by decide +kernel
theorem dX9_perform_82 : decode cX9_perform 82 = .ok (.goto 148, 3) := by decide +kernel
theorem dX9_perform_85 : decode cX9_perform 85 = .ok (.aload_n 0, 1) := by decide +kernel
theorem dX9_perform_86 : decode cX9_perform 86 = .ok (.getfield 12, 3) := by decide +kernel
theorem dX9_perform_89 : decode cX9_perform 89 = .ok (.aload_n 1, 1) := by decide +kernel
theorem dX9_perform_90 : decode cX9_perform 90 = .ok (.iconst 0, 1) := by decide +kernel
theorem dX9_perform_91 : decode cX9_perform 91 = .ok (.iaload, 1) := by decide +kernel
theorem dX9_perform_92 : decode cX9_perform 92 = .ok (.aload_n 1, 1) := by decide +kernel
theorem dX9_perform_93 : decode cX9_perform 93 = .ok (.iconst 1, 1) := by decide +kernel
theorem dX9_perform_94 : decode cX9_perform 94 = .ok (.iaload, 1) := by decide +kernel
theorem dX9_perform_95 : decode cX9_perform 95 = .ok (.aload_n 1, 1) := by decide +kernel
theorem dX9_perform_96 : decode cX9_perform 96 = .ok (.iconst 2, 1) := by decide +kernel
theorem dX9_perform_97 : decode cX9_perform 97 = .ok (.iaload, 1) := by decide +kernel
theorem dX9_perform_98 : decode cX9_perform 98 = .ok (.aload_n 1, 1) := by decide +kernel
theorem dX9_perform_99 : decode cX9_perform 99 = .ok (.iconst 3, 1) := by decide +kernel
theorem dX9_perform_100 : decode cX9_perform 100 = .ok (.iaload, 1) := by decide +kernel
theorem dX9_perform_101 : decode cX9_perform 101 = .ok (.invokevirtual 91, 3) := by decide +kernel
theorem dX9_perform_104 : decode cX9_perform 104 = .ok (.pop, 1) := by decide +kernel
theorem dX9_perform_105 : decode cX9_perform 105 = .ok (.goto 125, 3) := by decide +kernel
theorem dX9_perform_108 : decode cX9_perform 108 = .ok (.aload_n 0, 1) := by decide +kernel
theorem dX9_perform_109 : decode cX9_perform 109 = .ok (.getfield 12, 3) := by decide +kernel
theorem dX9_perform_112 : decode cX9_perform 112 = .ok (.aload_n 0, 1) := by decide +kernel
theorem dX9_perform_113 : decode cX9_perform 113 = .ok (.getfield 12, 3) := by decide +kernel
theorem dX9_perform_116 : decode cX9_perform 116 = .ok (.aload_n 1, 1) := by decide +kernel
theorem dX9_perform_117 : decode cX9_perform 117 = .ok (.iconst 0, 1) := by decide +kernel
theorem dX9_perform_118 : decode cX9_perform 118 = .ok (.iaload, 1) := by decide +kernel
theorem dX9_perform_119 : decode cX9_perform 119 = .ok (.invokevirtual 99, 3) := by decide +kernel
theorem dX9_perform_122 : decode cX9_perform 122 = .ok (.aload_n 1, 1) := by decide +kernel
theorem dX9_perform_123 : decode cX9_perform 123 = .ok (.iconst 1, 1) := by decide +kernel
theorem dX9_perform_124 : decode cX9_perform 124 = .ok (.iaload, 1) := by decide +kernel
theorem dX9_perform_125 : decode cX9_perform 125 = .ok (.invokevirtual 109, 3) := by decide +kernel
theorem dX9_perform_128 : decode cX9_perform 128 = .ok (.pop, 1) := by decide +kernel
theorem dX9_perform_129 : decode cX9_perform 129 = .ok (.goto 101, 3) := by decide +kernel
theorem dX9_perform_132 : decode cX9_perform 132 = .ok (.aload_n 0, 1) := by decide +kernel
theorem dX9_perform_133 : decode cX9_perform 133 = .ok (.getfield 12, 3) := by decide +kernel
theorem dX9_perform_136 : decode cX9_perform 136 = .ok (.aload_n 0, 1) := by decide +kernel
theorem dX9_perform_137 : decode cX9_perform 137 = .ok (.getfield 12, 3) := by decide +kernel
theorem dX9_perform_140 : decode cX9_perform 140 = .ok (.aload_n 1, 1) := by decide +kernel
theorem dX9_perform_141 : decode cX9_perform 141 = .ok (.iconst 0, 1) := by decide +kernel
theorem dX9_perform_142 : decode cX9_perform 142 = .ok (.iaload, 1) := by decide +kernel
theorem dX9_perform_143 : decode cX9_perform 143 = .ok (.invokevirtual 99, 3) := by decide +kernel
theorem dX9_perform_146 : decode cX9_perform 146 = .ok (.invokevirtual 115, 3) := by decide +kernel
theorem dX9_perform_149 : decode cX9_perform 149 = .ok (.pop, 1) := by decide +kernel
theorem dX9_perform_150 : decode cX9_perform 150 = .ok (.goto 80, 3) := by decide +kernel
theorem dX9_perform_153 : decode cX9_perform 153 = .ok (.aload_n 0, 1) := by decide +kernel
theorem dX9_perform_154 : decode cX9_perform 154 = .ok (.getfield 12, 3) := by decide +kernel
theorem dX9_perform_157 : decode cX9_perform 157 = .ok (.aload_n 1, 1) := by decide +kernel
theorem dX9_perform_158 : decode cX9_perform 158 = .ok (.iconst 0, 1) := by decide +kernel
theorem dX9_perform_159 : decode cX9_perform 159 = .ok (.iaload, 1) := by decide +kernel
theorem dX9_perform_160 : decode cX9_perform 160 = .ok (.aload_n 1, 1) := by decide +kernel
theorem dX9_perform_161 : decode cX9_perform 161 = .ok (.iconst 1, 1) := by decide +kernel
theorem dX9_perform_162 : decode cX9_perform 162 = .ok (.iaload, 1) := by decide +kernel
theorem dX9_perform_163 : decode cX9_perform 163 = .ok (.invokevirtual 121, 3) := by decide +kernel
theorem dX9_perform_166 : decode cX9_perform 166 = .ok (.pop, 1) := by decide +kernel
theorem dX9_perform_167 : decode cX9_perform 167 = .ok (.goto 63, 3) := by decide +kernel
theorem dX9_perform_170 : decode cX9_perform 170 = .ok (.aload_n 0, 1) := by decide +kernel
theorem dX9_perform_171 : decode cX9_perform 171 = .ok (.getfield 12, 3) := by decide +kernel
theorem dX9_perform_174 : decode cX9_perform 174 = .ok (.aload_n 0, 1) := by decide +kernel
theorem dX9_perform_175 : decode cX9_perform 175 = .ok (.getfield 12, 3) := by decide +kernel
theorem dX9_perform_178 : decode cX9_perform 178 = .ok (.aload_n 1, 1) := by decide +kernel
theorem dX9_perform_179 : decode cX9_perform 179 = .ok (.iconst 0, 1) := by decide +kernel
theorem dX9_perform_180 : decode cX9_perform 180 = .ok (.iaload, 1) := by decide +kernel
theorem dX9_perform_181 : decode cX9_perform 181 = .ok (.invokevirtual 99, 3) := by decide +kernel
theorem dX9_perform_184 : decode cX9_perform 184 = .ok (.aload_n 1, 1) := by decide +kernel
theorem dX9_perform_185 : decode cX9_perform 185 = .ok (.iconst 1, 1) := by decide +kernel
theorem dX9_perform_186 : decode cX9_perform 186 = .ok (.iaload, 1) := by decide +kernel
theorem dX9_perform_187 : decode cX9_perform 187 = .ok (.invokevirtual 127, 3) := by decide +kernel
theorem dX9_perform_190 : decode cX9_perform 190 = .ok (.pop, 1) := by decide +kernel
theorem dX9_perform_191 : decode cX9_perform 191 = .ok (.goto 39, 3) := by decide +kernel
theorem dX9_perform_194 : decode cX9_perform 194 = .ok (.aload_n 0, 1) := by decide +kernel
theorem dX9_perform_195 : decode cX9_perform 195 = .ok (.getfield 12, 3) := by decide +kernel
theorem dX9_perform_198 : decode cX9_perform 198 = .ok (.aload_n 0, 1) := by decide +kernel
theorem dX9_perform_199 : decode cX9_perform 199 = .ok (.getfield 32, 3) := by decide +kernel
theorem dX9_perform_202 : decode cX9_perform 202 = .ok (.aload_n 0, 1) := by decide +kernel
theorem dX9_perform_203 : decode cX9_perform 203 = .ok (.getfield 12, 3) := by decide +kernel
theorem dX9_perform_206 : decode cX9_perform 206 = .ok (.invokevirtual 130, 3) := by decide +kernel
theorem dX9_perform_209 : decode cX9_perform 209 = .ok (.invokevirtual 134, 3) := by decide +kernel
theorem dX9_perform_212 : decode cX9_perform 212 = .ok (.pop, 1) := by decide +kernel
theorem dX9_perform_213 : decode cX9_perform 213 = .ok (.goto 17, 3) := by decide +kernel
theorem dX9_perform_216 : decode cX9_perform 216 = .ok (.aload_n 0, 1) := by decide +kernel
theorem dX9_perform_217 : decode cX9_perform 217 = .ok (.getfield 12, 3) := by decide +kernel
theorem dX9_perform_220 : decode cX9_perform 220 = .ok (.aload_n 1, 1) := by decide +kernel
theorem dX9_perform_221 : decode cX9_perform 221 = .ok (.iconst 0, 1) := by decide +kernel
theorem dX9_perform_222 : decode cX9_perform 222 = .ok (.iaload, 1) := by decide +kernel
theorem dX9_perform_223 : decode cX9_perform 223 = .ok (.invokevirtual 141, 3) := by decide +kernel
theorem dX9_perform_226 : decode cX9_perform 226 = .ok (.pop, 1) := by decide +kernel
theorem dX9_perform_227 : decode cX9_perform 227 = .ok (.goto 3, 3) := by decide +kernel
theorem dX9_perform_230 : decode cX9_perform 230 = .ok (.return_, 1) := by decide +kernel
theorem dX10_init_0 : decode cX10_init 0 = .ok (.aload_n 0, 1) := by decide +kernel
theorem dX10_init_1 : decode cX10_init 1 = .ok (.invokespecial 1, 3) := by decide +kernel
theorem dX10_init_4 : decode cX10_init 4 = .ok (.aload_n 0, 1) := by decide +kernel
theorem dX10_init_5 : decode cX10_init 5 = .ok (.bipush 62, 2) := by decide +kernel
theorem dX10_init_7 : decode cX10_init 7 = .ok (.newarray .int, 2) := by decide +kernel
theorem dX10_init_9 : decode cX10_init 9 = .ok (.putfield 7, 3) := by decide +kernel
theorem dX10_init_12 : decode cX10_init 12 = .ok (.aload_n 0, 1) := by decide +kernel
theorem dX10_init_13 : decode cX10_init 13 = .ok (.sipush 496, 3) := by decide +kernel
theorem dX10_init_16 : decode cX10_init 16 = .ok (.newarray .int, 2) := by decide +kernel
theorem dX10_init_18 : decode cX10_init 18 = .ok (.putfield 13, 3) := by decide +kernel
theorem dX10_init_21 : decode cX10_init 21 = .ok (.aload_n 0, 1) := by decide +kernel
theorem dX10_init_22 : decode cX10_init 22 = .ok (.bipush 62, 2) := by decide +kernel
theorem dX10_init_24 : decode cX10_init 24 = .ok (.newarray .int, 2) := by decide +kernel
theorem dX10_init_26 : decode cX10_init 26 = .ok (.putfield 16, 3) := by decide +kernel
theorem dX10_init_29 : decode cX10_init 29 = .ok (.aload_n 0, 1) := by decide +kernel
theorem dX10_init_30 : decode cX10_init 30 = .ok (.bipush 62, 2) := by decide +kernel
theorem dX10_init_32 : decode cX10_init 32 = .ok (.newarray .int, 2) := by decide +kernel
theorem dX10_init_34 : decode cX10_init 34 = .ok (.putfield 19, 3) := by decide +kernel
theorem dX10_init_37 : decode cX10_init 37 = .ok (.aload_n 0, 1) := by decide +kernel
theorem dX10_init_38 : decode cX10_init 38 = .ok (.bipush 62, 2) := by decide +kernel
theorem dX10_init_40 : decode cX10_init 40 = .ok (.newarray .int, 2) := by decide +kernel
theorem dX10_init_42 : decode cX10_init 42 = .ok (.putfield 22, 3) := by decide +kernel
theorem dX10_init_45 : decode cX10_init 45 = .ok (.aload_n 0, 1) := by decide +kernel
theorem dX10_init_46 : decode cX10_init 46 = .ok (.bipush 6, 2) := by decide +kernel
theorem dX10_init_48 : decode cX10_init 48 = .ok (.newarray .int, 2) := by decide +kernel
theorem dX10_init_50 : decode cX10_init 50 = .ok (.putfield 25, 3) := by decide +kernel
theorem dX10_init_53 : decode cX10_init 53 = .ok (.aload_n 0, 1) := by decide +kernel
theorem dX10_init_54 : decode cX10_init 54 = .ok (.bipush 6, 2) := by decide +kernel
theorem dX10_init_56 : decode cX10_init 56 = .ok (.newarray .int, 2) := by decide +kernel
theorem dX10_init_58 : decode cX10_init 58 = .ok (.putfield 28, 3) := by decide +kernel
theorem dX10_init_61 : decode cX10_init 61 = .ok (.aload_n 0, 1) := by decide +kernel
theorem dX10_init_62 : decode cX10_init 62 = .ok (.bipush 6, 2) := by decide +kernel
theorem dX10_init_64 : decode cX10_init 64 = .ok (.newarray .int, 2) := by decide +kernel
theorem dX10_init_66 : decode cX10_init 66 = .ok (.putfield 31, 3) := by decide +kernel
theorem dX10_init_69 : decode cX10_init 69 = .ok (.aload_n 0, 1) := by decide +kernel
theorem dX10_init_70 : decode cX10_init 70 = .ok (.bipush 6, 2) := by decide +kernel
theorem dX10_init_72 : decode cX10_init 72 = .ok (.newarray .int, 2) := by decide +kernel
theorem dX10_init_74 : decode cX10_init 74 = .ok (.putfield 34, 3) := by decide +kernel
theorem dX10_init_77 : decode cX10_init 77 = .ok (.aload_n 0, 1) := by decide +kernel
theorem dX10_init_78 : decode cX10_init 78 = .ok (.bipush 6, 2) := by decide +kernel
theorem dX10_init_80 : decode cX10_init 80 = .ok (.newarray .int, 2) := by decide +kernel
theorem dX10_init_82 : decode cX10_init 82 = .ok (.putfield 37, 3) := by decide +kernel
theorem dX10_init_85 : decode cX10_init 85 = .ok (.aload_n 0, 1) := by decide +kernel
theorem dX10_init_86 : decode cX10_init 86 = .ok (.bipush 120, 2) := by decide +kernel
theorem dX10_init_88 : decode cX10_init 88 = .ok (.newarray .char, 2) := by decide +kernel
theorem dX10_init_90 : decode cX10_init 90 = .ok (.putfield 40, 3) := by decide +kernel
theorem dX10_init_93 : decode cX10_init 93 = .ok (.aload_n 0, 1) := by decide +kernel
theorem dX10_init_94 : decode cX10_init 94 = .ok (.bipush 60, 2) := by decide +kernel
theorem dX10_init_96 : decode cX10_init 96 = .ok (.newarray .char, 2) := by decide +kernel
theorem dX10_init_98 : decode cX10_init 98 = .ok (.putfield 44, 3) := by decide +kernel
theorem dX10_init_101 : decode cX10_init 101 = .ok (.aload_n 0, 1) := by decide +kernel
theorem dX10_init_102 : decode cX10_init 102 = .ok (.iconst (-1), 1) := by decide +kernel
theorem dX10_init_103 : decode cX10_init 103 = .ok (.putfield 47, 3) := by decide +kernel
theorem dX10_init_106 : decode cX10_init 106 = .ok (.aload_n 0, 1) := by decide +kernel
theorem dX10_init_107 : decode cX10_init 107 = .ok (.iconst (-1), 1) := by decide +kernel
theorem dX10_init_108 : decode cX10_init 108 = .ok (.putfield 51, 3) := by decide +kernel
theorem dX10_init_111 : decode cX10_init 111 = .ok (.aload_n 0, 1) := by decide +kernel
theorem dX10_init_112 : decode cX10_init 112 = .ok (.iconst 4, 1) := by decide +kernel
theorem dX10_init_113 : decode cX10_init 113 = .ok (.newarray .int, 2) := by decide +kernel
theorem dX10_init_115 : decode cX10_init 115 = .ok (.putfield 54, 3) := by decide +kernel
theorem dX10_init_118 : decode cX10_init 118 = .ok (.return_, 1) := by decide +kernel
theorem dX10_thrown_0 : decode cX10_thrown 0 = .ok (.aload_n 0, 1) := by decide +kernel
theorem dX10_thrown_1 : decode cX10_thrown 1 = .ok (.getfield 57, 3) := by decide +kernel
theorem dX10_thrown_4 : decode cX10_thrown 4 = .ok (.ireturn, 1) := by decide +kernel
theorem dX10_fails_0 : decode cX10_fails 0 = .ok (.aload_n 0, 1) := by decide +kernel
theorem dX10_fails_1 : decode cX10_fails 1 = .ok (.iload_n 1, 1) := by decide +kernel
theorem dX10_fails_2 : decode cX10_fails 2 = .ok (.putfield 57, 3) := by decide +kernel
theorem dX10_fails_5 : decode cX10_fails 5 = .ok (.iconst 0, 1) := by decide +kernel
theorem dX10_fails_6 : decode cX10_fails 6 = .ok (.ireturn, 1) := by decide +kernel
theorem dX10_isBetween_0 : decode cX10_isBetween 0 = .ok (.iload_n 1, 1) := by decide +kernel
theorem dX10_isBetween_1 : decode cX10_isBetween 1 = .ok (.iload_n 0, 1) := by decide +kernel
theorem dX10_isBetween_2 : decode cX10_isBetween 2 = .ok (.if_icmp .gt 12, 3) := by decide +kernel
theorem dX10_isBetween_5 : decode cX10_isBetween 5 = .ok (.iload_n 0, 1) := by decide +kernel
theorem dX10_isBetween_6 : decode cX10_isBetween 6 = .ok (.iload_n 2, 1) := by decide +kernel
theorem dX10_isBetween_7 : decode cX10_isBetween 7 = .ok (.if_icmp .gt 7, 3) := by decide +kernel
theorem dX10_isBetween_10 : decode cX10_isBetween 10 = .ok (.iconst 1, 1) := by decide +kernel
theorem dX10_isBetween_11 : decode cX10_isBetween 11 = .ok (.goto 4, 3) := by decide +kernel
theorem dX10_isBetween_14 : decode cX10_isBetween 14 = .ok (.iconst 0, 1) := by decide +kernel
theorem dX10_isBetween_15 : decode cX10_isBetween 15 = .ok (.ireturn, 1) := by decide +kernel
theorem dX10_copies_0 : decode cX10_copies 0 = .ok (.iconst 0, 1) := by decide +kernel
theorem dX10_copies_1 : decode cX10_copies 1 = .ok (.istore_n 1, 1) := by decide +kernel
theorem dX10_copies_2 : decode cX10_copies 2 = .ok (.iload_n 1, 1) := by decide +kernel
theorem dX10_copies_3 : decode cX10_copies 3 = .ok (.bipush 62, 2) := by decide +kernel
theorem dX10_copies_5 : decode cX10_copies 5 = .ok (.if_icmp .ge 21, 3) := by decide +kernel
theorem dX10_copies_8 : decode cX10_copies 8 = .ok (.aload_n 0, 1) := by decide +kernel
theorem dX10_copies_9 : decode cX10_copies 9 = .ok (.getfield 19, 3) := by decide +kernel
theorem dX10_copies_12 : decode cX10_copies 12 = .ok (.iload_n 1, 1) := by decide +kernel
theorem dX10_copies_13 : decode cX10_copies 13 = .ok (.aload_n 0, 1) := by decide +kernel
theorem dX10_copies_14 : decode cX10_copies 14 = .ok (.getfield 7, 3) := by decide +kernel
theorem dX10_copies_17 : decode cX10_copies 17 = .ok (.iload_n 1, 1) := by decide +kernel
theorem dX10_copies_18 : decode cX10_copies 18 = .ok (.iaload, 1) := by decide +kernel
theorem dX10_copies_19 : decode cX10_copies 19 = .ok (.iastore, 1) := by decide +kernel
theorem dX10_copies_20 : decode cX10_copies 20 = .ok (.iinc 1 1, 3) := by decide +kernel
theorem dX10_copies_23 : decode cX10_copies 23 = .ok (.goto (-21), 3) := by decide +kernel
theorem dX10_copies_26 : decode cX10_copies 26 = .ok (.return_, 1) := by decide +kernel
theorem dX10_goesBack_0 : decode cX10_goesBack 0 = .ok (.iconst 0, 1) := by decide +kernel
theorem dX10_goesBack_1 : decode cX10_goesBack 1 = .ok (.istore_n 1, 1) := by decide +kernel
theorem dX10_goesBack_2 : decode cX10_goesBack 2 = .ok (.iload_n 1, 1) := by decide +kernel
theorem dX10_goesBack_3 : decode cX10_goesBack 3 = .ok (.bipush 62, 2) := by decide +kernel
theorem dX10_goesBack_5 : decode cX10_goesBack 5 = .ok (.if_icmp .ge 21, 3) := by decide +kernel
theorem dX10_goesBack_8 : decode cX10_goesBack 8 = .ok (.aload_n 0, 1) := by decide +kernel
theorem dX10_goesBack_9 : decode cX10_goesBack 9 = .ok (.getfield 7, 3) := by decide +kernel
theorem dX10_goesBack_12 : decode cX10_goesBack 12 = .ok (.iload_n 1, 1) := by decide +kernel
theorem dX10_goesBack_13 : decode cX10_goesBack 13 = .ok (.aload_n 0, 1) := by decide +kernel
theorem dX10_goesBack_14 : decode cX10_goesBack 14 = .ok (.getfield 19, 3) := by decide +kernel
theorem dX10_goesBack_17 : decode cX10_goesBack 17 = .ok (.iload_n 1, 1) := by decide +kernel
theorem dX10_goesBack_18 : decode cX10_goesBack 18 = .ok (.iaload, 1) := by decide +kernel
theorem dX10_goesBack_19 : decode cX10_goesBack 19 = .ok (.iastore, 1) := by decide +kernel
theorem dX10_goesBack_20 : decode cX10_goesBack 20 = .ok (.iinc 1 1, 3) := by decide +kernel
theorem dX10_goesBack_23 : decode cX10_goesBack 23 = .ok (.goto (-21), 3) := by decide +kernel
theorem dX10_goesBack_26 : decode cX10_goesBack 26 = .ok (.return_, 1) := by decide +kernel
theorem dX10_keeps_0 : decode cX10_keeps 0 = .ok (.aload_n 0, 1) := by decide +kernel
theorem dX10_keeps_1 : decode cX10_keeps 1 = .ok (.getfield 60, 3) := by decide +kernel
theorem dX10_keeps_4 : decode cX10_keeps 4 = .ok (.bipush 8, 2) := by decide +kernel
theorem dX10_keeps_6 : decode cX10_keeps 6 = .ok (.if_icmp .ne 26, 3) := by decide +kernel
theorem dX10_keeps_9 : decode cX10_keeps 9 = .ok (.aload_n 0, 1) := by decide +kernel
theorem dX10_keeps_10 : decode cX10_keeps 10 = .ok (.aload_n 0, 1) := by decide +kernel
theorem dX10_keeps_11 : decode cX10_keeps 11 = .ok (.getfield 63, 3) := by decide +kernel
theorem dX10_keeps_14 : decode cX10_keeps 14 = .ok (.iconst 1, 1) := by decide +kernel
theorem dX10_keeps_15 : decode cX10_keeps 15 = .ok (.iadd, 1) := by decide +kernel
theorem dX10_keeps_16 : decode cX10_keeps 16 = .ok (.bipush 8, 2) := by decide +kernel
theorem dX10_keeps_18 : decode cX10_keeps 18 = .ok (.irem, 1) := by decide +kernel
theorem dX10_keeps_19 : decode cX10_keeps 19 = .ok (.putfield 63, 3) := by decide +kernel
theorem dX10_keeps_22 : decode cX10_keeps 22 = .ok (.aload_n 0, 1) := by decide +kernel
theorem dX10_keeps_23 : decode cX10_keeps 23 = .ok (.dup, 1) := by decide +kernel
theorem dX10_keeps_24 : decode cX10_keeps 24 = .ok (.getfield 60, 3) := by decide +kernel
theorem dX10_keeps_27 : decode cX10_keeps 27 = .ok (.iconst 1, 1) := by decide +kernel
theorem dX10_keeps_28 : decode cX10_keeps 28 = .ok (.isub, 1) := by decide +kernel
theorem dX10_keeps_29 : decode cX10_keeps 29 = .ok (.putfield 60, 3) := by decide +kernel
theorem dX10_keeps_32 : decode cX10_keeps 32 = .ok (.aload_n 0, 1) := by decide +kernel
theorem dX10_keeps_33 : decode cX10_keeps 33 = .ok (.getfield 63, 3) := by decide +kernel
theorem dX10_keeps_36 : decode cX10_keeps 36 = .ok (.aload_n 0, 1) := by decide +kernel
theorem dX10_keeps_37 : decode cX10_keeps 37 = .ok (.getfield 60, 3) := by decide +kernel
theorem dX10_keeps_40 : decode cX10_keeps 40 = .ok (.iadd, 1) := by decide +kernel
theorem dX10_keeps_41 : decode cX10_keeps 41 = .ok (.bipush 8, 2) := by decide +kernel
theorem dX10_keeps_43 : decode cX10_keeps 43 = .ok (.irem, 1) := by decide +kernel
theorem dX10_keeps_44 : decode cX10_keeps 44 = .ok (.istore_n 1, 1) := by decide +kernel
theorem dX10_keeps_45 : decode cX10_keeps 45 = .ok (.iconst 0, 1) := by decide +kernel
theorem dX10_keeps_46 : decode cX10_keeps 46 = .ok (.istore_n 2, 1) := by decide +kernel
theorem dX10_keeps_47 : decode cX10_keeps 47 = .ok (.iload_n 2, 1) := by decide +kernel
theorem dX10_keeps_48 : decode cX10_keeps 48 = .ok (.bipush 62, 2) := by decide +kernel
theorem dX10_keeps_50 : decode cX10_keeps 50 = .ok (.if_icmp .ge 26, 3) := by decide +kernel
theorem dX10_keeps_53 : decode cX10_keeps 53 = .ok (.aload_n 0, 1) := by decide +kernel
theorem dX10_keeps_54 : decode cX10_keeps 54 = .ok (.getfield 13, 3) := by decide +kernel
theorem dX10_keeps_57 : decode cX10_keeps 57 = .ok (.bipush 62, 2) := by decide +kernel
theorem dX10_keeps_59 : decode cX10_keeps 59 = .ok (.iload_n 1, 1) := by decide +kernel
theorem dX10_keeps_60 : decode cX10_keeps 60 = .ok (.imul, 1) := by decide +kernel
theorem dX10_keeps_61 : decode cX10_keeps 61 = .ok (.iload_n 2, 1) := by decide +kernel
theorem dX10_keeps_62 : decode cX10_keeps 62 = .ok (.iadd, 1) := by decide +kernel
theorem dX10_keeps_63 : decode cX10_keeps 63 = .ok (.aload_n 0, 1) := by decide +kernel
theorem dX10_keeps_64 : decode cX10_keeps 64 = .ok (.getfield 19, 3) := by decide +kernel
theorem dX10_keeps_67 : decode cX10_keeps 67 = .ok (.iload_n 2, 1) := by decide +kernel
theorem dX10_keeps_68 : decode cX10_keeps 68 = .ok (.iaload, 1) := by decide +kernel
theorem dX10_keeps_69 : decode cX10_keeps 69 = .ok (.iastore, 1) := by decide +kernel
theorem dX10_keeps_70 : decode cX10_keeps 70 = .ok (.iinc 2 1, 3) := by decide +kernel
theorem dX10_keeps_73 : decode cX10_keeps 73 = .ok (.goto (-26), 3) := by decide +kernel
theorem dX10_keeps_76 : decode cX10_keeps 76 = .ok (.aload_n 0, 1) := by decide +kernel
theorem dX10_keeps_77 : decode cX10_keeps 77 = .ok (.dup, 1) := by decide +kernel
theorem dX10_keeps_78 : decode cX10_keeps 78 = .ok (.getfield 60, 3) := by decide +kernel
theorem dX10_keeps_81 : decode cX10_keeps 81 = .ok (.iconst 1, 1) := by decide +kernel
theorem dX10_keeps_82 : decode cX10_keeps 82 = .ok (.iadd, 1) := by decide +kernel
theorem dX10_keeps_83 : decode cX10_keeps 83 = .ok (.putfield 60, 3) := by decide +kernel
theorem dX10_keeps_86 : decode cX10_keeps 86 = .ok (.return_, 1) := by decide +kernel
theorem dX10_remembers_0 : decode cX10_remembers 0 = .ok (.aload_n 0, 1) := by decide +kernel
theorem dX10_remembers_1 : decode cX10_remembers 1 = .ok (.invokevirtual 66, 3) := by decide +kernel
theorem dX10_remembers_4 : decode cX10_remembers 4 = .ok (.aload_n 0, 1) := by decide +kernel
theorem dX10_remembers_5 : decode cX10_remembers 5 = .ok (.invokevirtual 69, 3) := by decide +kernel
theorem dX10_remembers_8 : decode cX10_remembers 8 = .ok (.return_, 1) := by decide +kernel
theorem dX10_looksAhead_0 : decode cX10_looksAhead 0 = .ok (.iconst 0, 1) := by decide +kernel
theorem dX10_looksAhead_1 : decode cX10_looksAhead 1 = .ok (.istore_n 1, 1) := by decide +kernel
theorem dX10_looksAhead_2 : decode cX10_looksAhead 2 = .ok (.iload_n 1, 1) := by decide +kernel
theorem dX10_looksAhead_3 : decode cX10_looksAhead 3 = .ok (.bipush 62, 2) := by decide +kernel
theorem dX10_looksAhead_5 : decode cX10_looksAhead 5 = .ok (.if_icmp .ge 21, 3) := by decide +kernel
theorem dX10_looksAhead_8 : decode cX10_looksAhead 8 = .ok (.aload_n 0, 1) := by decide +kernel
theorem dX10_looksAhead_9 : decode cX10_looksAhead 9 = .ok (.getfield 22, 3) := by decide +kernel
theorem dX10_looksAhead_12 : decode cX10_looksAhead 12 = .ok (.iload_n 1, 1) := by decide +kernel
theorem dX10_looksAhead_13 : decode cX10_looksAhead 13 = .ok (.aload_n 0, 1) := by decide +kernel
theorem dX10_looksAhead_14 : decode cX10_looksAhead 14 = .ok (.getfield 7, 3) := by decide +kernel
theorem dX10_looksAhead_17 : decode cX10_looksAhead 17 = .ok (.iload_n 1, 1) := by decide +kernel
theorem dX10_looksAhead_18 : decode cX10_looksAhead 18 = .ok (.iaload, 1) := by decide +kernel
theorem dX10_looksAhead_19 : decode cX10_looksAhead 19 = .ok (.iastore, 1) := by decide +kernel
theorem dX10_looksAhead_20 : decode cX10_looksAhead 20 = .ok (.iinc 1 1, 3) := by decide +kernel
theorem dX10_looksAhead_23 : decode cX10_looksAhead 23 = .ok (.goto (-21), 3) := by decide +kernel
theorem dX10_looksAhead_26 : decode cX10_looksAhead 26 = .ok (.return_, 1) := by decide +kernel
theorem dX10_comesBack_0 : decode cX10_comesBack 0 = .ok (.iconst 0, 1) := by decide +kernel
theorem dX10_comesBack_1 : decode cX10_comesBack 1 = .ok (.istore_n 1, 1) := by decide +kernel
theorem dX10_comesBack_2 : decode cX10_comesBack 2 = .ok (.iload_n 1, 1) := by decide +kernel
theorem dX10_comesBack_3 : decode cX10_comesBack 3 = .ok (.bipush 62, 2) := by decide +kernel
theorem dX10_comesBack_5 : decode cX10_comesBack 5 = .ok (.if_icmp .ge 21, 3) := by decide +kernel
theorem dX10_comesBack_8 : decode cX10_comesBack 8 = .ok (.aload_n 0, 1) := by decide +kernel
theorem dX10_comesBack_9 : decode cX10_comesBack 9 = .ok (.getfield 7, 3) := by decide +kernel
theorem dX10_comesBack_12 : decode cX10_comesBack 12 = .ok (.iload_n 1, 1) := by decide +kernel
theorem dX10_comesBack_13 : decode cX10_comesBack 13 = .ok (.aload_n 0, 1) := by decide +kernel
theorem dX10_comesBack_14 : decode cX10_comesBack 14 = .ok (.getfield 22, 3) := by decide +kernel
theorem dX10_comesBack_17 : decode cX10_comesBack 17 = .ok (.iload_n 1, 1) := by decide +kernel
theorem dX10_comesBack_18 : decode cX10_comesBack 18 = .ok (.iaload, 1) := by decide +kernel
theorem dX10_comesBack_19 : decode cX10_comesBack 19 = .ok (.iastore, 1) := by decide +kernel
theorem dX10_comesBack_20 : decode cX10_comesBack 20 = .ok (.iinc 1 1, 3) := by decide +kernel
theorem dX10_comesBack_23 : decode cX10_comesBack 23 = .ok (.goto (-21), 3) := by decide +kernel
theorem dX10_comesBack_26 : decode cX10_comesBack 26 = .ok (.return_, 1) := by decide +kernel
theorem dX10_isFlat_0 : decode cX10_isFlat 0 = .ok (.iload_n 1, 1) := by decide +kernel
theorem dX10_isFlat_1 : decode cX10_isFlat 1 = .ok (.iconst 0, 1) := by decide +kernel
theorem dX10_isFlat_2 : decode cX10_isFlat 2 = .ok (.aload_n 0, 1) := by decide +kernel
theorem dX10_isFlat_3 : decode cX10_isFlat 3 = .ok (.getfield 7, 3) := by decide +kernel
theorem dX10_isFlat_6 : decode cX10_isFlat 6 = .ok (.iconst 0, 1) := by decide +kernel
theorem dX10_isFlat_7 : decode cX10_isFlat 7 = .ok (.iaload, 1) := by decide +kernel
theorem dX10_isFlat_8 : decode cX10_isFlat 8 = .ok (.iconst 1, 1) := by decide +kernel
theorem dX10_isFlat_9 : decode cX10_isFlat 9 = .ok (.isub, 1) := by decide +kernel
theorem dX10_isFlat_10 : decode cX10_isFlat 10 = .ok (.invokestatic 72, 3) := by decide +kernel
theorem dX10_isFlat_13 : decode cX10_isFlat 13 = .ok (.ireturn, 1) := by decide +kernel
theorem dX10_flat_0 : decode cX10_flat 0 = .ok (.aload_n 0, 1) := by decide +kernel
theorem dX10_flat_1 : decode cX10_flat 1 = .ok (.getfield 7, 3) := by decide +kernel
theorem dX10_flat_4 : decode cX10_flat 4 = .ok (.bipush 8, 2) := by decide +kernel
theorem dX10_flat_6 : decode cX10_flat 6 = .ok (.iconst 2, 1) := by decide +kernel
theorem dX10_flat_7 : decode cX10_flat 7 = .ok (.iload_n 1, 1) := by decide +kernel
theorem dX10_flat_8 : decode cX10_flat 8 = .ok (.imul, 1) := by decide +kernel
theorem dX10_flat_9 : decode cX10_flat 9 = .ok (.iadd, 1) := by decide +kernel
theorem dX10_flat_10 : decode cX10_flat 10 = .ok (.iload_n 2, 1) := by decide +kernel
theorem dX10_flat_11 : decode cX10_flat 11 = .ok (.iadd, 1) := by decide +kernel
theorem dX10_flat_12 : decode cX10_flat 12 = .ok (.iaload, 1) := by decide +kernel
theorem dX10_flat_13 : decode cX10_flat 13 = .ok (.ireturn, 1) := by decide +kernel
theorem dX10_of_0 : decode cX10_of 0 = .ok (.aload_n 0, 1) := by decide +kernel
theorem dX10_of_1 : decode cX10_of 1 = .ok (.getfield 7, 3) := by decide +kernel
theorem dX10_of_4 : decode cX10_of 4 = .ok (.bipush 20, 2) := by decide +kernel
theorem dX10_of_6 : decode cX10_of 6 = .ok (.bipush 7, 2) := by decide +kernel
theorem dX10_of_8 : decode cX10_of 8 = .ok (.iload_n 1, 1) := by decide +kernel
theorem dX10_of_9 : decode cX10_of 9 = .ok (.imul, 1) := by decide +kernel
theorem dX10_of_10 : decode cX10_of 10 = .ok (.iadd, 1) := by decide +kernel
theorem dX10_of_11 : decode cX10_of 11 = .ok (.iload_n 2, 1) := by decide +kernel
theorem dX10_of_12 : decode cX10_of 12 = .ok (.iadd, 1) := by decide +kernel
theorem dX10_of_13 : decode cX10_of 13 = .ok (.iaload, 1) := by decide +kernel
theorem dX10_of_14 : decode cX10_of 14 = .ok (.ireturn, 1) := by decide +kernel
theorem dX10_puts_0 : decode cX10_puts 0 = .ok (.aload_n 0, 1) := by decide +kernel
theorem dX10_puts_1 : decode cX10_puts 1 = .ok (.getfield 7, 3) := by decide +kernel
theorem dX10_puts_4 : decode cX10_puts 4 = .ok (.bipush 20, 2) := by decide +kernel
theorem dX10_puts_6 : decode cX10_puts 6 = .ok (.bipush 7, 2) := by decide +kernel
theorem dX10_puts_8 : decode cX10_puts 8 = .ok (.iload_n 1, 1) := by decide +kernel
theorem dX10_puts_9 : decode cX10_puts 9 = .ok (.imul, 1) := by decide +kernel
theorem dX10_puts_10 : decode cX10_puts 10 = .ok (.iadd, 1) := by decide +kernel
theorem dX10_puts_11 : decode cX10_puts 11 = .ok (.iload_n 2, 1) := by decide +kernel
theorem dX10_puts_12 : decode cX10_puts 12 = .ok (.iadd, 1) := by decide +kernel
theorem dX10_puts_13 : decode cX10_puts 13 = .ok (.iload_n 3, 1) := by decide +kernel
theorem dX10_puts_14 : decode cX10_puts 14 = .ok (.iastore, 1) := by decide +kernel
theorem dX10_puts_15 : decode cX10_puts 15 = .ok (.return_, 1) := by decide +kernel
theorem dX10_place_0 : decode cX10_place 0 = .ok (.iconst 0, 1) := by decide +kernel
theorem dX10_place_1 : decode cX10_place 1 = .ok (.istore_n 2, 1) := by decide +kernel
theorem dX10_place_2 : decode cX10_place 2 = .ok (.iload_n 2, 1) := by decide +kernel
theorem dX10_place_3 : decode cX10_place 3 = .ok (.aload_n 0, 1) := by decide +kernel
theorem dX10_place_4 : decode cX10_place 4 = .ok (.getfield 7, 3) := by decide +kernel
theorem dX10_place_7 : decode cX10_place 7 = .ok (.iconst 1, 1) := by decide +kernel
theorem dX10_place_8 : decode cX10_place 8 = .ok (.iaload, 1) := by decide +kernel
theorem dX10_place_9 : decode cX10_place 9 = .ok (.if_icmp .ge 21, 3) := by decide +kernel
theorem dX10_place_12 : decode cX10_place 12 = .ok (.aload_n 0, 1) := by decide +kernel
theorem dX10_place_13 : decode cX10_place 13 = .ok (.iload_n 2, 1) := by decide +kernel
theorem dX10_place_14 : decode cX10_place 14 = .ok (.iconst 0, 1) := by decide +kernel
theorem dX10_place_15 : decode cX10_place 15 = .ok (.invokevirtual 76, 3) := by decide +kernel
theorem dX10_place_18 : decode cX10_place 18 = .ok (.iload_n 1, 1) := by decide +kernel
theorem dX10_place_19 : decode cX10_place 19 = .ok (.if_icmp .ne 5, 3) := by decide +kernel
theorem dX10_place_22 : decode cX10_place 22 = .ok (.iload_n 2, 1) := by decide +kernel
theorem dX10_place_23 : decode cX10_place 23 = .ok (.ireturn, 1) := by decide +kernel
theorem dX10_place_24 : decode cX10_place 24 = .ok (.iinc 2 1, 3) := by decide +kernel
theorem dX10_place_27 : decode cX10_place 27 = .ok (.goto (-25), 3) := by decide +kernel
theorem dX10_place_30 : decode cX10_place 30 = .ok (.iconst (-1), 1) := by decide +kernel
theorem dX10_place_31 : decode cX10_place 31 = .ok (.ireturn, 1) := by decide +kernel
theorem dX10_occupant_0 : decode cX10_occupant 0 = .ok (.iconst 0, 1) := by decide +kernel
theorem dX10_occupant_1 : decode cX10_occupant 1 = .ok (.istore_n 2, 1) := by decide +kernel
theorem dX10_occupant_2 : decode cX10_occupant 2 = .ok (.iload_n 2, 1) := by decide +kernel
theorem dX10_occupant_3 : decode cX10_occupant 3 = .ok (.aload_n 0, 1) := by decide +kernel
theorem dX10_occupant_4 : decode cX10_occupant 4 = .ok (.getfield 7, 3) := by decide +kernel
theorem dX10_occupant_7 : decode cX10_occupant 7 = .ok (.iconst 1, 1) := by decide +kernel
theorem dX10_occupant_8 : decode cX10_occupant 8 = .ok (.iaload, 1) := by decide +kernel
theorem dX10_occupant_9 : decode cX10_occupant 9 = .ok (.if_icmp .ge 24, 3) := by decide +kernel
theorem dX10_occupant_12 : decode cX10_occupant 12 = .ok (.aload_n 0, 1) := by decide +kernel
theorem dX10_occupant_13 : decode cX10_occupant 13 = .ok (.iload_n 2, 1) := by decide +kernel
theorem dX10_occupant_14 : decode cX10_occupant 14 = .ok (.bipush 6, 2) := by decide +kernel
theorem dX10_occupant_16 : decode cX10_occupant 16 = .ok (.invokevirtual 76, 3) := by decide +kernel
theorem dX10_occupant_19 : decode cX10_occupant 19 = .ok (.iload_n 1, 1) := by decide +kernel
theorem dX10_occupant_20 : decode cX10_occupant 20 = .ok (.iconst 1, 1) := by decide +kernel
theorem dX10_occupant_21 : decode cX10_occupant 21 = .ok (.iadd, 1) := by decide +kernel
theorem dX10_occupant_22 : decode cX10_occupant 22 = .ok (.if_icmp .ne 5, 3) := by decide +kernel
theorem dX10_occupant_25 : decode cX10_occupant 25 = .ok (.iload_n 2, 1) := by decide +kernel
theorem dX10_occupant_26 : decode cX10_occupant 26 = .ok (.ireturn, 1) := by decide +kernel
theorem dX10_occupant_27 : decode cX10_occupant 27 = .ok (.iinc 2 1, 3) := by decide +kernel
theorem dX10_occupant_30 : decode cX10_occupant 30 = .ok (.goto (-28), 3) := by decide +kernel
theorem dX10_occupant_33 : decode cX10_occupant 33 = .ok (.iconst (-1), 1) := by decide +kernel
theorem dX10_occupant_34 : decode cX10_occupant 34 = .ok (.ireturn, 1) := by decide +kernel
theorem dX10_burdenOf_0 : decode cX10_burdenOf 0 = .ok (.aload_n 0, 1) := by decide +kernel
theorem dX10_burdenOf_1 : decode cX10_burdenOf 1 = .ok (.iload_n 2, 1) := by decide +kernel
theorem dX10_burdenOf_2 : decode cX10_burdenOf 2 = .ok (.iconst 0, 1) := by decide +kernel
theorem dX10_burdenOf_3 : decode cX10_burdenOf 3 = .ok (.invokevirtual 80, 3) := by decide +kernel
theorem dX10_burdenOf_6 : decode cX10_burdenOf 6 = .ok (.aload_n 0, 1) := by decide +kernel
theorem dX10_burdenOf_7 : decode cX10_burdenOf 7 = .ok (.iload_n 1, 1) := by decide +kernel
theorem dX10_burdenOf_8 : decode cX10_burdenOf 8 = .ok (.iconst 2, 1) := by decide +kernel
theorem dX10_burdenOf_9 : decode cX10_burdenOf 9 = .ok (.invokevirtual 76, 3) := by decide +kernel
theorem dX10_burdenOf_12 : decode cX10_burdenOf 12 = .ok (.isub, 1) := by decide +kernel
theorem dX10_burdenOf_13 : decode cX10_burdenOf 13 = .ok (.istore_n 3, 1) := by decide +kernel
theorem dX10_burdenOf_14 : decode cX10_burdenOf 14 = .ok (.aload_n 0, 1) := by decide +kernel
theorem dX10_burdenOf_15 : decode cX10_burdenOf 15 = .ok (.iload_n 2, 1) := by decide +kernel
theorem dX10_burdenOf_16 : decode cX10_burdenOf 16 = .ok (.iconst 1, 1) := by decide +kernel
theorem dX10_burdenOf_17 : decode cX10_burdenOf 17 = .ok (.invokevirtual 80, 3) := by decide +kernel
theorem dX10_burdenOf_20 : decode cX10_burdenOf 20 = .ok (.iconst 3, 1) := by decide +kernel
theorem dX10_burdenOf_21 : decode cX10_burdenOf 21 = .ok (.iload_n 3, 1) := by decide +kernel
theorem dX10_burdenOf_22 : decode cX10_burdenOf 22 = .ok (.ifCond .ge 8, 3) := by decide +kernel
theorem dX10_burdenOf_25 : decode cX10_burdenOf 25 = .ok (.iload_n 3, 1) := by decide +kernel
theorem dX10_burdenOf_26 : decode cX10_burdenOf 26 = .ok (.ineg, 1) := by decide +kernel
theorem dX10_burdenOf_27 : decode cX10_burdenOf 27 = .ok (.goto 4, 3) := by decide +kernel
theorem dX10_burdenOf_30 : decode cX10_burdenOf 30 = .ok (.iload_n 3, 1) := by decide +kernel
theorem dX10_burdenOf_31 : decode cX10_burdenOf 31 = .ok (.imul, 1) := by decide +kernel
theorem dX10_burdenOf_32 : decode cX10_burdenOf 32 = .ok (.iadd, 1) := by decide +kernel
theorem dX10_burdenOf_33 : decode cX10_burdenOf 33 = .ok (.ireturn, 1) := by decide +kernel
theorem dX10_affords_0 : decode cX10_affords 0 = .ok (.aload_n 0, 1) := by decide +kernel
theorem dX10_affords_1 : decode cX10_affords 1 = .ok (.iload_n 2, 1) := by decide +kernel
theorem dX10_affords_2 : decode cX10_affords 2 = .ok (.iconst 1, 1) := by decide +kernel
theorem dX10_affords_3 : decode cX10_affords 3 = .ok (.invokevirtual 80, 3) := by decide +kernel
theorem dX10_affords_6 : decode cX10_affords 6 = .ok (.aload_n 0, 1) := by decide +kernel
theorem dX10_affords_7 : decode cX10_affords 7 = .ok (.iload_n 1, 1) := by decide +kernel
theorem dX10_affords_8 : decode cX10_affords 8 = .ok (.iconst 4, 1) := by decide +kernel
theorem dX10_affords_9 : decode cX10_affords 9 = .ok (.invokevirtual 76, 3) := by decide +kernel
theorem dX10_affords_12 : decode cX10_affords 12 = .ok (.if_icmp .gt 7, 3) := by decide +kernel
theorem dX10_affords_15 : decode cX10_affords 15 = .ok (.iconst 1, 1) := by decide +kernel
theorem dX10_affords_16 : decode cX10_affords 16 = .ok (.goto 4, 3) := by decide +kernel
theorem dX10_affords_19 : decode cX10_affords 19 = .ok (.iconst 0, 1) := by decide +kernel
theorem dX10_affords_20 : decode cX10_affords 20 = .ok (.ireturn, 1) := by decide +kernel
theorem dX10_prefers_0 : decode cX10_prefers 0 = .ok (.iload_n 3, 1) := by decide +kernel
theorem dX10_prefers_1 : decode cX10_prefers 1 = .ok (.ifCond .ge 5, 3) := by decide +kernel
theorem dX10_prefers_4 : decode cX10_prefers 4 = .ok (.iconst 1, 1) := by decide +kernel
theorem dX10_prefers_5 : decode cX10_prefers 5 = .ok (.ireturn, 1) := by decide +kernel
theorem dX10_prefers_6 : decode cX10_prefers 6 = .ok (.aload_n 0, 1) := by decide +kernel
theorem dX10_prefers_7 : decode cX10_prefers 7 = .ok (.iload_n 1, 1) := by decide +kernel
theorem dX10_prefers_8 : decode cX10_prefers 8 = .ok (.iload_n 3, 1) := by decide +kernel
theorem dX10_prefers_9 : decode cX10_prefers 9 = .ok (.invokevirtual 83, 3) := by decide +kernel
theorem dX10_prefers_12 : decode cX10_prefers 12 = .ok (.aload_n 0, 1) := by decide +kernel
theorem dX10_prefers_13 : decode cX10_prefers 13 = .ok (.iload_n 1, 1) := by decide +kernel
theorem dX10_prefers_14 : decode cX10_prefers 14 = .ok (.iload_n 2, 1) := by decide +kernel
theorem dX10_prefers_15 : decode cX10_prefers 15 = .ok (.invokevirtual 83, 3) := by decide +kernel
theorem dX10_prefers_18 : decode cX10_prefers 18 = .ok (.isub, 1) := by decide +kernel
theorem dX10_prefers_19 : decode cX10_prefers 19 = .ok (.istore 4, 2) := by decide +kernel
theorem dX10_prefers_21 : decode cX10_prefers 21 = .ok (.iload 4, 2) := by decide +kernel
theorem dX10_prefers_23 : decode cX10_prefers 23 = .ok (.ifCond .gt 13, 3) := by decide +kernel
theorem dX10_prefers_26 : decode cX10_prefers 26 = .ok (.iload 4, 2) := by decide +kernel
theorem dX10_prefers_28 : decode cX10_prefers 28 = .ok (.ifCond .ne 12, 3) := by decide +kernel
theorem dX10_prefers_31 : decode cX10_prefers 31 = .ok (.iload_n 2, 1) := by decide +kernel
theorem dX10_prefers_32 : decode cX10_prefers 32 = .ok (.iload_n 3, 1) := by decide +kernel
theorem dX10_prefers_33 : decode cX10_prefers 33 = .ok (.if_icmp .ge 7, 3) := by decide +kernel
theorem dX10_prefers_36 : decode cX10_prefers 36 = .ok (.iconst 1, 1) := by decide +kernel
theorem dX10_prefers_37 : decode cX10_prefers 37 = .ok (.goto 4, 3) := by decide +kernel
theorem dX10_prefers_40 : decode cX10_prefers 40 = .ok (.iconst 0, 1) := by decide +kernel
theorem dX10_prefers_41 : decode cX10_prefers 41 = .ok (.ireturn, 1) := by decide +kernel
theorem dX10_isPreferred_0 : decode cX10_isPreferred 0 = .ok (.aload_n 0, 1) := by decide +kernel
theorem dX10_isPreferred_1 : decode cX10_isPreferred 1 = .ok (.iload_n 2, 1) := by decide +kernel
theorem dX10_isPreferred_2 : decode cX10_isPreferred 2 = .ok (.iconst 1, 1) := by decide +kernel
theorem dX10_isPreferred_3 : decode cX10_isPreferred 3 = .ok (.invokevirtual 76, 3) := by decide +kernel
theorem dX10_isPreferred_6 : decode cX10_isPreferred 6 = .ok (.aload_n 0, 1) := by decide +kernel
theorem dX10_isPreferred_7 : decode cX10_isPreferred 7 = .ok (.iload_n 1, 1) := by decide +kernel
theorem dX10_isPreferred_8 : decode cX10_isPreferred 8 = .ok (.iconst 1, 1) := by decide +kernel
theorem dX10_isPreferred_9 : decode cX10_isPreferred 9 = .ok (.invokevirtual 76, 3) := by decide +kernel
theorem dX10_isPreferred_12 : decode cX10_isPreferred 12 = .ok (.isub, 1) := by decide +kernel
theorem dX10_isPreferred_13 : decode cX10_isPreferred 13 = .ok (.istore_n 3, 1) := by decide +kernel
theorem dX10_isPreferred_14 : decode cX10_isPreferred 14 = .ok (.iload_n 3, 1) := by decide +kernel
theorem dX10_isPreferred_15 : decode cX10_isPreferred 15 = .ok (.ifCond .gt 22, 3) := by decide +kernel
theorem dX10_isPreferred_18 : decode cX10_isPreferred 18 = .ok (.iload_n 3, 1) := by decide +kernel
theorem dX10_isPreferred_19 : decode cX10_isPreferred 19 = .ok (.ifCond .ne 22, 3) := by decide +kernel
theorem dX10_isPreferred_22 : decode cX10_isPreferred 22 = .ok (.aload_n 0, 1) := by decide +kernel
theorem dX10_isPreferred_23 : decode cX10_isPreferred 23 = .ok (.iload_n 1, 1) := by decide +kernel
theorem dX10_isPreferred_24 : decode cX10_isPreferred 24 = .ok (.iconst 0, 1) := by decide +kernel
theorem dX10_isPreferred_25 : decode cX10_isPreferred 25 = .ok (.invokevirtual 76, 3) := by decide +kernel
theorem dX10_isPreferred_28 : decode cX10_isPreferred 28 = .ok (.aload_n 0, 1) := by decide +kernel
theorem dX10_isPreferred_29 : decode cX10_isPreferred 29 = .ok (.iload_n 2, 1) := by decide +kernel
theorem dX10_isPreferred_30 : decode cX10_isPreferred 30 = .ok (.iconst 0, 1) := by decide +kernel
theorem dX10_isPreferred_31 : decode cX10_isPreferred 31 = .ok (.invokevirtual 76, 3) := by decide +kernel
theorem dX10_isPreferred_34 : decode cX10_isPreferred 34 = .ok (.if_icmp .ge 7, 3) := by decide +kernel
theorem dX10_isPreferred_37 : decode cX10_isPreferred 37 = .ok (.iconst 1, 1) := by decide +kernel
theorem dX10_isPreferred_38 : decode cX10_isPreferred 38 = .ok (.goto 4, 3) := by decide +kernel
theorem dX10_isPreferred_41 : decode cX10_isPreferred 41 = .ok (.iconst 0, 1) := by decide +kernel
theorem dX10_isPreferred_42 : decode cX10_isPreferred 42 = .ok (.ireturn, 1) := by decide +kernel
theorem dX10_notFlat_0 : decode cX10_notFlat 0 = .ok (.iload_n 1, 1) := by decide +kernel
theorem dX10_notFlat_1 : decode cX10_notFlat 1 = .ok (.iconst 0, 1) := by decide +kernel
theorem dX10_notFlat_2 : decode cX10_notFlat 2 = .ok (.iconst 5, 1) := by decide +kernel
theorem dX10_notFlat_3 : decode cX10_notFlat 3 = .ok (.invokestatic 72, 3) := by decide +kernel
theorem dX10_notFlat_6 : decode cX10_notFlat 6 = .ok (.ifCond .eq 13, 3) := by decide +kernel
theorem dX10_notFlat_9 : decode cX10_notFlat 9 = .ok (.iload_n 2, 1) := by decide +kernel
theorem dX10_notFlat_10 : decode cX10_notFlat 10 = .ok (.iconst 1, 1) := by decide +kernel
theorem dX10_notFlat_11 : decode cX10_notFlat 11 = .ok (.bipush 99, 2) := by decide +kernel
theorem dX10_notFlat_13 : decode cX10_notFlat 13 = .ok (.invokestatic 72, 3) := by decide +kernel
theorem dX10_notFlat_16 : decode cX10_notFlat 16 = .ok (.ifCond .ne 5, 3) := by decide +kernel
theorem dX10_notFlat_19 : decode cX10_notFlat 19 = .ok (.iconst 1, 1) := by decide +kernel
theorem dX10_notFlat_20 : decode cX10_notFlat 20 = .ok (.ireturn, 1) := by decide +kernel
theorem dX10_notFlat_21 : decode cX10_notFlat 21 = .ok (.aload_n 0, 1) := by decide +kernel
theorem dX10_notFlat_22 : decode cX10_notFlat 22 = .ok (.getfield 7, 3) := by decide +kernel
theorem dX10_notFlat_25 : decode cX10_notFlat 25 = .ok (.iconst 0, 1) := by decide +kernel
theorem dX10_notFlat_26 : decode cX10_notFlat 26 = .ok (.iaload, 1) := by decide +kernel
theorem dX10_notFlat_27 : decode cX10_notFlat 27 = .ok (.bipush 6, 2) := by decide +kernel
theorem dX10_notFlat_29 : decode cX10_notFlat 29 = .ok (.if_icmp .ne 7, 3) := by decide +kernel
theorem dX10_notFlat_32 : decode cX10_notFlat 32 = .ok (.iconst 2, 1) := by decide +kernel
theorem dX10_notFlat_33 : decode cX10_notFlat 33 = .ok (.goto 4, 3) := by decide +kernel
theorem dX10_notFlat_36 : decode cX10_notFlat 36 = .ok (.iconst 0, 1) := by decide +kernel
theorem dX10_notFlat_37 : decode cX10_notFlat 37 = .ok (.ireturn, 1) := by decide +kernel
theorem dX10_addsFlat_0 : decode cX10_addsFlat 0 = .ok (.aload_n 0, 1) := by decide +kernel
theorem dX10_addsFlat_1 : decode cX10_addsFlat 1 = .ok (.getfield 7, 3) := by decide +kernel
theorem dX10_addsFlat_4 : decode cX10_addsFlat 4 = .ok (.iconst 0, 1) := by decide +kernel
theorem dX10_addsFlat_5 : decode cX10_addsFlat 5 = .ok (.iaload, 1) := by decide +kernel
theorem dX10_addsFlat_6 : decode cX10_addsFlat 6 = .ok (.istore_n 3, 1) := by decide +kernel
theorem dX10_addsFlat_7 : decode cX10_addsFlat 7 = .ok (.aload_n 0, 1) := by decide +kernel
theorem dX10_addsFlat_8 : decode cX10_addsFlat 8 = .ok (.getfield 7, 3) := by decide +kernel
theorem dX10_addsFlat_11 : decode cX10_addsFlat 11 = .ok (.iconst 0, 1) := by decide +kernel
theorem dX10_addsFlat_12 : decode cX10_addsFlat 12 = .ok (.dup2, 1) := by decide +kernel
theorem dX10_addsFlat_13 : decode cX10_addsFlat 13 = .ok (.iaload, 1) := by decide +kernel
theorem dX10_addsFlat_14 : decode cX10_addsFlat 14 = .ok (.iconst 1, 1) := by decide +kernel
theorem dX10_addsFlat_15 : decode cX10_addsFlat 15 = .ok (.iadd, 1) := by decide +kernel
theorem dX10_addsFlat_16 : decode cX10_addsFlat 16 = .ok (.iastore, 1) := by decide +kernel
theorem dX10_addsFlat_17 : decode cX10_addsFlat 17 = .ok (.aload_n 0, 1) := by decide +kernel
theorem dX10_addsFlat_18 : decode cX10_addsFlat 18 = .ok (.getfield 7, 3) := by decide +kernel
theorem dX10_addsFlat_21 : decode cX10_addsFlat 21 = .ok (.bipush 8, 2) := by decide +kernel
theorem dX10_addsFlat_23 : decode cX10_addsFlat 23 = .ok (.iconst 2, 1) := by decide +kernel
theorem dX10_addsFlat_24 : decode cX10_addsFlat 24 = .ok (.iload_n 3, 1) := by decide +kernel
theorem dX10_addsFlat_25 : decode cX10_addsFlat 25 = .ok (.imul, 1) := by decide +kernel
theorem dX10_addsFlat_26 : decode cX10_addsFlat 26 = .ok (.iadd, 1) := by decide +kernel
theorem dX10_addsFlat_27 : decode cX10_addsFlat 27 = .ok (.iconst 0, 1) := by decide +kernel
theorem dX10_addsFlat_28 : decode cX10_addsFlat 28 = .ok (.iadd, 1) := by decide +kernel
theorem dX10_addsFlat_29 : decode cX10_addsFlat 29 = .ok (.iload_n 1, 1) := by decide +kernel
theorem dX10_addsFlat_30 : decode cX10_addsFlat 30 = .ok (.iastore, 1) := by decide +kernel
theorem dX10_addsFlat_31 : decode cX10_addsFlat 31 = .ok (.aload_n 0, 1) := by decide +kernel
theorem dX10_addsFlat_32 : decode cX10_addsFlat 32 = .ok (.getfield 7, 3) := by decide +kernel
theorem dX10_addsFlat_35 : decode cX10_addsFlat 35 = .ok (.bipush 8, 2) := by decide +kernel
theorem dX10_addsFlat_37 : decode cX10_addsFlat 37 = .ok (.iconst 2, 1) := by decide +kernel
theorem dX10_addsFlat_38 : decode cX10_addsFlat 38 = .ok (.iload_n 3, 1) := by decide +kernel
theorem dX10_addsFlat_39 : decode cX10_addsFlat 39 = .ok (.imul, 1) := by decide +kernel
theorem dX10_addsFlat_40 : decode cX10_addsFlat 40 = .ok (.iadd, 1) := by decide +kernel
theorem dX10_addsFlat_41 : decode cX10_addsFlat 41 = .ok (.iconst 1, 1) := by decide +kernel
theorem dX10_addsFlat_42 : decode cX10_addsFlat 42 = .ok (.iadd, 1) := by decide +kernel
theorem dX10_addsFlat_43 : decode cX10_addsFlat 43 = .ok (.iload_n 2, 1) := by decide +kernel
theorem dX10_addsFlat_44 : decode cX10_addsFlat 44 = .ok (.iastore, 1) := by decide +kernel
theorem dX10_addsFlat_45 : decode cX10_addsFlat 45 = .ok (.iload_n 3, 1) := by decide +kernel
theorem dX10_addsFlat_46 : decode cX10_addsFlat 46 = .ok (.ireturn, 1) := by decide +kernel
theorem dX10_addFlat_0 : decode cX10_addFlat 0 = .ok (.aload_n 0, 1) := by decide +kernel
theorem dX10_addFlat_1 : decode cX10_addFlat 1 = .ok (.iconst 0, 1) := by decide +kernel
theorem dX10_addFlat_2 : decode cX10_addFlat 2 = .ok (.putfield 57, 3) := by decide +kernel
theorem dX10_addFlat_5 : decode cX10_addFlat 5 = .ok (.aload_n 0, 1) := by decide +kernel
theorem dX10_addFlat_6 : decode cX10_addFlat 6 = .ok (.iload_n 1, 1) := by decide +kernel
theorem dX10_addFlat_7 : decode cX10_addFlat 7 = .ok (.iload_n 2, 1) := by decide +kernel
theorem dX10_addFlat_8 : decode cX10_addFlat 8 = .ok (.invokevirtual 86, 3) := by decide +kernel
theorem dX10_addFlat_11 : decode cX10_addFlat 11 = .ok (.istore_n 3, 1) := by decide +kernel
theorem dX10_addFlat_12 : decode cX10_addFlat 12 = .ok (.iload_n 3, 1) := by decide +kernel
theorem dX10_addFlat_13 : decode cX10_addFlat 13 = .ok (.ifCond .eq 9, 3) := by decide +kernel
theorem dX10_addFlat_16 : decode cX10_addFlat 16 = .ok (.aload_n 0, 1) := by decide +kernel
theorem dX10_addFlat_17 : decode cX10_addFlat 17 = .ok (.iload_n 3, 1) := by decide +kernel
theorem dX10_addFlat_18 : decode cX10_addFlat 18 = .ok (.invokevirtual 89, 3) := by decide +kernel
theorem dX10_addFlat_21 : decode cX10_addFlat 21 = .ok (.ireturn, 1) := by decide +kernel
theorem dX10_addFlat_22 : decode cX10_addFlat 22 = .ok (.aload_n 0, 1) := by decide +kernel
theorem dX10_addFlat_23 : decode cX10_addFlat 23 = .ok (.invokevirtual 93, 3) := by decide +kernel
theorem dX10_addFlat_26 : decode cX10_addFlat 26 = .ok (.aload_n 0, 1) := by decide +kernel
theorem dX10_addFlat_27 : decode cX10_addFlat 27 = .ok (.iload_n 1, 1) := by decide +kernel
theorem dX10_addFlat_28 : decode cX10_addFlat 28 = .ok (.iload_n 2, 1) := by decide +kernel
theorem dX10_addFlat_29 : decode cX10_addFlat 29 = .ok (.invokevirtual 96, 3) := by decide +kernel
theorem dX10_addFlat_32 : decode cX10_addFlat 32 = .ok (.ireturn, 1) := by decide +kernel
theorem dX10_notTenant_0 : decode cX10_notTenant 0 = .ok (.iload_n 1, 1) := by decide +kernel
theorem dX10_notTenant_1 : decode cX10_notTenant 1 = .ok (.iconst 1, 1) := by decide +kernel
theorem dX10_notTenant_2 : decode cX10_notTenant 2 = .ok (.bipush 50, 2) := by decide +kernel
theorem dX10_notTenant_4 : decode cX10_notTenant 4 = .ok (.invokestatic 72, 3) := by decide +kernel
theorem dX10_notTenant_7 : decode cX10_notTenant 7 = .ok (.ifCond .eq 33, 3) := by decide +kernel
theorem dX10_notTenant_10 : decode cX10_notTenant 10 = .ok (.iload_n 2, 1) := by decide +kernel
theorem dX10_notTenant_11 : decode cX10_notTenant 11 = .ok (.iconst 0, 1) := by decide +kernel
theorem dX10_notTenant_12 : decode cX10_notTenant 12 = .ok (.iconst 5, 1) := by decide +kernel
theorem dX10_notTenant_13 : decode cX10_notTenant 13 = .ok (.invokestatic 72, 3) := by decide +kernel
theorem dX10_notTenant_16 : decode cX10_notTenant 16 = .ok (.ifCond .eq 24, 3) := by decide +kernel
theorem dX10_notTenant_19 : decode cX10_notTenant 19 = .ok (.iload_n 3, 1) := by decide +kernel
theorem dX10_notTenant_20 : decode cX10_notTenant 20 = .ok (.iconst 1, 1) := by decide +kernel
theorem dX10_notTenant_21 : decode cX10_notTenant 21 = .ok (.bipush 40, 2) := by decide +kernel
theorem dX10_notTenant_23 : decode cX10_notTenant 23 = .ok (.invokestatic 72, 3) := by decide +kernel
theorem dX10_notTenant_26 : decode cX10_notTenant 26 = .ok (.ifCond .eq 14, 3) := by decide +kernel
theorem dX10_notTenant_29 : decode cX10_notTenant 29 = .ok (.iload 4, 2) := by decide +kernel
theorem dX10_notTenant_31 : decode cX10_notTenant 31 = .ok (.iconst 0, 1) := by decide +kernel
theorem dX10_notTenant_32 : decode cX10_notTenant 32 = .ok (.bipush 99, 2) := by decide +kernel
theorem dX10_notTenant_34 : decode cX10_notTenant 34 = .ok (.invokestatic 72, 3) := by decide +kernel
theorem dX10_notTenant_37 : decode cX10_notTenant 37 = .ok (.ifCond .ne 5, 3) := by decide +kernel
theorem dX10_notTenant_40 : decode cX10_notTenant 40 = .ok (.iconst 1, 1) := by decide +kernel
theorem dX10_notTenant_41 : decode cX10_notTenant 41 = .ok (.ireturn, 1) := by decide +kernel
theorem dX10_notTenant_42 : decode cX10_notTenant 42 = .ok (.aload_n 0, 1) := by decide +kernel
theorem dX10_notTenant_43 : decode cX10_notTenant 43 = .ok (.getfield 7, 3) := by decide +kernel
theorem dX10_notTenant_46 : decode cX10_notTenant 46 = .ok (.iconst 1, 1) := by decide +kernel
theorem dX10_notTenant_47 : decode cX10_notTenant 47 = .ok (.iaload, 1) := by decide +kernel
theorem dX10_notTenant_48 : decode cX10_notTenant 48 = .ok (.bipush 6, 2) := by decide +kernel
theorem dX10_notTenant_50 : decode cX10_notTenant 50 = .ok (.if_icmp .ne 7, 3) := by decide +kernel
theorem dX10_notTenant_53 : decode cX10_notTenant 53 = .ok (.iconst 2, 1) := by decide +kernel
theorem dX10_notTenant_54 : decode cX10_notTenant 54 = .ok (.goto 4, 3) := by decide +kernel
theorem dX10_notTenant_57 : decode cX10_notTenant 57 = .ok (.iconst 0, 1) := by decide +kernel
theorem dX10_notTenant_58 : decode cX10_notTenant 58 = .ok (.ireturn, 1) := by decide +kernel
theorem dX10_addsTenant_0 : decode cX10_addsTenant 0 = .ok (.aload_n 0, 1) := by decide +kernel
theorem dX10_addsTenant_1 : decode cX10_addsTenant 1 = .ok (.getfield 7, 3) := by decide +kernel
theorem dX10_addsTenant_4 : decode cX10_addsTenant 4 = .ok (.iconst 1, 1) := by decide +kernel
theorem dX10_addsTenant_5 : decode cX10_addsTenant 5 = .ok (.iaload, 1) := by decide +kernel
theorem dX10_addsTenant_6 : decode cX10_addsTenant 6 = .ok (.istore 5, 2) := by decide +kernel
theorem dX10_addsTenant_8 : decode cX10_addsTenant 8 = .ok (.aload_n 0, 1) := by decide +kernel
theorem dX10_addsTenant_9 : decode cX10_addsTenant 9 = .ok (.getfield 7, 3) := by decide +kernel
theorem dX10_addsTenant_12 : decode cX10_addsTenant 12 = .ok (.iconst 1, 1) := by decide +kernel
theorem dX10_addsTenant_13 : decode cX10_addsTenant 13 = .ok (.dup2, 1) := by decide +kernel
theorem dX10_addsTenant_14 : decode cX10_addsTenant 14 = .ok (.iaload, 1) := by decide +kernel
theorem dX10_addsTenant_15 : decode cX10_addsTenant 15 = .ok (.iconst 1, 1) := by decide +kernel
theorem dX10_addsTenant_16 : decode cX10_addsTenant 16 = .ok (.iadd, 1) := by decide +kernel
theorem dX10_addsTenant_17 : decode cX10_addsTenant 17 = .ok (.iastore, 1) := by decide +kernel
theorem dX10_addsTenant_18 : decode cX10_addsTenant 18 = .ok (.aload_n 0, 1) := by decide +kernel
theorem dX10_addsTenant_19 : decode cX10_addsTenant 19 = .ok (.iload 5, 2) := by decide +kernel
theorem dX10_addsTenant_21 : decode cX10_addsTenant 21 = .ok (.iconst 0, 1) := by decide +kernel
theorem dX10_addsTenant_22 : decode cX10_addsTenant 22 = .ok (.aload_n 0, 1) := by decide +kernel
theorem dX10_addsTenant_23 : decode cX10_addsTenant 23 = .ok (.getfield 7, 3) := by decide +kernel
theorem dX10_addsTenant_26 : decode cX10_addsTenant 26 = .ok (.iconst 2, 1) := by decide +kernel
theorem dX10_addsTenant_27 : decode cX10_addsTenant 27 = .ok (.iaload, 1) := by decide +kernel
theorem dX10_addsTenant_28 : decode cX10_addsTenant 28 = .ok (.invokevirtual 99, 3) := by decide +kernel
theorem dX10_addsTenant_31 : decode cX10_addsTenant 31 = .ok (.aload_n 0, 1) := by decide +kernel
theorem dX10_addsTenant_32 : decode cX10_addsTenant 32 = .ok (.iload 5, 2) := by decide +kernel
theorem dX10_addsTenant_34 : decode cX10_addsTenant 34 = .ok (.iconst 1, 1) := by decide +kernel
theorem dX10_addsTenant_35 : decode cX10_addsTenant 35 = .ok (.iload_n 1, 1) := by decide +kernel
theorem dX10_addsTenant_36 : decode cX10_addsTenant 36 = .ok (.invokevirtual 99, 3) := by decide +kernel
theorem dX10_addsTenant_39 : decode cX10_addsTenant 39 = .ok (.aload_n 0, 1) := by decide +kernel
theorem dX10_addsTenant_40 : decode cX10_addsTenant 40 = .ok (.iload 5, 2) := by decide +kernel
theorem dX10_addsTenant_42 : decode cX10_addsTenant 42 = .ok (.iconst 2, 1) := by decide +kernel
theorem dX10_addsTenant_43 : decode cX10_addsTenant 43 = .ok (.iload_n 2, 1) := by decide +kernel
theorem dX10_addsTenant_44 : decode cX10_addsTenant 44 = .ok (.invokevirtual 99, 3) := by decide +kernel
theorem dX10_addsTenant_47 : decode cX10_addsTenant 47 = .ok (.aload_n 0, 1) := by decide +kernel
theorem dX10_addsTenant_48 : decode cX10_addsTenant 48 = .ok (.iload 5, 2) := by decide +kernel
theorem dX10_addsTenant_50 : decode cX10_addsTenant 50 = .ok (.iconst 3, 1) := by decide +kernel
theorem dX10_addsTenant_51 : decode cX10_addsTenant 51 = .ok (.iload_n 3, 1) := by decide +kernel
theorem dX10_addsTenant_52 : decode cX10_addsTenant 52 = .ok (.invokevirtual 99, 3) := by decide +kernel
theorem dX10_addsTenant_55 : decode cX10_addsTenant 55 = .ok (.aload_n 0, 1) := by decide +kernel
theorem dX10_addsTenant_56 : decode cX10_addsTenant 56 = .ok (.iload 5, 2) := by decide +kernel
theorem dX10_addsTenant_58 : decode cX10_addsTenant 58 = .ok (.iconst 4, 1) := by decide +kernel
theorem dX10_addsTenant_59 : decode cX10_addsTenant 59 = .ok (.iload 4, 2) := by decide +kernel
theorem dX10_addsTenant_61 : decode cX10_addsTenant 61 = .ok (.invokevirtual 99, 3) := by decide +kernel
theorem dX10_addsTenant_64 : decode cX10_addsTenant 64 = .ok (.aload_n 0, 1) := by decide +kernel
theorem dX10_addsTenant_65 : decode cX10_addsTenant 65 = .ok (.iload 5, 2) := by decide +kernel
theorem dX10_addsTenant_67 : decode cX10_addsTenant 67 = .ok (.iconst 5, 1) := by decide +kernel
theorem dX10_addsTenant_68 : decode cX10_addsTenant 68 = .ok (.iconst 0, 1) := by decide +kernel
theorem dX10_addsTenant_69 : decode cX10_addsTenant 69 = .ok (.invokevirtual 99, 3) := by decide +kernel
theorem dX10_addsTenant_72 : decode cX10_addsTenant 72 = .ok (.aload_n 0, 1) := by decide +kernel
theorem dX10_addsTenant_73 : decode cX10_addsTenant 73 = .ok (.iload 5, 2) := by decide +kernel
theorem dX10_addsTenant_75 : decode cX10_addsTenant 75 = .ok (.bipush 6, 2) := by decide +kernel
theorem dX10_addsTenant_77 : decode cX10_addsTenant 77 = .ok (.iconst 0, 1) := by decide +kernel
theorem dX10_addsTenant_78 : decode cX10_addsTenant 78 = .ok (.invokevirtual 99, 3) := by decide +kernel
theorem dX10_addsTenant_81 : decode cX10_addsTenant 81 = .ok (.aload_n 0, 1) := by decide +kernel
theorem dX10_addsTenant_82 : decode cX10_addsTenant 82 = .ok (.getfield 7, 3) := by decide +kernel
theorem dX10_addsTenant_85 : decode cX10_addsTenant 85 = .ok (.bipush 7, 2) := by decide +kernel
theorem dX10_addsTenant_87 : decode cX10_addsTenant 87 = .ok (.dup2, 1) := by decide +kernel
theorem dX10_addsTenant_88 : decode cX10_addsTenant 88 = .ok (.iaload, 1) := by decide +kernel
theorem dX10_addsTenant_89 : decode cX10_addsTenant 89 = .ok (.iload 4, 2) := by decide +kernel
theorem dX10_addsTenant_91 : decode cX10_addsTenant 91 = .ok (.iadd, 1) := by decide +kernel
theorem dX10_addsTenant_92 : decode cX10_addsTenant 92 = .ok (.iastore, 1) := by decide +kernel
theorem dX10_addsTenant_93 : decode cX10_addsTenant 93 = .ok (.aload_n 0, 1) := by decide +kernel
theorem dX10_addsTenant_94 : decode cX10_addsTenant 94 = .ok (.getfield 7, 3) := by decide +kernel
theorem dX10_addsTenant_97 : decode cX10_addsTenant 97 = .ok (.iconst 2, 1) := by decide +kernel
theorem dX10_addsTenant_98 : decode cX10_addsTenant 98 = .ok (.dup2, 1) := by decide +kernel
theorem dX10_addsTenant_99 : decode cX10_addsTenant 99 = .ok (.iaload, 1) := by decide +kernel
theorem dX10_addsTenant_100 : decode cX10_addsTenant 100 = .ok (.iconst 1, 1) := by decide +kernel
theorem dX10_addsTenant_101 : decode cX10_addsTenant 101 = .ok (.iadd, 1) := by decide +kernel
theorem dX10_addsTenant_102 : decode cX10_addsTenant 102 = .ok (.iastore, 1) := by decide +kernel
theorem dX10_addsTenant_103 : decode cX10_addsTenant 103 = .ok (.aload_n 0, 1) := by decide +kernel
theorem dX10_addsTenant_104 : decode cX10_addsTenant 104 = .ok (.getfield 7, 3) := by decide +kernel
theorem dX10_addsTenant_107 : decode cX10_addsTenant 107 = .ok (.iconst 2, 1) := by decide +kernel
theorem dX10_addsTenant_108 : decode cX10_addsTenant 108 = .ok (.iaload, 1) := by decide +kernel
theorem dX10_addsTenant_109 : decode cX10_addsTenant 109 = .ok (.iconst 1, 1) := by decide +kernel
theorem dX10_addsTenant_110 : decode cX10_addsTenant 110 = .ok (.isub, 1) := by decide +kernel
theorem dX10_addsTenant_111 : decode cX10_addsTenant 111 = .ok (.ireturn, 1) := by decide +kernel
theorem dX10_addTenant_0 : decode cX10_addTenant 0 = .ok (.aload_n 0, 1) := by decide +kernel
theorem dX10_addTenant_1 : decode cX10_addTenant 1 = .ok (.iconst 0, 1) := by decide +kernel
theorem dX10_addTenant_2 : decode cX10_addTenant 2 = .ok (.putfield 57, 3) := by decide +kernel
theorem dX10_addTenant_5 : decode cX10_addTenant 5 = .ok (.aload_n 0, 1) := by decide +kernel
theorem dX10_addTenant_6 : decode cX10_addTenant 6 = .ok (.iload_n 1, 1) := by decide +kernel
theorem dX10_addTenant_7 : decode cX10_addTenant 7 = .ok (.iload_n 2, 1) := by decide +kernel
theorem dX10_addTenant_8 : decode cX10_addTenant 8 = .ok (.iload_n 3, 1) := by decide +kernel
theorem dX10_addTenant_9 : decode cX10_addTenant 9 = .ok (.iload 4, 2) := by decide +kernel
theorem dX10_addTenant_11 : decode cX10_addTenant 11 = .ok (.invokevirtual 103, 3) := by decide +kernel
theorem dX10_addTenant_14 : decode cX10_addTenant 14 = .ok (.istore 5, 2) := by decide +kernel
theorem dX10_addTenant_16 : decode cX10_addTenant 16 = .ok (.iload 5, 2) := by decide +kernel
theorem dX10_addTenant_18 : decode cX10_addTenant 18 = .ok (.ifCond .eq 10, 3) := by decide +kernel
theorem dX10_addTenant_21 : decode cX10_addTenant 21 = .ok (.aload_n 0, 1) := by decide +kernel
theorem dX10_addTenant_22 : decode cX10_addTenant 22 = .ok (.iload 5, 2) := by decide +kernel
theorem dX10_addTenant_24 : decode cX10_addTenant 24 = .ok (.invokevirtual 89, 3) := by decide +kernel
theorem dX10_addTenant_27 : decode cX10_addTenant 27 = .ok (.ireturn, 1) := by decide +kernel
theorem dX10_addTenant_28 : decode cX10_addTenant 28 = .ok (.aload_n 0, 1) := by decide +kernel
theorem dX10_addTenant_29 : decode cX10_addTenant 29 = .ok (.invokevirtual 93, 3) := by decide +kernel
theorem dX10_addTenant_32 : decode cX10_addTenant 32 = .ok (.aload_n 0, 1) := by decide +kernel
theorem dX10_addTenant_33 : decode cX10_addTenant 33 = .ok (.iload_n 1, 1) := by decide +kernel
theorem dX10_addTenant_34 : decode cX10_addTenant 34 = .ok (.iload_n 2, 1) := by decide +kernel
theorem dX10_addTenant_35 : decode cX10_addTenant 35 = .ok (.iload_n 3, 1) := by decide +kernel
theorem dX10_addTenant_36 : decode cX10_addTenant 36 = .ok (.iload 4, 2) := by decide +kernel
theorem dX10_addTenant_38 : decode cX10_addTenant 38 = .ok (.invokevirtual 107, 3) := by decide +kernel
theorem dX10_addTenant_41 : decode cX10_addTenant 41 = .ok (.ireturn, 1) := by decide +kernel
theorem dX10_removeTenant_0 : decode cX10_removeTenant 0 = .ok (.aload_n 0, 1) := by decide +kernel
theorem dX10_removeTenant_1 : decode cX10_removeTenant 1 = .ok (.iconst 0, 1) := by decide +kernel
theorem dX10_removeTenant_2 : decode cX10_removeTenant 2 = .ok (.putfield 57, 3) := by decide +kernel
theorem dX10_removeTenant_5 : decode cX10_removeTenant 5 = .ok (.aload_n 0, 1) := by decide +kernel
theorem dX10_removeTenant_6 : decode cX10_removeTenant 6 = .ok (.iload_n 1, 1) := by decide +kernel
theorem dX10_removeTenant_7 : decode cX10_removeTenant 7 = .ok (.invokevirtual 110, 3) := by decide +kernel
theorem dX10_removeTenant_10 : decode cX10_removeTenant 10 = .ok (.istore_n 2, 1) := by decide +kernel
theorem dX10_removeTenant_11 : decode cX10_removeTenant 11 = .ok (.iload_n 2, 1) := by decide +kernel
theorem dX10_removeTenant_12 : decode cX10_removeTenant 12 = .ok (.ifCond .ge 9, 3) := by decide +kernel
theorem dX10_removeTenant_15 : decode cX10_removeTenant 15 = .ok (.aload_n 0, 1) := by decide +kernel
theorem dX10_removeTenant_16 : decode cX10_removeTenant 16 = .ok (.iconst 1, 1) := by decide +kernel
theorem dX10_removeTenant_17 : decode cX10_removeTenant 17 = .ok (.invokevirtual 89, 3) := by decide +kernel
theorem dX10_removeTenant_20 : decode cX10_removeTenant 20 = .ok (.ireturn, 1) := by decide +kernel
theorem dX10_removeTenant_21 : decode cX10_removeTenant 21 = .ok (.aload_n 0, 1) := by decide +kernel
theorem dX10_removeTenant_22 : decode cX10_removeTenant 22 = .ok (.iload_n 2, 1) := by decide +kernel
theorem dX10_removeTenant_23 : decode cX10_removeTenant 23 = .ok (.bipush 6, 2) := by decide +kernel
theorem dX10_removeTenant_25 : decode cX10_removeTenant 25 = .ok (.invokevirtual 76, 3) := by decide +kernel
theorem dX10_removeTenant_28 : decode cX10_removeTenant 28 = .ok (.ifCond .le 9, 3) := by decide +kernel
theorem dX10_removeTenant_31 : decode cX10_removeTenant 31 = .ok (.aload_n 0, 1) := by decide +kernel
theorem dX10_removeTenant_32 : decode cX10_removeTenant 32 = .ok (.iconst 2, 1) := by decide +kernel
theorem dX10_removeTenant_33 : decode cX10_removeTenant 33 = .ok (.invokevirtual 89, 3) := by decide +kernel
theorem dX10_removeTenant_36 : decode cX10_removeTenant 36 = .ok (.ireturn, 1) := by decide +kernel
theorem dX10_removeTenant_37 : decode cX10_removeTenant 37 = .ok (.aload_n 0, 1) := by decide +kernel
theorem dX10_removeTenant_38 : decode cX10_removeTenant 38 = .ok (.invokevirtual 93, 3) := by decide +kernel
theorem dX10_removeTenant_41 : decode cX10_removeTenant 41 = .ok (.aload_n 0, 1) := by decide +kernel
theorem dX10_removeTenant_42 : decode cX10_removeTenant 42 = .ok (.getfield 7, 3) := by decide +kernel
theorem dX10_removeTenant_45 : decode cX10_removeTenant 45 = .ok (.bipush 6, 2) := by decide +kernel
theorem dX10_removeTenant_47 : decode cX10_removeTenant 47 = .ok (.dup2, 1) := by decide +kernel
theorem dX10_removeTenant_48 : decode cX10_removeTenant 48 = .ok (.iaload, 1) := by decide +kernel
theorem dX10_removeTenant_49 : decode cX10_removeTenant 49 = .ok (.aload_n 0, 1) := by decide +kernel
theorem dX10_removeTenant_50 : decode cX10_removeTenant 50 = .ok (.iload_n 2, 1) := by decide +kernel
theorem dX10_removeTenant_51 : decode cX10_removeTenant 51 = .ok (.iconst 4, 1) := by decide +kernel
theorem dX10_removeTenant_52 : decode cX10_removeTenant 52 = .ok (.invokevirtual 76, 3) := by decide +kernel
theorem dX10_removeTenant_55 : decode cX10_removeTenant 55 = .ok (.iadd, 1) := by decide +kernel
theorem dX10_removeTenant_56 : decode cX10_removeTenant 56 = .ok (.iastore, 1) := by decide +kernel
theorem dX10_removeTenant_57 : decode cX10_removeTenant 57 = .ok (.aload_n 0, 1) := by decide +kernel
theorem dX10_removeTenant_58 : decode cX10_removeTenant 58 = .ok (.getfield 7, 3) := by decide +kernel
theorem dX10_removeTenant_61 : decode cX10_removeTenant 61 = .ok (.iconst 1, 1) := by decide +kernel
theorem dX10_removeTenant_62 : decode cX10_removeTenant 62 = .ok (.dup2, 1) := by decide +kernel
theorem dX10_removeTenant_63 : decode cX10_removeTenant 63 = .ok (.iaload, 1) := by decide +kernel
theorem dX10_removeTenant_64 : decode cX10_removeTenant 64 = .ok (.iconst 1, 1) := by decide +kernel
theorem dX10_removeTenant_65 : decode cX10_removeTenant 65 = .ok (.isub, 1) := by decide +kernel
theorem dX10_removeTenant_66 : decode cX10_removeTenant 66 = .ok (.iastore, 1) := by decide +kernel
theorem dX10_removeTenant_67 : decode cX10_removeTenant 67 = .ok (.bipush 20, 2) := by decide +kernel
theorem dX10_removeTenant_69 : decode cX10_removeTenant 69 = .ok (.bipush 7, 2) := by decide +kernel
theorem dX10_removeTenant_71 : decode cX10_removeTenant 71 = .ok (.aload_n 0, 1) := by decide +kernel
theorem dX10_removeTenant_72 : decode cX10_removeTenant 72 = .ok (.getfield 7, 3) := by decide +kernel
theorem dX10_removeTenant_75 : decode cX10_removeTenant 75 = .ok (.iconst 1, 1) := by decide +kernel
theorem dX10_removeTenant_76 : decode cX10_removeTenant 76 = .ok (.iaload, 1) := by decide +kernel
theorem dX10_removeTenant_77 : decode cX10_removeTenant 77 = .ok (.imul, 1) := by decide +kernel
theorem dX10_removeTenant_78 : decode cX10_removeTenant 78 = .ok (.iadd, 1) := by decide +kernel
theorem dX10_removeTenant_79 : decode cX10_removeTenant 79 = .ok (.istore_n 3, 1) := by decide +kernel
theorem dX10_removeTenant_80 : decode cX10_removeTenant 80 = .ok (.bipush 20, 2) := by decide +kernel
theorem dX10_removeTenant_82 : decode cX10_removeTenant 82 = .ok (.bipush 7, 2) := by decide +kernel
theorem dX10_removeTenant_84 : decode cX10_removeTenant 84 = .ok (.iload_n 2, 1) := by decide +kernel
theorem dX10_removeTenant_85 : decode cX10_removeTenant 85 = .ok (.imul, 1) := by decide +kernel
theorem dX10_removeTenant_86 : decode cX10_removeTenant 86 = .ok (.iadd, 1) := by decide +kernel
theorem dX10_removeTenant_87 : decode cX10_removeTenant 87 = .ok (.istore 4, 2) := by decide +kernel
theorem dX10_removeTenant_89 : decode cX10_removeTenant 89 = .ok (.iload 4, 2) := by decide +kernel
theorem dX10_removeTenant_91 : decode cX10_removeTenant 91 = .ok (.iload_n 3, 1) := by decide +kernel
theorem dX10_removeTenant_92 : decode cX10_removeTenant 92 = .ok (.if_icmp .ge 26, 3) := by decide +kernel
theorem dX10_removeTenant_95 : decode cX10_removeTenant 95 = .ok (.aload_n 0, 1) := by decide +kernel
theorem dX10_removeTenant_96 : decode cX10_removeTenant 96 = .ok (.getfield 7, 3) := by decide +kernel
theorem dX10_removeTenant_99 : decode cX10_removeTenant 99 = .ok (.iload 4, 2) := by decide +kernel
theorem dX10_removeTenant_101 : decode cX10_removeTenant 101 = .ok (.aload_n 0, 1) := by decide +kernel
theorem dX10_removeTenant_102 : decode cX10_removeTenant 102 = .ok (.getfield 7, 3) := by decide +kernel
theorem dX10_removeTenant_105 : decode cX10_removeTenant 105 = .ok (.iload 4, 2) := by decide +kernel
theorem dX10_removeTenant_107 : decode cX10_removeTenant 107 = .ok (.bipush 7, 2) := by decide +kernel
theorem dX10_removeTenant_109 : decode cX10_removeTenant 109 = .ok (.iadd, 1) := by decide +kernel
theorem dX10_removeTenant_110 : decode cX10_removeTenant 110 = .ok (.iaload, 1) := by decide +kernel
theorem dX10_removeTenant_111 : decode cX10_removeTenant 111 = .ok (.iastore, 1) := by decide +kernel
theorem dX10_removeTenant_112 : decode cX10_removeTenant 112 = .ok (.iinc 4 1, 3) := by decide +kernel
theorem dX10_removeTenant_115 : decode cX10_removeTenant 115 = .ok (.goto (-26), 3) := by decide +kernel
theorem dX10_removeTenant_118 : decode cX10_removeTenant 118 = .ok (.iconst 0, 1) := by decide +kernel
theorem dX10_removeTenant_119 : decode cX10_removeTenant 119 = .ok (.istore 4, 2) := by decide +kernel
theorem dX10_removeTenant_121 : decode cX10_removeTenant 121 = .ok (.iload 4, 2) := by decide +kernel
theorem dX10_removeTenant_123 : decode cX10_removeTenant 123 = .ok (.bipush 7, 2) := by decide +kernel
theorem dX10_removeTenant_125 : decode cX10_removeTenant 125 = .ok (.if_icmp .ge 19, 3) := by decide +kernel
theorem dX10_removeTenant_128 : decode cX10_removeTenant 128 = .ok (.aload_n 0, 1) := by decide +kernel
theorem dX10_removeTenant_129 : decode cX10_removeTenant 129 = .ok (.getfield 7, 3) := by decide +kernel
theorem dX10_removeTenant_132 : decode cX10_removeTenant 132 = .ok (.iload_n 3, 1) := by decide +kernel
theorem dX10_removeTenant_133 : decode cX10_removeTenant 133 = .ok (.iload 4, 2) := by decide +kernel
theorem dX10_removeTenant_135 : decode cX10_removeTenant 135 = .ok (.iadd, 1) := by decide +kernel
theorem dX10_removeTenant_136 : decode cX10_removeTenant 136 = .ok (.iconst 0, 1) := by decide +kernel
theorem dX10_removeTenant_137 : decode cX10_removeTenant 137 = .ok (.iastore, 1) := by decide +kernel
theorem dX10_removeTenant_138 : decode cX10_removeTenant 138 = .ok (.iinc 4 1, 3) := by decide +kernel
theorem dX10_removeTenant_141 : decode cX10_removeTenant 141 = .ok (.goto (-20), 3) := by decide +kernel
theorem dX10_removeTenant_144 : decode cX10_removeTenant 144 = .ok (.aload_n 0, 1) := by decide +kernel
theorem dX10_removeTenant_145 : decode cX10_removeTenant 145 = .ok (.getfield 7, 3) := by decide +kernel
theorem dX10_removeTenant_148 : decode cX10_removeTenant 148 = .ok (.iconst 1, 1) := by decide +kernel
theorem dX10_removeTenant_149 : decode cX10_removeTenant 149 = .ok (.iaload, 1) := by decide +kernel
theorem dX10_removeTenant_150 : decode cX10_removeTenant 150 = .ok (.ireturn, 1) := by decide +kernel
theorem dX10_notIn_0 : decode cX10_notIn 0 = .ok (.aload_n 0, 1) := by decide +kernel
theorem dX10_notIn_1 : decode cX10_notIn 1 = .ok (.iload_n 1, 1) := by decide +kernel
theorem dX10_notIn_2 : decode cX10_notIn 2 = .ok (.invokevirtual 110, 3) := by decide +kernel
theorem dX10_notIn_5 : decode cX10_notIn 5 = .ok (.istore_n 3, 1) := by decide +kernel
theorem dX10_notIn_6 : decode cX10_notIn 6 = .ok (.iload_n 3, 1) := by decide +kernel
theorem dX10_notIn_7 : decode cX10_notIn 7 = .ok (.ifCond .ge 5, 3) := by decide +kernel
theorem dX10_notIn_10 : decode cX10_notIn 10 = .ok (.iconst 1, 1) := by decide +kernel
theorem dX10_notIn_11 : decode cX10_notIn 11 = .ok (.ireturn, 1) := by decide +kernel
theorem dX10_notIn_12 : decode cX10_notIn 12 = .ok (.aload_n 0, 1) := by decide +kernel
theorem dX10_notIn_13 : decode cX10_notIn 13 = .ok (.iload_n 2, 1) := by decide +kernel
theorem dX10_notIn_14 : decode cX10_notIn 14 = .ok (.invokevirtual 113, 3) := by decide +kernel
theorem dX10_notIn_17 : decode cX10_notIn 17 = .ok (.ifCond .ne 5, 3) := by decide +kernel
theorem dX10_notIn_20 : decode cX10_notIn 20 = .ok (.iconst 2, 1) := by decide +kernel
theorem dX10_notIn_21 : decode cX10_notIn 21 = .ok (.ireturn, 1) := by decide +kernel
theorem dX10_notIn_22 : decode cX10_notIn 22 = .ok (.aload_n 0, 1) := by decide +kernel
theorem dX10_notIn_23 : decode cX10_notIn 23 = .ok (.iload_n 3, 1) := by decide +kernel
theorem dX10_notIn_24 : decode cX10_notIn 24 = .ok (.bipush 6, 2) := by decide +kernel
theorem dX10_notIn_26 : decode cX10_notIn 26 = .ok (.invokevirtual 76, 3) := by decide +kernel
theorem dX10_notIn_29 : decode cX10_notIn 29 = .ok (.ifCond .gt 11, 3) := by decide +kernel
theorem dX10_notIn_32 : decode cX10_notIn 32 = .ok (.aload_n 0, 1) := by decide +kernel
theorem dX10_notIn_33 : decode cX10_notIn 33 = .ok (.iload_n 2, 1) := by decide +kernel
theorem dX10_notIn_34 : decode cX10_notIn 34 = .ok (.invokevirtual 117, 3) := by decide +kernel
theorem dX10_notIn_37 : decode cX10_notIn 37 = .ok (.ifCond .lt 5, 3) := by decide +kernel
theorem dX10_notIn_40 : decode cX10_notIn 40 = .ok (.iconst 3, 1) := by decide +kernel
theorem dX10_notIn_41 : decode cX10_notIn 41 = .ok (.ireturn, 1) := by decide +kernel
theorem dX10_notIn_42 : decode cX10_notIn 42 = .ok (.aload_n 0, 1) := by decide +kernel
theorem dX10_notIn_43 : decode cX10_notIn 43 = .ok (.iload_n 3, 1) := by decide +kernel
theorem dX10_notIn_44 : decode cX10_notIn 44 = .ok (.iload_n 2, 1) := by decide +kernel
theorem dX10_notIn_45 : decode cX10_notIn 45 = .ok (.invokevirtual 120, 3) := by decide +kernel
theorem dX10_notIn_48 : decode cX10_notIn 48 = .ok (.ifCond .eq 7, 3) := by decide +kernel
theorem dX10_notIn_51 : decode cX10_notIn 51 = .ok (.iconst 0, 1) := by decide +kernel
theorem dX10_notIn_52 : decode cX10_notIn 52 = .ok (.goto 4, 3) := by decide +kernel
theorem dX10_notIn_55 : decode cX10_notIn 55 = .ok (.iconst 4, 1) := by decide +kernel
theorem dX10_notIn_56 : decode cX10_notIn 56 = .ok (.ireturn, 1) := by decide +kernel
theorem dX10_movesIn_0 : decode cX10_movesIn 0 = .ok (.aload_n 0, 1) := by decide +kernel
theorem dX10_movesIn_1 : decode cX10_movesIn 1 = .ok (.aload_n 0, 1) := by decide +kernel
theorem dX10_movesIn_2 : decode cX10_movesIn 2 = .ok (.iload_n 1, 1) := by decide +kernel
theorem dX10_movesIn_3 : decode cX10_movesIn 3 = .ok (.invokevirtual 110, 3) := by decide +kernel
theorem dX10_movesIn_6 : decode cX10_movesIn 6 = .ok (.bipush 6, 2) := by decide +kernel
theorem dX10_movesIn_8 : decode cX10_movesIn 8 = .ok (.iload_n 2, 1) := by decide +kernel
theorem dX10_movesIn_9 : decode cX10_movesIn 9 = .ok (.iconst 1, 1) := by decide +kernel
theorem dX10_movesIn_10 : decode cX10_movesIn 10 = .ok (.iadd, 1) := by decide +kernel
theorem dX10_movesIn_11 : decode cX10_movesIn 11 = .ok (.invokevirtual 99, 3) := by decide +kernel
theorem dX10_movesIn_14 : decode cX10_movesIn 14 = .ok (.aload_n 0, 1) := by decide +kernel
theorem dX10_movesIn_15 : decode cX10_movesIn 15 = .ok (.aload_n 0, 1) := by decide +kernel
theorem dX10_movesIn_16 : decode cX10_movesIn 16 = .ok (.iload_n 1, 1) := by decide +kernel
theorem dX10_movesIn_17 : decode cX10_movesIn 17 = .ok (.invokevirtual 110, 3) := by decide +kernel
theorem dX10_movesIn_20 : decode cX10_movesIn 20 = .ok (.iload_n 2, 1) := by decide +kernel
theorem dX10_movesIn_21 : decode cX10_movesIn 21 = .ok (.invokevirtual 83, 3) := by decide +kernel
theorem dX10_movesIn_24 : decode cX10_movesIn 24 = .ok (.ireturn, 1) := by decide +kernel
theorem dX10_moveIn_0 : decode cX10_moveIn 0 = .ok (.aload_n 0, 1) := by decide +kernel
theorem dX10_moveIn_1 : decode cX10_moveIn 1 = .ok (.iconst 0, 1) := by decide +kernel
theorem dX10_moveIn_2 : decode cX10_moveIn 2 = .ok (.putfield 57, 3) := by decide +kernel
theorem dX10_moveIn_5 : decode cX10_moveIn 5 = .ok (.aload_n 0, 1) := by decide +kernel
theorem dX10_moveIn_6 : decode cX10_moveIn 6 = .ok (.iload_n 1, 1) := by decide +kernel
theorem dX10_moveIn_7 : decode cX10_moveIn 7 = .ok (.iload_n 2, 1) := by decide +kernel
theorem dX10_moveIn_8 : decode cX10_moveIn 8 = .ok (.invokevirtual 124, 3) := by decide +kernel
theorem dX10_moveIn_11 : decode cX10_moveIn 11 = .ok (.istore_n 3, 1) := by decide +kernel
theorem dX10_moveIn_12 : decode cX10_moveIn 12 = .ok (.iload_n 3, 1) := by decide +kernel
theorem dX10_moveIn_13 : decode cX10_moveIn 13 = .ok (.ifCond .eq 9, 3) := by decide +kernel
theorem dX10_moveIn_16 : decode cX10_moveIn 16 = .ok (.aload_n 0, 1) := by decide +kernel
theorem dX10_moveIn_17 : decode cX10_moveIn 17 = .ok (.iload_n 3, 1) := by decide +kernel
theorem dX10_moveIn_18 : decode cX10_moveIn 18 = .ok (.invokevirtual 89, 3) := by decide +kernel
theorem dX10_moveIn_21 : decode cX10_moveIn 21 = .ok (.ireturn, 1) := by decide +kernel
theorem dX10_moveIn_22 : decode cX10_moveIn 22 = .ok (.aload_n 0, 1) := by decide +kernel
theorem dX10_moveIn_23 : decode cX10_moveIn 23 = .ok (.invokevirtual 93, 3) := by decide +kernel
theorem dX10_moveIn_26 : decode cX10_moveIn 26 = .ok (.aload_n 0, 1) := by decide +kernel
theorem dX10_moveIn_27 : decode cX10_moveIn 27 = .ok (.iload_n 1, 1) := by decide +kernel
theorem dX10_moveIn_28 : decode cX10_moveIn 28 = .ok (.iload_n 2, 1) := by decide +kernel
theorem dX10_moveIn_29 : decode cX10_moveIn 29 = .ok (.invokevirtual 127, 3) := by decide +kernel
theorem dX10_moveIn_32 : decode cX10_moveIn 32 = .ok (.ireturn, 1) := by decide +kernel
theorem dX10_candidate_0 : decode cX10_candidate 0 = .ok (.iconst (-1), 1) := by decide +kernel
theorem dX10_candidate_1 : decode cX10_candidate 1 = .ok (.istore_n 3, 1) := by decide +kernel
theorem dX10_candidate_2 : decode cX10_candidate 2 = .ok (.iconst 0, 1) := by decide +kernel
theorem dX10_candidate_3 : decode cX10_candidate 3 = .ok (.istore 4, 2) := by decide +kernel
theorem dX10_candidate_5 : decode cX10_candidate 5 = .ok (.iload 4, 2) := by decide +kernel
theorem dX10_candidate_7 : decode cX10_candidate 7 = .ok (.aload_n 0, 1) := by decide +kernel
theorem dX10_candidate_8 : decode cX10_candidate 8 = .ok (.getfield 7, 3) := by decide +kernel
theorem dX10_candidate_11 : decode cX10_candidate 11 = .ok (.iconst 1, 1) := by decide +kernel
theorem dX10_candidate_12 : decode cX10_candidate 12 = .ok (.iaload, 1) := by decide +kernel
theorem dX10_candidate_13 : decode cX10_candidate 13 = .ok (.if_icmp .ge 65, 3) := by decide +kernel
theorem dX10_candidate_16 : decode cX10_candidate 16 = .ok (.iload 4, 2) := by decide +kernel
theorem dX10_candidate_18 : decode cX10_candidate 18 = .ok (.iload_n 2, 1) := by decide +kernel
theorem dX10_candidate_19 : decode cX10_candidate 19 = .ok (.if_icmp .eq 53, 3) := by decide +kernel
theorem dX10_candidate_22 : decode cX10_candidate 22 = .ok (.aload_n 0, 1) := by decide +kernel
theorem dX10_candidate_23 : decode cX10_candidate 23 = .ok (.iload 4, 2) := by decide +kernel
theorem dX10_candidate_25 : decode cX10_candidate 25 = .ok (.iload_n 1, 1) := by decide +kernel
theorem dX10_candidate_26 : decode cX10_candidate 26 = .ok (.invokevirtual 120, 3) := by decide +kernel
theorem dX10_candidate_29 : decode cX10_candidate 29 = .ok (.ifCond .eq 43, 3) := by decide +kernel
theorem dX10_candidate_32 : decode cX10_candidate 32 = .ok (.aload_n 0, 1) := by decide +kernel
theorem dX10_candidate_33 : decode cX10_candidate 33 = .ok (.iload 4, 2) := by decide +kernel
theorem dX10_candidate_35 : decode cX10_candidate 35 = .ok (.iload_n 1, 1) := by decide +kernel
theorem dX10_candidate_36 : decode cX10_candidate 36 = .ok (.aload_n 0, 1) := by decide +kernel
theorem dX10_candidate_37 : decode cX10_candidate 37 = .ok (.iload 4, 2) := by decide +kernel
theorem dX10_candidate_39 : decode cX10_candidate 39 = .ok (.bipush 6, 2) := by decide +kernel
theorem dX10_candidate_41 : decode cX10_candidate 41 = .ok (.invokevirtual 76, 3) := by decide +kernel
theorem dX10_candidate_44 : decode cX10_candidate 44 = .ok (.iconst 1, 1) := by decide +kernel
theorem dX10_candidate_45 : decode cX10_candidate 45 = .ok (.isub, 1) := by decide +kernel
theorem dX10_candidate_46 : decode cX10_candidate 46 = .ok (.invokevirtual 130, 3) := by decide +kernel
theorem dX10_candidate_49 : decode cX10_candidate 49 = .ok (.ifCond .ne 6, 3) := by decide +kernel
theorem dX10_candidate_52 : decode cX10_candidate 52 = .ok (.goto 20, 3) := by decide +kernel
theorem dX10_candidate_55 : decode cX10_candidate 55 = .ok (.iload_n 3, 1) := by decide +kernel
theorem dX10_candidate_56 : decode cX10_candidate 56 = .ok (.ifCond .lt 13, 3) := by decide +kernel
theorem dX10_candidate_59 : decode cX10_candidate 59 = .ok (.aload_n 0, 1) := by decide +kernel
theorem dX10_candidate_60 : decode cX10_candidate 60 = .ok (.iload 4, 2) := by decide +kernel
theorem dX10_candidate_62 : decode cX10_candidate 62 = .ok (.iload_n 3, 1) := by decide +kernel
theorem dX10_candidate_63 : decode cX10_candidate 63 = .ok (.invokevirtual 133, 3) := by decide +kernel
theorem dX10_candidate_66 : decode cX10_candidate 66 = .ok (.ifCond .eq 6, 3) := by decide +kernel
theorem dX10_candidate_69 : decode cX10_candidate 69 = .ok (.iload 4, 2) := by decide +kernel
theorem dX10_candidate_71 : decode cX10_candidate 71 = .ok (.istore_n 3, 1) := by decide +kernel
theorem dX10_candidate_72 : decode cX10_candidate 72 = .ok (.iinc 4 1, 3) := by decide +kernel
theorem dX10_candidate_75 : decode cX10_candidate 75 = .ok (.goto (-70), 3) := by decide +kernel
theorem dX10_candidate_78 : decode cX10_candidate 78 = .ok (.iload_n 3, 1) := by decide +kernel
theorem dX10_candidate_79 : decode cX10_candidate 79 = .ok (.ireturn, 1) := by decide +kernel
theorem dX10_leaves_0 : decode cX10_leaves 0 = .ok (.aload_n 0, 1) := by decide +kernel
theorem dX10_leaves_1 : decode cX10_leaves 1 = .ok (.iload_n 1, 1) := by decide +kernel
theorem dX10_leaves_2 : decode cX10_leaves 2 = .ok (.bipush 6, 2) := by decide +kernel
theorem dX10_leaves_4 : decode cX10_leaves 4 = .ok (.invokevirtual 76, 3) := by decide +kernel
theorem dX10_leaves_7 : decode cX10_leaves 7 = .ok (.iconst 1, 1) := by decide +kernel
theorem dX10_leaves_8 : decode cX10_leaves 8 = .ok (.isub, 1) := by decide +kernel
theorem dX10_leaves_9 : decode cX10_leaves 9 = .ok (.istore_n 2, 1) := by decide +kernel
theorem dX10_leaves_10 : decode cX10_leaves 10 = .ok (.aload_n 0, 1) := by decide +kernel
theorem dX10_leaves_11 : decode cX10_leaves 11 = .ok (.iload_n 1, 1) := by decide +kernel
theorem dX10_leaves_12 : decode cX10_leaves 12 = .ok (.bipush 6, 2) := by decide +kernel
theorem dX10_leaves_14 : decode cX10_leaves 14 = .ok (.iconst 0, 1) := by decide +kernel
theorem dX10_leaves_15 : decode cX10_leaves 15 = .ok (.invokevirtual 99, 3) := by decide +kernel
theorem dX10_leaves_18 : decode cX10_leaves 18 = .ok (.aload_n 0, 1) := by decide +kernel
theorem dX10_leaves_19 : decode cX10_leaves 19 = .ok (.iload_n 1, 1) := by decide +kernel
theorem dX10_leaves_20 : decode cX10_leaves 20 = .ok (.iconst 5, 1) := by decide +kernel
theorem dX10_leaves_21 : decode cX10_leaves 21 = .ok (.iconst 0, 1) := by decide +kernel
theorem dX10_leaves_22 : decode cX10_leaves 22 = .ok (.invokevirtual 99, 3) := by decide +kernel
theorem dX10_leaves_25 : decode cX10_leaves 25 = .ok (.iconst 0, 1) := by decide +kernel
theorem dX10_leaves_26 : decode cX10_leaves 26 = .ok (.istore_n 3, 1) := by decide +kernel
theorem dX10_leaves_27 : decode cX10_leaves 27 = .ok (.iload_n 2, 1) := by decide +kernel
theorem dX10_leaves_28 : decode cX10_leaves 28 = .ok (.ifCond .lt 50, 3) := by decide +kernel
theorem dX10_leaves_31 : decode cX10_leaves 31 = .ok (.aload_n 0, 1) := by decide +kernel
theorem dX10_leaves_32 : decode cX10_leaves 32 = .ok (.iload_n 2, 1) := by decide +kernel
theorem dX10_leaves_33 : decode cX10_leaves 33 = .ok (.iload_n 1, 1) := by decide +kernel
theorem dX10_leaves_34 : decode cX10_leaves 34 = .ok (.invokevirtual 136, 3) := by decide +kernel
