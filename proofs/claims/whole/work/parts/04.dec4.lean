theorem dX10_meanBurden_38 : decode cX10_meanBurden 38 = .ok (.iload_n 3, 1) := by decide +kernel
theorem dX10_meanBurden_39 : decode cX10_meanBurden 39 = .ok (.bipush 6, 2) := by decide +kernel
theorem dX10_meanBurden_41 : decode cX10_meanBurden 41 = .ok (.invokevirtual 76, 3) := by decide +kernel
theorem dX10_meanBurden_44 : decode cX10_meanBurden 44 = .ok (.iconst 1, 1) := by decide +kernel
theorem dX10_meanBurden_45 : decode cX10_meanBurden 45 = .ok (.isub, 1) := by decide +kernel
theorem dX10_meanBurden_46 : decode cX10_meanBurden 46 = .ok (.invokevirtual 83, 3) := by decide +kernel
theorem dX10_meanBurden_49 : decode cX10_meanBurden 49 = .ok (.iadd, 1) := by decide +kernel
theorem dX10_meanBurden_50 : decode cX10_meanBurden 50 = .ok (.istore_n 1, 1) := by decide +kernel
theorem dX10_meanBurden_51 : decode cX10_meanBurden 51 = .ok (.iinc 2 1, 3) := by decide +kernel
theorem dX10_meanBurden_54 : decode cX10_meanBurden 54 = .ok (.iinc 3 1, 3) := by decide +kernel
theorem dX10_meanBurden_57 : decode cX10_meanBurden 57 = .ok (.goto (-46), 3) := by decide +kernel
theorem dX10_meanBurden_60 : decode cX10_meanBurden 60 = .ok (.iload_n 2, 1) := by decide +kernel
theorem dX10_meanBurden_61 : decode cX10_meanBurden 61 = .ok (.ifCond .ne 12, 3) := by decide +kernel
theorem dX10_meanBurden_64 : decode cX10_meanBurden 64 = .ok (.aload_n 0, 1) := by decide +kernel
theorem dX10_meanBurden_65 : decode cX10_meanBurden 65 = .ok (.iconst 1, 1) := by decide +kernel
theorem dX10_meanBurden_66 : decode cX10_meanBurden 66 = .ok (.invokevirtual 89, 3) := by decide +kernel
theorem dX10_meanBurden_69 : decode cX10_meanBurden 69 = .ok (.i2d, 1) := by decide +kernel
theorem dX10_meanBurden_70 : decode cX10_meanBurden 70 = .ok (.goto 8, 3) := by decide +kernel
theorem dX10_meanBurden_73 : decode cX10_meanBurden 73 = .ok (.iload_n 1, 1) := by decide +kernel
theorem dX10_meanBurden_74 : decode cX10_meanBurden 74 = .ok (.i2d, 1) := by decide +kernel
theorem dX10_meanBurden_75 : decode cX10_meanBurden 75 = .ok (.iload_n 2, 1) := by decide +kernel
theorem dX10_meanBurden_76 : decode cX10_meanBurden 76 = .ok (.i2d, 1) := by decide +kernel
theorem dX10_meanBurden_77 : decode cX10_meanBurden 77 = .ok (.ddiv, 1) := by decide +kernel
theorem dX10_meanBurden_78 : decode cX10_meanBurden 78 = .ok (.dreturn, 1) := by decide +kernel
theorem dX10_occupancy_0 : decode cX10_occupancy 0 = .ok (.aload_n 0, 1) := by decide +kernel
theorem dX10_occupancy_1 : decode cX10_occupancy 1 = .ok (.iconst 0, 1) := by decide +kernel
theorem dX10_occupancy_2 : decode cX10_occupancy 2 = .ok (.putfield 57, 3) := by decide +kernel
theorem dX10_occupancy_5 : decode cX10_occupancy 5 = .ok (.aload_n 0, 1) := by decide +kernel
theorem dX10_occupancy_6 : decode cX10_occupancy 6 = .ok (.getfield 7, 3) := by decide +kernel
theorem dX10_occupancy_9 : decode cX10_occupancy 9 = .ok (.iconst 0, 1) := by decide +kernel
theorem dX10_occupancy_10 : decode cX10_occupancy 10 = .ok (.iaload, 1) := by decide +kernel
theorem dX10_occupancy_11 : decode cX10_occupancy 11 = .ok (.ifCond .ne 10, 3) := by decide +kernel
theorem dX10_occupancy_14 : decode cX10_occupancy 14 = .ok (.aload_n 0, 1) := by decide +kernel
theorem dX10_occupancy_15 : decode cX10_occupancy 15 = .ok (.iconst 1, 1) := by decide +kernel
theorem dX10_occupancy_16 : decode cX10_occupancy 16 = .ok (.invokevirtual 89, 3) := by decide +kernel
theorem dX10_occupancy_19 : decode cX10_occupancy 19 = .ok (.i2f, 1) := by decide +kernel
theorem dX10_occupancy_20 : decode cX10_occupancy 20 = .ok (.freturn, 1) := by decide +kernel
theorem dX10_occupancy_21 : decode cX10_occupancy 21 = .ok (.iconst 0, 1) := by decide +kernel
theorem dX10_occupancy_22 : decode cX10_occupancy 22 = .ok (.istore_n 1, 1) := by decide +kernel
theorem dX10_occupancy_23 : decode cX10_occupancy 23 = .ok (.iconst 0, 1) := by decide +kernel
theorem dX10_occupancy_24 : decode cX10_occupancy 24 = .ok (.istore_n 2, 1) := by decide +kernel
theorem dX10_occupancy_25 : decode cX10_occupancy 25 = .ok (.iload_n 2, 1) := by decide +kernel
theorem dX10_occupancy_26 : decode cX10_occupancy 26 = .ok (.aload_n 0, 1) := by decide +kernel
theorem dX10_occupancy_27 : decode cX10_occupancy 27 = .ok (.getfield 7, 3) := by decide +kernel
theorem dX10_occupancy_30 : decode cX10_occupancy 30 = .ok (.iconst 0, 1) := by decide +kernel
theorem dX10_occupancy_31 : decode cX10_occupancy 31 = .ok (.iaload, 1) := by decide +kernel
theorem dX10_occupancy_32 : decode cX10_occupancy 32 = .ok (.if_icmp .ge 25, 3) := by decide +kernel
theorem dX10_occupancy_35 : decode cX10_occupancy 35 = .ok (.iload_n 1, 1) := by decide +kernel
theorem dX10_occupancy_36 : decode cX10_occupancy 36 = .ok (.aload_n 0, 1) := by decide +kernel
theorem dX10_occupancy_37 : decode cX10_occupancy 37 = .ok (.iload_n 2, 1) := by decide +kernel
theorem dX10_occupancy_38 : decode cX10_occupancy 38 = .ok (.invokevirtual 117, 3) := by decide +kernel
theorem dX10_occupancy_41 : decode cX10_occupancy 41 = .ok (.ifCond .ge 7, 3) := by decide +kernel
theorem dX10_occupancy_44 : decode cX10_occupancy 44 = .ok (.iconst 0, 1) := by decide +kernel
theorem dX10_occupancy_45 : decode cX10_occupancy 45 = .ok (.goto 4, 3) := by decide +kernel
theorem dX10_occupancy_48 : decode cX10_occupancy 48 = .ok (.iconst 1, 1) := by decide +kernel
theorem dX10_occupancy_49 : decode cX10_occupancy 49 = .ok (.iadd, 1) := by decide +kernel
theorem dX10_occupancy_50 : decode cX10_occupancy 50 = .ok (.istore_n 1, 1) := by decide +kernel
theorem dX10_occupancy_51 : decode cX10_occupancy 51 = .ok (.iinc 2 1, 3) := by decide +kernel
theorem dX10_occupancy_54 : decode cX10_occupancy 54 = .ok (.goto (-29), 3) := by decide +kernel
theorem dX10_occupancy_57 : decode cX10_occupancy 57 = .ok (.iload_n 1, 1) := by decide +kernel
theorem dX10_occupancy_58 : decode cX10_occupancy 58 = .ok (.i2f, 1) := by decide +kernel
theorem dX10_occupancy_59 : decode cX10_occupancy 59 = .ok (.aload_n 0, 1) := by decide +kernel
theorem dX10_occupancy_60 : decode cX10_occupancy 60 = .ok (.getfield 7, 3) := by decide +kernel
theorem dX10_occupancy_63 : decode cX10_occupancy 63 = .ok (.iconst 0, 1) := by decide +kernel
theorem dX10_occupancy_64 : decode cX10_occupancy 64 = .ok (.iaload, 1) := by decide +kernel
theorem dX10_occupancy_65 : decode cX10_occupancy 65 = .ok (.i2f, 1) := by decide +kernel
theorem dX10_occupancy_66 : decode cX10_occupancy 66 = .ok (.fdiv, 1) := by decide +kernel
theorem dX10_occupancy_67 : decode cX10_occupancy 67 = .ok (.freturn, 1) := by decide +kernel
theorem dX10_isConsistent_0 : decode cX10_isConsistent 0 = .ok (.aload_n 0, 1) := by decide +kernel
theorem dX10_isConsistent_1 : decode cX10_isConsistent 1 = .ok (.iconst 0, 1) := by decide +kernel
theorem dX10_isConsistent_2 : decode cX10_isConsistent 2 = .ok (.putfield 57, 3) := by decide +kernel
theorem dX10_isConsistent_5 : decode cX10_isConsistent 5 = .ok (.aload_n 0, 1) := by decide +kernel
theorem dX10_isConsistent_6 : decode cX10_isConsistent 6 = .ok (.invokevirtual 215, 3) := by decide +kernel
theorem dX10_isConsistent_9 : decode cX10_isConsistent 9 = .ok (.aload_n 0, 1) := by decide +kernel
theorem dX10_isConsistent_10 : decode cX10_isConsistent 10 = .ok (.getfield 7, 3) := by decide +kernel
theorem dX10_isConsistent_13 : decode cX10_isConsistent 13 = .ok (.bipush 6, 2) := by decide +kernel
theorem dX10_isConsistent_15 : decode cX10_isConsistent 15 = .ok (.iaload, 1) := by decide +kernel
theorem dX10_isConsistent_16 : decode cX10_isConsistent 16 = .ok (.iadd, 1) := by decide +kernel
theorem dX10_isConsistent_17 : decode cX10_isConsistent 17 = .ok (.aload_n 0, 1) := by decide +kernel
theorem dX10_isConsistent_18 : decode cX10_isConsistent 18 = .ok (.getfield 7, 3) := by decide +kernel
theorem dX10_isConsistent_21 : decode cX10_isConsistent 21 = .ok (.iconst 5, 1) := by decide +kernel
theorem dX10_isConsistent_22 : decode cX10_isConsistent 22 = .ok (.iaload, 1) := by decide +kernel
theorem dX10_isConsistent_23 : decode cX10_isConsistent 23 = .ok (.iadd, 1) := by decide +kernel
theorem dX10_isConsistent_24 : decode cX10_isConsistent 24 = .ok (.aload_n 0, 1) := by decide +kernel
theorem dX10_isConsistent_25 : decode cX10_isConsistent 25 = .ok (.getfield 7, 3) := by decide +kernel
theorem dX10_isConsistent_28 : decode cX10_isConsistent 28 = .ok (.bipush 7, 2) := by decide +kernel
theorem dX10_isConsistent_30 : decode cX10_isConsistent 30 = .ok (.iaload, 1) := by decide +kernel
theorem dX10_isConsistent_31 : decode cX10_isConsistent 31 = .ok (.if_icmp .ne 7, 3) := by decide +kernel
theorem dX10_isConsistent_34 : decode cX10_isConsistent 34 = .ok (.iconst 1, 1) := by decide +kernel
theorem dX10_isConsistent_35 : decode cX10_isConsistent 35 = .ok (.goto 4, 3) := by decide +kernel
theorem dX10_isConsistent_38 : decode cX10_isConsistent 38 = .ok (.iconst 0, 1) := by decide +kernel
theorem dX10_isConsistent_39 : decode cX10_isConsistent 39 = .ok (.ireturn, 1) := by decide +kernel
theorem dX10_writes_0 : decode cX10_writes 0 = .ok (.aload_n 0, 1) := by decide +kernel
theorem dX10_writes_1 : decode cX10_writes 1 = .ok (.getfield 40, 3) := by decide +kernel
theorem dX10_writes_4 : decode cX10_writes 4 = .ok (.aload_n 0, 1) := by decide +kernel
theorem dX10_writes_5 : decode cX10_writes 5 = .ok (.getfield 218, 3) := by decide +kernel
theorem dX10_writes_8 : decode cX10_writes 8 = .ok (.iload_n 1, 1) := by decide +kernel
theorem dX10_writes_9 : decode cX10_writes 9 = .ok (.i2c, 1) := by decide +kernel
theorem dX10_writes_10 : decode cX10_writes 10 = .ok (.castore, 1) := by decide +kernel
theorem dX10_writes_11 : decode cX10_writes 11 = .ok (.aload_n 0, 1) := by decide +kernel
theorem dX10_writes_12 : decode cX10_writes 12 = .ok (.dup, 1) := by decide +kernel
theorem dX10_writes_13 : decode cX10_writes 13 = .ok (.getfield 218, 3) := by decide +kernel
theorem dX10_writes_16 : decode cX10_writes 16 = .ok (.iconst 1, 1) := by decide +kernel
theorem dX10_writes_17 : decode cX10_writes 17 = .ok (.iadd, 1) := by decide +kernel
theorem dX10_writes_18 : decode cX10_writes 18 = .ok (.putfield 218, 3) := by decide +kernel
theorem dX10_writes_21 : decode cX10_writes 21 = .ok (.return_, 1) := by decide +kernel
theorem dX10_writesNumber_0 : decode cX10_writesNumber 0 = .ok (.iconst 1, 1) := by decide +kernel
theorem dX10_writesNumber_1 : decode cX10_writesNumber 1 = .ok (.istore_n 2, 1) := by decide +kernel
theorem dX10_writesNumber_2 : decode cX10_writesNumber 2 = .ok (.iload_n 1, 1) := by decide +kernel
theorem dX10_writesNumber_3 : decode cX10_writesNumber 3 = .ok (.iload_n 2, 1) := by decide +kernel
theorem dX10_writesNumber_4 : decode cX10_writesNumber 4 = .ok (.idiv, 1) := by decide +kernel
theorem dX10_writesNumber_5 : decode cX10_writesNumber 5 = .ok (.bipush 9, 2) := by decide +kernel
theorem dX10_writesNumber_7 : decode cX10_writesNumber 7 = .ok (.if_icmp .le 11, 3) := by decide +kernel
theorem dX10_writesNumber_10 : decode cX10_writesNumber 10 = .ok (.iload_n 2, 1) := by decide +kernel
theorem dX10_writesNumber_11 : decode cX10_writesNumber 11 = .ok (.bipush 10, 2) := by decide +kernel
theorem dX10_writesNumber_13 : decode cX10_writesNumber 13 = .ok (.imul, 1) := by decide +kernel
theorem dX10_writesNumber_14 : decode cX10_writesNumber 14 = .ok (.istore_n 2, 1) := by decide +kernel
theorem dX10_writesNumber_15 : decode cX10_writesNumber 15 = .ok (.goto (-13), 3) := by decide +kernel
theorem dX10_writesNumber_18 : decode cX10_writesNumber 18 = .ok (.iload_n 2, 1) := by decide +kernel
theorem dX10_writesNumber_19 : decode cX10_writesNumber 19 = .ok (.istore_n 3, 1) := by decide +kernel
theorem dX10_writesNumber_20 : decode cX10_writesNumber 20 = .ok (.iload_n 3, 1) := by decide +kernel
theorem dX10_writesNumber_21 : decode cX10_writesNumber 21 = .ok (.ifCond .le 24, 3) := by decide +kernel
theorem dX10_writesNumber_24 : decode cX10_writesNumber 24 = .ok (.aload_n 0, 1) := by decide +kernel
theorem dX10_writesNumber_25 : decode cX10_writesNumber 25 = .ok (.bipush 48, 2) := by decide +kernel
theorem dX10_writesNumber_27 : decode cX10_writesNumber 27 = .ok (.iload_n 1, 1) := by decide +kernel
theorem dX10_writesNumber_28 : decode cX10_writesNumber 28 = .ok (.iload_n 3, 1) := by decide +kernel
theorem dX10_writesNumber_29 : decode cX10_writesNumber 29 = .ok (.idiv, 1) := by decide +kernel
theorem dX10_writesNumber_30 : decode cX10_writesNumber 30 = .ok (.bipush 10, 2) := by decide +kernel
theorem dX10_writesNumber_32 : decode cX10_writesNumber 32 = .ok (.irem, 1) := by decide +kernel
theorem dX10_writesNumber_33 : decode cX10_writesNumber 33 = .ok (.iadd, 1) := by decide +kernel
theorem dX10_writesNumber_34 : decode cX10_writesNumber 34 = .ok (.invokevirtual 221, 3) := by decide +kernel
theorem dX10_writesNumber_37 : decode cX10_writesNumber 37 = .ok (.iload_n 3, 1) := by decide +kernel
theorem dX10_writesNumber_38 : decode cX10_writesNumber 38 = .ok (.bipush 10, 2) := by decide +kernel
theorem dX10_writesNumber_40 : decode cX10_writesNumber 40 = .ok (.idiv, 1) := by decide +kernel
theorem dX10_writesNumber_41 : decode cX10_writesNumber 41 = .ok (.istore_n 3, 1) := by decide +kernel
theorem dX10_writesNumber_42 : decode cX10_writesNumber 42 = .ok (.goto (-22), 3) := by decide +kernel
theorem dX10_writesNumber_45 : decode cX10_writesNumber 45 = .ok (.return_, 1) := by decide +kernel
theorem dX10_writeFloor_0 : decode cX10_writeFloor 0 = .ok (.aload_n 0, 1) := by decide +kernel
theorem dX10_writeFloor_1 : decode cX10_writeFloor 1 = .ok (.iconst 0, 1) := by decide +kernel
theorem dX10_writeFloor_2 : decode cX10_writeFloor 2 = .ok (.putfield 57, 3) := by decide +kernel
theorem dX10_writeFloor_5 : decode cX10_writeFloor 5 = .ok (.iload_n 1, 1) := by decide +kernel
theorem dX10_writeFloor_6 : decode cX10_writeFloor 6 = .ok (.iconst 0, 1) := by decide +kernel
theorem dX10_writeFloor_7 : decode cX10_writeFloor 7 = .ok (.iconst 5, 1) := by decide +kernel
theorem dX10_writeFloor_8 : decode cX10_writeFloor 8 = .ok (.invokestatic 72, 3) := by decide +kernel
theorem dX10_writeFloor_11 : decode cX10_writeFloor 11 = .ok (.ifCond .ne 9, 3) := by decide +kernel
theorem dX10_writeFloor_14 : decode cX10_writeFloor 14 = .ok (.aload_n 0, 1) := by decide +kernel
theorem dX10_writeFloor_15 : decode cX10_writeFloor 15 = .ok (.iconst 1, 1) := by decide +kernel
theorem dX10_writeFloor_16 : decode cX10_writeFloor 16 = .ok (.invokevirtual 89, 3) := by decide +kernel
theorem dX10_writeFloor_19 : decode cX10_writeFloor 19 = .ok (.ireturn, 1) := by decide +kernel
theorem dX10_writeFloor_20 : decode cX10_writeFloor 20 = .ok (.aload_n 0, 1) := by decide +kernel
theorem dX10_writeFloor_21 : decode cX10_writeFloor 21 = .ok (.invokevirtual 192, 3) := by decide +kernel
theorem dX10_writeFloor_24 : decode cX10_writeFloor 24 = .ok (.aload_n 0, 1) := by decide +kernel
theorem dX10_writeFloor_25 : decode cX10_writeFloor 25 = .ok (.iconst 0, 1) := by decide +kernel
theorem dX10_writeFloor_26 : decode cX10_writeFloor 26 = .ok (.putfield 218, 3) := by decide +kernel
theorem dX10_writeFloor_29 : decode cX10_writeFloor 29 = .ok (.aload_n 0, 1) := by decide +kernel
theorem dX10_writeFloor_30 : decode cX10_writeFloor 30 = .ok (.iload_n 1, 1) := by decide +kernel
theorem dX10_writeFloor_31 : decode cX10_writeFloor 31 = .ok (.invokevirtual 225, 3) := by decide +kernel
theorem dX10_writeFloor_34 : decode cX10_writeFloor 34 = .ok (.aload_n 0, 1) := by decide +kernel
theorem dX10_writeFloor_35 : decode cX10_writeFloor 35 = .ok (.bipush 126, 2) := by decide +kernel
theorem dX10_writeFloor_37 : decode cX10_writeFloor 37 = .ok (.invokevirtual 221, 3) := by decide +kernel
theorem dX10_writeFloor_40 : decode cX10_writeFloor 40 = .ok (.aload_n 0, 1) := by decide +kernel
theorem dX10_writeFloor_41 : decode cX10_writeFloor 41 = .ok (.aload_n 0, 1) := by decide +kernel
theorem dX10_writeFloor_42 : decode cX10_writeFloor 42 = .ok (.getfield 31, 3) := by decide +kernel
theorem dX10_writeFloor_45 : decode cX10_writeFloor 45 = .ok (.iload_n 1, 1) := by decide +kernel
theorem dX10_writeFloor_46 : decode cX10_writeFloor 46 = .ok (.iaload, 1) := by decide +kernel
theorem dX10_writeFloor_47 : decode cX10_writeFloor 47 = .ok (.invokevirtual 225, 3) := by decide +kernel
theorem dX10_writeFloor_50 : decode cX10_writeFloor 50 = .ok (.iconst 0, 1) := by decide +kernel
theorem dX10_writeFloor_51 : decode cX10_writeFloor 51 = .ok (.istore_n 2, 1) := by decide +kernel
theorem dX10_writeFloor_52 : decode cX10_writeFloor 52 = .ok (.iload_n 2, 1) := by decide +kernel
theorem dX10_writeFloor_53 : decode cX10_writeFloor 53 = .ok (.aload_n 0, 1) := by decide +kernel
theorem dX10_writeFloor_54 : decode cX10_writeFloor 54 = .ok (.getfield 7, 3) := by decide +kernel
theorem dX10_writeFloor_57 : decode cX10_writeFloor 57 = .ok (.iconst 0, 1) := by decide +kernel
theorem dX10_writeFloor_58 : decode cX10_writeFloor 58 = .ok (.iaload, 1) := by decide +kernel
theorem dX10_writeFloor_59 : decode cX10_writeFloor 59 = .ok (.if_icmp .ge 80, 3) := by decide +kernel
theorem dX10_writeFloor_62 : decode cX10_writeFloor 62 = .ok (.aload_n 0, 1) := by decide +kernel
theorem dX10_writeFloor_63 : decode cX10_writeFloor 63 = .ok (.iload_n 2, 1) := by decide +kernel
theorem dX10_writeFloor_64 : decode cX10_writeFloor 64 = .ok (.iconst 0, 1) := by decide +kernel
theorem dX10_writeFloor_65 : decode cX10_writeFloor 65 = .ok (.invokevirtual 80, 3) := by decide +kernel
theorem dX10_writeFloor_68 : decode cX10_writeFloor 68 = .ok (.iload_n 1, 1) := by decide +kernel
theorem dX10_writeFloor_69 : decode cX10_writeFloor 69 = .ok (.if_icmp .eq 6, 3) := by decide +kernel
theorem dX10_writeFloor_72 : decode cX10_writeFloor 72 = .ok (.goto 61, 3) := by decide +kernel
theorem dX10_writeFloor_75 : decode cX10_writeFloor 75 = .ok (.aload_n 0, 1) := by decide +kernel
theorem dX10_writeFloor_76 : decode cX10_writeFloor 76 = .ok (.bipush 32, 2) := by decide +kernel
theorem dX10_writeFloor_78 : decode cX10_writeFloor 78 = .ok (.invokevirtual 221, 3) := by decide +kernel
theorem dX10_writeFloor_81 : decode cX10_writeFloor 81 = .ok (.aload_n 0, 1) := by decide +kernel
theorem dX10_writeFloor_82 : decode cX10_writeFloor 82 = .ok (.iload_n 2, 1) := by decide +kernel
theorem dX10_writeFloor_83 : decode cX10_writeFloor 83 = .ok (.invokevirtual 225, 3) := by decide +kernel
theorem dX10_writeFloor_86 : decode cX10_writeFloor 86 = .ok (.aload_n 0, 1) := by decide +kernel
theorem dX10_writeFloor_87 : decode cX10_writeFloor 87 = .ok (.bipush 61, 2) := by decide +kernel
theorem dX10_writeFloor_89 : decode cX10_writeFloor 89 = .ok (.invokevirtual 221, 3) := by decide +kernel
theorem dX10_writeFloor_92 : decode cX10_writeFloor 92 = .ok (.aload_n 0, 1) := by decide +kernel
theorem dX10_writeFloor_93 : decode cX10_writeFloor 93 = .ok (.aload_n 0, 1) := by decide +kernel
theorem dX10_writeFloor_94 : decode cX10_writeFloor 94 = .ok (.iload_n 2, 1) := by decide +kernel
theorem dX10_writeFloor_95 : decode cX10_writeFloor 95 = .ok (.iconst 1, 1) := by decide +kernel
theorem dX10_writeFloor_96 : decode cX10_writeFloor 96 = .ok (.invokevirtual 80, 3) := by decide +kernel
theorem dX10_writeFloor_99 : decode cX10_writeFloor 99 = .ok (.invokevirtual 225, 3) := by decide +kernel
theorem dX10_writeFloor_102 : decode cX10_writeFloor 102 = .ok (.aload_n 0, 1) := by decide +kernel
theorem dX10_writeFloor_103 : decode cX10_writeFloor 103 = .ok (.iload_n 2, 1) := by decide +kernel
theorem dX10_writeFloor_104 : decode cX10_writeFloor 104 = .ok (.invokevirtual 117, 3) := by decide +kernel
theorem dX10_writeFloor_107 : decode cX10_writeFloor 107 = .ok (.ifCond .ge 6, 3) := by decide +kernel
theorem dX10_writeFloor_110 : decode cX10_writeFloor 110 = .ok (.goto 23, 3) := by decide +kernel
theorem dX10_writeFloor_113 : decode cX10_writeFloor 113 = .ok (.aload_n 0, 1) := by decide +kernel
theorem dX10_writeFloor_114 : decode cX10_writeFloor 114 = .ok (.bipush 58, 2) := by decide +kernel
theorem dX10_writeFloor_116 : decode cX10_writeFloor 116 = .ok (.invokevirtual 221, 3) := by decide +kernel
theorem dX10_writeFloor_119 : decode cX10_writeFloor 119 = .ok (.aload_n 0, 1) := by decide +kernel
theorem dX10_writeFloor_120 : decode cX10_writeFloor 120 = .ok (.aload_n 0, 1) := by decide +kernel
theorem dX10_writeFloor_121 : decode cX10_writeFloor 121 = .ok (.aload_n 0, 1) := by decide +kernel
theorem dX10_writeFloor_122 : decode cX10_writeFloor 122 = .ok (.iload_n 2, 1) := by decide +kernel
theorem dX10_writeFloor_123 : decode cX10_writeFloor 123 = .ok (.invokevirtual 117, 3) := by decide +kernel
theorem dX10_writeFloor_126 : decode cX10_writeFloor 126 = .ok (.iconst 0, 1) := by decide +kernel
theorem dX10_writeFloor_127 : decode cX10_writeFloor 127 = .ok (.invokevirtual 76, 3) := by decide +kernel
theorem dX10_writeFloor_130 : decode cX10_writeFloor 130 = .ok (.invokevirtual 225, 3) := by decide +kernel
theorem dX10_writeFloor_133 : decode cX10_writeFloor 133 = .ok (.iinc 2 1, 3) := by decide +kernel
theorem dX10_writeFloor_136 : decode cX10_writeFloor 136 = .ok (.goto (-84), 3) := by decide +kernel
theorem dX10_writeFloor_139 : decode cX10_writeFloor 139 = .ok (.aload_n 0, 1) := by decide +kernel
theorem dX10_writeFloor_140 : decode cX10_writeFloor 140 = .ok (.getfield 218, 3) := by decide +kernel
theorem dX10_writeFloor_143 : decode cX10_writeFloor 143 = .ok (.ireturn, 1) := by decide +kernel
theorem dX10_writePlan_0 : decode cX10_writePlan 0 = .ok (.aload_n 0, 1) := by decide +kernel
theorem dX10_writePlan_1 : decode cX10_writePlan 1 = .ok (.iconst 0, 1) := by decide +kernel
theorem dX10_writePlan_2 : decode cX10_writePlan 2 = .ok (.putfield 57, 3) := by decide +kernel
theorem dX10_writePlan_5 : decode cX10_writePlan 5 = .ok (.aload_n 0, 1) := by decide +kernel
theorem dX10_writePlan_6 : decode cX10_writePlan 6 = .ok (.invokevirtual 170, 3) := by decide +kernel
theorem dX10_writePlan_9 : decode cX10_writePlan 9 = .ok (.aload_n 0, 1) := by decide +kernel
theorem dX10_writePlan_10 : decode cX10_writePlan 10 = .ok (.iconst 0, 1) := by decide +kernel
theorem dX10_writePlan_11 : decode cX10_writePlan 11 = .ok (.putfield 218, 3) := by decide +kernel
theorem dX10_writePlan_14 : decode cX10_writePlan 14 = .ok (.iconst 0, 1) := by decide +kernel
theorem dX10_writePlan_15 : decode cX10_writePlan 15 = .ok (.istore_n 1, 1) := by decide +kernel
theorem dX10_writePlan_16 : decode cX10_writePlan 16 = .ok (.iload_n 1, 1) := by decide +kernel
theorem dX10_writePlan_17 : decode cX10_writePlan 17 = .ok (.aload_n 0, 1) := by decide +kernel
theorem dX10_writePlan_18 : decode cX10_writePlan 18 = .ok (.getfield 7, 3) := by decide +kernel
theorem dX10_writePlan_21 : decode cX10_writePlan 21 = .ok (.iconst 1, 1) := by decide +kernel
theorem dX10_writePlan_22 : decode cX10_writePlan 22 = .ok (.iaload, 1) := by decide +kernel
theorem dX10_writePlan_23 : decode cX10_writePlan 23 = .ok (.if_icmp .ge 63, 3) := by decide +kernel
theorem dX10_writePlan_26 : decode cX10_writePlan 26 = .ok (.iload_n 1, 1) := by decide +kernel
theorem dX10_writePlan_27 : decode cX10_writePlan 27 = .ok (.ifCond .le 9, 3) := by decide +kernel
theorem dX10_writePlan_30 : decode cX10_writePlan 30 = .ok (.aload_n 0, 1) := by decide +kernel
theorem dX10_writePlan_31 : decode cX10_writePlan 31 = .ok (.bipush 32, 2) := by decide +kernel
theorem dX10_writePlan_33 : decode cX10_writePlan 33 = .ok (.invokevirtual 221, 3) := by decide +kernel
theorem dX10_writePlan_36 : decode cX10_writePlan 36 = .ok (.aload_n 0, 1) := by decide +kernel
theorem dX10_writePlan_37 : decode cX10_writePlan 37 = .ok (.aload_n 0, 1) := by decide +kernel
theorem dX10_writePlan_38 : decode cX10_writePlan 38 = .ok (.iload_n 1, 1) := by decide +kernel
theorem dX10_writePlan_39 : decode cX10_writePlan 39 = .ok (.iconst 0, 1) := by decide +kernel
theorem dX10_writePlan_40 : decode cX10_writePlan 40 = .ok (.invokevirtual 76, 3) := by decide +kernel
theorem dX10_writePlan_43 : decode cX10_writePlan 43 = .ok (.invokevirtual 225, 3) := by decide +kernel
theorem dX10_writePlan_46 : decode cX10_writePlan 46 = .ok (.aload_n 0, 1) := by decide +kernel
theorem dX10_writePlan_47 : decode cX10_writePlan 47 = .ok (.bipush 62, 2) := by decide +kernel
theorem dX10_writePlan_49 : decode cX10_writePlan 49 = .ok (.invokevirtual 221, 3) := by decide +kernel
theorem dX10_writePlan_52 : decode cX10_writePlan 52 = .ok (.aload_n 0, 1) := by decide +kernel
theorem dX10_writePlan_53 : decode cX10_writePlan 53 = .ok (.getfield 25, 3) := by decide +kernel
theorem dX10_writePlan_56 : decode cX10_writePlan 56 = .ok (.iload_n 1, 1) := by decide +kernel
theorem dX10_writePlan_57 : decode cX10_writePlan 57 = .ok (.iaload, 1) := by decide +kernel
theorem dX10_writePlan_58 : decode cX10_writePlan 58 = .ok (.ifCond .ge 12, 3) := by decide +kernel
theorem dX10_writePlan_61 : decode cX10_writePlan 61 = .ok (.aload_n 0, 1) := by decide +kernel
theorem dX10_writePlan_62 : decode cX10_writePlan 62 = .ok (.bipush 45, 2) := by decide +kernel
theorem dX10_writePlan_64 : decode cX10_writePlan 64 = .ok (.invokevirtual 221, 3) := by decide +kernel
theorem dX10_writePlan_67 : decode cX10_writePlan 67 = .ok (.goto 13, 3) := by decide +kernel
theorem dX10_writePlan_70 : decode cX10_writePlan 70 = .ok (.aload_n 0, 1) := by decide +kernel
theorem dX10_writePlan_71 : decode cX10_writePlan 71 = .ok (.aload_n 0, 1) := by decide +kernel
theorem dX10_writePlan_72 : decode cX10_writePlan 72 = .ok (.getfield 25, 3) := by decide +kernel
theorem dX10_writePlan_75 : decode cX10_writePlan 75 = .ok (.iload_n 1, 1) := by decide +kernel
theorem dX10_writePlan_76 : decode cX10_writePlan 76 = .ok (.iaload, 1) := by decide +kernel
theorem dX10_writePlan_77 : decode cX10_writePlan 77 = .ok (.invokevirtual 225, 3) := by decide +kernel
theorem dX10_writePlan_80 : decode cX10_writePlan 80 = .ok (.iinc 1 1, 3) := by decide +kernel
theorem dX10_writePlan_83 : decode cX10_writePlan 83 = .ok (.goto (-67), 3) := by decide +kernel
theorem dX10_writePlan_86 : decode cX10_writePlan 86 = .ok (.aload_n 0, 1) := by decide +kernel
theorem dX10_writePlan_87 : decode cX10_writePlan 87 = .ok (.getfield 218, 3) := by decide +kernel
theorem dX10_writePlan_90 : decode cX10_writePlan 90 = .ok (.ireturn, 1) := by decide +kernel
theorem dX10_charAt_0 : decode cX10_charAt 0 = .ok (.aload_n 0, 1) := by decide +kernel
theorem dX10_charAt_1 : decode cX10_charAt 1 = .ok (.iconst 0, 1) := by decide +kernel
theorem dX10_charAt_2 : decode cX10_charAt 2 = .ok (.putfield 57, 3) := by decide +kernel
theorem dX10_charAt_5 : decode cX10_charAt 5 = .ok (.iload_n 1, 1) := by decide +kernel
theorem dX10_charAt_6 : decode cX10_charAt 6 = .ok (.iconst 0, 1) := by decide +kernel
theorem dX10_charAt_7 : decode cX10_charAt 7 = .ok (.aload_n 0, 1) := by decide +kernel
theorem dX10_charAt_8 : decode cX10_charAt 8 = .ok (.getfield 218, 3) := by decide +kernel
theorem dX10_charAt_11 : decode cX10_charAt 11 = .ok (.iconst 1, 1) := by decide +kernel
theorem dX10_charAt_12 : decode cX10_charAt 12 = .ok (.isub, 1) := by decide +kernel
theorem dX10_charAt_13 : decode cX10_charAt 13 = .ok (.invokestatic 72, 3) := by decide +kernel
theorem dX10_charAt_16 : decode cX10_charAt 16 = .ok (.ifCond .eq 10, 3) := by decide +kernel
theorem dX10_charAt_19 : decode cX10_charAt 19 = .ok (.aload_n 0, 1) := by decide +kernel
theorem dX10_charAt_20 : decode cX10_charAt 20 = .ok (.getfield 40, 3) := by decide +kernel
theorem dX10_charAt_23 : decode cX10_charAt 23 = .ok (.iload_n 1, 1) := by decide +kernel
theorem dX10_charAt_24 : decode cX10_charAt 24 = .ok (.caload, 1) := by decide +kernel
theorem dX10_charAt_25 : decode cX10_charAt 25 = .ok (.ireturn, 1) := by decide +kernel
theorem dX10_charAt_26 : decode cX10_charAt 26 = .ok (.aload_n 0, 1) := by decide +kernel
theorem dX10_charAt_27 : decode cX10_charAt 27 = .ok (.iconst 1, 1) := by decide +kernel
theorem dX10_charAt_28 : decode cX10_charAt 28 = .ok (.invokevirtual 89, 3) := by decide +kernel
theorem dX10_charAt_31 : decode cX10_charAt 31 = .ok (.i2c, 1) := by decide +kernel
theorem dX10_charAt_32 : decode cX10_charAt 32 = .ok (.ireturn, 1) := by decide +kernel
theorem dX10_type_0 : decode cX10_type 0 = .ok (.aload_n 0, 1) := by decide +kernel
theorem dX10_type_1 : decode cX10_type 1 = .ok (.iconst 0, 1) := by decide +kernel
theorem dX10_type_2 : decode cX10_type 2 = .ok (.putfield 57, 3) := by decide +kernel
theorem dX10_type_5 : decode cX10_type 5 = .ok (.aload_n 0, 1) := by decide +kernel
theorem dX10_type_6 : decode cX10_type 6 = .ok (.getfield 228, 3) := by decide +kernel
theorem dX10_type_9 : decode cX10_type 9 = .ok (.bipush 60, 2) := by decide +kernel
theorem dX10_type_11 : decode cX10_type 11 = .ok (.if_icmp .ne 9, 3) := by decide +kernel
theorem dX10_type_14 : decode cX10_type 14 = .ok (.aload_n 0, 1) := by decide +kernel
theorem dX10_type_15 : decode cX10_type 15 = .ok (.iconst 1, 1) := by decide +kernel
theorem dX10_type_16 : decode cX10_type 16 = .ok (.invokevirtual 89, 3) := by decide +kernel
theorem dX10_type_19 : decode cX10_type 19 = .ok (.ireturn, 1) := by decide +kernel
theorem dX10_type_20 : decode cX10_type 20 = .ok (.aload_n 0, 1) := by decide +kernel
theorem dX10_type_21 : decode cX10_type 21 = .ok (.getfield 44, 3) := by decide +kernel
theorem dX10_type_24 : decode cX10_type 24 = .ok (.aload_n 0, 1) := by decide +kernel
theorem dX10_type_25 : decode cX10_type 25 = .ok (.getfield 228, 3) := by decide +kernel
theorem dX10_type_28 : decode cX10_type 28 = .ok (.iload_n 1, 1) := by decide +kernel
theorem dX10_type_29 : decode cX10_type 29 = .ok (.castore, 1) := by decide +kernel
theorem dX10_type_30 : decode cX10_type 30 = .ok (.aload_n 0, 1) := by decide +kernel
theorem dX10_type_31 : decode cX10_type 31 = .ok (.dup, 1) := by decide +kernel
theorem dX10_type_32 : decode cX10_type 32 = .ok (.getfield 228, 3) := by decide +kernel
theorem dX10_type_35 : decode cX10_type 35 = .ok (.iconst 1, 1) := by decide +kernel
theorem dX10_type_36 : decode cX10_type 36 = .ok (.iadd, 1) := by decide +kernel
theorem dX10_type_37 : decode cX10_type 37 = .ok (.putfield 228, 3) := by decide +kernel
theorem dX10_type_40 : decode cX10_type 40 = .ok (.aload_n 0, 1) := by decide +kernel
theorem dX10_type_41 : decode cX10_type 41 = .ok (.getfield 228, 3) := by decide +kernel
theorem dX10_type_44 : decode cX10_type 44 = .ok (.ireturn, 1) := by decide +kernel
theorem dX10_nextChar_0 : decode cX10_nextChar 0 = .ok (.aload_n 0, 1) := by decide +kernel
theorem dX10_nextChar_1 : decode cX10_nextChar 1 = .ok (.getfield 231, 3) := by decide +kernel
theorem dX10_nextChar_4 : decode cX10_nextChar 4 = .ok (.aload_n 0, 1) := by decide +kernel
theorem dX10_nextChar_5 : decode cX10_nextChar 5 = .ok (.getfield 228, 3) := by decide +kernel
theorem dX10_nextChar_8 : decode cX10_nextChar 8 = .ok (.if_icmp .ge 15, 3) := by decide +kernel
theorem dX10_nextChar_11 : decode cX10_nextChar 11 = .ok (.aload_n 0, 1) := by decide +kernel
theorem dX10_nextChar_12 : decode cX10_nextChar 12 = .ok (.getfield 44, 3) := by decide +kernel
theorem dX10_nextChar_15 : decode cX10_nextChar 15 = .ok (.aload_n 0, 1) := by decide +kernel
theorem dX10_nextChar_16 : decode cX10_nextChar 16 = .ok (.getfield 231, 3) := by decide +kernel
theorem dX10_nextChar_19 : decode cX10_nextChar 19 = .ok (.caload, 1) := by decide +kernel
theorem dX10_nextChar_20 : decode cX10_nextChar 20 = .ok (.goto 4, 3) := by decide +kernel
theorem dX10_nextChar_23 : decode cX10_nextChar 23 = .ok (.iconst (-1), 1) := by decide +kernel
theorem dX10_nextChar_24 : decode cX10_nextChar 24 = .ok (.ireturn, 1) := by decide +kernel
theorem dX10_reads_0 : decode cX10_reads 0 = .ok (.aload_n 0, 1) := by decide +kernel
theorem dX10_reads_1 : decode cX10_reads 1 = .ok (.invokevirtual 234, 3) := by decide +kernel
theorem dX10_reads_4 : decode cX10_reads 4 = .ok (.iload_n 1, 1) := by decide +kernel
theorem dX10_reads_5 : decode cX10_reads 5 = .ok (.if_icmp .eq 5, 3) := by decide +kernel
theorem dX10_reads_8 : decode cX10_reads 8 = .ok (.iconst 0, 1) := by decide +kernel
theorem dX10_reads_9 : decode cX10_reads 9 = .ok (.ireturn, 1) := by decide +kernel
theorem dX10_reads_10 : decode cX10_reads 10 = .ok (.aload_n 0, 1) := by decide +kernel
theorem dX10_reads_11 : decode cX10_reads 11 = .ok (.dup, 1) := by decide +kernel
theorem dX10_reads_12 : decode cX10_reads 12 = .ok (.getfield 231, 3) := by decide +kernel
theorem dX10_reads_15 : decode cX10_reads 15 = .ok (.iconst 1, 1) := by decide +kernel
theorem dX10_reads_16 : decode cX10_reads 16 = .ok (.iadd, 1) := by decide +kernel
theorem dX10_reads_17 : decode cX10_reads 17 = .ok (.putfield 231, 3) := by decide +kernel
theorem dX10_reads_20 : decode cX10_reads 20 = .ok (.iconst 1, 1) := by decide +kernel
theorem dX10_reads_21 : decode cX10_reads 21 = .ok (.ireturn, 1) := by decide +kernel
theorem dX10_readsDigit_0 : decode cX10_readsDigit 0 = .ok (.aload_n 0, 1) := by decide +kernel
theorem dX10_readsDigit_1 : decode cX10_readsDigit 1 = .ok (.invokevirtual 234, 3) := by decide +kernel
theorem dX10_readsDigit_4 : decode cX10_readsDigit 4 = .ok (.bipush 48, 2) := by decide +kernel
theorem dX10_readsDigit_6 : decode cX10_readsDigit 6 = .ok (.bipush 57, 2) := by decide +kernel
theorem dX10_readsDigit_8 : decode cX10_readsDigit 8 = .ok (.invokestatic 72, 3) := by decide +kernel
theorem dX10_readsDigit_11 : decode cX10_readsDigit 11 = .ok (.ifCond .ne 5, 3) := by decide +kernel
theorem dX10_readsDigit_14 : decode cX10_readsDigit 14 = .ok (.iconst 0, 1) := by decide +kernel
theorem dX10_readsDigit_15 : decode cX10_readsDigit 15 = .ok (.ireturn, 1) := by decide +kernel
theorem dX10_readsDigit_16 : decode cX10_readsDigit 16 = .ok (.aload_n 0, 1) := by decide +kernel
theorem dX10_readsDigit_17 : decode cX10_readsDigit 17 = .ok (.getfield 54, 3) := by decide +kernel
theorem dX10_readsDigit_20 : decode cX10_readsDigit 20 = .ok (.iload_n 1, 1) := by decide +kernel
theorem dX10_readsDigit_21 : decode cX10_readsDigit 21 = .ok (.aload_n 0, 1) := by decide +kernel
theorem dX10_readsDigit_22 : decode cX10_readsDigit 22 = .ok (.invokevirtual 234, 3) := by decide +kernel
theorem dX10_readsDigit_25 : decode cX10_readsDigit 25 = .ok (.bipush 48, 2) := by decide +kernel
theorem dX10_readsDigit_27 : decode cX10_readsDigit 27 = .ok (.isub, 1) := by decide +kernel
theorem dX10_readsDigit_28 : decode cX10_readsDigit 28 = .ok (.iastore, 1) := by decide +kernel
theorem dX10_readsDigit_29 : decode cX10_readsDigit 29 = .ok (.aload_n 0, 1) := by decide +kernel
theorem dX10_readsDigit_30 : decode cX10_readsDigit 30 = .ok (.dup, 1) := by decide +kernel
theorem dX10_readsDigit_31 : decode cX10_readsDigit 31 = .ok (.getfield 231, 3) := by decide +kernel
theorem dX10_readsDigit_34 : decode cX10_readsDigit 34 = .ok (.iconst 1, 1) := by decide +kernel
theorem dX10_readsDigit_35 : decode cX10_readsDigit 35 = .ok (.iadd, 1) := by decide +kernel
theorem dX10_readsDigit_36 : decode cX10_readsDigit 36 = .ok (.putfield 231, 3) := by decide +kernel
theorem dX10_readsDigit_39 : decode cX10_readsDigit 39 = .ok (.iconst 1, 1) := by decide +kernel
theorem dX10_readsDigit_40 : decode cX10_readsDigit 40 = .ok (.ireturn, 1) := by decide +kernel
theorem dX10_readsNumber_0 : decode cX10_readsNumber 0 = .ok (.aload_n 0, 1) := by decide +kernel
theorem dX10_readsNumber_1 : decode cX10_readsNumber 1 = .ok (.iload_n 1, 1) := by decide +kernel
theorem dX10_readsNumber_2 : decode cX10_readsNumber 2 = .ok (.invokevirtual 237, 3) := by decide +kernel
theorem dX10_readsNumber_5 : decode cX10_readsNumber 5 = .ok (.ifCond .ne 5, 3) := by decide +kernel
theorem dX10_readsNumber_8 : decode cX10_readsNumber 8 = .ok (.iconst 0, 1) := by decide +kernel
theorem dX10_readsNumber_9 : decode cX10_readsNumber 9 = .ok (.ireturn, 1) := by decide +kernel
theorem dX10_readsNumber_10 : decode cX10_readsNumber 10 = .ok (.aload_n 0, 1) := by decide +kernel
theorem dX10_readsNumber_11 : decode cX10_readsNumber 11 = .ok (.invokevirtual 234, 3) := by decide +kernel
theorem dX10_readsNumber_14 : decode cX10_readsNumber 14 = .ok (.bipush 48, 2) := by decide +kernel
theorem dX10_readsNumber_16 : decode cX10_readsNumber 16 = .ok (.bipush 57, 2) := by decide +kernel
theorem dX10_readsNumber_18 : decode cX10_readsNumber 18 = .ok (.invokestatic 72, 3) := by decide +kernel
theorem dX10_readsNumber_21 : decode cX10_readsNumber 21 = .ok (.ifCond .ne 5, 3) := by decide +kernel
theorem dX10_readsNumber_24 : decode cX10_readsNumber 24 = .ok (.iconst 1, 1) := by decide +kernel
theorem dX10_readsNumber_25 : decode cX10_readsNumber 25 = .ok (.ireturn, 1) := by decide +kernel
theorem dX10_readsNumber_26 : decode cX10_readsNumber 26 = .ok (.aload_n 0, 1) := by decide +kernel
theorem dX10_readsNumber_27 : decode cX10_readsNumber 27 = .ok (.getfield 54, 3) := by decide +kernel
theorem dX10_readsNumber_30 : decode cX10_readsNumber 30 = .ok (.iload_n 1, 1) := by decide +kernel
theorem dX10_readsNumber_31 : decode cX10_readsNumber 31 = .ok (.bipush 10, 2) := by decide +kernel
theorem dX10_readsNumber_33 : decode cX10_readsNumber 33 = .ok (.aload_n 0, 1) := by decide +kernel
theorem dX10_readsNumber_34 : decode cX10_readsNumber 34 = .ok (.getfield 54, 3) := by decide +kernel
theorem dX10_readsNumber_37 : decode cX10_readsNumber 37 = .ok (.iload_n 1, 1) := by decide +kernel
theorem dX10_readsNumber_38 : decode cX10_readsNumber 38 = .ok (.iaload, 1) := by decide +kernel
theorem dX10_readsNumber_39 : decode cX10_readsNumber 39 = .ok (.imul, 1) := by decide +kernel
theorem dX10_readsNumber_40 : decode cX10_readsNumber 40 = .ok (.aload_n 0, 1) := by decide +kernel
theorem dX10_readsNumber_41 : decode cX10_readsNumber 41 = .ok (.invokevirtual 234, 3) := by decide +kernel
theorem dX10_readsNumber_44 : decode cX10_readsNumber 44 = .ok (.iadd, 1) := by decide +kernel
theorem dX10_readsNumber_45 : decode cX10_readsNumber 45 = .ok (.bipush 48, 2) := by decide +kernel
theorem dX10_readsNumber_47 : decode cX10_readsNumber 47 = .ok (.isub, 1) := by decide +kernel
theorem dX10_readsNumber_48 : decode cX10_readsNumber 48 = .ok (.iastore, 1) := by decide +kernel
theorem dX10_readsNumber_49 : decode cX10_readsNumber 49 = .ok (.aload_n 0, 1) := by decide +kernel
theorem dX10_readsNumber_50 : decode cX10_readsNumber 50 = .ok (.dup, 1) := by decide +kernel
theorem dX10_readsNumber_51 : decode cX10_readsNumber 51 = .ok (.getfield 231, 3) := by decide +kernel
theorem dX10_readsNumber_54 : decode cX10_readsNumber 54 = .ok (.iconst 1, 1) := by decide +kernel
theorem dX10_readsNumber_55 : decode cX10_readsNumber 55 = .ok (.iadd, 1) := by decide +kernel
theorem dX10_readsNumber_56 : decode cX10_readsNumber 56 = .ok (.putfield 231, 3) := by decide +kernel
theorem dX10_readsNumber_59 : decode cX10_readsNumber 59 = .ok (.iconst 1, 1) := by decide +kernel
theorem dX10_readsNumber_60 : decode cX10_readsNumber 60 = .ok (.ireturn, 1) := by decide +kernel
theorem dX10_readsTenant_0 : decode cX10_readsTenant 0 = .ok (.aload_n 0, 1) := by decide +kernel
theorem dX10_readsTenant_1 : decode cX10_readsTenant 1 = .ok (.bipush 101, 2) := by decide +kernel
theorem dX10_readsTenant_3 : decode cX10_readsTenant 3 = .ok (.invokevirtual 240, 3) := by decide +kernel
theorem dX10_readsTenant_6 : decode cX10_readsTenant 6 = .ok (.ifCond .eq 56, 3) := by decide +kernel
theorem dX10_readsTenant_9 : decode cX10_readsTenant 9 = .ok (.aload_n 0, 1) := by decide +kernel
theorem dX10_readsTenant_10 : decode cX10_readsTenant 10 = .ok (.bipush 110, 2) := by decide +kernel
theorem dX10_readsTenant_12 : decode cX10_readsTenant 12 = .ok (.invokevirtual 240, 3) := by decide +kernel
theorem dX10_readsTenant_15 : decode cX10_readsTenant 15 = .ok (.ifCond .eq 47, 3) := by decide +kernel
theorem dX10_readsTenant_18 : decode cX10_readsTenant 18 = .ok (.aload_n 0, 1) := by decide +kernel
theorem dX10_readsTenant_19 : decode cX10_readsTenant 19 = .ok (.bipush 97, 2) := by decide +kernel
theorem dX10_readsTenant_21 : decode cX10_readsTenant 21 = .ok (.invokevirtual 240, 3) := by decide +kernel
theorem dX10_readsTenant_24 : decode cX10_readsTenant 24 = .ok (.ifCond .eq 38, 3) := by decide +kernel
theorem dX10_readsTenant_27 : decode cX10_readsTenant 27 = .ok (.aload_n 0, 1) := by decide +kernel
theorem dX10_readsTenant_28 : decode cX10_readsTenant 28 = .ok (.bipush 110, 2) := by decide +kernel
theorem dX10_readsTenant_30 : decode cX10_readsTenant 30 = .ok (.invokevirtual 240, 3) := by decide +kernel
theorem dX10_readsTenant_33 : decode cX10_readsTenant 33 = .ok (.ifCond .eq 29, 3) := by decide +kernel
theorem dX10_readsTenant_36 : decode cX10_readsTenant 36 = .ok (.aload_n 0, 1) := by decide +kernel
theorem dX10_readsTenant_37 : decode cX10_readsTenant 37 = .ok (.bipush 116, 2) := by decide +kernel
theorem dX10_readsTenant_39 : decode cX10_readsTenant 39 = .ok (.invokevirtual 240, 3) := by decide +kernel
theorem dX10_readsTenant_42 : decode cX10_readsTenant 42 = .ok (.ifCond .eq 20, 3) := by decide +kernel
theorem dX10_readsTenant_45 : decode cX10_readsTenant 45 = .ok (.aload_n 0, 1) := by decide +kernel
theorem dX10_readsTenant_46 : decode cX10_readsTenant 46 = .ok (.bipush 32, 2) := by decide +kernel
theorem dX10_readsTenant_48 : decode cX10_readsTenant 48 = .ok (.invokevirtual 240, 3) := by decide +kernel
theorem dX10_readsTenant_51 : decode cX10_readsTenant 51 = .ok (.ifCond .eq 11, 3) := by decide +kernel
theorem dX10_readsTenant_54 : decode cX10_readsTenant 54 = .ok (.aload_n 0, 1) := by decide +kernel
theorem dX10_readsTenant_55 : decode cX10_readsTenant 55 = .ok (.iconst 0, 1) := by decide +kernel
theorem dX10_readsTenant_56 : decode cX10_readsTenant 56 = .ok (.invokevirtual 243, 3) := by decide +kernel
theorem dX10_readsTenant_59 : decode cX10_readsTenant 59 = .ok (.ifCond .ne 5, 3) := by decide +kernel
theorem dX10_readsTenant_62 : decode cX10_readsTenant 62 = .ok (.iconst 0, 1) := by decide +kernel
theorem dX10_readsTenant_63 : decode cX10_readsTenant 63 = .ok (.ireturn, 1) := by decide +kernel
theorem dX10_readsTenant_64 : decode cX10_readsTenant 64 = .ok (.aload_n 0, 1) := by decide +kernel
theorem dX10_readsTenant_65 : decode cX10_readsTenant 65 = .ok (.bipush 64, 2) := by decide +kernel
theorem dX10_readsTenant_67 : decode cX10_readsTenant 67 = .ok (.invokevirtual 240, 3) := by decide +kernel
theorem dX10_readsTenant_70 : decode cX10_readsTenant 70 = .ok (.ifCond .eq 49, 3) := by decide +kernel
theorem dX10_readsTenant_73 : decode cX10_readsTenant 73 = .ok (.aload_n 0, 1) := by decide +kernel
theorem dX10_readsTenant_74 : decode cX10_readsTenant 74 = .ok (.iconst 1, 1) := by decide +kernel
theorem dX10_readsTenant_75 : decode cX10_readsTenant 75 = .ok (.invokevirtual 237, 3) := by decide +kernel
theorem dX10_readsTenant_78 : decode cX10_readsTenant 78 = .ok (.ifCond .eq 41, 3) := by decide +kernel
theorem dX10_readsTenant_81 : decode cX10_readsTenant 81 = .ok (.aload_n 0, 1) := by decide +kernel
theorem dX10_readsTenant_82 : decode cX10_readsTenant 82 = .ok (.bipush 43, 2) := by decide +kernel
theorem dX10_readsTenant_84 : decode cX10_readsTenant 84 = .ok (.invokevirtual 240, 3) := by decide +kernel
theorem dX10_readsTenant_87 : decode cX10_readsTenant 87 = .ok (.ifCond .eq 32, 3) := by decide +kernel
theorem dX10_readsTenant_90 : decode cX10_readsTenant 90 = .ok (.aload_n 0, 1) := by decide +kernel
theorem dX10_readsTenant_91 : decode cX10_readsTenant 91 = .ok (.iconst 2, 1) := by decide +kernel
theorem dX10_readsTenant_92 : decode cX10_readsTenant 92 = .ok (.invokevirtual 243, 3) := by decide +kernel
theorem dX10_readsTenant_95 : decode cX10_readsTenant 95 = .ok (.ifCond .eq 24, 3) := by decide +kernel
theorem dX10_readsTenant_98 : decode cX10_readsTenant 98 = .ok (.aload_n 0, 1) := by decide +kernel
theorem dX10_readsTenant_99 : decode cX10_readsTenant 99 = .ok (.bipush 47, 2) := by decide +kernel
theorem dX10_readsTenant_101 : decode cX10_readsTenant 101 = .ok (.invokevirtual 240, 3) := by decide +kernel
theorem dX10_readsTenant_104 : decode cX10_readsTenant 104 = .ok (.ifCond .eq 15, 3) := by decide +kernel
theorem dX10_readsTenant_107 : decode cX10_readsTenant 107 = .ok (.aload_n 0, 1) := by decide +kernel
theorem dX10_readsTenant_108 : decode cX10_readsTenant 108 = .ok (.iconst 3, 1) := by decide +kernel
theorem dX10_readsTenant_109 : decode cX10_readsTenant 109 = .ok (.invokevirtual 243, 3) := by decide +kernel
theorem dX10_readsTenant_112 : decode cX10_readsTenant 112 = .ok (.ifCond .eq 7, 3) := by decide +kernel
theorem dX10_readsTenant_115 : decode cX10_readsTenant 115 = .ok (.iconst 1, 1) := by decide +kernel
theorem dX10_readsTenant_116 : decode cX10_readsTenant 116 = .ok (.goto 4, 3) := by decide +kernel
theorem dX10_readsTenant_119 : decode cX10_readsTenant 119 = .ok (.iconst 0, 1) := by decide +kernel
theorem dX10_readsTenant_120 : decode cX10_readsTenant 120 = .ok (.ireturn, 1) := by decide +kernel
theorem dX10_readsMonth_0 : decode cX10_readsMonth 0 = .ok (.aload_n 0, 1) := by decide +kernel
theorem dX10_readsMonth_1 : decode cX10_readsMonth 1 = .ok (.getfield 54, 3) := by decide +kernel
theorem dX10_readsMonth_4 : decode cX10_readsMonth 4 = .ok (.iconst 0, 1) := by decide +kernel
theorem dX10_readsMonth_5 : decode cX10_readsMonth 5 = .ok (.iconst 1, 1) := by decide +kernel
theorem dX10_readsMonth_6 : decode cX10_readsMonth 6 = .ok (.iastore, 1) := by decide +kernel
theorem dX10_readsMonth_7 : decode cX10_readsMonth 7 = .ok (.aload_n 0, 1) := by decide +kernel
theorem dX10_readsMonth_8 : decode cX10_readsMonth 8 = .ok (.bipush 111, 2) := by decide +kernel
theorem dX10_readsMonth_10 : decode cX10_readsMonth 10 = .ok (.invokevirtual 240, 3) := by decide +kernel
theorem dX10_readsMonth_13 : decode cX10_readsMonth 13 = .ok (.ifCond .eq 30, 3) := by decide +kernel
theorem dX10_readsMonth_16 : decode cX10_readsMonth 16 = .ok (.aload_n 0, 1) := by decide +kernel
theorem dX10_readsMonth_17 : decode cX10_readsMonth 17 = .ok (.bipush 110, 2) := by decide +kernel
theorem dX10_readsMonth_19 : decode cX10_readsMonth 19 = .ok (.invokevirtual 240, 3) := by decide +kernel
theorem dX10_readsMonth_22 : decode cX10_readsMonth 22 = .ok (.ifCond .eq 21, 3) := by decide +kernel
theorem dX10_readsMonth_25 : decode cX10_readsMonth 25 = .ok (.aload_n 0, 1) := by decide +kernel
theorem dX10_readsMonth_26 : decode cX10_readsMonth 26 = .ok (.bipush 116, 2) := by decide +kernel
theorem dX10_readsMonth_28 : decode cX10_readsMonth 28 = .ok (.invokevirtual 240, 3) := by decide +kernel
theorem dX10_readsMonth_31 : decode cX10_readsMonth 31 = .ok (.ifCond .eq 12, 3) := by decide +kernel
theorem dX10_readsMonth_34 : decode cX10_readsMonth 34 = .ok (.aload_n 0, 1) := by decide +kernel
theorem dX10_readsMonth_35 : decode cX10_readsMonth 35 = .ok (.bipush 104, 2) := by decide +kernel
theorem dX10_readsMonth_37 : decode cX10_readsMonth 37 = .ok (.invokevirtual 240, 3) := by decide +kernel
theorem dX10_readsMonth_40 : decode cX10_readsMonth 40 = .ok (.ifCond .ne 5, 3) := by decide +kernel
theorem dX10_readsMonth_43 : decode cX10_readsMonth 43 = .ok (.iconst 0, 1) := by decide +kernel
theorem dX10_readsMonth_44 : decode cX10_readsMonth 44 = .ok (.ireturn, 1) := by decide +kernel
theorem dX10_readsMonth_45 : decode cX10_readsMonth 45 = .ok (.aload_n 0, 1) := by decide +kernel
theorem dX10_readsMonth_46 : decode cX10_readsMonth 46 = .ok (.bipush 32, 2) := by decide +kernel
theorem dX10_readsMonth_48 : decode cX10_readsMonth 48 = .ok (.invokevirtual 240, 3) := by decide +kernel
theorem dX10_readsMonth_51 : decode cX10_readsMonth 51 = .ok (.ifCond .eq 11, 3) := by decide +kernel
theorem dX10_readsMonth_54 : decode cX10_readsMonth 54 = .ok (.aload_n 0, 1) := by decide +kernel
theorem dX10_readsMonth_55 : decode cX10_readsMonth 55 = .ok (.iconst 0, 1) := by decide +kernel
theorem dX10_readsMonth_56 : decode cX10_readsMonth 56 = .ok (.invokevirtual 243, 3) := by decide +kernel
theorem dX10_readsMonth_59 : decode cX10_readsMonth 59 = .ok (.ifCond .eq 7, 3) := by decide +kernel
theorem dX10_readsMonth_62 : decode cX10_readsMonth 62 = .ok (.iconst 1, 1) := by decide +kernel
theorem dX10_readsMonth_63 : decode cX10_readsMonth 63 = .ok (.goto 4, 3) := by decide +kernel
theorem dX10_readsMonth_66 : decode cX10_readsMonth 66 = .ok (.iconst 0, 1) := by decide +kernel
theorem dX10_readsMonth_67 : decode cX10_readsMonth 67 = .ok (.ireturn, 1) := by decide +kernel
theorem dX10_readsCommand_0 : decode cX10_readsCommand 0 = .ok (.aload_n 0, 1) := by decide +kernel
theorem dX10_readsCommand_1 : decode cX10_readsCommand 1 = .ok (.aload_n 0, 1) := by decide +kernel
theorem dX10_readsCommand_2 : decode cX10_readsCommand 2 = .ok (.invokevirtual 234, 3) := by decide +kernel
theorem dX10_readsCommand_5 : decode cX10_readsCommand 5 = .ok (.putfield 246, 3) := by decide +kernel
theorem dX10_readsCommand_8 : decode cX10_readsCommand 8 = .ok (.aload_n 0, 1) := by decide +kernel
theorem dX10_readsCommand_9 : decode cX10_readsCommand 9 = .ok (.bipush 102, 2) := by decide +kernel
theorem dX10_readsCommand_11 : decode cX10_readsCommand 11 = .ok (.invokevirtual 240, 3) := by decide +kernel
theorem dX10_readsCommand_14 : decode cX10_readsCommand 14 = .ok (.ifCond .eq 70, 3) := by decide +kernel
theorem dX10_readsCommand_17 : decode cX10_readsCommand 17 = .ok (.aload_n 0, 1) := by decide +kernel
theorem dX10_readsCommand_18 : decode cX10_readsCommand 18 = .ok (.bipush 108, 2) := by decide +kernel
theorem dX10_readsCommand_20 : decode cX10_readsCommand 20 = .ok (.invokevirtual 240, 3) := by decide +kernel
theorem dX10_readsCommand_23 : decode cX10_readsCommand 23 = .ok (.ifCond .eq 59, 3) := by decide +kernel
theorem dX10_readsCommand_26 : decode cX10_readsCommand 26 = .ok (.aload_n 0, 1) := by decide +kernel
theorem dX10_readsCommand_27 : decode cX10_readsCommand 27 = .ok (.bipush 97, 2) := by decide +kernel
theorem dX10_readsCommand_29 : decode cX10_readsCommand 29 = .ok (.invokevirtual 240, 3) := by decide +kernel
theorem dX10_readsCommand_32 : decode cX10_readsCommand 32 = .ok (.ifCond .eq 50, 3) := by decide +kernel
theorem dX10_readsCommand_35 : decode cX10_readsCommand 35 = .ok (.aload_n 0, 1) := by decide +kernel
theorem dX10_readsCommand_36 : decode cX10_readsCommand 36 = .ok (.bipush 116, 2) := by decide +kernel
theorem dX10_readsCommand_38 : decode cX10_readsCommand 38 = .ok (.invokevirtual 240, 3) := by decide +kernel
theorem dX10_readsCommand_41 : decode cX10_readsCommand 41 = .ok (.ifCond .eq 41, 3) := by decide +kernel
theorem dX10_readsCommand_44 : decode cX10_readsCommand 44 = .ok (.aload_n 0, 1) := by decide +kernel
theorem dX10_readsCommand_45 : decode cX10_readsCommand 45 = .ok (.bipush 32, 2) := by decide +kernel
theorem dX10_readsCommand_47 : decode cX10_readsCommand 47 = .ok (.invokevirtual 240, 3) := by decide +kernel
theorem dX10_readsCommand_50 : decode cX10_readsCommand 50 = .ok (.ifCond .eq 32, 3) := by decide +kernel
theorem dX10_readsCommand_53 : decode cX10_readsCommand 53 = .ok (.aload_n 0, 1) := by decide +kernel
theorem dX10_readsCommand_54 : decode cX10_readsCommand 54 = .ok (.iconst 0, 1) := by decide +kernel
theorem dX10_readsCommand_55 : decode cX10_readsCommand 55 = .ok (.invokevirtual 237, 3) := by decide +kernel
theorem dX10_readsCommand_58 : decode cX10_readsCommand 58 = .ok (.ifCond .eq 24, 3) := by decide +kernel
theorem dX10_readsCommand_61 : decode cX10_readsCommand 61 = .ok (.aload_n 0, 1) := by decide +kernel
theorem dX10_readsCommand_62 : decode cX10_readsCommand 62 = .ok (.bipush 61, 2) := by decide +kernel
theorem dX10_readsCommand_64 : decode cX10_readsCommand 64 = .ok (.invokevirtual 240, 3) := by decide +kernel
theorem dX10_readsCommand_67 : decode cX10_readsCommand 67 = .ok (.ifCond .eq 15, 3) := by decide +kernel
theorem dX10_readsCommand_70 : decode cX10_readsCommand 70 = .ok (.aload_n 0, 1) := by decide +kernel
theorem dX10_readsCommand_71 : decode cX10_readsCommand 71 = .ok (.iconst 1, 1) := by decide +kernel
theorem dX10_readsCommand_72 : decode cX10_readsCommand 72 = .ok (.invokevirtual 243, 3) := by decide +kernel
theorem dX10_readsCommand_75 : decode cX10_readsCommand 75 = .ok (.ifCond .eq 7, 3) := by decide +kernel
theorem dX10_readsCommand_78 : decode cX10_readsCommand 78 = .ok (.iconst 1, 1) := by decide +kernel
theorem dX10_readsCommand_79 : decode cX10_readsCommand 79 = .ok (.goto 4, 3) := by decide +kernel
theorem dX10_readsCommand_82 : decode cX10_readsCommand 82 = .ok (.iconst 0, 1) := by decide +kernel
theorem dX10_readsCommand_83 : decode cX10_readsCommand 83 = .ok (.ireturn, 1) := by decide +kernel
theorem dX10_readsCommand_84 : decode cX10_readsCommand 84 = .ok (.aload_n 0, 1) := by decide +kernel
theorem dX10_readsCommand_85 : decode cX10_readsCommand 85 = .ok (.bipush 116, 2) := by decide +kernel
theorem dX10_readsCommand_87 : decode cX10_readsCommand 87 = .ok (.invokevirtual 240, 3) := by decide +kernel
theorem dX10_readsCommand_90 : decode cX10_readsCommand 90 = .ok (.ifCond .eq 8, 3) := by decide +kernel
theorem dX10_readsCommand_93 : decode cX10_readsCommand 93 = .ok (.aload_n 0, 1) := by decide +kernel
theorem dX10_readsCommand_94 : decode cX10_readsCommand 94 = .ok (.invokevirtual 249, 3) := by decide +kernel
theorem dX10_readsCommand_97 : decode cX10_readsCommand 97 = .ok (.ireturn, 1) := by decide +kernel
theorem dX10_readsCommand_98 : decode cX10_readsCommand 98 = .ok (.aload_n 0, 1) := by decide +kernel
theorem dX10_readsCommand_99 : decode cX10_readsCommand 99 = .ok (.bipush 105, 2) := by decide +kernel
theorem dX10_readsCommand_101 : decode cX10_readsCommand 101 = .ok (.invokevirtual 240, 3) := by decide +kernel
theorem dX10_readsCommand_104 : decode cX10_readsCommand 104 = .ok (.ifCond .eq 52, 3) := by decide +kernel
theorem dX10_readsCommand_107 : decode cX10_readsCommand 107 = .ok (.aload_n 0, 1) := by decide +kernel
theorem dX10_readsCommand_108 : decode cX10_readsCommand 108 = .ok (.bipush 110, 2) := by decide +kernel
theorem dX10_readsCommand_110 : decode cX10_readsCommand 110 = .ok (.invokevirtual 240, 3) := by decide +kernel
theorem dX10_readsCommand_113 : decode cX10_readsCommand 113 = .ok (.ifCond .eq 41, 3) := by decide +kernel
theorem dX10_readsCommand_116 : decode cX10_readsCommand 116 = .ok (.aload_n 0, 1) := by decide +kernel
theorem dX10_readsCommand_117 : decode cX10_readsCommand 117 = .ok (.bipush 32, 2) := by decide +kernel
theorem dX10_readsCommand_119 : decode cX10_readsCommand 119 = .ok (.invokevirtual 240, 3) := by decide +kernel
theorem dX10_readsCommand_122 : decode cX10_readsCommand 122 = .ok (.ifCond .eq 32, 3) := by decide +kernel
theorem dX10_readsCommand_125 : decode cX10_readsCommand 125 = .ok (.aload_n 0, 1) := by decide +kernel
theorem dX10_readsCommand_126 : decode cX10_readsCommand 126 = .ok (.iconst 0, 1) := by decide +kernel
theorem dX10_readsCommand_127 : decode cX10_readsCommand 127 = .ok (.invokevirtual 243, 3) := by decide +kernel
theorem dX10_readsCommand_130 : decode cX10_readsCommand 130 = .ok (.ifCond .eq 24, 3) := by decide +kernel
theorem dX10_readsCommand_133 : decode cX10_readsCommand 133 = .ok (.aload_n 0, 1) := by decide +kernel
theorem dX10_readsCommand_134 : decode cX10_readsCommand 134 = .ok (.bipush 62, 2) := by decide +kernel
theorem dX10_readsCommand_136 : decode cX10_readsCommand 136 = .ok (.invokevirtual 240, 3) := by decide +kernel
theorem dX10_readsCommand_139 : decode cX10_readsCommand 139 = .ok (.ifCond .eq 15, 3) := by decide +kernel
theorem dX10_readsCommand_142 : decode cX10_readsCommand 142 = .ok (.aload_n 0, 1) := by decide +kernel
theorem dX10_readsCommand_143 : decode cX10_readsCommand 143 = .ok (.iconst 1, 1) := by decide +kernel
theorem dX10_readsCommand_144 : decode cX10_readsCommand 144 = .ok (.invokevirtual 237, 3) := by decide +kernel
theorem dX10_readsCommand_147 : decode cX10_readsCommand 147 = .ok (.ifCond .eq 7, 3) := by decide +kernel
theorem dX10_readsCommand_150 : decode cX10_readsCommand 150 = .ok (.iconst 1, 1) := by decide +kernel
theorem dX10_readsCommand_151 : decode cX10_readsCommand 151 = .ok (.goto 4, 3) := by decide +kernel
theorem dX10_readsCommand_154 : decode cX10_readsCommand 154 = .ok (.iconst 0, 1) := by decide +kernel
theorem dX10_readsCommand_155 : decode cX10_readsCommand 155 = .ok (.ireturn, 1) := by decide +kernel
theorem dX10_readsCommand_156 : decode cX10_readsCommand 156 = .ok (.aload_n 0, 1) := by decide +kernel
theorem dX10_readsCommand_157 : decode cX10_readsCommand 157 = .ok (.bipush 111, 2) := by decide +kernel
theorem dX10_readsCommand_159 : decode cX10_readsCommand 159 = .ok (.invokevirtual 240, 3) := by decide +kernel
theorem dX10_readsCommand_162 : decode cX10_readsCommand 162 = .ok (.ifCond .eq 44, 3) := by decide +kernel
theorem dX10_readsCommand_165 : decode cX10_readsCommand 165 = .ok (.aload_n 0, 1) := by decide +kernel
theorem dX10_readsCommand_166 : decode cX10_readsCommand 166 = .ok (.bipush 117, 2) := by decide +kernel
theorem dX10_readsCommand_168 : decode cX10_readsCommand 168 = .ok (.invokevirtual 240, 3) := by decide +kernel
theorem dX10_readsCommand_171 : decode cX10_readsCommand 171 = .ok (.ifCond .eq 33, 3) := by decide +kernel
theorem dX10_readsCommand_174 : decode cX10_readsCommand 174 = .ok (.aload_n 0, 1) := by decide +kernel
theorem dX10_readsCommand_175 : decode cX10_readsCommand 175 = .ok (.bipush 116, 2) := by decide +kernel
theorem dX10_readsCommand_177 : decode cX10_readsCommand 177 = .ok (.invokevirtual 240, 3) := by decide +kernel
theorem dX10_readsCommand_180 : decode cX10_readsCommand 180 = .ok (.ifCond .eq 24, 3) := by decide +kernel
theorem dX10_readsCommand_183 : decode cX10_readsCommand 183 = .ok (.aload_n 0, 1) := by decide +kernel
theorem dX10_readsCommand_184 : decode cX10_readsCommand 184 = .ok (.bipush 32, 2) := by decide +kernel
theorem dX10_readsCommand_186 : decode cX10_readsCommand 186 = .ok (.invokevirtual 240, 3) := by decide +kernel
theorem dX10_readsCommand_189 : decode cX10_readsCommand 189 = .ok (.ifCond .eq 15, 3) := by decide +kernel
theorem dX10_readsCommand_192 : decode cX10_readsCommand 192 = .ok (.aload_n 0, 1) := by decide +kernel
theorem dX10_readsCommand_193 : decode cX10_readsCommand 193 = .ok (.iconst 0, 1) := by decide +kernel
theorem dX10_readsCommand_194 : decode cX10_readsCommand 194 = .ok (.invokevirtual 243, 3) := by decide +kernel
theorem dX10_readsCommand_197 : decode cX10_readsCommand 197 = .ok (.ifCond .eq 7, 3) := by decide +kernel
theorem dX10_readsCommand_200 : decode cX10_readsCommand 200 = .ok (.iconst 1, 1) := by decide +kernel
theorem dX10_readsCommand_201 : decode cX10_readsCommand 201 = .ok (.goto 4, 3) := by decide +kernel
theorem dX10_readsCommand_204 : decode cX10_readsCommand 204 = .ok (.iconst 0, 1) := by decide +kernel
theorem dX10_readsCommand_205 : decode cX10_readsCommand 205 = .ok (.ireturn, 1) := by decide +kernel
theorem dX10_readsCommand_206 : decode cX10_readsCommand 206 = .ok (.aload_n 0, 1) := by decide +kernel
theorem dX10_readsCommand_207 : decode cX10_readsCommand 207 = .ok (.bipush 114, 2) := by decide +kernel
theorem dX10_readsCommand_209 : decode cX10_readsCommand 209 = .ok (.invokevirtual 240, 3) := by decide +kernel
theorem dX10_readsCommand_212 : decode cX10_readsCommand 212 = .ok (.ifCond .eq 70, 3) := by decide +kernel
theorem dX10_readsCommand_215 : decode cX10_readsCommand 215 = .ok (.aload_n 0, 1) := by decide +kernel
theorem dX10_readsCommand_216 : decode cX10_readsCommand 216 = .ok (.bipush 101, 2) := by decide +kernel
theorem dX10_readsCommand_218 : decode cX10_readsCommand 218 = .ok (.invokevirtual 240, 3) := by decide +kernel
theorem dX10_readsCommand_221 : decode cX10_readsCommand 221 = .ok (.ifCond .eq 59, 3) := by decide +kernel
theorem dX10_readsCommand_224 : decode cX10_readsCommand 224 = .ok (.aload_n 0, 1) := by decide +kernel
theorem dX10_readsCommand_225 : decode cX10_readsCommand 225 = .ok (.bipush 110, 2) := by decide +kernel
theorem dX10_readsCommand_227 : decode cX10_readsCommand 227 = .ok (.invokevirtual 240, 3) := by decide +kernel
theorem dX10_readsCommand_230 : decode cX10_readsCommand 230 = .ok (.ifCond .eq 50, 3) := by decide +kernel
theorem dX10_readsCommand_233 : decode cX10_readsCommand 233 = .ok (.aload_n 0, 1) := by decide +kernel
theorem dX10_readsCommand_234 : decode cX10_readsCommand 234 = .ok (.bipush 116, 2) := by decide +kernel
theorem dX10_readsCommand_236 : decode cX10_readsCommand 236 = .ok (.invokevirtual 240, 3) := by decide +kernel
theorem dX10_readsCommand_239 : decode cX10_readsCommand 239 = .ok (.ifCond .eq 41, 3) := by decide +kernel
theorem dX10_readsCommand_242 : decode cX10_readsCommand 242 = .ok (.aload_n 0, 1) := by decide +kernel
theorem dX10_readsCommand_243 : decode cX10_readsCommand 243 = .ok (.bipush 32, 2) := by decide +kernel
theorem dX10_readsCommand_245 : decode cX10_readsCommand 245 = .ok (.invokevirtual 240, 3) := by decide +kernel
theorem dX10_readsCommand_248 : decode cX10_readsCommand 248 = .ok (.ifCond .eq 32, 3) := by decide +kernel
theorem dX10_readsCommand_251 : decode cX10_readsCommand 251 = .ok (.aload_n 0, 1) := by decide +kernel
theorem dX10_readsCommand_252 : decode cX10_readsCommand 252 = .ok (.iconst 0, 1) := by decide +kernel
theorem dX10_readsCommand_253 : decode cX10_readsCommand 253 = .ok (.invokevirtual 237, 3) := by decide +kernel
theorem dX10_readsCommand_256 : decode cX10_readsCommand 256 = .ok (.ifCond .eq 24, 3) := by decide +kernel
theorem dX10_readsCommand_259 : decode cX10_readsCommand 259 = .ok (.aload_n 0, 1) := by decide +kernel
theorem dX10_readsCommand_260 : decode cX10_readsCommand 260 = .ok (.bipush 61, 2) := by decide +kernel
theorem dX10_readsCommand_262 : decode cX10_readsCommand 262 = .ok (.invokevirtual 240, 3) := by decide +kernel
theorem dX10_readsCommand_265 : decode cX10_readsCommand 265 = .ok (.ifCond .eq 15, 3) := by decide +kernel
theorem dX10_readsCommand_268 : decode cX10_readsCommand 268 = .ok (.aload_n 0, 1) := by decide +kernel
theorem dX10_readsCommand_269 : decode cX10_readsCommand 269 = .ok (.iconst 1, 1) := by decide +kernel
theorem dX10_readsCommand_270 : decode cX10_readsCommand 270 = .ok (.invokevirtual 243, 3) := by decide +kernel
theorem dX10_readsCommand_273 : decode cX10_readsCommand 273 = .ok (.ifCond .eq 7, 3) := by decide +kernel
theorem dX10_readsCommand_276 : decode cX10_readsCommand 276 = .ok (.iconst 1, 1) := by decide +kernel
theorem dX10_readsCommand_277 : decode cX10_readsCommand 277 = .ok (.goto 4, 3) := by decide +kernel
theorem dX10_readsCommand_280 : decode cX10_readsCommand 280 = .ok (.iconst 0, 1) := by decide +kernel
theorem dX10_readsCommand_281 : decode cX10_readsCommand 281 = .ok (.ireturn, 1) := by decide +kernel
theorem dX10_readsCommand_282 : decode cX10_readsCommand 282 = .ok (.aload_n 0, 1) := by decide +kernel
theorem dX10_readsCommand_283 : decode cX10_readsCommand 283 = .ok (.bipush 103, 2) := by decide +kernel
theorem dX10_readsCommand_285 : decode cX10_readsCommand 285 = .ok (.invokevirtual 240, 3) := by decide +kernel
theorem dX10_readsCommand_288 : decode cX10_readsCommand 288 = .ok (.ifCond .eq 70, 3) := by decide +kernel
theorem dX10_readsCommand_291 : decode cX10_readsCommand 291 = .ok (.aload_n 0, 1) := by decide +kernel
theorem dX10_readsCommand_292 : decode cX10_readsCommand 292 = .ok (.bipush 105, 2) := by decide +kernel
theorem dX10_readsCommand_294 : decode cX10_readsCommand 294 = .ok (.invokevirtual 240, 3) := by decide +kernel
theorem dX10_readsCommand_297 : decode cX10_readsCommand 297 = .ok (.ifCond .eq 59, 3) := by decide +kernel
theorem dX10_readsCommand_300 : decode cX10_readsCommand 300 = .ok (.aload_n 0, 1) := by decide +kernel
theorem dX10_readsCommand_301 : decode cX10_readsCommand 301 = .ok (.bipush 102, 2) := by decide +kernel
theorem dX10_readsCommand_303 : decode cX10_readsCommand 303 = .ok (.invokevirtual 240, 3) := by decide +kernel
theorem dX10_readsCommand_306 : decode cX10_readsCommand 306 = .ok (.ifCond .eq 50, 3) := by decide +kernel
theorem dX10_readsCommand_309 : decode cX10_readsCommand 309 = .ok (.aload_n 0, 1) := by decide +kernel
theorem dX10_readsCommand_310 : decode cX10_readsCommand 310 = .ok (.bipush 116, 2) := by decide +kernel
theorem dX10_readsCommand_312 : decode cX10_readsCommand 312 = .ok (.invokevirtual 240, 3) := by decide +kernel
theorem dX10_readsCommand_315 : decode cX10_readsCommand 315 = .ok (.ifCond .eq 41, 3) := by decide +kernel
theorem dX10_readsCommand_318 : decode cX10_readsCommand 318 = .ok (.aload_n 0, 1) := by decide +kernel
theorem dX10_readsCommand_319 : decode cX10_readsCommand 319 = .ok (.bipush 32, 2) := by decide +kernel
theorem dX10_readsCommand_321 : decode cX10_readsCommand 321 = .ok (.invokevirtual 240, 3) := by decide +kernel
theorem dX10_readsCommand_324 : decode cX10_readsCommand 324 = .ok (.ifCond .eq 32, 3) := by decide +kernel
theorem dX10_readsCommand_327 : decode cX10_readsCommand 327 = .ok (.aload_n 0, 1) := by decide +kernel
theorem dX10_readsCommand_328 : decode cX10_readsCommand 328 = .ok (.iconst 0, 1) := by decide +kernel
theorem dX10_readsCommand_329 : decode cX10_readsCommand 329 = .ok (.invokevirtual 243, 3) := by decide +kernel
theorem dX10_readsCommand_332 : decode cX10_readsCommand 332 = .ok (.ifCond .eq 24, 3) := by decide +kernel
theorem dX10_readsCommand_335 : decode cX10_readsCommand 335 = .ok (.aload_n 0, 1) := by decide +kernel
theorem dX10_readsCommand_336 : decode cX10_readsCommand 336 = .ok (.bipush 43, 2) := by decide +kernel
theorem dX10_readsCommand_338 : decode cX10_readsCommand 338 = .ok (.invokevirtual 240, 3) := by decide +kernel
theorem dX10_readsCommand_341 : decode cX10_readsCommand 341 = .ok (.ifCond .eq 15, 3) := by decide +kernel
theorem dX10_readsCommand_344 : decode cX10_readsCommand 344 = .ok (.aload_n 0, 1) := by decide +kernel
theorem dX10_readsCommand_345 : decode cX10_readsCommand 345 = .ok (.iconst 1, 1) := by decide +kernel
theorem dX10_readsCommand_346 : decode cX10_readsCommand 346 = .ok (.invokevirtual 243, 3) := by decide +kernel
theorem dX10_readsCommand_349 : decode cX10_readsCommand 349 = .ok (.ifCond .eq 7, 3) := by decide +kernel
theorem dX10_readsCommand_352 : decode cX10_readsCommand 352 = .ok (.iconst 1, 1) := by decide +kernel
theorem dX10_readsCommand_353 : decode cX10_readsCommand 353 = .ok (.goto 4, 3) := by decide +kernel
theorem dX10_readsCommand_356 : decode cX10_readsCommand 356 = .ok (.iconst 0, 1) := by decide +kernel
theorem dX10_readsCommand_357 : decode cX10_readsCommand 357 = .ok (.ireturn, 1) := by decide +kernel
theorem dX10_readsCommand_358 : decode cX10_readsCommand 358 = .ok (.aload_n 0, 1) := by decide +kernel
theorem dX10_readsCommand_359 : decode cX10_readsCommand 359 = .ok (.bipush 115, 2) := by decide +kernel
theorem dX10_readsCommand_361 : decode cX10_readsCommand 361 = .ok (.invokevirtual 240, 3) := by decide +kernel
theorem dX10_readsCommand_364 : decode cX10_readsCommand 364 = .ok (.ifCond .eq 54, 3) := by decide +kernel
theorem dX10_readsCommand_367 : decode cX10_readsCommand 367 = .ok (.aload_n 0, 1) := by decide +kernel
theorem dX10_readsCommand_368 : decode cX10_readsCommand 368 = .ok (.bipush 101, 2) := by decide +kernel
theorem dX10_readsCommand_370 : decode cX10_readsCommand 370 = .ok (.invokevirtual 240, 3) := by decide +kernel
theorem dX10_readsCommand_373 : decode cX10_readsCommand 373 = .ok (.ifCond .eq 43, 3) := by decide +kernel
theorem dX10_readsCommand_376 : decode cX10_readsCommand 376 = .ok (.aload_n 0, 1) := by decide +kernel
theorem dX10_readsCommand_377 : decode cX10_readsCommand 377 = .ok (.bipush 116, 2) := by decide +kernel
theorem dX10_readsCommand_379 : decode cX10_readsCommand 379 = .ok (.invokevirtual 240, 3) := by decide +kernel
theorem dX10_readsCommand_382 : decode cX10_readsCommand 382 = .ok (.ifCond .eq 34, 3) := by decide +kernel
theorem dX10_readsCommand_385 : decode cX10_readsCommand 385 = .ok (.aload_n 0, 1) := by decide +kernel
theorem dX10_readsCommand_386 : decode cX10_readsCommand 386 = .ok (.bipush 116, 2) := by decide +kernel
theorem dX10_readsCommand_388 : decode cX10_readsCommand 388 = .ok (.invokevirtual 240, 3) := by decide +kernel
theorem dX10_readsCommand_391 : decode cX10_readsCommand 391 = .ok (.ifCond .eq 25, 3) := by decide +kernel
theorem dX10_readsCommand_394 : decode cX10_readsCommand 394 = .ok (.aload_n 0, 1) := by decide +kernel
theorem dX10_readsCommand_395 : decode cX10_readsCommand 395 = .ok (.bipush 108, 2) := by decide +kernel
theorem dX10_readsCommand_397 : decode cX10_readsCommand 397 = .ok (.invokevirtual 240, 3) := by decide +kernel
theorem dX10_readsCommand_400 : decode cX10_readsCommand 400 = .ok (.ifCond .eq 16, 3) := by decide +kernel
theorem dX10_readsCommand_403 : decode cX10_readsCommand 403 = .ok (.aload_n 0, 1) := by decide +kernel
theorem dX10_readsCommand_404 : decode cX10_readsCommand 404 = .ok (.bipush 101, 2) := by decide +kernel
theorem dX10_readsCommand_406 : decode cX10_readsCommand 406 = .ok (.invokevirtual 240, 3) := by decide +kernel
theorem dX10_readsCommand_409 : decode cX10_readsCommand 409 = .ok (.ifCond .eq 7, 3) := by decide +kernel
theorem dX10_readsCommand_412 : decode cX10_readsCommand 412 = .ok (.iconst 1, 1) := by decide +kernel
theorem dX10_readsCommand_413 : decode cX10_readsCommand 413 = .ok (.goto 4, 3) := by decide +kernel
theorem dX10_readsCommand_416 : decode cX10_readsCommand 416 = .ok (.iconst 0, 1) := by decide +kernel
theorem dX10_readsCommand_417 : decode cX10_readsCommand 417 = .ok (.ireturn, 1) := by decide +kernel
theorem dX10_readsCommand_418 : decode cX10_readsCommand 418 = .ok (.aload_n 0, 1) := by decide +kernel
theorem dX10_readsCommand_419 : decode cX10_readsCommand 419 = .ok (.bipush 109, 2) := by decide +kernel
theorem dX10_readsCommand_421 : decode cX10_readsCommand 421 = .ok (.invokevirtual 240, 3) := by decide +kernel
theorem dX10_readsCommand_424 : decode cX10_readsCommand 424 = .ok (.ifCond .eq 14, 3) := by decide +kernel
theorem dX10_readsCommand_427 : decode cX10_readsCommand 427 = .ok (.aload_n 0, 1) := by decide +kernel
theorem dX10_readsCommand_428 : decode cX10_readsCommand 428 = .ok (.invokevirtual 252, 3) := by decide +kernel
theorem dX10_readsCommand_431 : decode cX10_readsCommand 431 = .ok (.ifCond .eq 7, 3) := by decide +kernel
theorem dX10_readsCommand_434 : decode cX10_readsCommand 434 = .ok (.iconst 1, 1) := by decide +kernel
theorem dX10_readsCommand_435 : decode cX10_readsCommand 435 = .ok (.goto 4, 3) := by decide +kernel
theorem dX10_readsCommand_438 : decode cX10_readsCommand 438 = .ok (.iconst 0, 1) := by decide +kernel
theorem dX10_readsCommand_439 : decode cX10_readsCommand 439 = .ok (.ireturn, 1) := by decide +kernel
theorem dX10_readsAll_0 : decode cX10_readsAll 0 = .ok (.aload_n 0, 1) := by decide +kernel
theorem dX10_readsAll_1 : decode cX10_readsAll 1 = .ok (.iconst 0, 1) := by decide +kernel
theorem dX10_readsAll_2 : decode cX10_readsAll 2 = .ok (.putfield 231, 3) := by decide +kernel
theorem dX10_readsAll_5 : decode cX10_readsAll 5 = .ok (.iconst 1, 1) := by decide +kernel
theorem dX10_readsAll_6 : decode cX10_readsAll 6 = .ok (.istore_n 1, 1) := by decide +kernel
theorem dX10_readsAll_7 : decode cX10_readsAll 7 = .ok (.iload_n 1, 1) := by decide +kernel
theorem dX10_readsAll_8 : decode cX10_readsAll 8 = .ok (.ifCond .eq 22, 3) := by decide +kernel
theorem dX10_readsAll_11 : decode cX10_readsAll 11 = .ok (.aload_n 0, 1) := by decide +kernel
theorem dX10_readsAll_12 : decode cX10_readsAll 12 = .ok (.invokevirtual 255, 3) := by decide +kernel
theorem dX10_readsAll_15 : decode cX10_readsAll 15 = .ok (.ifCond .ne 5, 3) := by decide +kernel
theorem dX10_readsAll_18 : decode cX10_readsAll 18 = .ok (.iconst 0, 1) := by decide +kernel
theorem dX10_readsAll_19 : decode cX10_readsAll 19 = .ok (.ireturn, 1) := by decide +kernel
theorem dX10_readsAll_20 : decode cX10_readsAll 20 = .ok (.aload_n 0, 1) := by decide +kernel
theorem dX10_readsAll_21 : decode cX10_readsAll 21 = .ok (.bipush 59, 2) := by decide +kernel
theorem dX10_readsAll_23 : decode cX10_readsAll 23 = .ok (.invokevirtual 240, 3) := by decide +kernel
theorem dX10_readsAll_26 : decode cX10_readsAll 26 = .ok (.istore_n 1, 1) := by decide +kernel
theorem dX10_readsAll_27 : decode cX10_readsAll 27 = .ok (.goto (-20), 3) := by decide +kernel
theorem dX10_readsAll_30 : decode cX10_readsAll 30 = .ok (.aload_n 0, 1) := by decide +kernel
theorem dX10_readsAll_31 : decode cX10_readsAll 31 = .ok (.getfield 231, 3) := by decide +kernel
theorem dX10_readsAll_34 : decode cX10_readsAll 34 = .ok (.aload_n 0, 1) := by decide +kernel
theorem dX10_readsAll_35 : decode cX10_readsAll 35 = .ok (.getfield 228, 3) := by decide +kernel
theorem dX10_readsAll_38 : decode cX10_readsAll 38 = .ok (.if_icmp .ne 7, 3) := by decide +kernel
theorem dX10_readsAll_41 : decode cX10_readsAll 41 = .ok (.iconst 1, 1) := by decide +kernel
theorem dX10_readsAll_42 : decode cX10_readsAll 42 = .ok (.goto 4, 3) := by decide +kernel
theorem dX10_readsAll_45 : decode cX10_readsAll 45 = .ok (.iconst 0, 1) := by decide +kernel
theorem dX10_readsAll_46 : decode cX10_readsAll 46 = .ok (.ireturn, 1) := by decide +kernel
theorem dX10_notNow_0 : decode cX10_notNow 0 = .ok (.aload_n 0, 1) := by decide +kernel
theorem dX10_notNow_1 : decode cX10_notNow 1 = .ok (.getfield 54, 3) := by decide +kernel
theorem dX10_notNow_4 : decode cX10_notNow 4 = .ok (.iconst 0, 1) := by decide +kernel
theorem dX10_notNow_5 : decode cX10_notNow 5 = .ok (.iaload, 1) := by decide +kernel
theorem dX10_notNow_6 : decode cX10_notNow 6 = .ok (.istore_n 1, 1) := by decide +kernel
theorem dX10_notNow_7 : decode cX10_notNow 7 = .ok (.aload_n 0, 1) := by decide +kernel
theorem dX10_notNow_8 : decode cX10_notNow 8 = .ok (.getfield 54, 3) := by decide +kernel
theorem dX10_notNow_11 : decode cX10_notNow 11 = .ok (.iconst 1, 1) := by decide +kernel
theorem dX10_notNow_12 : decode cX10_notNow 12 = .ok (.iaload, 1) := by decide +kernel
theorem dX10_notNow_13 : decode cX10_notNow 13 = .ok (.istore_n 2, 1) := by decide +kernel
theorem dX10_notNow_14 : decode cX10_notNow 14 = .ok (.aload_n 0, 1) := by decide +kernel
theorem dX10_notNow_15 : decode cX10_notNow 15 = .ok (.getfield 246, 3) := by decide +kernel
theorem dX10_notNow_18 : decode cX10_notNow 18 = .ok (.tableswitch 132 102 116 #[74, 120, 132, 100, 132, 132, 132, 127, 132, 107, 132, 132, 113, 132, 81], 74) := by decide +kernel
theorem dX10_notNow_92 : decode cX10_notNow 92 = .ok (.aload_n 0, 1) := by decide +kernel
theorem dX10_notNow_93 : decode cX10_notNow 93 = .ok (.iload_n 1, 1) := by decide +kernel
theorem dX10_notNow_94 : decode cX10_notNow 94 = .ok (.iload_n 2, 1) := by decide +kernel
theorem dX10_notNow_95 : decode cX10_notNow 95 = .ok (.invokevirtual 86, 3) := by decide +kernel
theorem dX10_notNow_98 : decode cX10_notNow 98 = .ok (.ireturn, 1) := by decide +kernel
theorem dX10_notNow_99 : decode cX10_notNow 99 = .ok (.aload_n 0, 1) := by decide +kernel
theorem dX10_notNow_100 : decode cX10_notNow 100 = .ok (.iload_n 1, 1) := by decide +kernel
theorem dX10_notNow_101 : decode cX10_notNow 101 = .ok (.iload_n 2, 1) := by decide +kernel
theorem dX10_notNow_102 : decode cX10_notNow 102 = .ok (.aload_n 0, 1) := by decide +kernel
theorem dX10_notNow_103 : decode cX10_notNow 103 = .ok (.getfield 54, 3) := by decide +kernel
theorem dX10_notNow_106 : decode cX10_notNow 106 = .ok (.iconst 2, 1) := by decide +kernel
theorem dX10_notNow_107 : decode cX10_notNow 107 = .ok (.iaload, 1) := by decide +kernel
theorem dX10_notNow_108 : decode cX10_notNow 108 = .ok (.aload_n 0, 1) := by decide +kernel
theorem dX10_notNow_109 : decode cX10_notNow 109 = .ok (.getfield 54, 3) := by decide +kernel
theorem dX10_notNow_112 : decode cX10_notNow 112 = .ok (.iconst 3, 1) := by decide +kernel
theorem dX10_notNow_113 : decode cX10_notNow 113 = .ok (.iaload, 1) := by decide +kernel
theorem dX10_notNow_114 : decode cX10_notNow 114 = .ok (.invokevirtual 103, 3) := by decide +kernel
theorem dX10_notNow_117 : decode cX10_notNow 117 = .ok (.ireturn, 1) := by decide +kernel
theorem dX10_notNow_118 : decode cX10_notNow 118 = .ok (.aload_n 0, 1) := by decide +kernel
theorem dX10_notNow_119 : decode cX10_notNow 119 = .ok (.iload_n 1, 1) := by decide +kernel
theorem dX10_notNow_120 : decode cX10_notNow 120 = .ok (.iload_n 2, 1) := by decide +kernel
theorem dX10_notNow_121 : decode cX10_notNow 121 = .ok (.invokevirtual 124, 3) := by decide +kernel
theorem dX10_notNow_124 : decode cX10_notNow 124 = .ok (.ireturn, 1) := by decide +kernel
theorem dX10_notNow_125 : decode cX10_notNow 125 = .ok (.aload_n 0, 1) := by decide +kernel
theorem dX10_notNow_126 : decode cX10_notNow 126 = .ok (.iload_n 1, 1) := by decide +kernel
theorem dX10_notNow_127 : decode cX10_notNow 127 = .ok (.invokevirtual 139, 3) := by decide +kernel
theorem dX10_notNow_130 : decode cX10_notNow 130 = .ok (.ireturn, 1) := by decide +kernel
theorem dX10_notNow_131 : decode cX10_notNow 131 = .ok (.aload_n 0, 1) := by decide +kernel
theorem dX10_notNow_132 : decode cX10_notNow 132 = .ok (.iload_n 1, 1) := by decide +kernel
theorem dX10_notNow_133 : decode cX10_notNow 133 = .ok (.iload_n 2, 1) := by decide +kernel
theorem dX10_notNow_134 : decode cX10_notNow 134 = .ok (.invokevirtual 145, 3) := by decide +kernel
theorem dX10_notNow_137 : decode cX10_notNow 137 = .ok (.ireturn, 1) := by decide +kernel
theorem dX10_notNow_138 : decode cX10_notNow 138 = .ok (.aload_n 0, 1) := by decide +kernel
theorem dX10_notNow_139 : decode cX10_notNow 139 = .ok (.iload_n 1, 1) := by decide +kernel
theorem dX10_notNow_140 : decode cX10_notNow 140 = .ok (.iload_n 2, 1) := by decide +kernel
theorem dX10_notNow_141 : decode cX10_notNow 141 = .ok (.invokevirtual 151, 3) := by decide +kernel
theorem dX10_notNow_144 : decode cX10_notNow 144 = .ok (.ireturn, 1) := by decide +kernel
theorem dX10_notNow_145 : decode cX10_notNow 145 = .ok (.iload_n 1, 1) := by decide +kernel
theorem dX10_notNow_146 : decode cX10_notNow 146 = .ok (.invokestatic 180, 3) := by decide +kernel
theorem dX10_notNow_149 : decode cX10_notNow 149 = .ok (.ireturn, 1) := by decide +kernel
theorem dX10_notNow_150 : decode cX10_notNow 150 = .ok (.iconst 0, 1) := by decide +kernel
theorem dX10_notNow_151 : decode cX10_notNow 151 = .ok (.ireturn, 1) := by decide +kernel
theorem dX10_doesNow_0 : decode cX10_doesNow 0 = .ok (.aload_n 0, 1) := by decide +kernel
theorem dX10_doesNow_1 : decode cX10_doesNow 1 = .ok (.getfield 54, 3) := by decide +kernel
theorem dX10_doesNow_4 : decode cX10_doesNow 4 = .ok (.iconst 0, 1) := by decide +kernel
theorem dX10_doesNow_5 : decode cX10_doesNow 5 = .ok (.iaload, 1) := by decide +kernel
theorem dX10_doesNow_6 : decode cX10_doesNow 6 = .ok (.istore_n 1, 1) := by decide +kernel
theorem dX10_doesNow_7 : decode cX10_doesNow 7 = .ok (.aload_n 0, 1) := by decide +kernel
theorem dX10_doesNow_8 : decode cX10_doesNow 8 = .ok (.getfield 54, 3) := by decide +kernel
theorem dX10_doesNow_11 : decode cX10_doesNow 11 = .ok (.iconst 1, 1) := by decide +kernel
theorem dX10_doesNow_12 : decode cX10_doesNow 12 = .ok (.iaload, 1) := by decide +kernel
theorem dX10_doesNow_13 : decode cX10_doesNow 13 = .ok (.istore_n 2, 1) := by decide +kernel
theorem dX10_doesNow_14 : decode cX10_doesNow 14 = .ok (.aload_n 0, 1) := by decide +kernel
theorem dX10_doesNow_15 : decode cX10_doesNow 15 = .ok (.getfield 246, 3) := by decide +kernel
theorem dX10_doesNow_18 : decode cX10_doesNow 18 = .ok (.tableswitch 137 102 116 #[74, 124, 137, 100, 137, 137, 137, 131, 137, 107, 137, 137, 117, 137, 81], 74) := by decide +kernel
theorem dX10_doesNow_92 : decode cX10_doesNow 92 = .ok (.aload_n 0, 1) := by decide +kernel
theorem dX10_doesNow_93 : decode cX10_doesNow 93 = .ok (.iload_n 1, 1) := by decide +kernel
theorem dX10_doesNow_94 : decode cX10_doesNow 94 = .ok (.iload_n 2, 1) := by decide +kernel
theorem dX10_doesNow_95 : decode cX10_doesNow 95 = .ok (.invokevirtual 96, 3) := by decide +kernel
theorem dX10_doesNow_98 : decode cX10_doesNow 98 = .ok (.ireturn, 1) := by decide +kernel
theorem dX10_doesNow_99 : decode cX10_doesNow 99 = .ok (.aload_n 0, 1) := by decide +kernel
theorem dX10_doesNow_100 : decode cX10_doesNow 100 = .ok (.iload_n 1, 1) := by decide +kernel
theorem dX10_doesNow_101 : decode cX10_doesNow 101 = .ok (.iload_n 2, 1) := by decide +kernel
theorem dX10_doesNow_102 : decode cX10_doesNow 102 = .ok (.aload_n 0, 1) := by decide +kernel
theorem dX10_doesNow_103 : decode cX10_doesNow 103 = .ok (.getfield 54, 3) := by decide +kernel
theorem dX10_doesNow_106 : decode cX10_doesNow 106 = .ok (.iconst 2, 1) := by decide +kernel
theorem dX10_doesNow_107 : decode cX10_doesNow 107 = .ok (.iaload, 1) := by decide +kernel
theorem dX10_doesNow_108 : decode cX10_doesNow 108 = .ok (.aload_n 0, 1) := by decide +kernel
theorem dX10_doesNow_109 : decode cX10_doesNow 109 = .ok (.getfield 54, 3) := by decide +kernel
theorem dX10_doesNow_112 : decode cX10_doesNow 112 = .ok (.iconst 3, 1) := by decide +kernel
theorem dX10_doesNow_113 : decode cX10_doesNow 113 = .ok (.iaload, 1) := by decide +kernel
theorem dX10_doesNow_114 : decode cX10_doesNow 114 = .ok (.invokevirtual 107, 3) := by decide +kernel
theorem dX10_doesNow_117 : decode cX10_doesNow 117 = .ok (.ireturn, 1) := by decide +kernel
theorem dX10_doesNow_118 : decode cX10_doesNow 118 = .ok (.aload_n 0, 1) := by decide +kernel
theorem dX10_doesNow_119 : decode cX10_doesNow 119 = .ok (.iload_n 1, 1) := by decide +kernel
theorem dX10_doesNow_120 : decode cX10_doesNow 120 = .ok (.iload_n 2, 1) := by decide +kernel
theorem dX10_doesNow_121 : decode cX10_doesNow 121 = .ok (.invokevirtual 127, 3) := by decide +kernel
theorem dX10_doesNow_124 : decode cX10_doesNow 124 = .ok (.ireturn, 1) := by decide +kernel
theorem dX10_doesNow_125 : decode cX10_doesNow 125 = .ok (.aload_n 0, 1) := by decide +kernel
theorem dX10_doesNow_126 : decode cX10_doesNow 126 = .ok (.aload_n 0, 1) := by decide +kernel
theorem dX10_doesNow_127 : decode cX10_doesNow 127 = .ok (.iload_n 1, 1) := by decide +kernel
theorem dX10_doesNow_128 : decode cX10_doesNow 128 = .ok (.invokevirtual 110, 3) := by decide +kernel
theorem dX10_doesNow_131 : decode cX10_doesNow 131 = .ok (.invokevirtual 142, 3) := by decide +kernel
theorem dX10_doesNow_134 : decode cX10_doesNow 134 = .ok (.ireturn, 1) := by decide +kernel
theorem dX10_doesNow_135 : decode cX10_doesNow 135 = .ok (.aload_n 0, 1) := by decide +kernel
theorem dX10_doesNow_136 : decode cX10_doesNow 136 = .ok (.iload_n 1, 1) := by decide +kernel
theorem dX10_doesNow_137 : decode cX10_doesNow 137 = .ok (.iload_n 2, 1) := by decide +kernel
theorem dX10_doesNow_138 : decode cX10_doesNow 138 = .ok (.invokevirtual 148, 3) := by decide +kernel
theorem dX10_doesNow_141 : decode cX10_doesNow 141 = .ok (.ireturn, 1) := by decide +kernel
theorem dX10_doesNow_142 : decode cX10_doesNow 142 = .ok (.aload_n 0, 1) := by decide +kernel
theorem dX10_doesNow_143 : decode cX10_doesNow 143 = .ok (.iload_n 1, 1) := by decide +kernel
theorem dX10_doesNow_144 : decode cX10_doesNow 144 = .ok (.iload_n 2, 1) := by decide +kernel
theorem dX10_doesNow_145 : decode cX10_doesNow 145 = .ok (.invokevirtual 154, 3) := by decide +kernel
theorem dX10_doesNow_148 : decode cX10_doesNow 148 = .ok (.ireturn, 1) := by decide +kernel
theorem dX10_doesNow_149 : decode cX10_doesNow 149 = .ok (.aload_n 0, 1) := by decide +kernel
theorem dX10_doesNow_150 : decode cX10_doesNow 150 = .ok (.iload_n 1, 1) := by decide +kernel
theorem dX10_doesNow_151 : decode cX10_doesNow 151 = .ok (.invokevirtual 183, 3) := by decide +kernel
theorem dX10_doesNow_154 : decode cX10_doesNow 154 = .ok (.ireturn, 1) := by decide +kernel
theorem dX10_doesNow_155 : decode cX10_doesNow 155 = .ok (.aload_n 0, 1) := by decide +kernel
theorem dX10_doesNow_156 : decode cX10_doesNow 156 = .ok (.invokevirtual 173, 3) := by decide +kernel
theorem dX10_doesNow_159 : decode cX10_doesNow 159 = .ok (.ireturn, 1) := by decide +kernel
theorem dX10_doesAll_0 : decode cX10_doesAll 0 = .ok (.aload_n 0, 1) := by decide +kernel
theorem dX10_doesAll_1 : decode cX10_doesAll 1 = .ok (.iconst 0, 1) := by decide +kernel
theorem dX10_doesAll_2 : decode cX10_doesAll 2 = .ok (.putfield 258, 3) := by decide +kernel
theorem dX10_doesAll_5 : decode cX10_doesAll 5 = .ok (.aload_n 0, 1) := by decide +kernel
theorem dX10_doesAll_6 : decode cX10_doesAll 6 = .ok (.iconst 0, 1) := by decide +kernel
theorem dX10_doesAll_7 : decode cX10_doesAll 7 = .ok (.putfield 231, 3) := by decide +kernel
theorem dX10_doesAll_10 : decode cX10_doesAll 10 = .ok (.iconst 1, 1) := by decide +kernel
theorem dX10_doesAll_11 : decode cX10_doesAll 11 = .ok (.istore_n 1, 1) := by decide +kernel
theorem dX10_doesAll_12 : decode cX10_doesAll 12 = .ok (.iload_n 1, 1) := by decide +kernel
theorem dX10_doesAll_13 : decode cX10_doesAll 13 = .ok (.ifCond .eq 42, 3) := by decide +kernel
theorem dX10_doesAll_16 : decode cX10_doesAll 16 = .ok (.aload_n 0, 1) := by decide +kernel
theorem dX10_doesAll_17 : decode cX10_doesAll 17 = .ok (.invokevirtual 255, 3) := by decide +kernel
theorem dX10_doesAll_20 : decode cX10_doesAll 20 = .ok (.pop, 1) := by decide +kernel
theorem dX10_doesAll_21 : decode cX10_doesAll 21 = .ok (.aload_n 0, 1) := by decide +kernel
theorem dX10_doesAll_22 : decode cX10_doesAll 22 = .ok (.invokevirtual 261, 3) := by decide +kernel
theorem dX10_doesAll_25 : decode cX10_doesAll 25 = .ok (.ifCond .eq 5, 3) := by decide +kernel
theorem dX10_doesAll_28 : decode cX10_doesAll 28 = .ok (.iconst 0, 1) := by decide +kernel
theorem dX10_doesAll_29 : decode cX10_doesAll 29 = .ok (.ireturn, 1) := by decide +kernel
theorem dX10_doesAll_30 : decode cX10_doesAll 30 = .ok (.aload_n 0, 1) := by decide +kernel
theorem dX10_doesAll_31 : decode cX10_doesAll 31 = .ok (.invokevirtual 264, 3) := by decide +kernel
theorem dX10_doesAll_34 : decode cX10_doesAll 34 = .ok (.pop, 1) := by decide +kernel
theorem dX10_doesAll_35 : decode cX10_doesAll 35 = .ok (.aload_n 0, 1) := by decide +kernel
theorem dX10_doesAll_36 : decode cX10_doesAll 36 = .ok (.dup, 1) := by decide +kernel
theorem dX10_doesAll_37 : decode cX10_doesAll 37 = .ok (.getfield 258, 3) := by decide +kernel
theorem dX10_doesAll_40 : decode cX10_doesAll 40 = .ok (.iconst 1, 1) := by decide +kernel
theorem dX10_doesAll_41 : decode cX10_doesAll 41 = .ok (.iadd, 1) := by decide +kernel
theorem dX10_doesAll_42 : decode cX10_doesAll 42 = .ok (.putfield 258, 3) := by decide +kernel
theorem dX10_doesAll_45 : decode cX10_doesAll 45 = .ok (.aload_n 0, 1) := by decide +kernel
theorem dX10_doesAll_46 : decode cX10_doesAll 46 = .ok (.bipush 59, 2) := by decide +kernel
theorem dX10_doesAll_48 : decode cX10_doesAll 48 = .ok (.invokevirtual 240, 3) := by decide +kernel
theorem dX10_doesAll_51 : decode cX10_doesAll 51 = .ok (.istore_n 1, 1) := by decide +kernel
theorem dX10_doesAll_52 : decode cX10_doesAll 52 = .ok (.goto (-40), 3) := by decide +kernel
theorem dX10_doesAll_55 : decode cX10_doesAll 55 = .ok (.iconst 1, 1) := by decide +kernel
theorem dX10_doesAll_56 : decode cX10_doesAll 56 = .ok (.ireturn, 1) := by decide +kernel
theorem dX10_run_0 : decode cX10_run 0 = .ok (.aload_n 0, 1) := by decide +kernel
theorem dX10_run_1 : decode cX10_run 1 = .ok (.iconst 0, 1) := by decide +kernel
theorem dX10_run_2 : decode cX10_run 2 = .ok (.putfield 57, 3) := by decide +kernel
theorem dX10_run_5 : decode cX10_run 5 = .ok (.aload_n 0, 1) := by decide +kernel
theorem dX10_run_6 : decode cX10_run 6 = .ok (.invokevirtual 267, 3) := by decide +kernel
theorem dX10_run_9 : decode cX10_run 9 = .ok (.ifCond .ne 22, 3) := by decide +kernel
theorem dX10_run_12 : decode cX10_run 12 = .ok (.aload_n 0, 1) := by decide +kernel
theorem dX10_run_13 : decode cX10_run 13 = .ok (.aload_n 0, 1) := by decide +kernel
theorem dX10_run_14 : decode cX10_run 14 = .ok (.getfield 231, 3) := by decide +kernel
theorem dX10_run_17 : decode cX10_run 17 = .ok (.putfield 47, 3) := by decide +kernel
theorem dX10_run_20 : decode cX10_run 20 = .ok (.aload_n 0, 1) := by decide +kernel
theorem dX10_run_21 : decode cX10_run 21 = .ok (.iconst 0, 1) := by decide +kernel
theorem dX10_run_22 : decode cX10_run 22 = .ok (.putfield 228, 3) := by decide +kernel
theorem dX10_run_25 : decode cX10_run 25 = .ok (.aload_n 0, 1) := by decide +kernel
theorem dX10_run_26 : decode cX10_run 26 = .ok (.iconst 1, 1) := by decide +kernel
theorem dX10_run_27 : decode cX10_run 27 = .ok (.invokevirtual 89, 3) := by decide +kernel
theorem dX10_run_30 : decode cX10_run 30 = .ok (.ireturn, 1) := by decide +kernel
theorem dX10_run_31 : decode cX10_run 31 = .ok (.aload_n 0, 1) := by decide +kernel
theorem dX10_run_32 : decode cX10_run 32 = .ok (.invokevirtual 66, 3) := by decide +kernel
theorem dX10_run_35 : decode cX10_run 35 = .ok (.aload_n 0, 1) := by decide +kernel
theorem dX10_run_36 : decode cX10_run 36 = .ok (.invokevirtual 270, 3) := by decide +kernel
theorem dX10_run_39 : decode cX10_run 39 = .ok (.istore_n 1, 1) := by decide +kernel
theorem dX10_run_40 : decode cX10_run 40 = .ok (.aload_n 0, 1) := by decide +kernel
theorem dX10_run_41 : decode cX10_run 41 = .ok (.iconst 0, 1) := by decide +kernel
theorem dX10_run_42 : decode cX10_run 42 = .ok (.putfield 228, 3) := by decide +kernel
theorem dX10_run_45 : decode cX10_run 45 = .ok (.iload_n 1, 1) := by decide +kernel
theorem dX10_run_46 : decode cX10_run 46 = .ok (.ifCond .eq 12, 3) := by decide +kernel
theorem dX10_run_49 : decode cX10_run 49 = .ok (.aload_n 0, 1) := by decide +kernel
theorem dX10_run_50 : decode cX10_run 50 = .ok (.invokevirtual 69, 3) := by decide +kernel
theorem dX10_run_53 : decode cX10_run 53 = .ok (.aload_n 0, 1) := by decide +kernel
theorem dX10_run_54 : decode cX10_run 54 = .ok (.getfield 258, 3) := by decide +kernel
theorem dX10_run_57 : decode cX10_run 57 = .ok (.ireturn, 1) := by decide +kernel
theorem dX10_run_58 : decode cX10_run 58 = .ok (.aload_n 0, 1) := by decide +kernel
theorem dX10_run_59 : decode cX10_run 59 = .ok (.invokevirtual 273, 3) := by decide +kernel
theorem dX10_run_62 : decode cX10_run 62 = .ok (.aload_n 0, 1) := by decide +kernel
theorem dX10_run_63 : decode cX10_run 63 = .ok (.aload_n 0, 1) := by decide +kernel
theorem dX10_run_64 : decode cX10_run 64 = .ok (.getfield 258, 3) := by decide +kernel
theorem dX10_run_67 : decode cX10_run 67 = .ok (.putfield 51, 3) := by decide +kernel
theorem dX10_run_70 : decode cX10_run 70 = .ok (.aload_n 0, 1) := by decide +kernel
theorem dX10_run_71 : decode cX10_run 71 = .ok (.iconst 2, 1) := by decide +kernel
theorem dX10_run_72 : decode cX10_run 72 = .ok (.invokevirtual 89, 3) := by decide +kernel
theorem dX10_run_75 : decode cX10_run 75 = .ok (.ireturn, 1) := by decide +kernel
theorem dX10_errorPosition_0 : decode cX10_errorPosition 0 = .ok (.aload_n 0, 1) := by decide +kernel
theorem dX10_errorPosition_1 : decode cX10_errorPosition 1 = .ok (.iconst 0, 1) := by decide +kernel
theorem dX10_errorPosition_2 : decode cX10_errorPosition 2 = .ok (.putfield 57, 3) := by decide +kernel
theorem dX10_errorPosition_5 : decode cX10_errorPosition 5 = .ok (.aload_n 0, 1) := by decide +kernel
theorem dX10_errorPosition_6 : decode cX10_errorPosition 6 = .ok (.getfield 47, 3) := by decide +kernel
theorem dX10_errorPosition_9 : decode cX10_errorPosition 9 = .ok (.ifCond .ge 11, 3) := by decide +kernel
theorem dX10_errorPosition_12 : decode cX10_errorPosition 12 = .ok (.aload_n 0, 1) := by decide +kernel
theorem dX10_errorPosition_13 : decode cX10_errorPosition 13 = .ok (.iconst 1, 1) := by decide +kernel
theorem dX10_errorPosition_14 : decode cX10_errorPosition 14 = .ok (.invokevirtual 89, 3) := by decide +kernel
theorem dX10_errorPosition_17 : decode cX10_errorPosition 17 = .ok (.goto 7, 3) := by decide +kernel
theorem dX10_errorPosition_20 : decode cX10_errorPosition 20 = .ok (.aload_n 0, 1) := by decide +kernel
theorem dX10_errorPosition_21 : decode cX10_errorPosition 21 = .ok (.getfield 47, 3) := by decide +kernel
theorem dX10_errorPosition_24 : decode cX10_errorPosition 24 = .ok (.ireturn, 1) := by decide +kernel
theorem dX10_failedCommand_0 : decode cX10_failedCommand 0 = .ok (.aload_n 0, 1) := by decide +kernel
theorem dX10_failedCommand_1 : decode cX10_failedCommand 1 = .ok (.iconst 0, 1) := by decide +kernel
theorem dX10_failedCommand_2 : decode cX10_failedCommand 2 = .ok (.putfield 57, 3) := by decide +kernel
theorem dX10_failedCommand_5 : decode cX10_failedCommand 5 = .ok (.aload_n 0, 1) := by decide +kernel
theorem dX10_failedCommand_6 : decode cX10_failedCommand 6 = .ok (.getfield 51, 3) := by decide +kernel
theorem dX10_failedCommand_9 : decode cX10_failedCommand 9 = .ok (.ifCond .ge 11, 3) := by decide +kernel
theorem dX10_failedCommand_12 : decode cX10_failedCommand 12 = .ok (.aload_n 0, 1) := by decide +kernel
theorem dX10_failedCommand_13 : decode cX10_failedCommand 13 = .ok (.iconst 1, 1) := by decide +kernel
theorem dX10_failedCommand_14 : decode cX10_failedCommand 14 = .ok (.invokevirtual 89, 3) := by decide +kernel
theorem dX10_failedCommand_17 : decode cX10_failedCommand 17 = .ok (.goto 7, 3) := by decide +kernel
theorem dX10_failedCommand_20 : decode cX10_failedCommand 20 = .ok (.aload_n 0, 1) := by decide +kernel
theorem dX10_failedCommand_21 : decode cX10_failedCommand 21 = .ok (.getfield 51, 3) := by decide +kernel
theorem dX10_failedCommand_24 : decode cX10_failedCommand 24 = .ok (.ireturn, 1) := by decide +kernel
theorem dX10_undo_0 : decode cX10_undo 0 = .ok (.aload_n 0, 1) := by decide +kernel
theorem dX10_undo_1 : decode cX10_undo 1 = .ok (.iconst 0, 1) := by decide +kernel
theorem dX10_undo_2 : decode cX10_undo 2 = .ok (.putfield 57, 3) := by decide +kernel
theorem dX10_undo_5 : decode cX10_undo 5 = .ok (.aload_n 0, 1) := by decide +kernel
theorem dX10_undo_6 : decode cX10_undo 6 = .ok (.getfield 60, 3) := by decide +kernel
theorem dX10_undo_9 : decode cX10_undo 9 = .ok (.ifCond .ne 9, 3) := by decide +kernel
theorem dX10_undo_12 : decode cX10_undo 12 = .ok (.aload_n 0, 1) := by decide +kernel
theorem dX10_undo_13 : decode cX10_undo 13 = .ok (.iconst 1, 1) := by decide +kernel
theorem dX10_undo_14 : decode cX10_undo 14 = .ok (.invokevirtual 89, 3) := by decide +kernel
theorem dX10_undo_17 : decode cX10_undo 17 = .ok (.ireturn, 1) := by decide +kernel
theorem dX10_undo_18 : decode cX10_undo 18 = .ok (.aload_n 0, 1) := by decide +kernel
theorem dX10_undo_19 : decode cX10_undo 19 = .ok (.dup, 1) := by decide +kernel
theorem dX10_undo_20 : decode cX10_undo 20 = .ok (.getfield 60, 3) := by decide +kernel
theorem dX10_undo_23 : decode cX10_undo 23 = .ok (.iconst 1, 1) := by decide +kernel
theorem dX10_undo_24 : decode cX10_undo 24 = .ok (.isub, 1) := by decide +kernel
theorem dX10_undo_25 : decode cX10_undo 25 = .ok (.putfield 60, 3) := by decide +kernel
theorem dX10_undo_28 : decode cX10_undo 28 = .ok (.aload_n 0, 1) := by decide +kernel
theorem dX10_undo_29 : decode cX10_undo 29 = .ok (.getfield 63, 3) := by decide +kernel
theorem dX10_undo_32 : decode cX10_undo 32 = .ok (.aload_n 0, 1) := by decide +kernel
theorem dX10_undo_33 : decode cX10_undo 33 = .ok (.getfield 60, 3) := by decide +kernel
theorem dX10_undo_36 : decode cX10_undo 36 = .ok (.iadd, 1) := by decide +kernel
theorem dX10_undo_37 : decode cX10_undo 37 = .ok (.bipush 8, 2) := by decide +kernel
theorem dX10_undo_39 : decode cX10_undo 39 = .ok (.irem, 1) := by decide +kernel
theorem dX10_undo_40 : decode cX10_undo 40 = .ok (.istore_n 1, 1) := by decide +kernel
theorem dX10_undo_41 : decode cX10_undo 41 = .ok (.iconst 0, 1) := by decide +kernel
theorem dX10_undo_42 : decode cX10_undo 42 = .ok (.istore_n 2, 1) := by decide +kernel
theorem dX10_undo_43 : decode cX10_undo 43 = .ok (.iload_n 2, 1) := by decide +kernel
theorem dX10_undo_44 : decode cX10_undo 44 = .ok (.bipush 62, 2) := by decide +kernel
theorem dX10_undo_46 : decode cX10_undo 46 = .ok (.if_icmp .ge 26, 3) := by decide +kernel
theorem dX10_undo_49 : decode cX10_undo 49 = .ok (.aload_n 0, 1) := by decide +kernel
theorem dX10_undo_50 : decode cX10_undo 50 = .ok (.getfield 7, 3) := by decide +kernel
theorem dX10_undo_53 : decode cX10_undo 53 = .ok (.iload_n 2, 1) := by decide +kernel
theorem dX10_undo_54 : decode cX10_undo 54 = .ok (.aload_n 0, 1) := by decide +kernel
theorem dX10_undo_55 : decode cX10_undo 55 = .ok (.getfield 13, 3) := by decide +kernel
theorem dX10_undo_58 : decode cX10_undo 58 = .ok (.bipush 62, 2) := by decide +kernel
theorem dX10_undo_60 : decode cX10_undo 60 = .ok (.iload_n 1, 1) := by decide +kernel
theorem dX10_undo_61 : decode cX10_undo 61 = .ok (.imul, 1) := by decide +kernel
theorem dX10_undo_62 : decode cX10_undo 62 = .ok (.iload_n 2, 1) := by decide +kernel
theorem dX10_undo_63 : decode cX10_undo 63 = .ok (.iadd, 1) := by decide +kernel
theorem dX10_undo_64 : decode cX10_undo 64 = .ok (.iaload, 1) := by decide +kernel
theorem dX10_undo_65 : decode cX10_undo 65 = .ok (.iastore, 1) := by decide +kernel
theorem dX10_undo_66 : decode cX10_undo 66 = .ok (.iinc 2 1, 3) := by decide +kernel
theorem dX10_undo_69 : decode cX10_undo 69 = .ok (.goto (-26), 3) := by decide +kernel
theorem dX10_undo_72 : decode cX10_undo 72 = .ok (.aload_n 0, 1) := by decide +kernel
theorem dX10_undo_73 : decode cX10_undo 73 = .ok (.getfield 60, 3) := by decide +kernel
theorem dX10_undo_76 : decode cX10_undo 76 = .ok (.ireturn, 1) := by decide +kernel
theorem dX10_save_0 : decode cX10_save 0 = .ok (.aload_n 0, 1) := by decide +kernel
theorem dX10_save_1 : decode cX10_save 1 = .ok (.iconst 0, 1) := by decide +kernel
theorem dX10_save_2 : decode cX10_save 2 = .ok (.putfield 57, 3) := by decide +kernel
theorem dX10_save_5 : decode cX10_save 5 = .ok (.iconst 0, 1) := by decide +kernel
theorem dX10_save_6 : decode cX10_save 6 = .ok (.istore_n 1, 1) := by decide +kernel
theorem dX10_save_7 : decode cX10_save 7 = .ok (.iload_n 1, 1) := by decide +kernel
theorem dX10_save_8 : decode cX10_save 8 = .ok (.bipush 62, 2) := by decide +kernel
theorem dX10_save_10 : decode cX10_save 10 = .ok (.if_icmp .ge 21, 3) := by decide +kernel
theorem dX10_save_13 : decode cX10_save 13 = .ok (.aload_n 0, 1) := by decide +kernel
theorem dX10_save_14 : decode cX10_save 14 = .ok (.getfield 16, 3) := by decide +kernel
theorem dX10_save_17 : decode cX10_save 17 = .ok (.iload_n 1, 1) := by decide +kernel
theorem dX10_save_18 : decode cX10_save 18 = .ok (.aload_n 0, 1) := by decide +kernel
theorem dX10_save_19 : decode cX10_save 19 = .ok (.getfield 7, 3) := by decide +kernel
theorem dX10_save_22 : decode cX10_save 22 = .ok (.iload_n 1, 1) := by decide +kernel
theorem dX10_save_23 : decode cX10_save 23 = .ok (.iaload, 1) := by decide +kernel
theorem dX10_save_24 : decode cX10_save 24 = .ok (.iastore, 1) := by decide +kernel
theorem dX10_save_25 : decode cX10_save 25 = .ok (.iinc 1 1, 3) := by decide +kernel
theorem dX10_save_28 : decode cX10_save 28 = .ok (.goto (-21), 3) := by decide +kernel
theorem dX10_save_31 : decode cX10_save 31 = .ok (.aload_n 0, 1) := by decide +kernel
theorem dX10_save_32 : decode cX10_save 32 = .ok (.iconst 1, 1) := by decide +kernel
theorem dX10_save_33 : decode cX10_save 33 = .ok (.putfield 276, 3) := by decide +kernel
theorem dX10_save_36 : decode cX10_save 36 = .ok (.aload_n 0, 1) := by decide +kernel
theorem dX10_save_37 : decode cX10_save 37 = .ok (.getfield 7, 3) := by decide +kernel
theorem dX10_save_40 : decode cX10_save 40 = .ok (.iconst 1, 1) := by decide +kernel
theorem dX10_save_41 : decode cX10_save 41 = .ok (.iaload, 1) := by decide +kernel
theorem dX10_save_42 : decode cX10_save 42 = .ok (.ireturn, 1) := by decide +kernel
theorem dX10_restore_0 : decode cX10_restore 0 = .ok (.aload_n 0, 1) := by decide +kernel
theorem dX10_restore_1 : decode cX10_restore 1 = .ok (.iconst 0, 1) := by decide +kernel
theorem dX10_restore_2 : decode cX10_restore 2 = .ok (.putfield 57, 3) := by decide +kernel
theorem dX10_restore_5 : decode cX10_restore 5 = .ok (.aload_n 0, 1) := by decide +kernel
theorem dX10_restore_6 : decode cX10_restore 6 = .ok (.getfield 276, 3) := by decide +kernel
theorem dX10_restore_9 : decode cX10_restore 9 = .ok (.ifCond .ne 9, 3) := by decide +kernel
theorem dX10_restore_12 : decode cX10_restore 12 = .ok (.aload_n 0, 1) := by decide +kernel
theorem dX10_restore_13 : decode cX10_restore 13 = .ok (.iconst 1, 1) := by decide +kernel
theorem dX10_restore_14 : decode cX10_restore 14 = .ok (.invokevirtual 89, 3) := by decide +kernel
theorem dX10_restore_17 : decode cX10_restore 17 = .ok (.ireturn, 1) := by decide +kernel
theorem dX10_restore_18 : decode cX10_restore 18 = .ok (.iconst 0, 1) := by decide +kernel
theorem dX10_restore_19 : decode cX10_restore 19 = .ok (.istore_n 1, 1) := by decide +kernel
theorem dX10_restore_20 : decode cX10_restore 20 = .ok (.iload_n 1, 1) := by decide +kernel
theorem dX10_restore_21 : decode cX10_restore 21 = .ok (.bipush 62, 2) := by decide +kernel
theorem dX10_restore_23 : decode cX10_restore 23 = .ok (.if_icmp .ge 21, 3) := by decide +kernel
theorem dX10_restore_26 : decode cX10_restore 26 = .ok (.aload_n 0, 1) := by decide +kernel
theorem dX10_restore_27 : decode cX10_restore 27 = .ok (.getfield 7, 3) := by decide +kernel
theorem dX10_restore_30 : decode cX10_restore 30 = .ok (.iload_n 1, 1) := by decide +kernel
theorem dX10_restore_31 : decode cX10_restore 31 = .ok (.aload_n 0, 1) := by decide +kernel
theorem dX10_restore_32 : decode cX10_restore 32 = .ok (.getfield 16, 3) := by decide +kernel
theorem dX10_restore_35 : decode cX10_restore 35 = .ok (.iload_n 1, 1) := by decide +kernel
theorem dX10_restore_36 : decode cX10_restore 36 = .ok (.iaload, 1) := by decide +kernel
theorem dX10_restore_37 : decode cX10_restore 37 = .ok (.iastore, 1) := by decide +kernel
theorem dX10_restore_38 : decode cX10_restore 38 = .ok (.iinc 1 1, 3) := by decide +kernel
theorem dX10_restore_41 : decode cX10_restore 41 = .ok (.goto (-21), 3) := by decide +kernel
theorem dX10_restore_44 : decode cX10_restore 44 = .ok (.aload_n 0, 1) := by decide +kernel
theorem dX10_restore_45 : decode cX10_restore 45 = .ok (.iconst 0, 1) := by decide +kernel
theorem dX10_restore_46 : decode cX10_restore 46 = .ok (.putfield 60, 3) := by decide +kernel
theorem dX10_restore_49 : decode cX10_restore 49 = .ok (.aload_n 0, 1) := by decide +kernel
theorem dX10_restore_50 : decode cX10_restore 50 = .ok (.iconst 0, 1) := by decide +kernel
theorem dX10_restore_51 : decode cX10_restore 51 = .ok (.putfield 63, 3) := by decide +kernel
theorem dX10_restore_54 : decode cX10_restore 54 = .ok (.aload_n 0, 1) := by decide +kernel
theorem dX10_restore_55 : decode cX10_restore 55 = .ok (.getfield 7, 3) := by decide +kernel
theorem dX10_restore_58 : decode cX10_restore 58 = .ok (.iconst 1, 1) := by decide +kernel
theorem dX10_restore_59 : decode cX10_restore 59 = .ok (.iaload, 1) := by decide +kernel
theorem dX10_restore_60 : decode cX10_restore 60 = .ok (.ireturn, 1) := by decide +kernel
theorem dJx00060_init_a7421_0 : decode cJx00060_init_a7421 0 = .ok (.aload_n 0, 1) := by decide +kernel
theorem dJx00060_init_a7421_1 : decode cJx00060_init_a7421 1 = .ok (.aload_n 1, 1) := by decide +kernel
theorem dJx00060_init_a7421_2 : decode cJx00060_init_a7421 2 = .ok (.invokespecial 7, 3) := by decide +kernel
theorem dJx00060_init_a7421_5 : decode cJx00060_init_a7421 5 = .ok (.return_, 1) := by decide +kernel
theorem dJx29ce0_ordinal_8abf5_0 : decode cJx29ce0_ordinal_8abf5 0 = .ok (.aload_n 0, 1) := by decide +kernel
theorem dJx29ce0_ordinal_8abf5_1 : decode cJx29ce0_ordinal_8abf5 1 = .ok (.getfield 7, 3) := by decide +kernel
theorem dJx29ce0_ordinal_8abf5_4 : decode cJx29ce0_ordinal_8abf5 4 = .ok (.ireturn, 1) := by decide +kernel
theorem dJ9_min_7cf53_0 : decode cJ9_min_7cf53 0 = .ok (.iload_n 0, 1) := by decide +kernel
theorem dJ9_min_7cf53_1 : decode cJ9_min_7cf53 1 = .ok (.iload_n 1, 1) := by decide +kernel
theorem dJ9_min_7cf53_2 : decode cJ9_min_7cf53 2 = .ok (.if_icmp .gt 7, 3) := by decide +kernel
theorem dJ9_min_7cf53_5 : decode cJ9_min_7cf53 5 = .ok (.iload_n 0, 1) := by decide +kernel
theorem dJ9_min_7cf53_6 : decode cJ9_min_7cf53 6 = .ok (.goto 4, 3) := by decide +kernel
theorem dJ9_min_7cf53_9 : decode cJ9_min_7cf53 9 = .ok (.iload_n 1, 1) := by decide +kernel
theorem dJ9_min_7cf53_10 : decode cJ9_min_7cf53 10 = .ok (.ireturn, 1) := by decide +kernel
theorem dJ0_length_8abf5_0 : decode cJ0_length_8abf5 0 = .ok (.aload_n 0, 1) := by decide +kernel
theorem dJ0_length_8abf5_1 : decode cJ0_length_8abf5 1 = .ok (.getfield 9, 3) := by decide +kernel
theorem dJ0_length_8abf5_4 : decode cJ0_length_8abf5 4 = .ok (.arraylength, 1) := by decide +kernel
theorem dJ0_length_8abf5_5 : decode cJ0_length_8abf5 5 = .ok (.aload_n 0, 1) := by decide +kernel
theorem dJ0_length_8abf5_6 : decode cJ0_length_8abf5 6 = .ok (.invokevirtual 335, 3) := by decide +kernel
theorem dJ0_length_8abf5_9 : decode cJ0_length_8abf5 9 = .ok (.ishr, 1) := by decide +kernel
theorem dJ0_length_8abf5_10 : decode cJ0_length_8abf5 10 = .ok (.ireturn, 1) := by decide +kernel
theorem dJ0_charAt_5068e_0 : decode cJ0_charAt_5068e 0 = .ok (.aload_n 0, 1) := by decide +kernel
theorem dJ0_charAt_5068e_1 : decode cJ0_charAt_5068e 1 = .ok (.invokevirtual 492, 3) := by decide +kernel
theorem dJ0_charAt_5068e_4 : decode cJ0_charAt_5068e 4 = .ok (.ifCond .eq 12, 3) := by decide +kernel
theorem dJ0_charAt_5068e_7 : decode cJ0_charAt_5068e 7 = .ok (.aload_n 0, 1) := by decide +kernel
theorem dJ0_charAt_5068e_8 : decode cJ0_charAt_5068e 8 = .ok (.getfield 9, 3) := by decide +kernel
theorem dJ0_charAt_5068e_11 : decode cJ0_charAt_5068e 11 = .ok (.iload_n 1, 1) := by decide +kernel
theorem dJ0_charAt_5068e_12 : decode cJ0_charAt_5068e 12 = .ok (.invokestatic 495, 3) := by decide +kernel
theorem dJ0_charAt_5068e_15 : decode cJ0_charAt_5068e 15 = .ok (.ireturn, 1) := by decide +kernel
theorem dJ0_charAt_5068e_16 : decode cJ0_charAt_5068e 16 = .ok (.aload_n 0, 1) := by decide +kernel
theorem dJ0_charAt_5068e_17 : decode cJ0_charAt_5068e 17 = .ok (.getfield 9, 3) := by decide +kernel
theorem dJ0_charAt_5068e_20 : decode cJ0_charAt_5068e 20 = .ok (.iload_n 1, 1) := by decide +kernel
theorem dJ0_charAt_5068e_21 : decode cJ0_charAt_5068e 21 = .ok (.invokestatic 498, 3) := by decide +kernel
theorem dJ0_charAt_5068e_24 : decode cJ0_charAt_5068e 24 = .ok (.ireturn, 1) := by decide +kernel
theorem dJ0_coder_7d493_0 : decode cJ0_coder_7d493 0 = .ok (.getstatic 38, 3) := by decide +kernel
theorem dJ0_coder_7d493_3 : decode cJ0_coder_7d493 3 = .ok (.ifCond .eq 10, 3) := by decide +kernel
theorem dJ0_coder_7d493_6 : decode cJ0_coder_7d493 6 = .ok (.aload_n 0, 1) := by decide +kernel
theorem dJ0_coder_7d493_7 : decode cJ0_coder_7d493 7 = .ok (.getfield 15, 3) := by decide +kernel
theorem dJ0_coder_7d493_10 : decode cJ0_coder_7d493 10 = .ok (.goto 4, 3) := by decide +kernel
theorem dJ0_coder_7d493_13 : decode cJ0_coder_7d493 13 = .ok (.iconst 1, 1) := by decide +kernel
theorem dJ0_coder_7d493_14 : decode cJ0_coder_7d493 14 = .ok (.ireturn, 1) := by decide +kernel
theorem dJ0_isLatin1_aae02_0 : decode cJ0_isLatin1_aae02 0 = .ok (.getstatic 38, 3) := by decide +kernel
theorem dJ0_isLatin1_aae02_3 : decode cJ0_isLatin1_aae02 3 = .ok (.ifCond .eq 14, 3) := by decide +kernel
theorem dJ0_isLatin1_aae02_6 : decode cJ0_isLatin1_aae02 6 = .ok (.aload_n 0, 1) := by decide +kernel
theorem dJ0_isLatin1_aae02_7 : decode cJ0_isLatin1_aae02 7 = .ok (.getfield 15, 3) := by decide +kernel
theorem dJ0_isLatin1_aae02_10 : decode cJ0_isLatin1_aae02 10 = .ok (.ifCond .ne 7, 3) := by decide +kernel
theorem dJ0_isLatin1_aae02_13 : decode cJ0_isLatin1_aae02 13 = .ok (.iconst 1, 1) := by decide +kernel
theorem dJ0_isLatin1_aae02_14 : decode cJ0_isLatin1_aae02 14 = .ok (.goto 4, 3) := by decide +kernel
theorem dJ0_isLatin1_aae02_17 : decode cJ0_isLatin1_aae02 17 = .ok (.iconst 0, 1) := by decide +kernel
theorem dJ0_isLatin1_aae02_18 : decode cJ0_isLatin1_aae02 18 = .ok (.ireturn, 1) := by decide +kernel
theorem dJ0_checkIndex_df160_0 : decode cJ0_checkIndex_df160 0 = .ok (.iload_n 0, 1) := by decide +kernel
theorem dJ0_checkIndex_df160_1 : decode cJ0_checkIndex_df160 1 = .ok (.iload_n 1, 1) := by decide +kernel
theorem dJ0_checkIndex_df160_2 : decode cJ0_checkIndex_df160 2 = .ok (.getstatic 1053, 3) := by decide +kernel
theorem dJ0_checkIndex_df160_5 : decode cJ0_checkIndex_df160 5 = .ok (.invokestatic 1059, 3) := by decide +kernel
theorem dJ0_checkIndex_df160_8 : decode cJ0_checkIndex_df160 8 = .ok (.pop, 1) := by decide +kernel
theorem dJ0_checkIndex_df160_9 : decode cJ0_checkIndex_df160 9 = .ok (.return_, 1) := by decide +kernel
theorem dJ1_charAt_3b067_0 : decode cJ1_charAt_3b067 0 = .ok (.iload_n 1, 1) := by decide +kernel
theorem dJ1_charAt_3b067_1 : decode cJ1_charAt_3b067 1 = .ok (.aload_n 0, 1) := by decide +kernel
theorem dJ1_charAt_3b067_2 : decode cJ1_charAt_3b067 2 = .ok (.arraylength, 1) := by decide +kernel
theorem dJ1_charAt_3b067_3 : decode cJ1_charAt_3b067 3 = .ok (.invokestatic 9, 3) := by decide +kernel
theorem dJ1_charAt_3b067_6 : decode cJ1_charAt_3b067 6 = .ok (.aload_n 0, 1) := by decide +kernel
theorem dJ1_charAt_3b067_7 : decode cJ1_charAt_3b067 7 = .ok (.iload_n 1, 1) := by decide +kernel
theorem dJ1_charAt_3b067_8 : decode cJ1_charAt_3b067 8 = .ok (.baload, 1) := by decide +kernel
theorem dJ1_charAt_3b067_9 : decode cJ1_charAt_3b067 9 = .ok (.sipush 255, 3) := by decide +kernel
theorem dJ1_charAt_3b067_12 : decode cJ1_charAt_3b067 12 = .ok (.iand, 1) := by decide +kernel
theorem dJ1_charAt_3b067_13 : decode cJ1_charAt_3b067 13 = .ok (.i2c, 1) := by decide +kernel
theorem dJ1_charAt_3b067_14 : decode cJ1_charAt_3b067 14 = .ok (.ireturn, 1) := by decide +kernel
theorem dJ2_getChar_3b067_0 : decode cJ2_getChar_3b067 0 = .ok (.getstatic 44, 3) := by decide +kernel
theorem dJ2_getChar_3b067_3 : decode cJ2_getChar_3b067 3 = .ok (.ifCond .ne 25, 3) := by decide +kernel
theorem dJ2_getChar_3b067_6 : decode cJ2_getChar_3b067 6 = .ok (.iload_n 1, 1) := by decide +kernel
theorem dJ2_getChar_3b067_7 : decode cJ2_getChar_3b067 7 = .ok (.ifCond .lt 11, 3) := by decide +kernel
theorem dJ2_getChar_3b067_10 : decode cJ2_getChar_3b067 10 = .ok (.iload_n 1, 1) := by decide +kernel
theorem dJ2_getChar_3b067_11 : decode cJ2_getChar_3b067 11 = .ok (.aload_n 0, 1) := by decide +kernel
theorem dJ2_getChar_3b067_12 : decode cJ2_getChar_3b067 12 = .ok (.invokestatic 48, 3) := by decide +kernel
theorem dJ2_getChar_3b067_15 : decode cJ2_getChar_3b067 15 = .ok (.if_icmp .lt 13, 3) := by decide +kernel
theorem dJ2_getChar_3b067_18 : decode cJ2_getChar_3b067 18 = .ok (.new 52, 3) := by decide +kernel
theorem dJ2_getChar_3b067_21 : decode cJ2_getChar_3b067 21 = .ok (.dup, 1) := by decide +kernel
theorem dJ2_getChar_3b067_22 : decode cJ2_getChar_3b067 22 = .ok (.ldc 54, 2) := by decide +kernel
theorem dJ2_getChar_3b067_24 : decode cJ2_getChar_3b067 24 = .ok (.invokespecial 56, 3) := by decide +kernel
theorem dJ2_getChar_3b067_27 : decode cJ2_getChar_3b067 27 = .ok (.athrow, 1) := by decide +kernel
theorem dJ2_getChar_3b067_28 : decode cJ2_getChar_3b067 28 = .ok (.iload_n 1, 1) := by decide +kernel
theorem dJ2_getChar_3b067_29 : decode cJ2_getChar_3b067 29 = .ok (.iconst 1, 1) := by decide +kernel
theorem dJ2_getChar_3b067_30 : decode cJ2_getChar_3b067 30 = .ok (.ishl, 1) := by decide +kernel
theorem dJ2_getChar_3b067_31 : decode cJ2_getChar_3b067 31 = .ok (.istore_n 1, 1) := by decide +kernel
theorem dJ2_getChar_3b067_32 : decode cJ2_getChar_3b067 32 = .ok (.aload_n 0, 1) := by decide +kernel
theorem dJ2_getChar_3b067_33 : decode cJ2_getChar_3b067 33 = .ok (.iload_n 1, 1) := by decide +kernel
theorem dJ2_getChar_3b067_34 : decode cJ2_getChar_3b067 34 = .ok (.iinc 1 1, 3) := by decide +kernel
theorem dJ2_getChar_3b067_37 : decode cJ2_getChar_3b067 37 = .ok (.baload, 1) := by decide +kernel
theorem dJ2_getChar_3b067_38 : decode cJ2_getChar_3b067 38 = .ok (.sipush 255, 3) := by decide +kernel
theorem dJ2_getChar_3b067_41 : decode cJ2_getChar_3b067 41 = .ok (.iand, 1) := by decide +kernel
theorem dJ2_getChar_3b067_42 : decode cJ2_getChar_3b067 42 = .ok (.getstatic 59, 3) := by decide +kernel
theorem dJ2_getChar_3b067_45 : decode cJ2_getChar_3b067 45 = .ok (.ishl, 1) := by decide +kernel
theorem dJ2_getChar_3b067_46 : decode cJ2_getChar_3b067 46 = .ok (.aload_n 0, 1) := by decide +kernel
theorem dJ2_getChar_3b067_47 : decode cJ2_getChar_3b067 47 = .ok (.iload_n 1, 1) := by decide +kernel
theorem dJ2_getChar_3b067_48 : decode cJ2_getChar_3b067 48 = .ok (.baload, 1) := by decide +kernel
theorem dJ2_getChar_3b067_49 : decode cJ2_getChar_3b067 49 = .ok (.sipush 255, 3) := by decide +kernel
theorem dJ2_getChar_3b067_52 : decode cJ2_getChar_3b067 52 = .ok (.iand, 1) := by decide +kernel
theorem dJ2_getChar_3b067_53 : decode cJ2_getChar_3b067 53 = .ok (.getstatic 63, 3) := by decide +kernel
theorem dJ2_getChar_3b067_56 : decode cJ2_getChar_3b067 56 = .ok (.ishl, 1) := by decide +kernel
theorem dJ2_getChar_3b067_57 : decode cJ2_getChar_3b067 57 = .ok (.ior, 1) := by decide +kernel
theorem dJ2_getChar_3b067_58 : decode cJ2_getChar_3b067 58 = .ok (.i2c, 1) := by decide +kernel
theorem dJ2_getChar_3b067_59 : decode cJ2_getChar_3b067 59 = .ok (.ireturn, 1) := by decide +kernel
theorem dJ2_length_9d52b_0 : decode cJ2_length_9d52b 0 = .ok (.aload_n 0, 1) := by decide +kernel
theorem dJ2_length_9d52b_1 : decode cJ2_length_9d52b 1 = .ok (.arraylength, 1) := by decide +kernel
theorem dJ2_length_9d52b_2 : decode cJ2_length_9d52b 2 = .ok (.iconst 1, 1) := by decide +kernel
theorem dJ2_length_9d52b_3 : decode cJ2_length_9d52b 3 = .ok (.ishr, 1) := by decide +kernel
theorem dJ2_length_9d52b_4 : decode cJ2_length_9d52b 4 = .ok (.ireturn, 1) := by decide +kernel
theorem dJ2_charAt_3b067_0 : decode cJ2_charAt_3b067 0 = .ok (.iload_n 1, 1) := by decide +kernel
theorem dJ2_charAt_3b067_1 : decode cJ2_charAt_3b067 1 = .ok (.aload_n 0, 1) := by decide +kernel
theorem dJ2_charAt_3b067_2 : decode cJ2_charAt_3b067 2 = .ok (.invokestatic 67, 3) := by decide +kernel
theorem dJ2_charAt_3b067_5 : decode cJ2_charAt_3b067 5 = .ok (.aload_n 0, 1) := by decide +kernel
theorem dJ2_charAt_3b067_6 : decode cJ2_charAt_3b067 6 = .ok (.iload_n 1, 1) := by decide +kernel
theorem dJ2_charAt_3b067_7 : decode cJ2_charAt_3b067 7 = .ok (.invokestatic 71, 3) := by decide +kernel
theorem dJ2_charAt_3b067_10 : decode cJ2_charAt_3b067 10 = .ok (.ireturn, 1) := by decide +kernel
theorem dJ2_checkIndex_2214a_0 : decode cJ2_checkIndex_2214a 0 = .ok (.iload_n 0, 1) := by decide +kernel
theorem dJ2_checkIndex_2214a_1 : decode cJ2_checkIndex_2214a 1 = .ok (.aload_n 1, 1) := by decide +kernel
theorem dJ2_checkIndex_2214a_2 : decode cJ2_checkIndex_2214a 2 = .ok (.invokestatic 48, 3) := by decide +kernel
theorem dJ2_checkIndex_2214a_5 : decode cJ2_checkIndex_2214a 5 = .ok (.invokestatic 414, 3) := by decide +kernel
theorem dJ2_checkIndex_2214a_8 : decode cJ2_checkIndex_2214a 8 = .ok (.return_, 1) := by decide +kernel
theorem dJ3_checkIndex_8e157_0 : decode cJ3_checkIndex_8e157 0 = .ok (.iload_n 0, 1) := by decide +kernel
theorem dJ3_checkIndex_8e157_1 : decode cJ3_checkIndex_8e157 1 = .ok (.ifCond .lt 8, 3) := by decide +kernel
theorem dJ3_checkIndex_8e157_4 : decode cJ3_checkIndex_8e157 4 = .ok (.iload_n 0, 1) := by decide +kernel
theorem dJ3_checkIndex_8e157_5 : decode cJ3_checkIndex_8e157 5 = .ok (.iload_n 1, 1) := by decide +kernel
theorem dJ3_checkIndex_8e157_6 : decode cJ3_checkIndex_8e157 6 = .ok (.if_icmp .lt 10, 3) := by decide +kernel
theorem dJ3_checkIndex_8e157_9 : decode cJ3_checkIndex_8e157 9 = .ok (.aload_n 2, 1) := by decide +kernel
theorem dJ3_checkIndex_8e157_10 : decode cJ3_checkIndex_8e157 10 = .ok (.iload_n 0, 1) := by decide +kernel
theorem dJ3_checkIndex_8e157_11 : decode cJ3_checkIndex_8e157 11 = .ok (.iload_n 1, 1) := by decide +kernel
theorem dJ3_checkIndex_8e157_12 : decode cJ3_checkIndex_8e157 12 = .ok (.invokestatic 95, 3) := by decide +kernel
theorem dJ3_checkIndex_8e157_15 : decode cJ3_checkIndex_8e157 15 = .ok (.athrow, 1) := by decide +kernel
theorem dJ3_checkIndex_8e157_16 : decode cJ3_checkIndex_8e157 16 = .ok (.iload_n 0, 1) := by decide +kernel
theorem dJ3_checkIndex_8e157_17 : decode cJ3_checkIndex_8e157 17 = .ok (.ireturn, 1) := by decide +kernel
