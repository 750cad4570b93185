theorem dX10_leaves_37 : decode cX10_leaves 37 = .ok (.istore 4, 2) := by decide +kernel
theorem dX10_leaves_39 : decode cX10_leaves 39 = .ok (.iload 4, 2) := by decide +kernel
theorem dX10_leaves_41 : decode cX10_leaves 41 = .ok (.ifCond .ge 5, 3) := by decide +kernel
theorem dX10_leaves_44 : decode cX10_leaves 44 = .ok (.iload_n 3, 1) := by decide +kernel
theorem dX10_leaves_45 : decode cX10_leaves 45 = .ok (.ireturn, 1) := by decide +kernel
theorem dX10_leaves_46 : decode cX10_leaves 46 = .ok (.aload_n 0, 1) := by decide +kernel
theorem dX10_leaves_47 : decode cX10_leaves 47 = .ok (.iload 4, 2) := by decide +kernel
theorem dX10_leaves_49 : decode cX10_leaves 49 = .ok (.bipush 6, 2) := by decide +kernel
theorem dX10_leaves_51 : decode cX10_leaves 51 = .ok (.invokevirtual 76, 3) := by decide +kernel
theorem dX10_leaves_54 : decode cX10_leaves 54 = .ok (.iconst 1, 1) := by decide +kernel
theorem dX10_leaves_55 : decode cX10_leaves 55 = .ok (.isub, 1) := by decide +kernel
theorem dX10_leaves_56 : decode cX10_leaves 56 = .ok (.istore 5, 2) := by decide +kernel
theorem dX10_leaves_58 : decode cX10_leaves 58 = .ok (.aload_n 0, 1) := by decide +kernel
theorem dX10_leaves_59 : decode cX10_leaves 59 = .ok (.iload 4, 2) := by decide +kernel
theorem dX10_leaves_61 : decode cX10_leaves 61 = .ok (.bipush 6, 2) := by decide +kernel
theorem dX10_leaves_63 : decode cX10_leaves 63 = .ok (.iload_n 2, 1) := by decide +kernel
theorem dX10_leaves_64 : decode cX10_leaves 64 = .ok (.iconst 1, 1) := by decide +kernel
theorem dX10_leaves_65 : decode cX10_leaves 65 = .ok (.iadd, 1) := by decide +kernel
theorem dX10_leaves_66 : decode cX10_leaves 66 = .ok (.invokevirtual 99, 3) := by decide +kernel
theorem dX10_leaves_69 : decode cX10_leaves 69 = .ok (.iinc 3 1, 3) := by decide +kernel
theorem dX10_leaves_72 : decode cX10_leaves 72 = .ok (.iload 5, 2) := by decide +kernel
theorem dX10_leaves_74 : decode cX10_leaves 74 = .ok (.istore_n 2, 1) := by decide +kernel
theorem dX10_leaves_75 : decode cX10_leaves 75 = .ok (.goto (-48), 3) := by decide +kernel
theorem dX10_leaves_78 : decode cX10_leaves 78 = .ok (.iload_n 3, 1) := by decide +kernel
theorem dX10_leaves_79 : decode cX10_leaves 79 = .ok (.ireturn, 1) := by decide +kernel
theorem dX10_notOut_0 : decode cX10_notOut 0 = .ok (.aload_n 0, 1) := by decide +kernel
theorem dX10_notOut_1 : decode cX10_notOut 1 = .ok (.iload_n 1, 1) := by decide +kernel
theorem dX10_notOut_2 : decode cX10_notOut 2 = .ok (.invokevirtual 110, 3) := by decide +kernel
theorem dX10_notOut_5 : decode cX10_notOut 5 = .ok (.istore_n 2, 1) := by decide +kernel
theorem dX10_notOut_6 : decode cX10_notOut 6 = .ok (.iload_n 2, 1) := by decide +kernel
theorem dX10_notOut_7 : decode cX10_notOut 7 = .ok (.ifCond .ge 5, 3) := by decide +kernel
theorem dX10_notOut_10 : decode cX10_notOut 10 = .ok (.iconst 1, 1) := by decide +kernel
theorem dX10_notOut_11 : decode cX10_notOut 11 = .ok (.ireturn, 1) := by decide +kernel
theorem dX10_notOut_12 : decode cX10_notOut 12 = .ok (.aload_n 0, 1) := by decide +kernel
theorem dX10_notOut_13 : decode cX10_notOut 13 = .ok (.iload_n 2, 1) := by decide +kernel
theorem dX10_notOut_14 : decode cX10_notOut 14 = .ok (.bipush 6, 2) := by decide +kernel
theorem dX10_notOut_16 : decode cX10_notOut 16 = .ok (.invokevirtual 76, 3) := by decide +kernel
theorem dX10_notOut_19 : decode cX10_notOut 19 = .ok (.ifCond .ne 7, 3) := by decide +kernel
theorem dX10_notOut_22 : decode cX10_notOut 22 = .ok (.iconst 2, 1) := by decide +kernel
theorem dX10_notOut_23 : decode cX10_notOut 23 = .ok (.goto 4, 3) := by decide +kernel
theorem dX10_notOut_26 : decode cX10_notOut 26 = .ok (.iconst 0, 1) := by decide +kernel
theorem dX10_notOut_27 : decode cX10_notOut 27 = .ok (.ireturn, 1) := by decide +kernel
theorem dX10_moveOut_0 : decode cX10_moveOut 0 = .ok (.aload_n 0, 1) := by decide +kernel
theorem dX10_moveOut_1 : decode cX10_moveOut 1 = .ok (.iconst 0, 1) := by decide +kernel
theorem dX10_moveOut_2 : decode cX10_moveOut 2 = .ok (.putfield 57, 3) := by decide +kernel
theorem dX10_moveOut_5 : decode cX10_moveOut 5 = .ok (.aload_n 0, 1) := by decide +kernel
theorem dX10_moveOut_6 : decode cX10_moveOut 6 = .ok (.iload_n 1, 1) := by decide +kernel
theorem dX10_moveOut_7 : decode cX10_moveOut 7 = .ok (.invokevirtual 139, 3) := by decide +kernel
theorem dX10_moveOut_10 : decode cX10_moveOut 10 = .ok (.istore_n 2, 1) := by decide +kernel
theorem dX10_moveOut_11 : decode cX10_moveOut 11 = .ok (.iload_n 2, 1) := by decide +kernel
theorem dX10_moveOut_12 : decode cX10_moveOut 12 = .ok (.ifCond .eq 9, 3) := by decide +kernel
theorem dX10_moveOut_15 : decode cX10_moveOut 15 = .ok (.aload_n 0, 1) := by decide +kernel
theorem dX10_moveOut_16 : decode cX10_moveOut 16 = .ok (.iload_n 2, 1) := by decide +kernel
theorem dX10_moveOut_17 : decode cX10_moveOut 17 = .ok (.invokevirtual 89, 3) := by decide +kernel
theorem dX10_moveOut_20 : decode cX10_moveOut 20 = .ok (.ireturn, 1) := by decide +kernel
theorem dX10_moveOut_21 : decode cX10_moveOut 21 = .ok (.aload_n 0, 1) := by decide +kernel
theorem dX10_moveOut_22 : decode cX10_moveOut 22 = .ok (.invokevirtual 93, 3) := by decide +kernel
theorem dX10_moveOut_25 : decode cX10_moveOut 25 = .ok (.aload_n 0, 1) := by decide +kernel
theorem dX10_moveOut_26 : decode cX10_moveOut 26 = .ok (.aload_n 0, 1) := by decide +kernel
theorem dX10_moveOut_27 : decode cX10_moveOut 27 = .ok (.iload_n 1, 1) := by decide +kernel
theorem dX10_moveOut_28 : decode cX10_moveOut 28 = .ok (.invokevirtual 110, 3) := by decide +kernel
theorem dX10_moveOut_31 : decode cX10_moveOut 31 = .ok (.invokevirtual 142, 3) := by decide +kernel
theorem dX10_moveOut_34 : decode cX10_moveOut 34 = .ok (.ireturn, 1) := by decide +kernel
theorem dX10_notRent_0 : decode cX10_notRent 0 = .ok (.aload_n 0, 1) := by decide +kernel
theorem dX10_notRent_1 : decode cX10_notRent 1 = .ok (.iload_n 1, 1) := by decide +kernel
theorem dX10_notRent_2 : decode cX10_notRent 2 = .ok (.invokevirtual 113, 3) := by decide +kernel
theorem dX10_notRent_5 : decode cX10_notRent 5 = .ok (.ifCond .ne 5, 3) := by decide +kernel
theorem dX10_notRent_8 : decode cX10_notRent 8 = .ok (.iconst 1, 1) := by decide +kernel
theorem dX10_notRent_9 : decode cX10_notRent 9 = .ok (.ireturn, 1) := by decide +kernel
theorem dX10_notRent_10 : decode cX10_notRent 10 = .ok (.iload_n 2, 1) := by decide +kernel
theorem dX10_notRent_11 : decode cX10_notRent 11 = .ok (.iconst 1, 1) := by decide +kernel
theorem dX10_notRent_12 : decode cX10_notRent 12 = .ok (.bipush 99, 2) := by decide +kernel
theorem dX10_notRent_14 : decode cX10_notRent 14 = .ok (.invokestatic 72, 3) := by decide +kernel
theorem dX10_notRent_17 : decode cX10_notRent 17 = .ok (.ifCond .eq 7, 3) := by decide +kernel
theorem dX10_notRent_20 : decode cX10_notRent 20 = .ok (.iconst 0, 1) := by decide +kernel
theorem dX10_notRent_21 : decode cX10_notRent 21 = .ok (.goto 4, 3) := by decide +kernel
theorem dX10_notRent_24 : decode cX10_notRent 24 = .ok (.iconst 2, 1) := by decide +kernel
theorem dX10_notRent_25 : decode cX10_notRent 25 = .ok (.ireturn, 1) := by decide +kernel
theorem dX10_setsRent_0 : decode cX10_setsRent 0 = .ok (.aload_n 0, 1) := by decide +kernel
theorem dX10_setsRent_1 : decode cX10_setsRent 1 = .ok (.iload_n 1, 1) := by decide +kernel
theorem dX10_setsRent_2 : decode cX10_setsRent 2 = .ok (.iconst 1, 1) := by decide +kernel
theorem dX10_setsRent_3 : decode cX10_setsRent 3 = .ok (.invokevirtual 80, 3) := by decide +kernel
theorem dX10_setsRent_6 : decode cX10_setsRent 6 = .ok (.istore_n 3, 1) := by decide +kernel
theorem dX10_setsRent_7 : decode cX10_setsRent 7 = .ok (.aload_n 0, 1) := by decide +kernel
theorem dX10_setsRent_8 : decode cX10_setsRent 8 = .ok (.getfield 7, 3) := by decide +kernel
theorem dX10_setsRent_11 : decode cX10_setsRent 11 = .ok (.bipush 8, 2) := by decide +kernel
theorem dX10_setsRent_13 : decode cX10_setsRent 13 = .ok (.iconst 2, 1) := by decide +kernel
theorem dX10_setsRent_14 : decode cX10_setsRent 14 = .ok (.iload_n 1, 1) := by decide +kernel
theorem dX10_setsRent_15 : decode cX10_setsRent 15 = .ok (.imul, 1) := by decide +kernel
theorem dX10_setsRent_16 : decode cX10_setsRent 16 = .ok (.iadd, 1) := by decide +kernel
theorem dX10_setsRent_17 : decode cX10_setsRent 17 = .ok (.iconst 1, 1) := by decide +kernel
theorem dX10_setsRent_18 : decode cX10_setsRent 18 = .ok (.iadd, 1) := by decide +kernel
theorem dX10_setsRent_19 : decode cX10_setsRent 19 = .ok (.iload_n 2, 1) := by decide +kernel
theorem dX10_setsRent_20 : decode cX10_setsRent 20 = .ok (.iastore, 1) := by decide +kernel
theorem dX10_setsRent_21 : decode cX10_setsRent 21 = .ok (.iload_n 3, 1) := by decide +kernel
theorem dX10_setsRent_22 : decode cX10_setsRent 22 = .ok (.ireturn, 1) := by decide +kernel
theorem dX10_setRent_0 : decode cX10_setRent 0 = .ok (.aload_n 0, 1) := by decide +kernel
theorem dX10_setRent_1 : decode cX10_setRent 1 = .ok (.iconst 0, 1) := by decide +kernel
theorem dX10_setRent_2 : decode cX10_setRent 2 = .ok (.putfield 57, 3) := by decide +kernel
theorem dX10_setRent_5 : decode cX10_setRent 5 = .ok (.aload_n 0, 1) := by decide +kernel
theorem dX10_setRent_6 : decode cX10_setRent 6 = .ok (.iload_n 1, 1) := by decide +kernel
theorem dX10_setRent_7 : decode cX10_setRent 7 = .ok (.iload_n 2, 1) := by decide +kernel
theorem dX10_setRent_8 : decode cX10_setRent 8 = .ok (.invokevirtual 145, 3) := by decide +kernel
theorem dX10_setRent_11 : decode cX10_setRent 11 = .ok (.istore_n 3, 1) := by decide +kernel
theorem dX10_setRent_12 : decode cX10_setRent 12 = .ok (.iload_n 3, 1) := by decide +kernel
theorem dX10_setRent_13 : decode cX10_setRent 13 = .ok (.ifCond .eq 9, 3) := by decide +kernel
theorem dX10_setRent_16 : decode cX10_setRent 16 = .ok (.aload_n 0, 1) := by decide +kernel
theorem dX10_setRent_17 : decode cX10_setRent 17 = .ok (.iload_n 3, 1) := by decide +kernel
theorem dX10_setRent_18 : decode cX10_setRent 18 = .ok (.invokevirtual 89, 3) := by decide +kernel
theorem dX10_setRent_21 : decode cX10_setRent 21 = .ok (.ireturn, 1) := by decide +kernel
theorem dX10_setRent_22 : decode cX10_setRent 22 = .ok (.aload_n 0, 1) := by decide +kernel
theorem dX10_setRent_23 : decode cX10_setRent 23 = .ok (.invokevirtual 93, 3) := by decide +kernel
theorem dX10_setRent_26 : decode cX10_setRent 26 = .ok (.aload_n 0, 1) := by decide +kernel
theorem dX10_setRent_27 : decode cX10_setRent 27 = .ok (.iload_n 1, 1) := by decide +kernel
theorem dX10_setRent_28 : decode cX10_setRent 28 = .ok (.iload_n 2, 1) := by decide +kernel
theorem dX10_setRent_29 : decode cX10_setRent 29 = .ok (.invokevirtual 148, 3) := by decide +kernel
theorem dX10_setRent_32 : decode cX10_setRent 32 = .ok (.ireturn, 1) := by decide +kernel
theorem dX10_notGive_0 : decode cX10_notGive 0 = .ok (.aload_n 0, 1) := by decide +kernel
theorem dX10_notGive_1 : decode cX10_notGive 1 = .ok (.iload_n 1, 1) := by decide +kernel
theorem dX10_notGive_2 : decode cX10_notGive 2 = .ok (.invokevirtual 110, 3) := by decide +kernel
theorem dX10_notGive_5 : decode cX10_notGive 5 = .ok (.ifCond .ge 5, 3) := by decide +kernel
theorem dX10_notGive_8 : decode cX10_notGive 8 = .ok (.iconst 1, 1) := by decide +kernel
theorem dX10_notGive_9 : decode cX10_notGive 9 = .ok (.ireturn, 1) := by decide +kernel
theorem dX10_notGive_10 : decode cX10_notGive 10 = .ok (.iload_n 2, 1) := by decide +kernel
theorem dX10_notGive_11 : decode cX10_notGive 11 = .ok (.iconst 1, 1) := by decide +kernel
theorem dX10_notGive_12 : decode cX10_notGive 12 = .ok (.bipush 99, 2) := by decide +kernel
theorem dX10_notGive_14 : decode cX10_notGive 14 = .ok (.invokestatic 72, 3) := by decide +kernel
theorem dX10_notGive_17 : decode cX10_notGive 17 = .ok (.ifCond .eq 7, 3) := by decide +kernel
theorem dX10_notGive_20 : decode cX10_notGive 20 = .ok (.iconst 0, 1) := by decide +kernel
theorem dX10_notGive_21 : decode cX10_notGive 21 = .ok (.goto 4, 3) := by decide +kernel
theorem dX10_notGive_24 : decode cX10_notGive 24 = .ok (.iconst 2, 1) := by decide +kernel
theorem dX10_notGive_25 : decode cX10_notGive 25 = .ok (.ireturn, 1) := by decide +kernel
theorem dX10_gives_0 : decode cX10_gives 0 = .ok (.aload_n 0, 1) := by decide +kernel
theorem dX10_gives_1 : decode cX10_gives 1 = .ok (.iload_n 1, 1) := by decide +kernel
theorem dX10_gives_2 : decode cX10_gives 2 = .ok (.invokevirtual 110, 3) := by decide +kernel
theorem dX10_gives_5 : decode cX10_gives 5 = .ok (.istore_n 3, 1) := by decide +kernel
theorem dX10_gives_6 : decode cX10_gives 6 = .ok (.aload_n 0, 1) := by decide +kernel
theorem dX10_gives_7 : decode cX10_gives 7 = .ok (.iload_n 3, 1) := by decide +kernel
theorem dX10_gives_8 : decode cX10_gives 8 = .ok (.iconst 4, 1) := by decide +kernel
theorem dX10_gives_9 : decode cX10_gives 9 = .ok (.aload_n 0, 1) := by decide +kernel
theorem dX10_gives_10 : decode cX10_gives 10 = .ok (.iload_n 3, 1) := by decide +kernel
theorem dX10_gives_11 : decode cX10_gives 11 = .ok (.iconst 4, 1) := by decide +kernel
theorem dX10_gives_12 : decode cX10_gives 12 = .ok (.invokevirtual 76, 3) := by decide +kernel
theorem dX10_gives_15 : decode cX10_gives 15 = .ok (.iload_n 2, 1) := by decide +kernel
theorem dX10_gives_16 : decode cX10_gives 16 = .ok (.iadd, 1) := by decide +kernel
theorem dX10_gives_17 : decode cX10_gives 17 = .ok (.invokevirtual 99, 3) := by decide +kernel
theorem dX10_gives_20 : decode cX10_gives 20 = .ok (.aload_n 0, 1) := by decide +kernel
theorem dX10_gives_21 : decode cX10_gives 21 = .ok (.getfield 7, 3) := by decide +kernel
theorem dX10_gives_24 : decode cX10_gives 24 = .ok (.bipush 7, 2) := by decide +kernel
theorem dX10_gives_26 : decode cX10_gives 26 = .ok (.dup2, 1) := by decide +kernel
theorem dX10_gives_27 : decode cX10_gives 27 = .ok (.iaload, 1) := by decide +kernel
theorem dX10_gives_28 : decode cX10_gives 28 = .ok (.iload_n 2, 1) := by decide +kernel
theorem dX10_gives_29 : decode cX10_gives 29 = .ok (.iadd, 1) := by decide +kernel
theorem dX10_gives_30 : decode cX10_gives 30 = .ok (.iastore, 1) := by decide +kernel
theorem dX10_gives_31 : decode cX10_gives 31 = .ok (.aload_n 0, 1) := by decide +kernel
theorem dX10_gives_32 : decode cX10_gives 32 = .ok (.iload_n 3, 1) := by decide +kernel
theorem dX10_gives_33 : decode cX10_gives 33 = .ok (.iconst 4, 1) := by decide +kernel
theorem dX10_gives_34 : decode cX10_gives 34 = .ok (.invokevirtual 76, 3) := by decide +kernel
theorem dX10_gives_37 : decode cX10_gives 37 = .ok (.ireturn, 1) := by decide +kernel
theorem dX10_give_0 : decode cX10_give 0 = .ok (.aload_n 0, 1) := by decide +kernel
theorem dX10_give_1 : decode cX10_give 1 = .ok (.iconst 0, 1) := by decide +kernel
theorem dX10_give_2 : decode cX10_give 2 = .ok (.putfield 57, 3) := by decide +kernel
theorem dX10_give_5 : decode cX10_give 5 = .ok (.aload_n 0, 1) := by decide +kernel
theorem dX10_give_6 : decode cX10_give 6 = .ok (.iload_n 1, 1) := by decide +kernel
theorem dX10_give_7 : decode cX10_give 7 = .ok (.iload_n 2, 1) := by decide +kernel
theorem dX10_give_8 : decode cX10_give 8 = .ok (.invokevirtual 151, 3) := by decide +kernel
theorem dX10_give_11 : decode cX10_give 11 = .ok (.istore_n 3, 1) := by decide +kernel
theorem dX10_give_12 : decode cX10_give 12 = .ok (.iload_n 3, 1) := by decide +kernel
theorem dX10_give_13 : decode cX10_give 13 = .ok (.ifCond .eq 9, 3) := by decide +kernel
theorem dX10_give_16 : decode cX10_give 16 = .ok (.aload_n 0, 1) := by decide +kernel
theorem dX10_give_17 : decode cX10_give 17 = .ok (.iload_n 3, 1) := by decide +kernel
theorem dX10_give_18 : decode cX10_give 18 = .ok (.invokevirtual 89, 3) := by decide +kernel
theorem dX10_give_21 : decode cX10_give 21 = .ok (.ireturn, 1) := by decide +kernel
theorem dX10_give_22 : decode cX10_give 22 = .ok (.aload_n 0, 1) := by decide +kernel
theorem dX10_give_23 : decode cX10_give 23 = .ok (.invokevirtual 93, 3) := by decide +kernel
theorem dX10_give_26 : decode cX10_give 26 = .ok (.aload_n 0, 1) := by decide +kernel
theorem dX10_give_27 : decode cX10_give 27 = .ok (.iload_n 1, 1) := by decide +kernel
theorem dX10_give_28 : decode cX10_give 28 = .ok (.iload_n 2, 1) := by decide +kernel
theorem dX10_give_29 : decode cX10_give 29 = .ok (.invokevirtual 154, 3) := by decide +kernel
theorem dX10_give_32 : decode cX10_give 32 = .ok (.ireturn, 1) := by decide +kernel
theorem dX10_flatAt_0 : decode cX10_flatAt 0 = .ok (.iconst 0, 1) := by decide +kernel
theorem dX10_flatAt_1 : decode cX10_flatAt 1 = .ok (.istore_n 3, 1) := by decide +kernel
theorem dX10_flatAt_2 : decode cX10_flatAt 2 = .ok (.iload_n 3, 1) := by decide +kernel
theorem dX10_flatAt_3 : decode cX10_flatAt 3 = .ok (.aload_n 0, 1) := by decide +kernel
theorem dX10_flatAt_4 : decode cX10_flatAt 4 = .ok (.getfield 7, 3) := by decide +kernel
theorem dX10_flatAt_7 : decode cX10_flatAt 7 = .ok (.iconst 0, 1) := by decide +kernel
theorem dX10_flatAt_8 : decode cX10_flatAt 8 = .ok (.iaload, 1) := by decide +kernel
theorem dX10_flatAt_9 : decode cX10_flatAt 9 = .ok (.if_icmp .ge 67, 3) := by decide +kernel
theorem dX10_flatAt_12 : decode cX10_flatAt 12 = .ok (.iconst 0, 1) := by decide +kernel
theorem dX10_flatAt_13 : decode cX10_flatAt 13 = .ok (.istore 4, 2) := by decide +kernel
theorem dX10_flatAt_15 : decode cX10_flatAt 15 = .ok (.iconst 0, 1) := by decide +kernel
theorem dX10_flatAt_16 : decode cX10_flatAt 16 = .ok (.istore 5, 2) := by decide +kernel
theorem dX10_flatAt_18 : decode cX10_flatAt 18 = .ok (.iload 5, 2) := by decide +kernel
theorem dX10_flatAt_20 : decode cX10_flatAt 20 = .ok (.aload_n 0, 1) := by decide +kernel
theorem dX10_flatAt_21 : decode cX10_flatAt 21 = .ok (.getfield 7, 3) := by decide +kernel
theorem dX10_flatAt_24 : decode cX10_flatAt 24 = .ok (.iconst 0, 1) := by decide +kernel
theorem dX10_flatAt_25 : decode cX10_flatAt 25 = .ok (.iaload, 1) := by decide +kernel
theorem dX10_flatAt_26 : decode cX10_flatAt 26 = .ok (.if_icmp .ge 36, 3) := by decide +kernel
theorem dX10_flatAt_29 : decode cX10_flatAt 29 = .ok (.iload 4, 2) := by decide +kernel
theorem dX10_flatAt_31 : decode cX10_flatAt 31 = .ok (.iload 5, 2) := by decide +kernel
theorem dX10_flatAt_33 : decode cX10_flatAt 33 = .ok (.iload_n 3, 1) := by decide +kernel
theorem dX10_flatAt_34 : decode cX10_flatAt 34 = .ok (.if_icmp .eq 18, 3) := by decide +kernel
theorem dX10_flatAt_37 : decode cX10_flatAt 37 = .ok (.aload_n 0, 1) := by decide +kernel
theorem dX10_flatAt_38 : decode cX10_flatAt 38 = .ok (.iload_n 1, 1) := by decide +kernel
theorem dX10_flatAt_39 : decode cX10_flatAt 39 = .ok (.iload 5, 2) := by decide +kernel
theorem dX10_flatAt_41 : decode cX10_flatAt 41 = .ok (.iload_n 3, 1) := by decide +kernel
theorem dX10_flatAt_42 : decode cX10_flatAt 42 = .ok (.invokevirtual 130, 3) := by decide +kernel
theorem dX10_flatAt_45 : decode cX10_flatAt 45 = .ok (.ifCond .eq 7, 3) := by decide +kernel
theorem dX10_flatAt_48 : decode cX10_flatAt 48 = .ok (.iconst 1, 1) := by decide +kernel
theorem dX10_flatAt_49 : decode cX10_flatAt 49 = .ok (.goto 4, 3) := by decide +kernel
theorem dX10_flatAt_52 : decode cX10_flatAt 52 = .ok (.iconst 0, 1) := by decide +kernel
theorem dX10_flatAt_53 : decode cX10_flatAt 53 = .ok (.iadd, 1) := by decide +kernel
theorem dX10_flatAt_54 : decode cX10_flatAt 54 = .ok (.istore 4, 2) := by decide +kernel
theorem dX10_flatAt_56 : decode cX10_flatAt 56 = .ok (.iinc 5 1, 3) := by decide +kernel
theorem dX10_flatAt_59 : decode cX10_flatAt 59 = .ok (.goto (-41), 3) := by decide +kernel
theorem dX10_flatAt_62 : decode cX10_flatAt 62 = .ok (.iload 4, 2) := by decide +kernel
theorem dX10_flatAt_64 : decode cX10_flatAt 64 = .ok (.iload_n 2, 1) := by decide +kernel
theorem dX10_flatAt_65 : decode cX10_flatAt 65 = .ok (.if_icmp .ne 5, 3) := by decide +kernel
theorem dX10_flatAt_68 : decode cX10_flatAt 68 = .ok (.iload_n 3, 1) := by decide +kernel
theorem dX10_flatAt_69 : decode cX10_flatAt 69 = .ok (.ireturn, 1) := by decide +kernel
theorem dX10_flatAt_70 : decode cX10_flatAt 70 = .ok (.iinc 3 1, 3) := by decide +kernel
theorem dX10_flatAt_73 : decode cX10_flatAt 73 = .ok (.goto (-71), 3) := by decide +kernel
theorem dX10_flatAt_76 : decode cX10_flatAt 76 = .ok (.iconst (-1), 1) := by decide +kernel
theorem dX10_flatAt_77 : decode cX10_flatAt 77 = .ok (.ireturn, 1) := by decide +kernel
theorem dX10_plannedIn_0 : decode cX10_plannedIn 0 = .ok (.iconst 0, 1) := by decide +kernel
theorem dX10_plannedIn_1 : decode cX10_plannedIn 1 = .ok (.istore_n 2, 1) := by decide +kernel
theorem dX10_plannedIn_2 : decode cX10_plannedIn 2 = .ok (.iload_n 2, 1) := by decide +kernel
theorem dX10_plannedIn_3 : decode cX10_plannedIn 3 = .ok (.aload_n 0, 1) := by decide +kernel
theorem dX10_plannedIn_4 : decode cX10_plannedIn 4 = .ok (.getfield 7, 3) := by decide +kernel
theorem dX10_plannedIn_7 : decode cX10_plannedIn 7 = .ok (.iconst 1, 1) := by decide +kernel
theorem dX10_plannedIn_8 : decode cX10_plannedIn 8 = .ok (.iaload, 1) := by decide +kernel
theorem dX10_plannedIn_9 : decode cX10_plannedIn 9 = .ok (.if_icmp .ge 21, 3) := by decide +kernel
theorem dX10_plannedIn_12 : decode cX10_plannedIn 12 = .ok (.aload_n 0, 1) := by decide +kernel
theorem dX10_plannedIn_13 : decode cX10_plannedIn 13 = .ok (.getfield 25, 3) := by decide +kernel
theorem dX10_plannedIn_16 : decode cX10_plannedIn 16 = .ok (.iload_n 2, 1) := by decide +kernel
theorem dX10_plannedIn_17 : decode cX10_plannedIn 17 = .ok (.iaload, 1) := by decide +kernel
theorem dX10_plannedIn_18 : decode cX10_plannedIn 18 = .ok (.iload_n 1, 1) := by decide +kernel
theorem dX10_plannedIn_19 : decode cX10_plannedIn 19 = .ok (.if_icmp .ne 5, 3) := by decide +kernel
theorem dX10_plannedIn_22 : decode cX10_plannedIn 22 = .ok (.iload_n 2, 1) := by decide +kernel
theorem dX10_plannedIn_23 : decode cX10_plannedIn 23 = .ok (.ireturn, 1) := by decide +kernel
theorem dX10_plannedIn_24 : decode cX10_plannedIn 24 = .ok (.iinc 2 1, 3) := by decide +kernel
theorem dX10_plannedIn_27 : decode cX10_plannedIn 27 = .ok (.goto (-25), 3) := by decide +kernel
theorem dX10_plannedIn_30 : decode cX10_plannedIn 30 = .ok (.iconst (-1), 1) := by decide +kernel
theorem dX10_plannedIn_31 : decode cX10_plannedIn 31 = .ok (.ireturn, 1) := by decide +kernel
theorem dX10_asks_0 : decode cX10_asks 0 = .ok (.aload_n 0, 1) := by decide +kernel
theorem dX10_asks_1 : decode cX10_asks 1 = .ok (.getfield 25, 3) := by decide +kernel
theorem dX10_asks_4 : decode cX10_asks 4 = .ok (.iload_n 1, 1) := by decide +kernel
theorem dX10_asks_5 : decode cX10_asks 5 = .ok (.iaload, 1) := by decide +kernel
theorem dX10_asks_6 : decode cX10_asks 6 = .ok (.ifCond .ge 18, 3) := by decide +kernel
theorem dX10_asks_9 : decode cX10_asks 9 = .ok (.aload_n 0, 1) := by decide +kernel
theorem dX10_asks_10 : decode cX10_asks 10 = .ok (.getfield 28, 3) := by decide +kernel
theorem dX10_asks_13 : decode cX10_asks 13 = .ok (.iload_n 1, 1) := by decide +kernel
theorem dX10_asks_14 : decode cX10_asks 14 = .ok (.iaload, 1) := by decide +kernel
theorem dX10_asks_15 : decode cX10_asks 15 = .ok (.aload_n 0, 1) := by decide +kernel
theorem dX10_asks_16 : decode cX10_asks 16 = .ok (.getfield 7, 3) := by decide +kernel
theorem dX10_asks_19 : decode cX10_asks 19 = .ok (.iconst 0, 1) := by decide +kernel
theorem dX10_asks_20 : decode cX10_asks 20 = .ok (.iaload, 1) := by decide +kernel
theorem dX10_asks_21 : decode cX10_asks 21 = .ok (.if_icmp .ne 5, 3) := by decide +kernel
theorem dX10_asks_24 : decode cX10_asks 24 = .ok (.iconst 0, 1) := by decide +kernel
theorem dX10_asks_25 : decode cX10_asks 25 = .ok (.ireturn, 1) := by decide +kernel
theorem dX10_asks_26 : decode cX10_asks 26 = .ok (.aload_n 0, 1) := by decide +kernel
theorem dX10_asks_27 : decode cX10_asks 27 = .ok (.iload_n 1, 1) := by decide +kernel
theorem dX10_asks_28 : decode cX10_asks 28 = .ok (.aload_n 0, 1) := by decide +kernel
theorem dX10_asks_29 : decode cX10_asks 29 = .ok (.getfield 28, 3) := by decide +kernel
theorem dX10_asks_32 : decode cX10_asks 32 = .ok (.iload_n 1, 1) := by decide +kernel
theorem dX10_asks_33 : decode cX10_asks 33 = .ok (.iaload, 1) := by decide +kernel
theorem dX10_asks_34 : decode cX10_asks 34 = .ok (.invokevirtual 157, 3) := by decide +kernel
theorem dX10_asks_37 : decode cX10_asks 37 = .ok (.istore_n 2, 1) := by decide +kernel
theorem dX10_asks_38 : decode cX10_asks 38 = .ok (.aload_n 0, 1) := by decide +kernel
theorem dX10_asks_39 : decode cX10_asks 39 = .ok (.getfield 28, 3) := by decide +kernel
theorem dX10_asks_42 : decode cX10_asks 42 = .ok (.iload_n 1, 1) := by decide +kernel
theorem dX10_asks_43 : decode cX10_asks 43 = .ok (.dup2, 1) := by decide +kernel
theorem dX10_asks_44 : decode cX10_asks 44 = .ok (.iaload, 1) := by decide +kernel
theorem dX10_asks_45 : decode cX10_asks 45 = .ok (.iconst 1, 1) := by decide +kernel
theorem dX10_asks_46 : decode cX10_asks 46 = .ok (.iadd, 1) := by decide +kernel
theorem dX10_asks_47 : decode cX10_asks 47 = .ok (.iastore, 1) := by decide +kernel
theorem dX10_asks_48 : decode cX10_asks 48 = .ok (.aload_n 0, 1) := by decide +kernel
theorem dX10_asks_49 : decode cX10_asks 49 = .ok (.iload_n 1, 1) := by decide +kernel
theorem dX10_asks_50 : decode cX10_asks 50 = .ok (.iload_n 2, 1) := by decide +kernel
theorem dX10_asks_51 : decode cX10_asks 51 = .ok (.invokevirtual 120, 3) := by decide +kernel
theorem dX10_asks_54 : decode cX10_asks 54 = .ok (.ifCond .ne 5, 3) := by decide +kernel
theorem dX10_asks_57 : decode cX10_asks 57 = .ok (.iconst 1, 1) := by decide +kernel
theorem dX10_asks_58 : decode cX10_asks 58 = .ok (.ireturn, 1) := by decide +kernel
theorem dX10_asks_59 : decode cX10_asks 59 = .ok (.aload_n 0, 1) := by decide +kernel
theorem dX10_asks_60 : decode cX10_asks 60 = .ok (.iload_n 2, 1) := by decide +kernel
theorem dX10_asks_61 : decode cX10_asks 61 = .ok (.invokevirtual 160, 3) := by decide +kernel
theorem dX10_asks_64 : decode cX10_asks 64 = .ok (.istore_n 3, 1) := by decide +kernel
theorem dX10_asks_65 : decode cX10_asks 65 = .ok (.iload_n 3, 1) := by decide +kernel
theorem dX10_asks_66 : decode cX10_asks 66 = .ok (.ifCond .lt 14, 3) := by decide +kernel
theorem dX10_asks_69 : decode cX10_asks 69 = .ok (.aload_n 0, 1) := by decide +kernel
theorem dX10_asks_70 : decode cX10_asks 70 = .ok (.iload_n 3, 1) := by decide +kernel
theorem dX10_asks_71 : decode cX10_asks 71 = .ok (.iload_n 1, 1) := by decide +kernel
theorem dX10_asks_72 : decode cX10_asks 72 = .ok (.invokevirtual 133, 3) := by decide +kernel
theorem dX10_asks_75 : decode cX10_asks 75 = .ok (.ifCond .eq 5, 3) := by decide +kernel
theorem dX10_asks_78 : decode cX10_asks 78 = .ok (.iconst 1, 1) := by decide +kernel
theorem dX10_asks_79 : decode cX10_asks 79 = .ok (.ireturn, 1) := by decide +kernel
theorem dX10_asks_80 : decode cX10_asks 80 = .ok (.iload_n 3, 1) := by decide +kernel
theorem dX10_asks_81 : decode cX10_asks 81 = .ok (.ifCond .lt 10, 3) := by decide +kernel
theorem dX10_asks_84 : decode cX10_asks 84 = .ok (.aload_n 0, 1) := by decide +kernel
theorem dX10_asks_85 : decode cX10_asks 85 = .ok (.getfield 25, 3) := by decide +kernel
theorem dX10_asks_88 : decode cX10_asks 88 = .ok (.iload_n 3, 1) := by decide +kernel
theorem dX10_asks_89 : decode cX10_asks 89 = .ok (.iconst (-1), 1) := by decide +kernel
theorem dX10_asks_90 : decode cX10_asks 90 = .ok (.iastore, 1) := by decide +kernel
theorem dX10_asks_91 : decode cX10_asks 91 = .ok (.aload_n 0, 1) := by decide +kernel
theorem dX10_asks_92 : decode cX10_asks 92 = .ok (.getfield 25, 3) := by decide +kernel
theorem dX10_asks_95 : decode cX10_asks 95 = .ok (.iload_n 1, 1) := by decide +kernel
theorem dX10_asks_96 : decode cX10_asks 96 = .ok (.iload_n 2, 1) := by decide +kernel
theorem dX10_asks_97 : decode cX10_asks 97 = .ok (.iastore, 1) := by decide +kernel
theorem dX10_asks_98 : decode cX10_asks 98 = .ok (.iconst 1, 1) := by decide +kernel
theorem dX10_asks_99 : decode cX10_asks 99 = .ok (.ireturn, 1) := by decide +kernel
theorem dX10_findsPlan_0 : decode cX10_findsPlan 0 = .ok (.iconst 0, 1) := by decide +kernel
theorem dX10_findsPlan_1 : decode cX10_findsPlan 1 = .ok (.istore_n 1, 1) := by decide +kernel
theorem dX10_findsPlan_2 : decode cX10_findsPlan 2 = .ok (.iload_n 1, 1) := by decide +kernel
theorem dX10_findsPlan_3 : decode cX10_findsPlan 3 = .ok (.bipush 6, 2) := by decide +kernel
theorem dX10_findsPlan_5 : decode cX10_findsPlan 5 = .ok (.if_icmp .ge 23, 3) := by decide +kernel
theorem dX10_findsPlan_8 : decode cX10_findsPlan 8 = .ok (.aload_n 0, 1) := by decide +kernel
theorem dX10_findsPlan_9 : decode cX10_findsPlan 9 = .ok (.getfield 25, 3) := by decide +kernel
theorem dX10_findsPlan_12 : decode cX10_findsPlan 12 = .ok (.iload_n 1, 1) := by decide +kernel
theorem dX10_findsPlan_13 : decode cX10_findsPlan 13 = .ok (.iconst (-1), 1) := by decide +kernel
theorem dX10_findsPlan_14 : decode cX10_findsPlan 14 = .ok (.iastore, 1) := by decide +kernel
theorem dX10_findsPlan_15 : decode cX10_findsPlan 15 = .ok (.aload_n 0, 1) := by decide +kernel
theorem dX10_findsPlan_16 : decode cX10_findsPlan 16 = .ok (.getfield 28, 3) := by decide +kernel
theorem dX10_findsPlan_19 : decode cX10_findsPlan 19 = .ok (.iload_n 1, 1) := by decide +kernel
theorem dX10_findsPlan_20 : decode cX10_findsPlan 20 = .ok (.iconst 0, 1) := by decide +kernel
theorem dX10_findsPlan_21 : decode cX10_findsPlan 21 = .ok (.iastore, 1) := by decide +kernel
theorem dX10_findsPlan_22 : decode cX10_findsPlan 22 = .ok (.iinc 1 1, 3) := by decide +kernel
theorem dX10_findsPlan_25 : decode cX10_findsPlan 25 = .ok (.goto (-23), 3) := by decide +kernel
theorem dX10_findsPlan_28 : decode cX10_findsPlan 28 = .ok (.iconst 1, 1) := by decide +kernel
theorem dX10_findsPlan_29 : decode cX10_findsPlan 29 = .ok (.istore_n 1, 1) := by decide +kernel
theorem dX10_findsPlan_30 : decode cX10_findsPlan 30 = .ok (.iload_n 1, 1) := by decide +kernel
theorem dX10_findsPlan_31 : decode cX10_findsPlan 31 = .ok (.ifCond .eq 44, 3) := by decide +kernel
theorem dX10_findsPlan_34 : decode cX10_findsPlan 34 = .ok (.iconst 0, 1) := by decide +kernel
theorem dX10_findsPlan_35 : decode cX10_findsPlan 35 = .ok (.istore_n 1, 1) := by decide +kernel
theorem dX10_findsPlan_36 : decode cX10_findsPlan 36 = .ok (.iconst 0, 1) := by decide +kernel
theorem dX10_findsPlan_37 : decode cX10_findsPlan 37 = .ok (.istore_n 2, 1) := by decide +kernel
theorem dX10_findsPlan_38 : decode cX10_findsPlan 38 = .ok (.iload_n 2, 1) := by decide +kernel
theorem dX10_findsPlan_39 : decode cX10_findsPlan 39 = .ok (.aload_n 0, 1) := by decide +kernel
theorem dX10_findsPlan_40 : decode cX10_findsPlan 40 = .ok (.getfield 7, 3) := by decide +kernel
theorem dX10_findsPlan_43 : decode cX10_findsPlan 43 = .ok (.iconst 1, 1) := by decide +kernel
theorem dX10_findsPlan_44 : decode cX10_findsPlan 44 = .ok (.iaload, 1) := by decide +kernel
theorem dX10_findsPlan_45 : decode cX10_findsPlan 45 = .ok (.if_icmp .ge 27, 3) := by decide +kernel
theorem dX10_findsPlan_48 : decode cX10_findsPlan 48 = .ok (.aload_n 0, 1) := by decide +kernel
theorem dX10_findsPlan_49 : decode cX10_findsPlan 49 = .ok (.iload_n 2, 1) := by decide +kernel
theorem dX10_findsPlan_50 : decode cX10_findsPlan 50 = .ok (.invokevirtual 163, 3) := by decide +kernel
theorem dX10_findsPlan_53 : decode cX10_findsPlan 53 = .ok (.ifCond .ne 7, 3) := by decide +kernel
theorem dX10_findsPlan_56 : decode cX10_findsPlan 56 = .ok (.iload_n 1, 1) := by decide +kernel
theorem dX10_findsPlan_57 : decode cX10_findsPlan 57 = .ok (.ifCond .eq 7, 3) := by decide +kernel
theorem dX10_findsPlan_60 : decode cX10_findsPlan 60 = .ok (.iconst 1, 1) := by decide +kernel
theorem dX10_findsPlan_61 : decode cX10_findsPlan 61 = .ok (.goto 4, 3) := by decide +kernel
theorem dX10_findsPlan_64 : decode cX10_findsPlan 64 = .ok (.iconst 0, 1) := by decide +kernel
theorem dX10_findsPlan_65 : decode cX10_findsPlan 65 = .ok (.istore_n 1, 1) := by decide +kernel
theorem dX10_findsPlan_66 : decode cX10_findsPlan 66 = .ok (.iinc 2 1, 3) := by decide +kernel
theorem dX10_findsPlan_69 : decode cX10_findsPlan 69 = .ok (.goto (-31), 3) := by decide +kernel
theorem dX10_findsPlan_72 : decode cX10_findsPlan 72 = .ok (.goto (-42), 3) := by decide +kernel
theorem dX10_findsPlan_75 : decode cX10_findsPlan 75 = .ok (.return_, 1) := by decide +kernel
theorem dX10_isPlan_0 : decode cX10_isPlan 0 = .ok (.iconst 0, 1) := by decide +kernel
theorem dX10_isPlan_1 : decode cX10_isPlan 1 = .ok (.istore_n 1, 1) := by decide +kernel
theorem dX10_isPlan_2 : decode cX10_isPlan 2 = .ok (.iload_n 1, 1) := by decide +kernel
theorem dX10_isPlan_3 : decode cX10_isPlan 3 = .ok (.aload_n 0, 1) := by decide +kernel
theorem dX10_isPlan_4 : decode cX10_isPlan 4 = .ok (.getfield 7, 3) := by decide +kernel
theorem dX10_isPlan_7 : decode cX10_isPlan 7 = .ok (.iconst 1, 1) := by decide +kernel
theorem dX10_isPlan_8 : decode cX10_isPlan 8 = .ok (.iaload, 1) := by decide +kernel
theorem dX10_isPlan_9 : decode cX10_isPlan 9 = .ok (.if_icmp .ge 66, 3) := by decide +kernel
theorem dX10_isPlan_12 : decode cX10_isPlan 12 = .ok (.aload_n 0, 1) := by decide +kernel
theorem dX10_isPlan_13 : decode cX10_isPlan 13 = .ok (.getfield 25, 3) := by decide +kernel
theorem dX10_isPlan_16 : decode cX10_isPlan 16 = .ok (.iload_n 1, 1) := by decide +kernel
theorem dX10_isPlan_17 : decode cX10_isPlan 17 = .ok (.iaload, 1) := by decide +kernel
theorem dX10_isPlan_18 : decode cX10_isPlan 18 = .ok (.ifCond .ge 6, 3) := by decide +kernel
theorem dX10_isPlan_21 : decode cX10_isPlan 21 = .ok (.goto 48, 3) := by decide +kernel
theorem dX10_isPlan_24 : decode cX10_isPlan 24 = .ok (.aload_n 0, 1) := by decide +kernel
theorem dX10_isPlan_25 : decode cX10_isPlan 25 = .ok (.getfield 25, 3) := by decide +kernel
theorem dX10_isPlan_28 : decode cX10_isPlan 28 = .ok (.iload_n 1, 1) := by decide +kernel
theorem dX10_isPlan_29 : decode cX10_isPlan 29 = .ok (.iaload, 1) := by decide +kernel
theorem dX10_isPlan_30 : decode cX10_isPlan 30 = .ok (.aload_n 0, 1) := by decide +kernel
theorem dX10_isPlan_31 : decode cX10_isPlan 31 = .ok (.getfield 7, 3) := by decide +kernel
theorem dX10_isPlan_34 : decode cX10_isPlan 34 = .ok (.iconst 0, 1) := by decide +kernel
theorem dX10_isPlan_35 : decode cX10_isPlan 35 = .ok (.iaload, 1) := by decide +kernel
theorem dX10_isPlan_36 : decode cX10_isPlan 36 = .ok (.if_icmp .ge 31, 3) := by decide +kernel
theorem dX10_isPlan_39 : decode cX10_isPlan 39 = .ok (.aload_n 0, 1) := by decide +kernel
theorem dX10_isPlan_40 : decode cX10_isPlan 40 = .ok (.iload_n 1, 1) := by decide +kernel
theorem dX10_isPlan_41 : decode cX10_isPlan 41 = .ok (.aload_n 0, 1) := by decide +kernel
theorem dX10_isPlan_42 : decode cX10_isPlan 42 = .ok (.getfield 25, 3) := by decide +kernel
theorem dX10_isPlan_45 : decode cX10_isPlan 45 = .ok (.iload_n 1, 1) := by decide +kernel
theorem dX10_isPlan_46 : decode cX10_isPlan 46 = .ok (.iaload, 1) := by decide +kernel
theorem dX10_isPlan_47 : decode cX10_isPlan 47 = .ok (.invokevirtual 120, 3) := by decide +kernel
theorem dX10_isPlan_50 : decode cX10_isPlan 50 = .ok (.ifCond .eq 17, 3) := by decide +kernel
theorem dX10_isPlan_53 : decode cX10_isPlan 53 = .ok (.aload_n 0, 1) := by decide +kernel
theorem dX10_isPlan_54 : decode cX10_isPlan 54 = .ok (.aload_n 0, 1) := by decide +kernel
theorem dX10_isPlan_55 : decode cX10_isPlan 55 = .ok (.getfield 25, 3) := by decide +kernel
theorem dX10_isPlan_58 : decode cX10_isPlan 58 = .ok (.iload_n 1, 1) := by decide +kernel
theorem dX10_isPlan_59 : decode cX10_isPlan 59 = .ok (.iaload, 1) := by decide +kernel
theorem dX10_isPlan_60 : decode cX10_isPlan 60 = .ok (.invokevirtual 160, 3) := by decide +kernel
theorem dX10_isPlan_63 : decode cX10_isPlan 63 = .ok (.iload_n 1, 1) := by decide +kernel
theorem dX10_isPlan_64 : decode cX10_isPlan 64 = .ok (.if_icmp .eq 5, 3) := by decide +kernel
theorem dX10_isPlan_67 : decode cX10_isPlan 67 = .ok (.iconst 0, 1) := by decide +kernel
theorem dX10_isPlan_68 : decode cX10_isPlan 68 = .ok (.ireturn, 1) := by decide +kernel
theorem dX10_isPlan_69 : decode cX10_isPlan 69 = .ok (.iinc 1 1, 3) := by decide +kernel
theorem dX10_isPlan_72 : decode cX10_isPlan 72 = .ok (.goto (-70), 3) := by decide +kernel
theorem dX10_isPlan_75 : decode cX10_isPlan 75 = .ok (.iconst 1, 1) := by decide +kernel
theorem dX10_isPlan_76 : decode cX10_isPlan 76 = .ok (.ireturn, 1) := by decide +kernel
theorem dX10_isStablePlan_0 : decode cX10_isStablePlan 0 = .ok (.aload_n 0, 1) := by decide +kernel
theorem dX10_isStablePlan_1 : decode cX10_isStablePlan 1 = .ok (.invokevirtual 166, 3) := by decide +kernel
theorem dX10_isStablePlan_4 : decode cX10_isStablePlan 4 = .ok (.ifCond .ne 5, 3) := by decide +kernel
theorem dX10_isStablePlan_7 : decode cX10_isStablePlan 7 = .ok (.iconst 0, 1) := by decide +kernel
theorem dX10_isStablePlan_8 : decode cX10_isStablePlan 8 = .ok (.ireturn, 1) := by decide +kernel
theorem dX10_isStablePlan_9 : decode cX10_isStablePlan 9 = .ok (.iconst 0, 1) := by decide +kernel
theorem dX10_isStablePlan_10 : decode cX10_isStablePlan 10 = .ok (.istore_n 1, 1) := by decide +kernel
theorem dX10_isStablePlan_11 : decode cX10_isStablePlan 11 = .ok (.iload_n 1, 1) := by decide +kernel
theorem dX10_isStablePlan_12 : decode cX10_isStablePlan 12 = .ok (.aload_n 0, 1) := by decide +kernel
theorem dX10_isStablePlan_13 : decode cX10_isStablePlan 13 = .ok (.getfield 7, 3) := by decide +kernel
theorem dX10_isStablePlan_16 : decode cX10_isStablePlan 16 = .ok (.iconst 1, 1) := by decide +kernel
theorem dX10_isStablePlan_17 : decode cX10_isStablePlan 17 = .ok (.iaload, 1) := by decide +kernel
theorem dX10_isStablePlan_18 : decode cX10_isStablePlan 18 = .ok (.if_icmp .ge 85, 3) := by decide +kernel
theorem dX10_isStablePlan_21 : decode cX10_isStablePlan 21 = .ok (.iconst 0, 1) := by decide +kernel
theorem dX10_isStablePlan_22 : decode cX10_isStablePlan 22 = .ok (.istore_n 2, 1) := by decide +kernel
theorem dX10_isStablePlan_23 : decode cX10_isStablePlan 23 = .ok (.iload_n 2, 1) := by decide +kernel
theorem dX10_isStablePlan_24 : decode cX10_isStablePlan 24 = .ok (.aload_n 0, 1) := by decide +kernel
theorem dX10_isStablePlan_25 : decode cX10_isStablePlan 25 = .ok (.getfield 7, 3) := by decide +kernel
theorem dX10_isStablePlan_28 : decode cX10_isStablePlan 28 = .ok (.iconst 0, 1) := by decide +kernel
theorem dX10_isStablePlan_29 : decode cX10_isStablePlan 29 = .ok (.iaload, 1) := by decide +kernel
theorem dX10_isStablePlan_30 : decode cX10_isStablePlan 30 = .ok (.if_icmp .ge 67, 3) := by decide +kernel
theorem dX10_isStablePlan_33 : decode cX10_isStablePlan 33 = .ok (.iload_n 2, 1) := by decide +kernel
theorem dX10_isStablePlan_34 : decode cX10_isStablePlan 34 = .ok (.aload_n 0, 1) := by decide +kernel
theorem dX10_isStablePlan_35 : decode cX10_isStablePlan 35 = .ok (.getfield 25, 3) := by decide +kernel
theorem dX10_isStablePlan_38 : decode cX10_isStablePlan 38 = .ok (.iload_n 1, 1) := by decide +kernel
theorem dX10_isStablePlan_39 : decode cX10_isStablePlan 39 = .ok (.iaload, 1) := by decide +kernel
theorem dX10_isStablePlan_40 : decode cX10_isStablePlan 40 = .ok (.if_icmp .eq 51, 3) := by decide +kernel
theorem dX10_isStablePlan_43 : decode cX10_isStablePlan 43 = .ok (.aload_n 0, 1) := by decide +kernel
theorem dX10_isStablePlan_44 : decode cX10_isStablePlan 44 = .ok (.iload_n 1, 1) := by decide +kernel
theorem dX10_isStablePlan_45 : decode cX10_isStablePlan 45 = .ok (.iload_n 2, 1) := by decide +kernel
theorem dX10_isStablePlan_46 : decode cX10_isStablePlan 46 = .ok (.invokevirtual 120, 3) := by decide +kernel
theorem dX10_isStablePlan_49 : decode cX10_isStablePlan 49 = .ok (.ifCond .eq 42, 3) := by decide +kernel
theorem dX10_isStablePlan_52 : decode cX10_isStablePlan 52 = .ok (.aload_n 0, 1) := by decide +kernel
theorem dX10_isStablePlan_53 : decode cX10_isStablePlan 53 = .ok (.iload_n 1, 1) := by decide +kernel
theorem dX10_isStablePlan_54 : decode cX10_isStablePlan 54 = .ok (.iload_n 2, 1) := by decide +kernel
theorem dX10_isStablePlan_55 : decode cX10_isStablePlan 55 = .ok (.aload_n 0, 1) := by decide +kernel
theorem dX10_isStablePlan_56 : decode cX10_isStablePlan 56 = .ok (.getfield 25, 3) := by decide +kernel
theorem dX10_isStablePlan_59 : decode cX10_isStablePlan 59 = .ok (.iload_n 1, 1) := by decide +kernel
theorem dX10_isStablePlan_60 : decode cX10_isStablePlan 60 = .ok (.iaload, 1) := by decide +kernel
theorem dX10_isStablePlan_61 : decode cX10_isStablePlan 61 = .ok (.invokevirtual 130, 3) := by decide +kernel
theorem dX10_isStablePlan_64 : decode cX10_isStablePlan 64 = .ok (.ifCond .ne 6, 3) := by decide +kernel
theorem dX10_isStablePlan_67 : decode cX10_isStablePlan 67 = .ok (.goto 24, 3) := by decide +kernel
theorem dX10_isStablePlan_70 : decode cX10_isStablePlan 70 = .ok (.aload_n 0, 1) := by decide +kernel
theorem dX10_isStablePlan_71 : decode cX10_isStablePlan 71 = .ok (.iload_n 2, 1) := by decide +kernel
theorem dX10_isStablePlan_72 : decode cX10_isStablePlan 72 = .ok (.invokevirtual 160, 3) := by decide +kernel
theorem dX10_isStablePlan_75 : decode cX10_isStablePlan 75 = .ok (.istore_n 3, 1) := by decide +kernel
theorem dX10_isStablePlan_76 : decode cX10_isStablePlan 76 = .ok (.iload_n 3, 1) := by decide +kernel
theorem dX10_isStablePlan_77 : decode cX10_isStablePlan 77 = .ok (.ifCond .lt 12, 3) := by decide +kernel
theorem dX10_isStablePlan_80 : decode cX10_isStablePlan 80 = .ok (.aload_n 0, 1) := by decide +kernel
theorem dX10_isStablePlan_81 : decode cX10_isStablePlan 81 = .ok (.iload_n 1, 1) := by decide +kernel
theorem dX10_isStablePlan_82 : decode cX10_isStablePlan 82 = .ok (.iload_n 3, 1) := by decide +kernel
theorem dX10_isStablePlan_83 : decode cX10_isStablePlan 83 = .ok (.invokevirtual 133, 3) := by decide +kernel
theorem dX10_isStablePlan_86 : decode cX10_isStablePlan 86 = .ok (.ifCond .eq 5, 3) := by decide +kernel
theorem dX10_isStablePlan_89 : decode cX10_isStablePlan 89 = .ok (.iconst 0, 1) := by decide +kernel
theorem dX10_isStablePlan_90 : decode cX10_isStablePlan 90 = .ok (.ireturn, 1) := by decide +kernel
theorem dX10_isStablePlan_91 : decode cX10_isStablePlan 91 = .ok (.iinc 2 1, 3) := by decide +kernel
theorem dX10_isStablePlan_94 : decode cX10_isStablePlan 94 = .ok (.goto (-71), 3) := by decide +kernel
theorem dX10_isStablePlan_97 : decode cX10_isStablePlan 97 = .ok (.iinc 1 1, 3) := by decide +kernel
theorem dX10_isStablePlan_100 : decode cX10_isStablePlan 100 = .ok (.goto (-89), 3) := by decide +kernel
theorem dX10_isStablePlan_103 : decode cX10_isStablePlan 103 = .ok (.iconst 1, 1) := by decide +kernel
theorem dX10_isStablePlan_104 : decode cX10_isStablePlan 104 = .ok (.ireturn, 1) := by decide +kernel
theorem dX10_settles_0 : decode cX10_settles 0 = .ok (.aload_n 0, 1) := by decide +kernel
theorem dX10_settles_1 : decode cX10_settles 1 = .ok (.invokevirtual 170, 3) := by decide +kernel
theorem dX10_settles_4 : decode cX10_settles 4 = .ok (.iconst 0, 1) := by decide +kernel
theorem dX10_settles_5 : decode cX10_settles 5 = .ok (.istore_n 1, 1) := by decide +kernel
theorem dX10_settles_6 : decode cX10_settles 6 = .ok (.iconst 0, 1) := by decide +kernel
theorem dX10_settles_7 : decode cX10_settles 7 = .ok (.istore_n 2, 1) := by decide +kernel
theorem dX10_settles_8 : decode cX10_settles 8 = .ok (.iload_n 2, 1) := by decide +kernel
theorem dX10_settles_9 : decode cX10_settles 9 = .ok (.aload_n 0, 1) := by decide +kernel
theorem dX10_settles_10 : decode cX10_settles 10 = .ok (.getfield 7, 3) := by decide +kernel
theorem dX10_settles_13 : decode cX10_settles 13 = .ok (.iconst 1, 1) := by decide +kernel
theorem dX10_settles_14 : decode cX10_settles 14 = .ok (.iaload, 1) := by decide +kernel
theorem dX10_settles_15 : decode cX10_settles 15 = .ok (.if_icmp .ge 50, 3) := by decide +kernel
theorem dX10_settles_18 : decode cX10_settles 18 = .ok (.iload_n 1, 1) := by decide +kernel
theorem dX10_settles_19 : decode cX10_settles 19 = .ok (.aload_n 0, 1) := by decide +kernel
theorem dX10_settles_20 : decode cX10_settles 20 = .ok (.iload_n 2, 1) := by decide +kernel
theorem dX10_settles_21 : decode cX10_settles 21 = .ok (.bipush 6, 2) := by decide +kernel
theorem dX10_settles_23 : decode cX10_settles 23 = .ok (.invokevirtual 76, 3) := by decide +kernel
theorem dX10_settles_26 : decode cX10_settles 26 = .ok (.aload_n 0, 1) := by decide +kernel
theorem dX10_settles_27 : decode cX10_settles 27 = .ok (.getfield 25, 3) := by decide +kernel
theorem dX10_settles_30 : decode cX10_settles 30 = .ok (.iload_n 2, 1) := by decide +kernel
theorem dX10_settles_31 : decode cX10_settles 31 = .ok (.iaload, 1) := by decide +kernel
theorem dX10_settles_32 : decode cX10_settles 32 = .ok (.iconst 1, 1) := by decide +kernel
theorem dX10_settles_33 : decode cX10_settles 33 = .ok (.iadd, 1) := by decide +kernel
theorem dX10_settles_34 : decode cX10_settles 34 = .ok (.if_icmp .eq 7, 3) := by decide +kernel
theorem dX10_settles_37 : decode cX10_settles 37 = .ok (.iconst 1, 1) := by decide +kernel
theorem dX10_settles_38 : decode cX10_settles 38 = .ok (.goto 4, 3) := by decide +kernel
theorem dX10_settles_41 : decode cX10_settles 41 = .ok (.iconst 0, 1) := by decide +kernel
theorem dX10_settles_42 : decode cX10_settles 42 = .ok (.iadd, 1) := by decide +kernel
theorem dX10_settles_43 : decode cX10_settles 43 = .ok (.istore_n 1, 1) := by decide +kernel
theorem dX10_settles_44 : decode cX10_settles 44 = .ok (.aload_n 0, 1) := by decide +kernel
theorem dX10_settles_45 : decode cX10_settles 45 = .ok (.iload_n 2, 1) := by decide +kernel
theorem dX10_settles_46 : decode cX10_settles 46 = .ok (.bipush 6, 2) := by decide +kernel
theorem dX10_settles_48 : decode cX10_settles 48 = .ok (.aload_n 0, 1) := by decide +kernel
theorem dX10_settles_49 : decode cX10_settles 49 = .ok (.getfield 25, 3) := by decide +kernel
theorem dX10_settles_52 : decode cX10_settles 52 = .ok (.iload_n 2, 1) := by decide +kernel
theorem dX10_settles_53 : decode cX10_settles 53 = .ok (.iaload, 1) := by decide +kernel
theorem dX10_settles_54 : decode cX10_settles 54 = .ok (.iconst 1, 1) := by decide +kernel
theorem dX10_settles_55 : decode cX10_settles 55 = .ok (.iadd, 1) := by decide +kernel
theorem dX10_settles_56 : decode cX10_settles 56 = .ok (.invokevirtual 99, 3) := by decide +kernel
theorem dX10_settles_59 : decode cX10_settles 59 = .ok (.iinc 2 1, 3) := by decide +kernel
theorem dX10_settles_62 : decode cX10_settles 62 = .ok (.goto (-54), 3) := by decide +kernel
theorem dX10_settles_65 : decode cX10_settles 65 = .ok (.iload_n 1, 1) := by decide +kernel
theorem dX10_settles_66 : decode cX10_settles 66 = .ok (.ireturn, 1) := by decide +kernel
theorem dX10_settle_0 : decode cX10_settle 0 = .ok (.aload_n 0, 1) := by decide +kernel
theorem dX10_settle_1 : decode cX10_settle 1 = .ok (.iconst 0, 1) := by decide +kernel
theorem dX10_settle_2 : decode cX10_settle 2 = .ok (.putfield 57, 3) := by decide +kernel
theorem dX10_settle_5 : decode cX10_settle 5 = .ok (.aload_n 0, 1) := by decide +kernel
theorem dX10_settle_6 : decode cX10_settle 6 = .ok (.invokevirtual 93, 3) := by decide +kernel
theorem dX10_settle_9 : decode cX10_settle 9 = .ok (.aload_n 0, 1) := by decide +kernel
theorem dX10_settle_10 : decode cX10_settle 10 = .ok (.invokevirtual 173, 3) := by decide +kernel
theorem dX10_settle_13 : decode cX10_settle 13 = .ok (.ireturn, 1) := by decide +kernel
theorem dX10_goes_0 : decode cX10_goes 0 = .ok (.aload_n 0, 1) := by decide +kernel
theorem dX10_goes_1 : decode cX10_goes 1 = .ok (.iload_n 1, 1) := by decide +kernel
theorem dX10_goes_2 : decode cX10_goes 2 = .ok (.iconst 4, 1) := by decide +kernel
theorem dX10_goes_3 : decode cX10_goes 3 = .ok (.aload_n 0, 1) := by decide +kernel
theorem dX10_goes_4 : decode cX10_goes 4 = .ok (.iload_n 1, 1) := by decide +kernel
theorem dX10_goes_5 : decode cX10_goes 5 = .ok (.iconst 4, 1) := by decide +kernel
theorem dX10_goes_6 : decode cX10_goes 6 = .ok (.invokevirtual 76, 3) := by decide +kernel
theorem dX10_goes_9 : decode cX10_goes 9 = .ok (.aload_n 0, 1) := by decide +kernel
theorem dX10_goes_10 : decode cX10_goes 10 = .ok (.iload_n 1, 1) := by decide +kernel
theorem dX10_goes_11 : decode cX10_goes 11 = .ok (.iconst 3, 1) := by decide +kernel
theorem dX10_goes_12 : decode cX10_goes 12 = .ok (.invokevirtual 76, 3) := by decide +kernel
theorem dX10_goes_15 : decode cX10_goes 15 = .ok (.iadd, 1) := by decide +kernel
theorem dX10_goes_16 : decode cX10_goes 16 = .ok (.invokevirtual 99, 3) := by decide +kernel
theorem dX10_goes_19 : decode cX10_goes 19 = .ok (.aload_n 0, 1) := by decide +kernel
theorem dX10_goes_20 : decode cX10_goes 20 = .ok (.getfield 7, 3) := by decide +kernel
theorem dX10_goes_23 : decode cX10_goes 23 = .ok (.bipush 7, 2) := by decide +kernel
theorem dX10_goes_25 : decode cX10_goes 25 = .ok (.dup2, 1) := by decide +kernel
theorem dX10_goes_26 : decode cX10_goes 26 = .ok (.iaload, 1) := by decide +kernel
theorem dX10_goes_27 : decode cX10_goes 27 = .ok (.aload_n 0, 1) := by decide +kernel
theorem dX10_goes_28 : decode cX10_goes 28 = .ok (.iload_n 1, 1) := by decide +kernel
theorem dX10_goes_29 : decode cX10_goes 29 = .ok (.iconst 3, 1) := by decide +kernel
theorem dX10_goes_30 : decode cX10_goes 30 = .ok (.invokevirtual 76, 3) := by decide +kernel
theorem dX10_goes_33 : decode cX10_goes 33 = .ok (.iadd, 1) := by decide +kernel
theorem dX10_goes_34 : decode cX10_goes 34 = .ok (.iastore, 1) := by decide +kernel
theorem dX10_goes_35 : decode cX10_goes 35 = .ok (.aload_n 0, 1) := by decide +kernel
theorem dX10_goes_36 : decode cX10_goes 36 = .ok (.iload_n 1, 1) := by decide +kernel
theorem dX10_goes_37 : decode cX10_goes 37 = .ok (.bipush 6, 2) := by decide +kernel
theorem dX10_goes_39 : decode cX10_goes 39 = .ok (.invokevirtual 76, 3) := by decide +kernel
theorem dX10_goes_42 : decode cX10_goes 42 = .ok (.ifCond .ne 5, 3) := by decide +kernel
theorem dX10_goes_45 : decode cX10_goes 45 = .ok (.iconst 0, 1) := by decide +kernel
theorem dX10_goes_46 : decode cX10_goes 46 = .ok (.ireturn, 1) := by decide +kernel
theorem dX10_goes_47 : decode cX10_goes 47 = .ok (.aload_n 0, 1) := by decide +kernel
theorem dX10_goes_48 : decode cX10_goes 48 = .ok (.aload_n 0, 1) := by decide +kernel
theorem dX10_goes_49 : decode cX10_goes 49 = .ok (.iload_n 1, 1) := by decide +kernel
theorem dX10_goes_50 : decode cX10_goes 50 = .ok (.bipush 6, 2) := by decide +kernel
theorem dX10_goes_52 : decode cX10_goes 52 = .ok (.invokevirtual 76, 3) := by decide +kernel
theorem dX10_goes_55 : decode cX10_goes 55 = .ok (.iconst 1, 1) := by decide +kernel
theorem dX10_goes_56 : decode cX10_goes 56 = .ok (.isub, 1) := by decide +kernel
theorem dX10_goes_57 : decode cX10_goes 57 = .ok (.iconst 1, 1) := by decide +kernel
theorem dX10_goes_58 : decode cX10_goes 58 = .ok (.invokevirtual 80, 3) := by decide +kernel
theorem dX10_goes_61 : decode cX10_goes 61 = .ok (.istore_n 2, 1) := by decide +kernel
theorem dX10_goes_62 : decode cX10_goes 62 = .ok (.iload_n 2, 1) := by decide +kernel
theorem dX10_goes_63 : decode cX10_goes 63 = .ok (.aload_n 0, 1) := by decide +kernel
theorem dX10_goes_64 : decode cX10_goes 64 = .ok (.iload_n 1, 1) := by decide +kernel
theorem dX10_goes_65 : decode cX10_goes 65 = .ok (.iconst 4, 1) := by decide +kernel
theorem dX10_goes_66 : decode cX10_goes 66 = .ok (.invokevirtual 76, 3) := by decide +kernel
theorem dX10_goes_69 : decode cX10_goes 69 = .ok (.if_icmp .gt 36, 3) := by decide +kernel
theorem dX10_goes_72 : decode cX10_goes 72 = .ok (.aload_n 0, 1) := by decide +kernel
theorem dX10_goes_73 : decode cX10_goes 73 = .ok (.iload_n 1, 1) := by decide +kernel
theorem dX10_goes_74 : decode cX10_goes 74 = .ok (.iconst 4, 1) := by decide +kernel
theorem dX10_goes_75 : decode cX10_goes 75 = .ok (.aload_n 0, 1) := by decide +kernel
theorem dX10_goes_76 : decode cX10_goes 76 = .ok (.iload_n 1, 1) := by decide +kernel
theorem dX10_goes_77 : decode cX10_goes 77 = .ok (.iconst 4, 1) := by decide +kernel
theorem dX10_goes_78 : decode cX10_goes 78 = .ok (.invokevirtual 76, 3) := by decide +kernel
theorem dX10_goes_81 : decode cX10_goes 81 = .ok (.iload_n 2, 1) := by decide +kernel
theorem dX10_goes_82 : decode cX10_goes 82 = .ok (.isub, 1) := by decide +kernel
theorem dX10_goes_83 : decode cX10_goes 83 = .ok (.invokevirtual 99, 3) := by decide +kernel
theorem dX10_goes_86 : decode cX10_goes 86 = .ok (.aload_n 0, 1) := by decide +kernel
theorem dX10_goes_87 : decode cX10_goes 87 = .ok (.getfield 7, 3) := by decide +kernel
theorem dX10_goes_90 : decode cX10_goes 90 = .ok (.iconst 5, 1) := by decide +kernel
theorem dX10_goes_91 : decode cX10_goes 91 = .ok (.dup2, 1) := by decide +kernel
theorem dX10_goes_92 : decode cX10_goes 92 = .ok (.iaload, 1) := by decide +kernel
theorem dX10_goes_93 : decode cX10_goes 93 = .ok (.iload_n 2, 1) := by decide +kernel
theorem dX10_goes_94 : decode cX10_goes 94 = .ok (.iadd, 1) := by decide +kernel
theorem dX10_goes_95 : decode cX10_goes 95 = .ok (.iastore, 1) := by decide +kernel
theorem dX10_goes_96 : decode cX10_goes 96 = .ok (.aload_n 0, 1) := by decide +kernel
theorem dX10_goes_97 : decode cX10_goes 97 = .ok (.iload_n 1, 1) := by decide +kernel
theorem dX10_goes_98 : decode cX10_goes 98 = .ok (.iconst 5, 1) := by decide +kernel
theorem dX10_goes_99 : decode cX10_goes 99 = .ok (.iconst 0, 1) := by decide +kernel
theorem dX10_goes_100 : decode cX10_goes 100 = .ok (.invokevirtual 99, 3) := by decide +kernel
theorem dX10_goes_103 : decode cX10_goes 103 = .ok (.iconst 0, 1) := by decide +kernel
theorem dX10_goes_104 : decode cX10_goes 104 = .ok (.ireturn, 1) := by decide +kernel
theorem dX10_goes_105 : decode cX10_goes 105 = .ok (.aload_n 0, 1) := by decide +kernel
theorem dX10_goes_106 : decode cX10_goes 106 = .ok (.iload_n 1, 1) := by decide +kernel
theorem dX10_goes_107 : decode cX10_goes 107 = .ok (.iconst 5, 1) := by decide +kernel
theorem dX10_goes_108 : decode cX10_goes 108 = .ok (.aload_n 0, 1) := by decide +kernel
theorem dX10_goes_109 : decode cX10_goes 109 = .ok (.iload_n 1, 1) := by decide +kernel
theorem dX10_goes_110 : decode cX10_goes 110 = .ok (.iconst 5, 1) := by decide +kernel
theorem dX10_goes_111 : decode cX10_goes 111 = .ok (.invokevirtual 76, 3) := by decide +kernel
theorem dX10_goes_114 : decode cX10_goes 114 = .ok (.iconst 1, 1) := by decide +kernel
theorem dX10_goes_115 : decode cX10_goes 115 = .ok (.iadd, 1) := by decide +kernel
theorem dX10_goes_116 : decode cX10_goes 116 = .ok (.invokevirtual 99, 3) := by decide +kernel
theorem dX10_goes_119 : decode cX10_goes 119 = .ok (.aload_n 0, 1) := by decide +kernel
theorem dX10_goes_120 : decode cX10_goes 120 = .ok (.iload_n 1, 1) := by decide +kernel
theorem dX10_goes_121 : decode cX10_goes 121 = .ok (.iconst 5, 1) := by decide +kernel
theorem dX10_goes_122 : decode cX10_goes 122 = .ok (.invokevirtual 76, 3) := by decide +kernel
theorem dX10_goes_125 : decode cX10_goes 125 = .ok (.iconst 2, 1) := by decide +kernel
theorem dX10_goes_126 : decode cX10_goes 126 = .ok (.if_icmp .ge 5, 3) := by decide +kernel
theorem dX10_goes_129 : decode cX10_goes 129 = .ok (.iconst 0, 1) := by decide +kernel
theorem dX10_goes_130 : decode cX10_goes 130 = .ok (.ireturn, 1) := by decide +kernel
theorem dX10_goes_131 : decode cX10_goes 131 = .ok (.aload_n 0, 1) := by decide +kernel
theorem dX10_goes_132 : decode cX10_goes 132 = .ok (.iload_n 1, 1) := by decide +kernel
theorem dX10_goes_133 : decode cX10_goes 133 = .ok (.invokevirtual 142, 3) := by decide +kernel
theorem dX10_goes_136 : decode cX10_goes 136 = .ok (.istore_n 3, 1) := by decide +kernel
theorem dX10_goes_137 : decode cX10_goes 137 = .ok (.aload_n 0, 1) := by decide +kernel
theorem dX10_goes_138 : decode cX10_goes 138 = .ok (.getfield 7, 3) := by decide +kernel
theorem dX10_goes_141 : decode cX10_goes 141 = .ok (.iconst 4, 1) := by decide +kernel
theorem dX10_goes_142 : decode cX10_goes 142 = .ok (.dup2, 1) := by decide +kernel
theorem dX10_goes_143 : decode cX10_goes 143 = .ok (.iaload, 1) := by decide +kernel
theorem dX10_goes_144 : decode cX10_goes 144 = .ok (.iconst 1, 1) := by decide +kernel
theorem dX10_goes_145 : decode cX10_goes 145 = .ok (.iadd, 1) := by decide +kernel
theorem dX10_goes_146 : decode cX10_goes 146 = .ok (.iastore, 1) := by decide +kernel
theorem dX10_goes_147 : decode cX10_goes 147 = .ok (.iload_n 3, 1) := by decide +kernel
theorem dX10_goes_148 : decode cX10_goes 148 = .ok (.ifCond .lt 7, 3) := by decide +kernel
theorem dX10_goes_151 : decode cX10_goes 151 = .ok (.iconst 1, 1) := by decide +kernel
theorem dX10_goes_152 : decode cX10_goes 152 = .ok (.goto 4, 3) := by decide +kernel
theorem dX10_goes_155 : decode cX10_goes 155 = .ok (.iconst 0, 1) := by decide +kernel
theorem dX10_goes_156 : decode cX10_goes 156 = .ok (.ireturn, 1) := by decide +kernel
theorem dX10_passes_0 : decode cX10_passes 0 = .ok (.iconst 0, 1) := by decide +kernel
theorem dX10_passes_1 : decode cX10_passes 1 = .ok (.istore_n 2, 1) := by decide +kernel
theorem dX10_passes_2 : decode cX10_passes 2 = .ok (.iconst 0, 1) := by decide +kernel
theorem dX10_passes_3 : decode cX10_passes 3 = .ok (.istore_n 3, 1) := by decide +kernel
theorem dX10_passes_4 : decode cX10_passes 4 = .ok (.iload_n 3, 1) := by decide +kernel
theorem dX10_passes_5 : decode cX10_passes 5 = .ok (.iload_n 1, 1) := by decide +kernel
theorem dX10_passes_6 : decode cX10_passes 6 = .ok (.if_icmp .ge 56, 3) := by decide +kernel
theorem dX10_passes_9 : decode cX10_passes 9 = .ok (.aload_n 0, 1) := by decide +kernel
theorem dX10_passes_10 : decode cX10_passes 10 = .ok (.getfield 7, 3) := by decide +kernel
theorem dX10_passes_13 : decode cX10_passes 13 = .ok (.iconst 3, 1) := by decide +kernel
theorem dX10_passes_14 : decode cX10_passes 14 = .ok (.dup2, 1) := by decide +kernel
theorem dX10_passes_15 : decode cX10_passes 15 = .ok (.iaload, 1) := by decide +kernel
theorem dX10_passes_16 : decode cX10_passes 16 = .ok (.iconst 1, 1) := by decide +kernel
theorem dX10_passes_17 : decode cX10_passes 17 = .ok (.iadd, 1) := by decide +kernel
theorem dX10_passes_18 : decode cX10_passes 18 = .ok (.iastore, 1) := by decide +kernel
theorem dX10_passes_19 : decode cX10_passes 19 = .ok (.iconst 0, 1) := by decide +kernel
theorem dX10_passes_20 : decode cX10_passes 20 = .ok (.istore 4, 2) := by decide +kernel
theorem dX10_passes_22 : decode cX10_passes 22 = .ok (.iload 4, 2) := by decide +kernel
theorem dX10_passes_24 : decode cX10_passes 24 = .ok (.aload_n 0, 1) := by decide +kernel
theorem dX10_passes_25 : decode cX10_passes 25 = .ok (.getfield 7, 3) := by decide +kernel
theorem dX10_passes_28 : decode cX10_passes 28 = .ok (.iconst 1, 1) := by decide +kernel
theorem dX10_passes_29 : decode cX10_passes 29 = .ok (.iaload, 1) := by decide +kernel
theorem dX10_passes_30 : decode cX10_passes 30 = .ok (.if_icmp .ge 26, 3) := by decide +kernel
theorem dX10_passes_33 : decode cX10_passes 33 = .ok (.iload_n 2, 1) := by decide +kernel
theorem dX10_passes_34 : decode cX10_passes 34 = .ok (.aload_n 0, 1) := by decide +kernel
theorem dX10_passes_35 : decode cX10_passes 35 = .ok (.iload 4, 2) := by decide +kernel
theorem dX10_passes_37 : decode cX10_passes 37 = .ok (.invokevirtual 177, 3) := by decide +kernel
theorem dX10_passes_40 : decode cX10_passes 40 = .ok (.ifCond .eq 7, 3) := by decide +kernel
theorem dX10_passes_43 : decode cX10_passes 43 = .ok (.iconst 1, 1) := by decide +kernel
theorem dX10_passes_44 : decode cX10_passes 44 = .ok (.goto 4, 3) := by decide +kernel
theorem dX10_passes_47 : decode cX10_passes 47 = .ok (.iconst 0, 1) := by decide +kernel
theorem dX10_passes_48 : decode cX10_passes 48 = .ok (.iadd, 1) := by decide +kernel
theorem dX10_passes_49 : decode cX10_passes 49 = .ok (.istore_n 2, 1) := by decide +kernel
theorem dX10_passes_50 : decode cX10_passes 50 = .ok (.iinc 4 1, 3) := by decide +kernel
theorem dX10_passes_53 : decode cX10_passes 53 = .ok (.goto (-31), 3) := by decide +kernel
theorem dX10_passes_56 : decode cX10_passes 56 = .ok (.iinc 3 1, 3) := by decide +kernel
theorem dX10_passes_59 : decode cX10_passes 59 = .ok (.goto (-55), 3) := by decide +kernel
theorem dX10_passes_62 : decode cX10_passes 62 = .ok (.iload_n 2, 1) := by decide +kernel
theorem dX10_passes_63 : decode cX10_passes 63 = .ok (.ireturn, 1) := by decide +kernel
theorem dX10_notPass_0 : decode cX10_notPass 0 = .ok (.iload_n 0, 1) := by decide +kernel
theorem dX10_notPass_1 : decode cX10_notPass 1 = .ok (.iconst 1, 1) := by decide +kernel
theorem dX10_notPass_2 : decode cX10_notPass 2 = .ok (.bipush 24, 2) := by decide +kernel
theorem dX10_notPass_4 : decode cX10_notPass 4 = .ok (.invokestatic 72, 3) := by decide +kernel
theorem dX10_notPass_7 : decode cX10_notPass 7 = .ok (.ifCond .eq 7, 3) := by decide +kernel
theorem dX10_notPass_10 : decode cX10_notPass 10 = .ok (.iconst 0, 1) := by decide +kernel
theorem dX10_notPass_11 : decode cX10_notPass 11 = .ok (.goto 4, 3) := by decide +kernel
theorem dX10_notPass_14 : decode cX10_notPass 14 = .ok (.iconst 1, 1) := by decide +kernel
theorem dX10_notPass_15 : decode cX10_notPass 15 = .ok (.ireturn, 1) := by decide +kernel
theorem dX10_pass_0 : decode cX10_pass 0 = .ok (.aload_n 0, 1) := by decide +kernel
theorem dX10_pass_1 : decode cX10_pass 1 = .ok (.iconst 0, 1) := by decide +kernel
theorem dX10_pass_2 : decode cX10_pass 2 = .ok (.putfield 57, 3) := by decide +kernel
theorem dX10_pass_5 : decode cX10_pass 5 = .ok (.iload_n 1, 1) := by decide +kernel
theorem dX10_pass_6 : decode cX10_pass 6 = .ok (.invokestatic 180, 3) := by decide +kernel
theorem dX10_pass_9 : decode cX10_pass 9 = .ok (.ifCond .eq 9, 3) := by decide +kernel
theorem dX10_pass_12 : decode cX10_pass 12 = .ok (.aload_n 0, 1) := by decide +kernel
theorem dX10_pass_13 : decode cX10_pass 13 = .ok (.iconst 1, 1) := by decide +kernel
theorem dX10_pass_14 : decode cX10_pass 14 = .ok (.invokevirtual 89, 3) := by decide +kernel
theorem dX10_pass_17 : decode cX10_pass 17 = .ok (.ireturn, 1) := by decide +kernel
theorem dX10_pass_18 : decode cX10_pass 18 = .ok (.aload_n 0, 1) := by decide +kernel
theorem dX10_pass_19 : decode cX10_pass 19 = .ok (.invokevirtual 93, 3) := by decide +kernel
theorem dX10_pass_22 : decode cX10_pass 22 = .ok (.aload_n 0, 1) := by decide +kernel
theorem dX10_pass_23 : decode cX10_pass 23 = .ok (.iload_n 1, 1) := by decide +kernel
theorem dX10_pass_24 : decode cX10_pass 24 = .ok (.invokevirtual 183, 3) := by decide +kernel
theorem dX10_pass_27 : decode cX10_pass 27 = .ok (.ireturn, 1) := by decide +kernel
theorem dX10_told_0 : decode cX10_told 0 = .ok (.aload_n 0, 1) := by decide +kernel
theorem dX10_told_1 : decode cX10_told 1 = .ok (.iconst 0, 1) := by decide +kernel
theorem dX10_told_2 : decode cX10_told 2 = .ok (.putfield 57, 3) := by decide +kernel
theorem dX10_told_5 : decode cX10_told 5 = .ok (.aload_n 0, 1) := by decide +kernel
theorem dX10_told_6 : decode cX10_told 6 = .ok (.getfield 7, 3) := by decide +kernel
theorem dX10_told_9 : decode cX10_told 9 = .ok (.iload_n 1, 1) := by decide +kernel
theorem dX10_told_10 : decode cX10_told 10 = .ok (.iaload, 1) := by decide +kernel
theorem dX10_told_11 : decode cX10_told 11 = .ok (.ireturn, 1) := by decide +kernel
theorem dX10_flats_0 : decode cX10_flats 0 = .ok (.aload_n 0, 1) := by decide +kernel
theorem dX10_flats_1 : decode cX10_flats 1 = .ok (.iconst 0, 1) := by decide +kernel
theorem dX10_flats_2 : decode cX10_flats 2 = .ok (.invokevirtual 186, 3) := by decide +kernel
theorem dX10_flats_5 : decode cX10_flats 5 = .ok (.ireturn, 1) := by decide +kernel
theorem dX10_floorOf_0 : decode cX10_floorOf 0 = .ok (.aload_n 0, 1) := by decide +kernel
theorem dX10_floorOf_1 : decode cX10_floorOf 1 = .ok (.iconst 0, 1) := by decide +kernel
theorem dX10_floorOf_2 : decode cX10_floorOf 2 = .ok (.putfield 57, 3) := by decide +kernel
theorem dX10_floorOf_5 : decode cX10_floorOf 5 = .ok (.aload_n 0, 1) := by decide +kernel
theorem dX10_floorOf_6 : decode cX10_floorOf 6 = .ok (.iload_n 1, 1) := by decide +kernel
theorem dX10_floorOf_7 : decode cX10_floorOf 7 = .ok (.invokevirtual 113, 3) := by decide +kernel
theorem dX10_floorOf_10 : decode cX10_floorOf 10 = .ok (.ifCond .eq 12, 3) := by decide +kernel
theorem dX10_floorOf_13 : decode cX10_floorOf 13 = .ok (.aload_n 0, 1) := by decide +kernel
theorem dX10_floorOf_14 : decode cX10_floorOf 14 = .ok (.iload_n 1, 1) := by decide +kernel
theorem dX10_floorOf_15 : decode cX10_floorOf 15 = .ok (.iconst 0, 1) := by decide +kernel
theorem dX10_floorOf_16 : decode cX10_floorOf 16 = .ok (.invokevirtual 80, 3) := by decide +kernel
theorem dX10_floorOf_19 : decode cX10_floorOf 19 = .ok (.goto 8, 3) := by decide +kernel
theorem dX10_floorOf_22 : decode cX10_floorOf 22 = .ok (.aload_n 0, 1) := by decide +kernel
theorem dX10_floorOf_23 : decode cX10_floorOf 23 = .ok (.iconst 1, 1) := by decide +kernel
theorem dX10_floorOf_24 : decode cX10_floorOf 24 = .ok (.invokevirtual 89, 3) := by decide +kernel
theorem dX10_floorOf_27 : decode cX10_floorOf 27 = .ok (.ireturn, 1) := by decide +kernel
theorem dX10_rentOf_0 : decode cX10_rentOf 0 = .ok (.aload_n 0, 1) := by decide +kernel
theorem dX10_rentOf_1 : decode cX10_rentOf 1 = .ok (.iconst 0, 1) := by decide +kernel
theorem dX10_rentOf_2 : decode cX10_rentOf 2 = .ok (.putfield 57, 3) := by decide +kernel
theorem dX10_rentOf_5 : decode cX10_rentOf 5 = .ok (.aload_n 0, 1) := by decide +kernel
theorem dX10_rentOf_6 : decode cX10_rentOf 6 = .ok (.iload_n 1, 1) := by decide +kernel
theorem dX10_rentOf_7 : decode cX10_rentOf 7 = .ok (.invokevirtual 113, 3) := by decide +kernel
theorem dX10_rentOf_10 : decode cX10_rentOf 10 = .ok (.ifCond .eq 12, 3) := by decide +kernel
theorem dX10_rentOf_13 : decode cX10_rentOf 13 = .ok (.aload_n 0, 1) := by decide +kernel
theorem dX10_rentOf_14 : decode cX10_rentOf 14 = .ok (.iload_n 1, 1) := by decide +kernel
theorem dX10_rentOf_15 : decode cX10_rentOf 15 = .ok (.iconst 1, 1) := by decide +kernel
theorem dX10_rentOf_16 : decode cX10_rentOf 16 = .ok (.invokevirtual 80, 3) := by decide +kernel
theorem dX10_rentOf_19 : decode cX10_rentOf 19 = .ok (.goto 8, 3) := by decide +kernel
theorem dX10_rentOf_22 : decode cX10_rentOf 22 = .ok (.aload_n 0, 1) := by decide +kernel
theorem dX10_rentOf_23 : decode cX10_rentOf 23 = .ok (.iconst 1, 1) := by decide +kernel
theorem dX10_rentOf_24 : decode cX10_rentOf 24 = .ok (.invokevirtual 89, 3) := by decide +kernel
theorem dX10_rentOf_27 : decode cX10_rentOf 27 = .ok (.ireturn, 1) := by decide +kernel
theorem dX10_tenantIn_0 : decode cX10_tenantIn 0 = .ok (.aload_n 0, 1) := by decide +kernel
theorem dX10_tenantIn_1 : decode cX10_tenantIn 1 = .ok (.iconst 0, 1) := by decide +kernel
theorem dX10_tenantIn_2 : decode cX10_tenantIn 2 = .ok (.putfield 57, 3) := by decide +kernel
theorem dX10_tenantIn_5 : decode cX10_tenantIn 5 = .ok (.aload_n 0, 1) := by decide +kernel
theorem dX10_tenantIn_6 : decode cX10_tenantIn 6 = .ok (.iload_n 1, 1) := by decide +kernel
theorem dX10_tenantIn_7 : decode cX10_tenantIn 7 = .ok (.invokevirtual 113, 3) := by decide +kernel
theorem dX10_tenantIn_10 : decode cX10_tenantIn 10 = .ok (.ifCond .ne 9, 3) := by decide +kernel
theorem dX10_tenantIn_13 : decode cX10_tenantIn 13 = .ok (.aload_n 0, 1) := by decide +kernel
theorem dX10_tenantIn_14 : decode cX10_tenantIn 14 = .ok (.iconst 1, 1) := by decide +kernel
theorem dX10_tenantIn_15 : decode cX10_tenantIn 15 = .ok (.invokevirtual 89, 3) := by decide +kernel
theorem dX10_tenantIn_18 : decode cX10_tenantIn 18 = .ok (.ireturn, 1) := by decide +kernel
theorem dX10_tenantIn_19 : decode cX10_tenantIn 19 = .ok (.aload_n 0, 1) := by decide +kernel
theorem dX10_tenantIn_20 : decode cX10_tenantIn 20 = .ok (.iload_n 1, 1) := by decide +kernel
theorem dX10_tenantIn_21 : decode cX10_tenantIn 21 = .ok (.invokevirtual 117, 3) := by decide +kernel
theorem dX10_tenantIn_24 : decode cX10_tenantIn 24 = .ok (.ifCond .ge 11, 3) := by decide +kernel
theorem dX10_tenantIn_27 : decode cX10_tenantIn 27 = .ok (.aload_n 0, 1) := by decide +kernel
theorem dX10_tenantIn_28 : decode cX10_tenantIn 28 = .ok (.iconst 2, 1) := by decide +kernel
theorem dX10_tenantIn_29 : decode cX10_tenantIn 29 = .ok (.invokevirtual 89, 3) := by decide +kernel
theorem dX10_tenantIn_32 : decode cX10_tenantIn 32 = .ok (.goto 13, 3) := by decide +kernel
theorem dX10_tenantIn_35 : decode cX10_tenantIn 35 = .ok (.aload_n 0, 1) := by decide +kernel
theorem dX10_tenantIn_36 : decode cX10_tenantIn 36 = .ok (.aload_n 0, 1) := by decide +kernel
theorem dX10_tenantIn_37 : decode cX10_tenantIn 37 = .ok (.iload_n 1, 1) := by decide +kernel
theorem dX10_tenantIn_38 : decode cX10_tenantIn 38 = .ok (.invokevirtual 117, 3) := by decide +kernel
theorem dX10_tenantIn_41 : decode cX10_tenantIn 41 = .ok (.iconst 0, 1) := by decide +kernel
theorem dX10_tenantIn_42 : decode cX10_tenantIn 42 = .ok (.invokevirtual 76, 3) := by decide +kernel
theorem dX10_tenantIn_45 : decode cX10_tenantIn 45 = .ok (.ireturn, 1) := by decide +kernel
theorem dX10_vacantFlats_0 : decode cX10_vacantFlats 0 = .ok (.aload_n 0, 1) := by decide +kernel
theorem dX10_vacantFlats_1 : decode cX10_vacantFlats 1 = .ok (.iconst 0, 1) := by decide +kernel
theorem dX10_vacantFlats_2 : decode cX10_vacantFlats 2 = .ok (.putfield 57, 3) := by decide +kernel
theorem dX10_vacantFlats_5 : decode cX10_vacantFlats 5 = .ok (.iconst 0, 1) := by decide +kernel
theorem dX10_vacantFlats_6 : decode cX10_vacantFlats 6 = .ok (.istore_n 1, 1) := by decide +kernel
theorem dX10_vacantFlats_7 : decode cX10_vacantFlats 7 = .ok (.iconst 0, 1) := by decide +kernel
theorem dX10_vacantFlats_8 : decode cX10_vacantFlats 8 = .ok (.istore_n 2, 1) := by decide +kernel
theorem dX10_vacantFlats_9 : decode cX10_vacantFlats 9 = .ok (.iload_n 2, 1) := by decide +kernel
theorem dX10_vacantFlats_10 : decode cX10_vacantFlats 10 = .ok (.aload_n 0, 1) := by decide +kernel
theorem dX10_vacantFlats_11 : decode cX10_vacantFlats 11 = .ok (.getfield 7, 3) := by decide +kernel
theorem dX10_vacantFlats_14 : decode cX10_vacantFlats 14 = .ok (.iconst 0, 1) := by decide +kernel
theorem dX10_vacantFlats_15 : decode cX10_vacantFlats 15 = .ok (.iaload, 1) := by decide +kernel
theorem dX10_vacantFlats_16 : decode cX10_vacantFlats 16 = .ok (.if_icmp .ge 25, 3) := by decide +kernel
theorem dX10_vacantFlats_19 : decode cX10_vacantFlats 19 = .ok (.iload_n 1, 1) := by decide +kernel
theorem dX10_vacantFlats_20 : decode cX10_vacantFlats 20 = .ok (.aload_n 0, 1) := by decide +kernel
theorem dX10_vacantFlats_21 : decode cX10_vacantFlats 21 = .ok (.iload_n 2, 1) := by decide +kernel
theorem dX10_vacantFlats_22 : decode cX10_vacantFlats 22 = .ok (.invokevirtual 117, 3) := by decide +kernel
theorem dX10_vacantFlats_25 : decode cX10_vacantFlats 25 = .ok (.ifCond .ge 7, 3) := by decide +kernel
theorem dX10_vacantFlats_28 : decode cX10_vacantFlats 28 = .ok (.iconst 1, 1) := by decide +kernel
theorem dX10_vacantFlats_29 : decode cX10_vacantFlats 29 = .ok (.goto 4, 3) := by decide +kernel
theorem dX10_vacantFlats_32 : decode cX10_vacantFlats 32 = .ok (.iconst 0, 1) := by decide +kernel
theorem dX10_vacantFlats_33 : decode cX10_vacantFlats 33 = .ok (.iadd, 1) := by decide +kernel
theorem dX10_vacantFlats_34 : decode cX10_vacantFlats 34 = .ok (.istore_n 1, 1) := by decide +kernel
theorem dX10_vacantFlats_35 : decode cX10_vacantFlats 35 = .ok (.iinc 2 1, 3) := by decide +kernel
theorem dX10_vacantFlats_38 : decode cX10_vacantFlats 38 = .ok (.goto (-29), 3) := by decide +kernel
theorem dX10_vacantFlats_41 : decode cX10_vacantFlats 41 = .ok (.iload_n 1, 1) := by decide +kernel
theorem dX10_vacantFlats_42 : decode cX10_vacantFlats 42 = .ok (.ireturn, 1) := by decide +kernel
theorem dX10_tenants_0 : decode cX10_tenants 0 = .ok (.aload_n 0, 1) := by decide +kernel
theorem dX10_tenants_1 : decode cX10_tenants 1 = .ok (.iconst 1, 1) := by decide +kernel
theorem dX10_tenants_2 : decode cX10_tenants 2 = .ok (.invokevirtual 186, 3) := by decide +kernel
theorem dX10_tenants_5 : decode cX10_tenants 5 = .ok (.ireturn, 1) := by decide +kernel
theorem dX10_isPresent_0 : decode cX10_isPresent 0 = .ok (.aload_n 0, 1) := by decide +kernel
theorem dX10_isPresent_1 : decode cX10_isPresent 1 = .ok (.iconst 0, 1) := by decide +kernel
theorem dX10_isPresent_2 : decode cX10_isPresent 2 = .ok (.putfield 57, 3) := by decide +kernel
theorem dX10_isPresent_5 : decode cX10_isPresent 5 = .ok (.aload_n 0, 1) := by decide +kernel
theorem dX10_isPresent_6 : decode cX10_isPresent 6 = .ok (.iload_n 1, 1) := by decide +kernel
theorem dX10_isPresent_7 : decode cX10_isPresent 7 = .ok (.invokevirtual 110, 3) := by decide +kernel
theorem dX10_isPresent_10 : decode cX10_isPresent 10 = .ok (.ifCond .lt 7, 3) := by decide +kernel
theorem dX10_isPresent_13 : decode cX10_isPresent 13 = .ok (.iconst 1, 1) := by decide +kernel
theorem dX10_isPresent_14 : decode cX10_isPresent 14 = .ok (.goto 4, 3) := by decide +kernel
theorem dX10_isPresent_17 : decode cX10_isPresent 17 = .ok (.iconst 0, 1) := by decide +kernel
theorem dX10_isPresent_18 : decode cX10_isPresent 18 = .ok (.ireturn, 1) := by decide +kernel
theorem dX10_tells_0 : decode cX10_tells 0 = .ok (.aload_n 0, 1) := by decide +kernel
theorem dX10_tells_1 : decode cX10_tells 1 = .ok (.iconst 0, 1) := by decide +kernel
theorem dX10_tells_2 : decode cX10_tells 2 = .ok (.putfield 57, 3) := by decide +kernel
theorem dX10_tells_5 : decode cX10_tells 5 = .ok (.aload_n 0, 1) := by decide +kernel
theorem dX10_tells_6 : decode cX10_tells 6 = .ok (.iload_n 1, 1) := by decide +kernel
theorem dX10_tells_7 : decode cX10_tells 7 = .ok (.invokevirtual 110, 3) := by decide +kernel
theorem dX10_tells_10 : decode cX10_tells 10 = .ok (.ifCond .ge 11, 3) := by decide +kernel
theorem dX10_tells_13 : decode cX10_tells 13 = .ok (.aload_n 0, 1) := by decide +kernel
theorem dX10_tells_14 : decode cX10_tells 14 = .ok (.iconst 1, 1) := by decide +kernel
theorem dX10_tells_15 : decode cX10_tells 15 = .ok (.invokevirtual 89, 3) := by decide +kernel
theorem dX10_tells_18 : decode cX10_tells 18 = .ok (.goto 13, 3) := by decide +kernel
theorem dX10_tells_21 : decode cX10_tells 21 = .ok (.aload_n 0, 1) := by decide +kernel
theorem dX10_tells_22 : decode cX10_tells 22 = .ok (.aload_n 0, 1) := by decide +kernel
theorem dX10_tells_23 : decode cX10_tells 23 = .ok (.iload_n 1, 1) := by decide +kernel
theorem dX10_tells_24 : decode cX10_tells 24 = .ok (.invokevirtual 110, 3) := by decide +kernel
theorem dX10_tells_27 : decode cX10_tells 27 = .ok (.iload_n 2, 1) := by decide +kernel
theorem dX10_tells_28 : decode cX10_tells 28 = .ok (.invokevirtual 76, 3) := by decide +kernel
theorem dX10_tells_31 : decode cX10_tells 31 = .ok (.ireturn, 1) := by decide +kernel
theorem dX10_weightOf_0 : decode cX10_weightOf 0 = .ok (.aload_n 0, 1) := by decide +kernel
theorem dX10_weightOf_1 : decode cX10_weightOf 1 = .ok (.iload_n 1, 1) := by decide +kernel
theorem dX10_weightOf_2 : decode cX10_weightOf 2 = .ok (.iconst 1, 1) := by decide +kernel
theorem dX10_weightOf_3 : decode cX10_weightOf 3 = .ok (.invokevirtual 189, 3) := by decide +kernel
theorem dX10_weightOf_6 : decode cX10_weightOf 6 = .ok (.ireturn, 1) := by decide +kernel
theorem dX10_purseOf_0 : decode cX10_purseOf 0 = .ok (.aload_n 0, 1) := by decide +kernel
theorem dX10_purseOf_1 : decode cX10_purseOf 1 = .ok (.iload_n 1, 1) := by decide +kernel
theorem dX10_purseOf_2 : decode cX10_purseOf 2 = .ok (.iconst 4, 1) := by decide +kernel
theorem dX10_purseOf_3 : decode cX10_purseOf 3 = .ok (.invokevirtual 189, 3) := by decide +kernel
theorem dX10_purseOf_6 : decode cX10_purseOf 6 = .ok (.ireturn, 1) := by decide +kernel
theorem dX10_noticesOf_0 : decode cX10_noticesOf 0 = .ok (.aload_n 0, 1) := by decide +kernel
theorem dX10_noticesOf_1 : decode cX10_noticesOf 1 = .ok (.iload_n 1, 1) := by decide +kernel
theorem dX10_noticesOf_2 : decode cX10_noticesOf 2 = .ok (.iconst 5, 1) := by decide +kernel
theorem dX10_noticesOf_3 : decode cX10_noticesOf 3 = .ok (.invokevirtual 189, 3) := by decide +kernel
theorem dX10_noticesOf_6 : decode cX10_noticesOf 6 = .ok (.ireturn, 1) := by decide +kernel
theorem dX10_flatOf_0 : decode cX10_flatOf 0 = .ok (.aload_n 0, 1) := by decide +kernel
theorem dX10_flatOf_1 : decode cX10_flatOf 1 = .ok (.iload_n 1, 1) := by decide +kernel
theorem dX10_flatOf_2 : decode cX10_flatOf 2 = .ok (.bipush 6, 2) := by decide +kernel
theorem dX10_flatOf_4 : decode cX10_flatOf 4 = .ok (.invokevirtual 189, 3) := by decide +kernel
theorem dX10_flatOf_7 : decode cX10_flatOf 7 = .ok (.istore_n 2, 1) := by decide +kernel
theorem dX10_flatOf_8 : decode cX10_flatOf 8 = .ok (.iload_n 2, 1) := by decide +kernel
theorem dX10_flatOf_9 : decode cX10_flatOf 9 = .ok (.ifCond .ne 11, 3) := by decide +kernel
theorem dX10_flatOf_12 : decode cX10_flatOf 12 = .ok (.aload_n 0, 1) := by decide +kernel
theorem dX10_flatOf_13 : decode cX10_flatOf 13 = .ok (.iconst 1, 1) := by decide +kernel
theorem dX10_flatOf_14 : decode cX10_flatOf 14 = .ok (.invokevirtual 89, 3) := by decide +kernel
theorem dX10_flatOf_17 : decode cX10_flatOf 17 = .ok (.goto 6, 3) := by decide +kernel
theorem dX10_flatOf_20 : decode cX10_flatOf 20 = .ok (.iload_n 2, 1) := by decide +kernel
theorem dX10_flatOf_21 : decode cX10_flatOf 21 = .ok (.iconst 1, 1) := by decide +kernel
theorem dX10_flatOf_22 : decode cX10_flatOf 22 = .ok (.isub, 1) := by decide +kernel
theorem dX10_flatOf_23 : decode cX10_flatOf 23 = .ok (.ireturn, 1) := by decide +kernel
theorem dX10_burden_0 : decode cX10_burden 0 = .ok (.aload_n 0, 1) := by decide +kernel
theorem dX10_burden_1 : decode cX10_burden 1 = .ok (.iconst 0, 1) := by decide +kernel
theorem dX10_burden_2 : decode cX10_burden 2 = .ok (.putfield 57, 3) := by decide +kernel
theorem dX10_burden_5 : decode cX10_burden 5 = .ok (.aload_n 0, 1) := by decide +kernel
theorem dX10_burden_6 : decode cX10_burden 6 = .ok (.iload_n 1, 1) := by decide +kernel
theorem dX10_burden_7 : decode cX10_burden 7 = .ok (.invokevirtual 110, 3) := by decide +kernel
theorem dX10_burden_10 : decode cX10_burden 10 = .ok (.ifCond .ge 9, 3) := by decide +kernel
theorem dX10_burden_13 : decode cX10_burden 13 = .ok (.aload_n 0, 1) := by decide +kernel
theorem dX10_burden_14 : decode cX10_burden 14 = .ok (.iconst 1, 1) := by decide +kernel
theorem dX10_burden_15 : decode cX10_burden 15 = .ok (.invokevirtual 89, 3) := by decide +kernel
theorem dX10_burden_18 : decode cX10_burden 18 = .ok (.ireturn, 1) := by decide +kernel
theorem dX10_burden_19 : decode cX10_burden 19 = .ok (.aload_n 0, 1) := by decide +kernel
theorem dX10_burden_20 : decode cX10_burden 20 = .ok (.iload_n 2, 1) := by decide +kernel
theorem dX10_burden_21 : decode cX10_burden 21 = .ok (.invokevirtual 113, 3) := by decide +kernel
theorem dX10_burden_24 : decode cX10_burden 24 = .ok (.ifCond .eq 16, 3) := by decide +kernel
theorem dX10_burden_27 : decode cX10_burden 27 = .ok (.aload_n 0, 1) := by decide +kernel
theorem dX10_burden_28 : decode cX10_burden 28 = .ok (.aload_n 0, 1) := by decide +kernel
theorem dX10_burden_29 : decode cX10_burden 29 = .ok (.iload_n 1, 1) := by decide +kernel
theorem dX10_burden_30 : decode cX10_burden 30 = .ok (.invokevirtual 110, 3) := by decide +kernel
theorem dX10_burden_33 : decode cX10_burden 33 = .ok (.iload_n 2, 1) := by decide +kernel
theorem dX10_burden_34 : decode cX10_burden 34 = .ok (.invokevirtual 83, 3) := by decide +kernel
theorem dX10_burden_37 : decode cX10_burden 37 = .ok (.goto 8, 3) := by decide +kernel
theorem dX10_burden_40 : decode cX10_burden 40 = .ok (.aload_n 0, 1) := by decide +kernel
theorem dX10_burden_41 : decode cX10_burden 41 = .ok (.iconst 2, 1) := by decide +kernel
theorem dX10_burden_42 : decode cX10_burden 42 = .ok (.invokevirtual 89, 3) := by decide +kernel
theorem dX10_burden_45 : decode cX10_burden 45 = .ok (.ireturn, 1) := by decide +kernel
theorem dX10_flatByRank_0 : decode cX10_flatByRank 0 = .ok (.aload_n 0, 1) := by decide +kernel
theorem dX10_flatByRank_1 : decode cX10_flatByRank 1 = .ok (.iconst 0, 1) := by decide +kernel
theorem dX10_flatByRank_2 : decode cX10_flatByRank 2 = .ok (.putfield 57, 3) := by decide +kernel
theorem dX10_flatByRank_5 : decode cX10_flatByRank 5 = .ok (.aload_n 0, 1) := by decide +kernel
theorem dX10_flatByRank_6 : decode cX10_flatByRank 6 = .ok (.iload_n 1, 1) := by decide +kernel
theorem dX10_flatByRank_7 : decode cX10_flatByRank 7 = .ok (.invokevirtual 110, 3) := by decide +kernel
theorem dX10_flatByRank_10 : decode cX10_flatByRank 10 = .ok (.ifCond .lt 16, 3) := by decide +kernel
theorem dX10_flatByRank_13 : decode cX10_flatByRank 13 = .ok (.aload_n 0, 1) := by decide +kernel
theorem dX10_flatByRank_14 : decode cX10_flatByRank 14 = .ok (.aload_n 0, 1) := by decide +kernel
theorem dX10_flatByRank_15 : decode cX10_flatByRank 15 = .ok (.iload_n 1, 1) := by decide +kernel
theorem dX10_flatByRank_16 : decode cX10_flatByRank 16 = .ok (.invokevirtual 110, 3) := by decide +kernel
theorem dX10_flatByRank_19 : decode cX10_flatByRank 19 = .ok (.iload_n 2, 1) := by decide +kernel
theorem dX10_flatByRank_20 : decode cX10_flatByRank 20 = .ok (.invokevirtual 157, 3) := by decide +kernel
theorem dX10_flatByRank_23 : decode cX10_flatByRank 23 = .ok (.ifCond .ge 9, 3) := by decide +kernel
theorem dX10_flatByRank_26 : decode cX10_flatByRank 26 = .ok (.aload_n 0, 1) := by decide +kernel
theorem dX10_flatByRank_27 : decode cX10_flatByRank 27 = .ok (.iconst 1, 1) := by decide +kernel
theorem dX10_flatByRank_28 : decode cX10_flatByRank 28 = .ok (.invokevirtual 89, 3) := by decide +kernel
theorem dX10_flatByRank_31 : decode cX10_flatByRank 31 = .ok (.ireturn, 1) := by decide +kernel
theorem dX10_flatByRank_32 : decode cX10_flatByRank 32 = .ok (.aload_n 0, 1) := by decide +kernel
theorem dX10_flatByRank_33 : decode cX10_flatByRank 33 = .ok (.aload_n 0, 1) := by decide +kernel
theorem dX10_flatByRank_34 : decode cX10_flatByRank 34 = .ok (.iload_n 1, 1) := by decide +kernel
theorem dX10_flatByRank_35 : decode cX10_flatByRank 35 = .ok (.invokevirtual 110, 3) := by decide +kernel
theorem dX10_flatByRank_38 : decode cX10_flatByRank 38 = .ok (.iload_n 2, 1) := by decide +kernel
theorem dX10_flatByRank_39 : decode cX10_flatByRank 39 = .ok (.invokevirtual 157, 3) := by decide +kernel
theorem dX10_flatByRank_42 : decode cX10_flatByRank 42 = .ok (.ireturn, 1) := by decide +kernel
theorem dX10_tenantByPurse_0 : decode cX10_tenantByPurse 0 = .ok (.aload_n 0, 1) := by decide +kernel
theorem dX10_tenantByPurse_1 : decode cX10_tenantByPurse 1 = .ok (.iconst 0, 1) := by decide +kernel
theorem dX10_tenantByPurse_2 : decode cX10_tenantByPurse 2 = .ok (.putfield 57, 3) := by decide +kernel
theorem dX10_tenantByPurse_5 : decode cX10_tenantByPurse 5 = .ok (.iconst 0, 1) := by decide +kernel
theorem dX10_tenantByPurse_6 : decode cX10_tenantByPurse 6 = .ok (.istore_n 2, 1) := by decide +kernel
theorem dX10_tenantByPurse_7 : decode cX10_tenantByPurse 7 = .ok (.iload_n 2, 1) := by decide +kernel
theorem dX10_tenantByPurse_8 : decode cX10_tenantByPurse 8 = .ok (.aload_n 0, 1) := by decide +kernel
theorem dX10_tenantByPurse_9 : decode cX10_tenantByPurse 9 = .ok (.getfield 7, 3) := by decide +kernel
theorem dX10_tenantByPurse_12 : decode cX10_tenantByPurse 12 = .ok (.iconst 1, 1) := by decide +kernel
theorem dX10_tenantByPurse_13 : decode cX10_tenantByPurse 13 = .ok (.iaload, 1) := by decide +kernel
theorem dX10_tenantByPurse_14 : decode cX10_tenantByPurse 14 = .ok (.if_icmp .ge 89, 3) := by decide +kernel
theorem dX10_tenantByPurse_17 : decode cX10_tenantByPurse 17 = .ok (.iconst 0, 1) := by decide +kernel
theorem dX10_tenantByPurse_18 : decode cX10_tenantByPurse 18 = .ok (.istore_n 3, 1) := by decide +kernel
theorem dX10_tenantByPurse_19 : decode cX10_tenantByPurse 19 = .ok (.iconst 0, 1) := by decide +kernel
theorem dX10_tenantByPurse_20 : decode cX10_tenantByPurse 20 = .ok (.istore 4, 2) := by decide +kernel
theorem dX10_tenantByPurse_22 : decode cX10_tenantByPurse 22 = .ok (.iload 4, 2) := by decide +kernel
theorem dX10_tenantByPurse_24 : decode cX10_tenantByPurse 24 = .ok (.aload_n 0, 1) := by decide +kernel
theorem dX10_tenantByPurse_25 : decode cX10_tenantByPurse 25 = .ok (.getfield 7, 3) := by decide +kernel
theorem dX10_tenantByPurse_28 : decode cX10_tenantByPurse 28 = .ok (.iconst 1, 1) := by decide +kernel
theorem dX10_tenantByPurse_29 : decode cX10_tenantByPurse 29 = .ok (.iaload, 1) := by decide +kernel
theorem dX10_tenantByPurse_30 : decode cX10_tenantByPurse 30 = .ok (.if_icmp .ge 55, 3) := by decide +kernel
theorem dX10_tenantByPurse_33 : decode cX10_tenantByPurse 33 = .ok (.iload_n 3, 1) := by decide +kernel
theorem dX10_tenantByPurse_34 : decode cX10_tenantByPurse 34 = .ok (.aload_n 0, 1) := by decide +kernel
theorem dX10_tenantByPurse_35 : decode cX10_tenantByPurse 35 = .ok (.iload 4, 2) := by decide +kernel
theorem dX10_tenantByPurse_37 : decode cX10_tenantByPurse 37 = .ok (.iconst 4, 1) := by decide +kernel
theorem dX10_tenantByPurse_38 : decode cX10_tenantByPurse 38 = .ok (.invokevirtual 76, 3) := by decide +kernel
theorem dX10_tenantByPurse_41 : decode cX10_tenantByPurse 41 = .ok (.aload_n 0, 1) := by decide +kernel
theorem dX10_tenantByPurse_42 : decode cX10_tenantByPurse 42 = .ok (.iload_n 2, 1) := by decide +kernel
theorem dX10_tenantByPurse_43 : decode cX10_tenantByPurse 43 = .ok (.iconst 4, 1) := by decide +kernel
theorem dX10_tenantByPurse_44 : decode cX10_tenantByPurse 44 = .ok (.invokevirtual 76, 3) := by decide +kernel
theorem dX10_tenantByPurse_47 : decode cX10_tenantByPurse 47 = .ok (.if_icmp .gt 25, 3) := by decide +kernel
theorem dX10_tenantByPurse_50 : decode cX10_tenantByPurse 50 = .ok (.aload_n 0, 1) := by decide +kernel
theorem dX10_tenantByPurse_51 : decode cX10_tenantByPurse 51 = .ok (.iload 4, 2) := by decide +kernel
theorem dX10_tenantByPurse_53 : decode cX10_tenantByPurse 53 = .ok (.iconst 4, 1) := by decide +kernel
theorem dX10_tenantByPurse_54 : decode cX10_tenantByPurse 54 = .ok (.invokevirtual 76, 3) := by decide +kernel
theorem dX10_tenantByPurse_57 : decode cX10_tenantByPurse 57 = .ok (.aload_n 0, 1) := by decide +kernel
theorem dX10_tenantByPurse_58 : decode cX10_tenantByPurse 58 = .ok (.iload_n 2, 1) := by decide +kernel
theorem dX10_tenantByPurse_59 : decode cX10_tenantByPurse 59 = .ok (.iconst 4, 1) := by decide +kernel
theorem dX10_tenantByPurse_60 : decode cX10_tenantByPurse 60 = .ok (.invokevirtual 76, 3) := by decide +kernel
theorem dX10_tenantByPurse_63 : decode cX10_tenantByPurse 63 = .ok (.if_icmp .ne 13, 3) := by decide +kernel
theorem dX10_tenantByPurse_66 : decode cX10_tenantByPurse 66 = .ok (.iload 4, 2) := by decide +kernel
theorem dX10_tenantByPurse_68 : decode cX10_tenantByPurse 68 = .ok (.iload_n 2, 1) := by decide +kernel
theorem dX10_tenantByPurse_69 : decode cX10_tenantByPurse 69 = .ok (.if_icmp .ge 7, 3) := by decide +kernel
theorem dX10_tenantByPurse_72 : decode cX10_tenantByPurse 72 = .ok (.iconst 1, 1) := by decide +kernel
theorem dX10_tenantByPurse_73 : decode cX10_tenantByPurse 73 = .ok (.goto 4, 3) := by decide +kernel
theorem dX10_tenantByPurse_76 : decode cX10_tenantByPurse 76 = .ok (.iconst 0, 1) := by decide +kernel
theorem dX10_tenantByPurse_77 : decode cX10_tenantByPurse 77 = .ok (.iadd, 1) := by decide +kernel
theorem dX10_tenantByPurse_78 : decode cX10_tenantByPurse 78 = .ok (.istore_n 3, 1) := by decide +kernel
theorem dX10_tenantByPurse_79 : decode cX10_tenantByPurse 79 = .ok (.iinc 4 1, 3) := by decide +kernel
theorem dX10_tenantByPurse_82 : decode cX10_tenantByPurse 82 = .ok (.goto (-60), 3) := by decide +kernel
theorem dX10_tenantByPurse_85 : decode cX10_tenantByPurse 85 = .ok (.iload_n 3, 1) := by decide +kernel
theorem dX10_tenantByPurse_86 : decode cX10_tenantByPurse 86 = .ok (.iload_n 1, 1) := by decide +kernel
theorem dX10_tenantByPurse_87 : decode cX10_tenantByPurse 87 = .ok (.if_icmp .ne 10, 3) := by decide +kernel
theorem dX10_tenantByPurse_90 : decode cX10_tenantByPurse 90 = .ok (.aload_n 0, 1) := by decide +kernel
theorem dX10_tenantByPurse_91 : decode cX10_tenantByPurse 91 = .ok (.iload_n 2, 1) := by decide +kernel
theorem dX10_tenantByPurse_92 : decode cX10_tenantByPurse 92 = .ok (.iconst 0, 1) := by decide +kernel
theorem dX10_tenantByPurse_93 : decode cX10_tenantByPurse 93 = .ok (.invokevirtual 76, 3) := by decide +kernel
theorem dX10_tenantByPurse_96 : decode cX10_tenantByPurse 96 = .ok (.ireturn, 1) := by decide +kernel
theorem dX10_tenantByPurse_97 : decode cX10_tenantByPurse 97 = .ok (.iinc 2 1, 3) := by decide +kernel
theorem dX10_tenantByPurse_100 : decode cX10_tenantByPurse 100 = .ok (.goto (-93), 3) := by decide +kernel
theorem dX10_tenantByPurse_103 : decode cX10_tenantByPurse 103 = .ok (.aload_n 0, 1) := by decide +kernel
theorem dX10_tenantByPurse_104 : decode cX10_tenantByPurse 104 = .ok (.iconst 1, 1) := by decide +kernel
theorem dX10_tenantByPurse_105 : decode cX10_tenantByPurse 105 = .ok (.invokevirtual 89, 3) := by decide +kernel
theorem dX10_tenantByPurse_108 : decode cX10_tenantByPurse 108 = .ok (.ireturn, 1) := by decide +kernel
theorem dX10_findsCreaks_0 : decode cX10_findsCreaks 0 = .ok (.iconst 0, 1) := by decide +kernel
theorem dX10_findsCreaks_1 : decode cX10_findsCreaks 1 = .ok (.istore_n 1, 1) := by decide +kernel
theorem dX10_findsCreaks_2 : decode cX10_findsCreaks 2 = .ok (.iload_n 1, 1) := by decide +kernel
theorem dX10_findsCreaks_3 : decode cX10_findsCreaks 3 = .ok (.bipush 6, 2) := by decide +kernel
theorem dX10_findsCreaks_5 : decode cX10_findsCreaks 5 = .ok (.if_icmp .ge 16, 3) := by decide +kernel
theorem dX10_findsCreaks_8 : decode cX10_findsCreaks 8 = .ok (.aload_n 0, 1) := by decide +kernel
theorem dX10_findsCreaks_9 : decode cX10_findsCreaks 9 = .ok (.getfield 31, 3) := by decide +kernel
theorem dX10_findsCreaks_12 : decode cX10_findsCreaks 12 = .ok (.iload_n 1, 1) := by decide +kernel
theorem dX10_findsCreaks_13 : decode cX10_findsCreaks 13 = .ok (.iconst 0, 1) := by decide +kernel
theorem dX10_findsCreaks_14 : decode cX10_findsCreaks 14 = .ok (.iastore, 1) := by decide +kernel
theorem dX10_findsCreaks_15 : decode cX10_findsCreaks 15 = .ok (.iinc 1 1, 3) := by decide +kernel
theorem dX10_findsCreaks_18 : decode cX10_findsCreaks 18 = .ok (.goto (-16), 3) := by decide +kernel
theorem dX10_findsCreaks_21 : decode cX10_findsCreaks 21 = .ok (.iconst 0, 1) := by decide +kernel
theorem dX10_findsCreaks_22 : decode cX10_findsCreaks 22 = .ok (.istore_n 1, 1) := by decide +kernel
theorem dX10_findsCreaks_23 : decode cX10_findsCreaks 23 = .ok (.iload_n 1, 1) := by decide +kernel
theorem dX10_findsCreaks_24 : decode cX10_findsCreaks 24 = .ok (.aload_n 0, 1) := by decide +kernel
theorem dX10_findsCreaks_25 : decode cX10_findsCreaks 25 = .ok (.getfield 7, 3) := by decide +kernel
theorem dX10_findsCreaks_28 : decode cX10_findsCreaks 28 = .ok (.iconst 1, 1) := by decide +kernel
theorem dX10_findsCreaks_29 : decode cX10_findsCreaks 29 = .ok (.iaload, 1) := by decide +kernel
theorem dX10_findsCreaks_30 : decode cX10_findsCreaks 30 = .ok (.if_icmp .ge 47, 3) := by decide +kernel
theorem dX10_findsCreaks_33 : decode cX10_findsCreaks 33 = .ok (.aload_n 0, 1) := by decide +kernel
theorem dX10_findsCreaks_34 : decode cX10_findsCreaks 34 = .ok (.iload_n 1, 1) := by decide +kernel
theorem dX10_findsCreaks_35 : decode cX10_findsCreaks 35 = .ok (.bipush 6, 2) := by decide +kernel
theorem dX10_findsCreaks_37 : decode cX10_findsCreaks 37 = .ok (.invokevirtual 76, 3) := by decide +kernel
theorem dX10_findsCreaks_40 : decode cX10_findsCreaks 40 = .ok (.ifCond .le 31, 3) := by decide +kernel
theorem dX10_findsCreaks_43 : decode cX10_findsCreaks 43 = .ok (.aload_n 0, 1) := by decide +kernel
theorem dX10_findsCreaks_44 : decode cX10_findsCreaks 44 = .ok (.getfield 31, 3) := by decide +kernel
theorem dX10_findsCreaks_47 : decode cX10_findsCreaks 47 = .ok (.aload_n 0, 1) := by decide +kernel
theorem dX10_findsCreaks_48 : decode cX10_findsCreaks 48 = .ok (.aload_n 0, 1) := by decide +kernel
theorem dX10_findsCreaks_49 : decode cX10_findsCreaks 49 = .ok (.iload_n 1, 1) := by decide +kernel
theorem dX10_findsCreaks_50 : decode cX10_findsCreaks 50 = .ok (.bipush 6, 2) := by decide +kernel
theorem dX10_findsCreaks_52 : decode cX10_findsCreaks 52 = .ok (.invokevirtual 76, 3) := by decide +kernel
theorem dX10_findsCreaks_55 : decode cX10_findsCreaks 55 = .ok (.iconst 1, 1) := by decide +kernel
theorem dX10_findsCreaks_56 : decode cX10_findsCreaks 56 = .ok (.isub, 1) := by decide +kernel
theorem dX10_findsCreaks_57 : decode cX10_findsCreaks 57 = .ok (.iconst 0, 1) := by decide +kernel
theorem dX10_findsCreaks_58 : decode cX10_findsCreaks 58 = .ok (.invokevirtual 80, 3) := by decide +kernel
theorem dX10_findsCreaks_61 : decode cX10_findsCreaks 61 = .ok (.dup2, 1) := by decide +kernel
theorem dX10_findsCreaks_62 : decode cX10_findsCreaks 62 = .ok (.iaload, 1) := by decide +kernel
theorem dX10_findsCreaks_63 : decode cX10_findsCreaks 63 = .ok (.aload_n 0, 1) := by decide +kernel
theorem dX10_findsCreaks_64 : decode cX10_findsCreaks 64 = .ok (.iload_n 1, 1) := by decide +kernel
theorem dX10_findsCreaks_65 : decode cX10_findsCreaks 65 = .ok (.iconst 1, 1) := by decide +kernel
theorem dX10_findsCreaks_66 : decode cX10_findsCreaks 66 = .ok (.invokevirtual 76, 3) := by decide +kernel
theorem dX10_findsCreaks_69 : decode cX10_findsCreaks 69 = .ok (.iadd, 1) := by decide +kernel
theorem dX10_findsCreaks_70 : decode cX10_findsCreaks 70 = .ok (.iastore, 1) := by decide +kernel
theorem dX10_findsCreaks_71 : decode cX10_findsCreaks 71 = .ok (.iinc 1 1, 3) := by decide +kernel
theorem dX10_findsCreaks_74 : decode cX10_findsCreaks 74 = .ok (.goto (-51), 3) := by decide +kernel
theorem dX10_findsCreaks_77 : decode cX10_findsCreaks 77 = .ok (.return_, 1) := by decide +kernel
theorem dX10_creak_0 : decode cX10_creak 0 = .ok (.aload_n 0, 1) := by decide +kernel
theorem dX10_creak_1 : decode cX10_creak 1 = .ok (.iconst 0, 1) := by decide +kernel
theorem dX10_creak_2 : decode cX10_creak 2 = .ok (.putfield 57, 3) := by decide +kernel
theorem dX10_creak_5 : decode cX10_creak 5 = .ok (.iload_n 1, 1) := by decide +kernel
theorem dX10_creak_6 : decode cX10_creak 6 = .ok (.iconst 0, 1) := by decide +kernel
theorem dX10_creak_7 : decode cX10_creak 7 = .ok (.iconst 5, 1) := by decide +kernel
theorem dX10_creak_8 : decode cX10_creak 8 = .ok (.invokestatic 72, 3) := by decide +kernel
theorem dX10_creak_11 : decode cX10_creak 11 = .ok (.ifCond .ne 9, 3) := by decide +kernel
theorem dX10_creak_14 : decode cX10_creak 14 = .ok (.aload_n 0, 1) := by decide +kernel
theorem dX10_creak_15 : decode cX10_creak 15 = .ok (.iconst 1, 1) := by decide +kernel
theorem dX10_creak_16 : decode cX10_creak 16 = .ok (.invokevirtual 89, 3) := by decide +kernel
theorem dX10_creak_19 : decode cX10_creak 19 = .ok (.ireturn, 1) := by decide +kernel
theorem dX10_creak_20 : decode cX10_creak 20 = .ok (.aload_n 0, 1) := by decide +kernel
theorem dX10_creak_21 : decode cX10_creak 21 = .ok (.invokevirtual 192, 3) := by decide +kernel
theorem dX10_creak_24 : decode cX10_creak 24 = .ok (.aload_n 0, 1) := by decide +kernel
theorem dX10_creak_25 : decode cX10_creak 25 = .ok (.getfield 31, 3) := by decide +kernel
theorem dX10_creak_28 : decode cX10_creak 28 = .ok (.iload_n 1, 1) := by decide +kernel
theorem dX10_creak_29 : decode cX10_creak 29 = .ok (.iaload, 1) := by decide +kernel
theorem dX10_creak_30 : decode cX10_creak 30 = .ok (.ireturn, 1) := by decide +kernel
theorem dX10_isCensus_0 : decode cX10_isCensus 0 = .ok (.iload_n 1, 1) := by decide +kernel
theorem dX10_isCensus_1 : decode cX10_isCensus 1 = .ok (.istore_n 2, 1) := by decide +kernel
theorem dX10_isCensus_2 : decode cX10_isCensus 2 = .ok (.iconst 0, 1) := by decide +kernel
theorem dX10_isCensus_3 : decode cX10_isCensus 3 = .ok (.istore_n 3, 1) := by decide +kernel
theorem dX10_isCensus_4 : decode cX10_isCensus 4 = .ok (.iload_n 3, 1) := by decide +kernel
theorem dX10_isCensus_5 : decode cX10_isCensus 5 = .ok (.bipush 6, 2) := by decide +kernel
theorem dX10_isCensus_7 : decode cX10_isCensus 7 = .ok (.if_icmp .ge 16, 3) := by decide +kernel
theorem dX10_isCensus_10 : decode cX10_isCensus 10 = .ok (.aload_n 0, 1) := by decide +kernel
theorem dX10_isCensus_11 : decode cX10_isCensus 11 = .ok (.getfield 34, 3) := by decide +kernel
theorem dX10_isCensus_14 : decode cX10_isCensus 14 = .ok (.iload_n 3, 1) := by decide +kernel
theorem dX10_isCensus_15 : decode cX10_isCensus 15 = .ok (.iconst 0, 1) := by decide +kernel
theorem dX10_isCensus_16 : decode cX10_isCensus 16 = .ok (.iastore, 1) := by decide +kernel
theorem dX10_isCensus_17 : decode cX10_isCensus 17 = .ok (.iinc 3 1, 3) := by decide +kernel
theorem dX10_isCensus_20 : decode cX10_isCensus 20 = .ok (.goto (-16), 3) := by decide +kernel
theorem dX10_isCensus_23 : decode cX10_isCensus 23 = .ok (.iconst 0, 1) := by decide +kernel
theorem dX10_isCensus_24 : decode cX10_isCensus 24 = .ok (.istore_n 3, 1) := by decide +kernel
theorem dX10_isCensus_25 : decode cX10_isCensus 25 = .ok (.iload_n 3, 1) := by decide +kernel
theorem dX10_isCensus_26 : decode cX10_isCensus 26 = .ok (.aload_n 0, 1) := by decide +kernel
theorem dX10_isCensus_27 : decode cX10_isCensus 27 = .ok (.getfield 7, 3) := by decide +kernel
theorem dX10_isCensus_30 : decode cX10_isCensus 30 = .ok (.iconst 1, 1) := by decide +kernel
theorem dX10_isCensus_31 : decode cX10_isCensus 31 = .ok (.iaload, 1) := by decide +kernel
theorem dX10_isCensus_32 : decode cX10_isCensus 32 = .ok (.if_icmp .ge 75, 3) := by decide +kernel
theorem dX10_isCensus_35 : decode cX10_isCensus 35 = .ok (.aload_n 0, 1) := by decide +kernel
theorem dX10_isCensus_36 : decode cX10_isCensus 36 = .ok (.getfield 37, 3) := by decide +kernel
theorem dX10_isCensus_39 : decode cX10_isCensus 39 = .ok (.iload_n 3, 1) := by decide +kernel
theorem dX10_isCensus_40 : decode cX10_isCensus 40 = .ok (.iload_n 2, 1) := by decide +kernel
theorem dX10_isCensus_41 : decode cX10_isCensus 41 = .ok (.bipush 6, 2) := by decide +kernel
theorem dX10_isCensus_43 : decode cX10_isCensus 43 = .ok (.irem, 1) := by decide +kernel
theorem dX10_isCensus_44 : decode cX10_isCensus 44 = .ok (.iastore, 1) := by decide +kernel
theorem dX10_isCensus_45 : decode cX10_isCensus 45 = .ok (.iload_n 2, 1) := by decide +kernel
theorem dX10_isCensus_46 : decode cX10_isCensus 46 = .ok (.bipush 6, 2) := by decide +kernel
theorem dX10_isCensus_48 : decode cX10_isCensus 48 = .ok (.idiv, 1) := by decide +kernel
theorem dX10_isCensus_49 : decode cX10_isCensus 49 = .ok (.istore_n 2, 1) := by decide +kernel
theorem dX10_isCensus_50 : decode cX10_isCensus 50 = .ok (.aload_n 0, 1) := by decide +kernel
theorem dX10_isCensus_51 : decode cX10_isCensus 51 = .ok (.iload_n 3, 1) := by decide +kernel
theorem dX10_isCensus_52 : decode cX10_isCensus 52 = .ok (.bipush 6, 2) := by decide +kernel
theorem dX10_isCensus_54 : decode cX10_isCensus 54 = .ok (.invokevirtual 76, 3) := by decide +kernel
theorem dX10_isCensus_57 : decode cX10_isCensus 57 = .ok (.ifCond .ne 14, 3) := by decide +kernel
theorem dX10_isCensus_60 : decode cX10_isCensus 60 = .ok (.aload_n 0, 1) := by decide +kernel
theorem dX10_isCensus_61 : decode cX10_isCensus 61 = .ok (.getfield 37, 3) := by decide +kernel
theorem dX10_isCensus_64 : decode cX10_isCensus 64 = .ok (.iload_n 3, 1) := by decide +kernel
theorem dX10_isCensus_65 : decode cX10_isCensus 65 = .ok (.iaload, 1) := by decide +kernel
theorem dX10_isCensus_66 : decode cX10_isCensus 66 = .ok (.ifCond .le 5, 3) := by decide +kernel
theorem dX10_isCensus_69 : decode cX10_isCensus 69 = .ok (.iconst 0, 1) := by decide +kernel
theorem dX10_isCensus_70 : decode cX10_isCensus 70 = .ok (.ireturn, 1) := by decide +kernel
theorem dX10_isCensus_71 : decode cX10_isCensus 71 = .ok (.aload_n 0, 1) := by decide +kernel
theorem dX10_isCensus_72 : decode cX10_isCensus 72 = .ok (.iload_n 3, 1) := by decide +kernel
theorem dX10_isCensus_73 : decode cX10_isCensus 73 = .ok (.bipush 6, 2) := by decide +kernel
theorem dX10_isCensus_75 : decode cX10_isCensus 75 = .ok (.invokevirtual 76, 3) := by decide +kernel
theorem dX10_isCensus_78 : decode cX10_isCensus 78 = .ok (.ifCond .le 23, 3) := by decide +kernel
theorem dX10_isCensus_81 : decode cX10_isCensus 81 = .ok (.aload_n 0, 1) := by decide +kernel
theorem dX10_isCensus_82 : decode cX10_isCensus 82 = .ok (.getfield 34, 3) := by decide +kernel
theorem dX10_isCensus_85 : decode cX10_isCensus 85 = .ok (.aload_n 0, 1) := by decide +kernel
theorem dX10_isCensus_86 : decode cX10_isCensus 86 = .ok (.getfield 37, 3) := by decide +kernel
theorem dX10_isCensus_89 : decode cX10_isCensus 89 = .ok (.iload_n 3, 1) := by decide +kernel
theorem dX10_isCensus_90 : decode cX10_isCensus 90 = .ok (.iaload, 1) := by decide +kernel
theorem dX10_isCensus_91 : decode cX10_isCensus 91 = .ok (.dup2, 1) := by decide +kernel
theorem dX10_isCensus_92 : decode cX10_isCensus 92 = .ok (.iaload, 1) := by decide +kernel
theorem dX10_isCensus_93 : decode cX10_isCensus 93 = .ok (.aload_n 0, 1) := by decide +kernel
theorem dX10_isCensus_94 : decode cX10_isCensus 94 = .ok (.iload_n 3, 1) := by decide +kernel
theorem dX10_isCensus_95 : decode cX10_isCensus 95 = .ok (.iconst 1, 1) := by decide +kernel
theorem dX10_isCensus_96 : decode cX10_isCensus 96 = .ok (.invokevirtual 76, 3) := by decide +kernel
theorem dX10_isCensus_99 : decode cX10_isCensus 99 = .ok (.iadd, 1) := by decide +kernel
theorem dX10_isCensus_100 : decode cX10_isCensus 100 = .ok (.iastore, 1) := by decide +kernel
theorem dX10_isCensus_101 : decode cX10_isCensus 101 = .ok (.iinc 3 1, 3) := by decide +kernel
theorem dX10_isCensus_104 : decode cX10_isCensus 104 = .ok (.goto (-79), 3) := by decide +kernel
theorem dX10_isCensus_107 : decode cX10_isCensus 107 = .ok (.iconst 0, 1) := by decide +kernel
theorem dX10_isCensus_108 : decode cX10_isCensus 108 = .ok (.istore_n 3, 1) := by decide +kernel
theorem dX10_isCensus_109 : decode cX10_isCensus 109 = .ok (.iload_n 3, 1) := by decide +kernel
theorem dX10_isCensus_110 : decode cX10_isCensus 110 = .ok (.bipush 6, 2) := by decide +kernel
theorem dX10_isCensus_112 : decode cX10_isCensus 112 = .ok (.if_icmp .ge 26, 3) := by decide +kernel
theorem dX10_isCensus_115 : decode cX10_isCensus 115 = .ok (.aload_n 0, 1) := by decide +kernel
theorem dX10_isCensus_116 : decode cX10_isCensus 116 = .ok (.getfield 34, 3) := by decide +kernel
theorem dX10_isCensus_119 : decode cX10_isCensus 119 = .ok (.iload_n 3, 1) := by decide +kernel
theorem dX10_isCensus_120 : decode cX10_isCensus 120 = .ok (.iaload, 1) := by decide +kernel
theorem dX10_isCensus_121 : decode cX10_isCensus 121 = .ok (.aload_n 0, 1) := by decide +kernel
theorem dX10_isCensus_122 : decode cX10_isCensus 122 = .ok (.getfield 31, 3) := by decide +kernel
theorem dX10_isCensus_125 : decode cX10_isCensus 125 = .ok (.iload_n 3, 1) := by decide +kernel
theorem dX10_isCensus_126 : decode cX10_isCensus 126 = .ok (.iaload, 1) := by decide +kernel
theorem dX10_isCensus_127 : decode cX10_isCensus 127 = .ok (.if_icmp .eq 5, 3) := by decide +kernel
theorem dX10_isCensus_130 : decode cX10_isCensus 130 = .ok (.iconst 0, 1) := by decide +kernel
theorem dX10_isCensus_131 : decode cX10_isCensus 131 = .ok (.ireturn, 1) := by decide +kernel
theorem dX10_isCensus_132 : decode cX10_isCensus 132 = .ok (.iinc 3 1, 3) := by decide +kernel
theorem dX10_isCensus_135 : decode cX10_isCensus 135 = .ok (.goto (-26), 3) := by decide +kernel
theorem dX10_isCensus_138 : decode cX10_isCensus 138 = .ok (.iconst 1, 1) := by decide +kernel
theorem dX10_isCensus_139 : decode cX10_isCensus 139 = .ok (.ireturn, 1) := by decide +kernel
theorem dX10_numbers_0 : decode cX10_numbers 0 = .ok (.iconst 1, 1) := by decide +kernel
theorem dX10_numbers_1 : decode cX10_numbers 1 = .ok (.istore_n 1, 1) := by decide +kernel
theorem dX10_numbers_2 : decode cX10_numbers 2 = .ok (.iconst 0, 1) := by decide +kernel
theorem dX10_numbers_3 : decode cX10_numbers 3 = .ok (.istore_n 2, 1) := by decide +kernel
theorem dX10_numbers_4 : decode cX10_numbers 4 = .ok (.iload_n 2, 1) := by decide +kernel
theorem dX10_numbers_5 : decode cX10_numbers 5 = .ok (.aload_n 0, 1) := by decide +kernel
theorem dX10_numbers_6 : decode cX10_numbers 6 = .ok (.getfield 7, 3) := by decide +kernel
theorem dX10_numbers_9 : decode cX10_numbers 9 = .ok (.iconst 1, 1) := by decide +kernel
theorem dX10_numbers_10 : decode cX10_numbers 10 = .ok (.iaload, 1) := by decide +kernel
theorem dX10_numbers_11 : decode cX10_numbers 11 = .ok (.if_icmp .ge 14, 3) := by decide +kernel
theorem dX10_numbers_14 : decode cX10_numbers 14 = .ok (.iload_n 1, 1) := by decide +kernel
theorem dX10_numbers_15 : decode cX10_numbers 15 = .ok (.bipush 6, 2) := by decide +kernel
theorem dX10_numbers_17 : decode cX10_numbers 17 = .ok (.imul, 1) := by decide +kernel
theorem dX10_numbers_18 : decode cX10_numbers 18 = .ok (.istore_n 1, 1) := by decide +kernel
theorem dX10_numbers_19 : decode cX10_numbers 19 = .ok (.iinc 2 1, 3) := by decide +kernel
theorem dX10_numbers_22 : decode cX10_numbers 22 = .ok (.goto (-18), 3) := by decide +kernel
theorem dX10_numbers_25 : decode cX10_numbers 25 = .ok (.iload_n 1, 1) := by decide +kernel
theorem dX10_numbers_26 : decode cX10_numbers 26 = .ok (.ireturn, 1) := by decide +kernel
theorem dX10_censuses_0 : decode cX10_censuses 0 = .ok (.aload_n 0, 1) := by decide +kernel
theorem dX10_censuses_1 : decode cX10_censuses 1 = .ok (.iconst 0, 1) := by decide +kernel
theorem dX10_censuses_2 : decode cX10_censuses 2 = .ok (.putfield 57, 3) := by decide +kernel
theorem dX10_censuses_5 : decode cX10_censuses 5 = .ok (.aload_n 0, 1) := by decide +kernel
theorem dX10_censuses_6 : decode cX10_censuses 6 = .ok (.invokevirtual 192, 3) := by decide +kernel
theorem dX10_censuses_9 : decode cX10_censuses 9 = .ok (.iconst 0, 1) := by decide +kernel
theorem dX10_censuses_10 : decode cX10_censuses 10 = .ok (.istore_n 1, 1) := by decide +kernel
theorem dX10_censuses_11 : decode cX10_censuses 11 = .ok (.iconst 0, 1) := by decide +kernel
theorem dX10_censuses_12 : decode cX10_censuses 12 = .ok (.istore_n 2, 1) := by decide +kernel
theorem dX10_censuses_13 : decode cX10_censuses 13 = .ok (.iload_n 2, 1) := by decide +kernel
theorem dX10_censuses_14 : decode cX10_censuses 14 = .ok (.aload_n 0, 1) := by decide +kernel
theorem dX10_censuses_15 : decode cX10_censuses 15 = .ok (.invokevirtual 195, 3) := by decide +kernel
theorem dX10_censuses_18 : decode cX10_censuses 18 = .ok (.if_icmp .ge 25, 3) := by decide +kernel
theorem dX10_censuses_21 : decode cX10_censuses 21 = .ok (.iload_n 1, 1) := by decide +kernel
theorem dX10_censuses_22 : decode cX10_censuses 22 = .ok (.aload_n 0, 1) := by decide +kernel
theorem dX10_censuses_23 : decode cX10_censuses 23 = .ok (.iload_n 2, 1) := by decide +kernel
theorem dX10_censuses_24 : decode cX10_censuses 24 = .ok (.invokevirtual 197, 3) := by decide +kernel
theorem dX10_censuses_27 : decode cX10_censuses 27 = .ok (.ifCond .eq 7, 3) := by decide +kernel
theorem dX10_censuses_30 : decode cX10_censuses 30 = .ok (.iconst 1, 1) := by decide +kernel
theorem dX10_censuses_31 : decode cX10_censuses 31 = .ok (.goto 4, 3) := by decide +kernel
theorem dX10_censuses_34 : decode cX10_censuses 34 = .ok (.iconst 0, 1) := by decide +kernel
theorem dX10_censuses_35 : decode cX10_censuses 35 = .ok (.iadd, 1) := by decide +kernel
theorem dX10_censuses_36 : decode cX10_censuses 36 = .ok (.istore_n 1, 1) := by decide +kernel
theorem dX10_censuses_37 : decode cX10_censuses 37 = .ok (.iinc 2 1, 3) := by decide +kernel
theorem dX10_censuses_40 : decode cX10_censuses 40 = .ok (.goto (-27), 3) := by decide +kernel
theorem dX10_censuses_43 : decode cX10_censuses 43 = .ok (.iload_n 1, 1) := by decide +kernel
theorem dX10_censuses_44 : decode cX10_censuses 44 = .ok (.ireturn, 1) := by decide +kernel
theorem dX10_censusesBySets_0 : decode cX10_censusesBySets 0 = .ok (.aload_n 0, 1) := by decide +kernel
theorem dX10_censusesBySets_1 : decode cX10_censusesBySets 1 = .ok (.invokevirtual 200, 3) := by decide +kernel
theorem dX10_censusesBySets_4 : decode cX10_censusesBySets 4 = .ok (.ireturn, 1) := by decide +kernel
theorem dX10_possibleFloors_0 : decode cX10_possibleFloors 0 = .ok (.aload_n 0, 1) := by decide +kernel
theorem dX10_possibleFloors_1 : decode cX10_possibleFloors 1 = .ok (.iconst 0, 1) := by decide +kernel
theorem dX10_possibleFloors_2 : decode cX10_possibleFloors 2 = .ok (.putfield 57, 3) := by decide +kernel
theorem dX10_possibleFloors_5 : decode cX10_possibleFloors 5 = .ok (.aload_n 0, 1) := by decide +kernel
theorem dX10_possibleFloors_6 : decode cX10_possibleFloors 6 = .ok (.iload_n 1, 1) := by decide +kernel
theorem dX10_possibleFloors_7 : decode cX10_possibleFloors 7 = .ok (.invokevirtual 110, 3) := by decide +kernel
theorem dX10_possibleFloors_10 : decode cX10_possibleFloors 10 = .ok (.istore_n 2, 1) := by decide +kernel
theorem dX10_possibleFloors_11 : decode cX10_possibleFloors 11 = .ok (.iload_n 2, 1) := by decide +kernel
theorem dX10_possibleFloors_12 : decode cX10_possibleFloors 12 = .ok (.ifCond .ge 9, 3) := by decide +kernel
theorem dX10_possibleFloors_15 : decode cX10_possibleFloors 15 = .ok (.aload_n 0, 1) := by decide +kernel
theorem dX10_possibleFloors_16 : decode cX10_possibleFloors 16 = .ok (.iconst 1, 1) := by decide +kernel
theorem dX10_possibleFloors_17 : decode cX10_possibleFloors 17 = .ok (.invokevirtual 89, 3) := by decide +kernel
theorem dX10_possibleFloors_20 : decode cX10_possibleFloors 20 = .ok (.ireturn, 1) := by decide +kernel
theorem dX10_possibleFloors_21 : decode cX10_possibleFloors 21 = .ok (.aload_n 0, 1) := by decide +kernel
theorem dX10_possibleFloors_22 : decode cX10_possibleFloors 22 = .ok (.iload_n 2, 1) := by decide +kernel
theorem dX10_possibleFloors_23 : decode cX10_possibleFloors 23 = .ok (.bipush 6, 2) := by decide +kernel
theorem dX10_possibleFloors_25 : decode cX10_possibleFloors 25 = .ok (.invokevirtual 76, 3) := by decide +kernel
theorem dX10_possibleFloors_28 : decode cX10_possibleFloors 28 = .ok (.ifCond .ne 5, 3) := by decide +kernel
theorem dX10_possibleFloors_31 : decode cX10_possibleFloors 31 = .ok (.iconst 0, 1) := by decide +kernel
theorem dX10_possibleFloors_32 : decode cX10_possibleFloors 32 = .ok (.ireturn, 1) := by decide +kernel
theorem dX10_possibleFloors_33 : decode cX10_possibleFloors 33 = .ok (.aload_n 0, 1) := by decide +kernel
theorem dX10_possibleFloors_34 : decode cX10_possibleFloors 34 = .ok (.invokevirtual 192, 3) := by decide +kernel
theorem dX10_possibleFloors_37 : decode cX10_possibleFloors 37 = .ok (.iconst 0, 1) := by decide +kernel
theorem dX10_possibleFloors_38 : decode cX10_possibleFloors 38 = .ok (.istore_n 3, 1) := by decide +kernel
theorem dX10_possibleFloors_39 : decode cX10_possibleFloors 39 = .ok (.iconst 0, 1) := by decide +kernel
theorem dX10_possibleFloors_40 : decode cX10_possibleFloors 40 = .ok (.istore 4, 2) := by decide +kernel
theorem dX10_possibleFloors_42 : decode cX10_possibleFloors 42 = .ok (.iload 4, 2) := by decide +kernel
theorem dX10_possibleFloors_44 : decode cX10_possibleFloors 44 = .ok (.aload_n 0, 1) := by decide +kernel
theorem dX10_possibleFloors_45 : decode cX10_possibleFloors 45 = .ok (.invokevirtual 195, 3) := by decide +kernel
theorem dX10_possibleFloors_48 : decode cX10_possibleFloors 48 = .ok (.if_icmp .ge 29, 3) := by decide +kernel
theorem dX10_possibleFloors_51 : decode cX10_possibleFloors 51 = .ok (.aload_n 0, 1) := by decide +kernel
theorem dX10_possibleFloors_52 : decode cX10_possibleFloors 52 = .ok (.iload 4, 2) := by decide +kernel
theorem dX10_possibleFloors_54 : decode cX10_possibleFloors 54 = .ok (.invokevirtual 197, 3) := by decide +kernel
theorem dX10_possibleFloors_57 : decode cX10_possibleFloors 57 = .ok (.ifCond .eq 14, 3) := by decide +kernel
theorem dX10_possibleFloors_60 : decode cX10_possibleFloors 60 = .ok (.iload_n 3, 1) := by decide +kernel
theorem dX10_possibleFloors_61 : decode cX10_possibleFloors 61 = .ok (.iconst 1, 1) := by decide +kernel
theorem dX10_possibleFloors_62 : decode cX10_possibleFloors 62 = .ok (.aload_n 0, 1) := by decide +kernel
theorem dX10_possibleFloors_63 : decode cX10_possibleFloors 63 = .ok (.getfield 37, 3) := by decide +kernel
theorem dX10_possibleFloors_66 : decode cX10_possibleFloors 66 = .ok (.iload_n 2, 1) := by decide +kernel
theorem dX10_possibleFloors_67 : decode cX10_possibleFloors 67 = .ok (.iaload, 1) := by decide +kernel
theorem dX10_possibleFloors_68 : decode cX10_possibleFloors 68 = .ok (.ishl, 1) := by decide +kernel
theorem dX10_possibleFloors_69 : decode cX10_possibleFloors 69 = .ok (.ior, 1) := by decide +kernel
theorem dX10_possibleFloors_70 : decode cX10_possibleFloors 70 = .ok (.istore_n 3, 1) := by decide +kernel
theorem dX10_possibleFloors_71 : decode cX10_possibleFloors 71 = .ok (.iinc 4 1, 3) := by decide +kernel
theorem dX10_possibleFloors_74 : decode cX10_possibleFloors 74 = .ok (.goto (-32), 3) := by decide +kernel
theorem dX10_possibleFloors_77 : decode cX10_possibleFloors 77 = .ok (.iconst 0, 1) := by decide +kernel
theorem dX10_possibleFloors_78 : decode cX10_possibleFloors 78 = .ok (.istore 4, 2) := by decide +kernel
theorem dX10_possibleFloors_80 : decode cX10_possibleFloors 80 = .ok (.iconst 0, 1) := by decide +kernel
theorem dX10_possibleFloors_81 : decode cX10_possibleFloors 81 = .ok (.istore 5, 2) := by decide +kernel
theorem dX10_possibleFloors_83 : decode cX10_possibleFloors 83 = .ok (.iload 5, 2) := by decide +kernel
theorem dX10_possibleFloors_85 : decode cX10_possibleFloors 85 = .ok (.bipush 6, 2) := by decide +kernel
theorem dX10_possibleFloors_87 : decode cX10_possibleFloors 87 = .ok (.if_icmp .ge 20, 3) := by decide +kernel
theorem dX10_possibleFloors_90 : decode cX10_possibleFloors 90 = .ok (.iload 4, 2) := by decide +kernel
theorem dX10_possibleFloors_92 : decode cX10_possibleFloors 92 = .ok (.iload_n 3, 1) := by decide +kernel
theorem dX10_possibleFloors_93 : decode cX10_possibleFloors 93 = .ok (.iload 5, 2) := by decide +kernel
theorem dX10_possibleFloors_95 : decode cX10_possibleFloors 95 = .ok (.ishr, 1) := by decide +kernel
theorem dX10_possibleFloors_96 : decode cX10_possibleFloors 96 = .ok (.iconst 1, 1) := by decide +kernel
theorem dX10_possibleFloors_97 : decode cX10_possibleFloors 97 = .ok (.iand, 1) := by decide +kernel
theorem dX10_possibleFloors_98 : decode cX10_possibleFloors 98 = .ok (.iadd, 1) := by decide +kernel
theorem dX10_possibleFloors_99 : decode cX10_possibleFloors 99 = .ok (.istore 4, 2) := by decide +kernel
theorem dX10_possibleFloors_101 : decode cX10_possibleFloors 101 = .ok (.iinc 5 1, 3) := by decide +kernel
theorem dX10_possibleFloors_104 : decode cX10_possibleFloors 104 = .ok (.goto (-21), 3) := by decide +kernel
theorem dX10_possibleFloors_107 : decode cX10_possibleFloors 107 = .ok (.iload 4, 2) := by decide +kernel
theorem dX10_possibleFloors_109 : decode cX10_possibleFloors 109 = .ok (.ireturn, 1) := by decide +kernel
theorem dX10_plannedFlat_0 : decode cX10_plannedFlat 0 = .ok (.aload_n 0, 1) := by decide +kernel
theorem dX10_plannedFlat_1 : decode cX10_plannedFlat 1 = .ok (.iconst 0, 1) := by decide +kernel
theorem dX10_plannedFlat_2 : decode cX10_plannedFlat 2 = .ok (.putfield 57, 3) := by decide +kernel
theorem dX10_plannedFlat_5 : decode cX10_plannedFlat 5 = .ok (.aload_n 0, 1) := by decide +kernel
theorem dX10_plannedFlat_6 : decode cX10_plannedFlat 6 = .ok (.iload_n 1, 1) := by decide +kernel
theorem dX10_plannedFlat_7 : decode cX10_plannedFlat 7 = .ok (.invokevirtual 110, 3) := by decide +kernel
theorem dX10_plannedFlat_10 : decode cX10_plannedFlat 10 = .ok (.ifCond .ge 9, 3) := by decide +kernel
theorem dX10_plannedFlat_13 : decode cX10_plannedFlat 13 = .ok (.aload_n 0, 1) := by decide +kernel
theorem dX10_plannedFlat_14 : decode cX10_plannedFlat 14 = .ok (.iconst 1, 1) := by decide +kernel
theorem dX10_plannedFlat_15 : decode cX10_plannedFlat 15 = .ok (.invokevirtual 89, 3) := by decide +kernel
theorem dX10_plannedFlat_18 : decode cX10_plannedFlat 18 = .ok (.ireturn, 1) := by decide +kernel
theorem dX10_plannedFlat_19 : decode cX10_plannedFlat 19 = .ok (.aload_n 0, 1) := by decide +kernel
theorem dX10_plannedFlat_20 : decode cX10_plannedFlat 20 = .ok (.invokevirtual 170, 3) := by decide +kernel
theorem dX10_plannedFlat_23 : decode cX10_plannedFlat 23 = .ok (.aload_n 0, 1) := by decide +kernel
theorem dX10_plannedFlat_24 : decode cX10_plannedFlat 24 = .ok (.getfield 25, 3) := by decide +kernel
theorem dX10_plannedFlat_27 : decode cX10_plannedFlat 27 = .ok (.aload_n 0, 1) := by decide +kernel
theorem dX10_plannedFlat_28 : decode cX10_plannedFlat 28 = .ok (.iload_n 1, 1) := by decide +kernel
theorem dX10_plannedFlat_29 : decode cX10_plannedFlat 29 = .ok (.invokevirtual 110, 3) := by decide +kernel
theorem dX10_plannedFlat_32 : decode cX10_plannedFlat 32 = .ok (.iaload, 1) := by decide +kernel
theorem dX10_plannedFlat_33 : decode cX10_plannedFlat 33 = .ok (.ifCond .ge 11, 3) := by decide +kernel
theorem dX10_plannedFlat_36 : decode cX10_plannedFlat 36 = .ok (.aload_n 0, 1) := by decide +kernel
theorem dX10_plannedFlat_37 : decode cX10_plannedFlat 37 = .ok (.iconst 1, 1) := by decide +kernel
theorem dX10_plannedFlat_38 : decode cX10_plannedFlat 38 = .ok (.invokevirtual 89, 3) := by decide +kernel
theorem dX10_plannedFlat_41 : decode cX10_plannedFlat 41 = .ok (.goto 13, 3) := by decide +kernel
theorem dX10_plannedFlat_44 : decode cX10_plannedFlat 44 = .ok (.aload_n 0, 1) := by decide +kernel
theorem dX10_plannedFlat_45 : decode cX10_plannedFlat 45 = .ok (.getfield 25, 3) := by decide +kernel
theorem dX10_plannedFlat_48 : decode cX10_plannedFlat 48 = .ok (.aload_n 0, 1) := by decide +kernel
theorem dX10_plannedFlat_49 : decode cX10_plannedFlat 49 = .ok (.iload_n 1, 1) := by decide +kernel
theorem dX10_plannedFlat_50 : decode cX10_plannedFlat 50 = .ok (.invokevirtual 110, 3) := by decide +kernel
theorem dX10_plannedFlat_53 : decode cX10_plannedFlat 53 = .ok (.iaload, 1) := by decide +kernel
theorem dX10_plannedFlat_54 : decode cX10_plannedFlat 54 = .ok (.ireturn, 1) := by decide +kernel
theorem dX10_plannedFlatByPlans_0 : decode cX10_plannedFlatByPlans 0 = .ok (.aload_n 0, 1) := by decide +kernel
theorem dX10_plannedFlatByPlans_1 : decode cX10_plannedFlatByPlans 1 = .ok (.iload_n 1, 1) := by decide +kernel
theorem dX10_plannedFlatByPlans_2 : decode cX10_plannedFlatByPlans 2 = .ok (.invokevirtual 203, 3) := by decide +kernel
theorem dX10_plannedFlatByPlans_5 : decode cX10_plannedFlatByPlans 5 = .ok (.ireturn, 1) := by decide +kernel
theorem dX10_stablePlans_0 : decode cX10_stablePlans 0 = .ok (.aload_n 0, 1) := by decide +kernel
theorem dX10_stablePlans_1 : decode cX10_stablePlans 1 = .ok (.iconst 0, 1) := by decide +kernel
theorem dX10_stablePlans_2 : decode cX10_stablePlans 2 = .ok (.putfield 57, 3) := by decide +kernel
theorem dX10_stablePlans_5 : decode cX10_stablePlans 5 = .ok (.iconst 1, 1) := by decide +kernel
theorem dX10_stablePlans_6 : decode cX10_stablePlans 6 = .ok (.istore_n 1, 1) := by decide +kernel
theorem dX10_stablePlans_7 : decode cX10_stablePlans 7 = .ok (.iconst 0, 1) := by decide +kernel
theorem dX10_stablePlans_8 : decode cX10_stablePlans 8 = .ok (.istore_n 2, 1) := by decide +kernel
theorem dX10_stablePlans_9 : decode cX10_stablePlans 9 = .ok (.iload_n 2, 1) := by decide +kernel
theorem dX10_stablePlans_10 : decode cX10_stablePlans 10 = .ok (.aload_n 0, 1) := by decide +kernel
theorem dX10_stablePlans_11 : decode cX10_stablePlans 11 = .ok (.getfield 7, 3) := by decide +kernel
theorem dX10_stablePlans_14 : decode cX10_stablePlans 14 = .ok (.iconst 1, 1) := by decide +kernel
theorem dX10_stablePlans_15 : decode cX10_stablePlans 15 = .ok (.iaload, 1) := by decide +kernel
theorem dX10_stablePlans_16 : decode cX10_stablePlans 16 = .ok (.if_icmp .ge 20, 3) := by decide +kernel
theorem dX10_stablePlans_19 : decode cX10_stablePlans 19 = .ok (.iload_n 1, 1) := by decide +kernel
theorem dX10_stablePlans_20 : decode cX10_stablePlans 20 = .ok (.aload_n 0, 1) := by decide +kernel
theorem dX10_stablePlans_21 : decode cX10_stablePlans 21 = .ok (.getfield 7, 3) := by decide +kernel
theorem dX10_stablePlans_24 : decode cX10_stablePlans 24 = .ok (.iconst 0, 1) := by decide +kernel
theorem dX10_stablePlans_25 : decode cX10_stablePlans 25 = .ok (.iaload, 1) := by decide +kernel
theorem dX10_stablePlans_26 : decode cX10_stablePlans 26 = .ok (.iconst 1, 1) := by decide +kernel
theorem dX10_stablePlans_27 : decode cX10_stablePlans 27 = .ok (.iadd, 1) := by decide +kernel
theorem dX10_stablePlans_28 : decode cX10_stablePlans 28 = .ok (.imul, 1) := by decide +kernel
theorem dX10_stablePlans_29 : decode cX10_stablePlans 29 = .ok (.istore_n 1, 1) := by decide +kernel
theorem dX10_stablePlans_30 : decode cX10_stablePlans 30 = .ok (.iinc 2 1, 3) := by decide +kernel
theorem dX10_stablePlans_33 : decode cX10_stablePlans 33 = .ok (.goto (-24), 3) := by decide +kernel
theorem dX10_stablePlans_36 : decode cX10_stablePlans 36 = .ok (.iconst 0, 1) := by decide +kernel
theorem dX10_stablePlans_37 : decode cX10_stablePlans 37 = .ok (.istore_n 2, 1) := by decide +kernel
theorem dX10_stablePlans_38 : decode cX10_stablePlans 38 = .ok (.iconst 0, 1) := by decide +kernel
theorem dX10_stablePlans_39 : decode cX10_stablePlans 39 = .ok (.istore_n 3, 1) := by decide +kernel
theorem dX10_stablePlans_40 : decode cX10_stablePlans 40 = .ok (.iload_n 3, 1) := by decide +kernel
theorem dX10_stablePlans_41 : decode cX10_stablePlans 41 = .ok (.iload_n 1, 1) := by decide +kernel
theorem dX10_stablePlans_42 : decode cX10_stablePlans 42 = .ok (.if_icmp .ge 80, 3) := by decide +kernel
theorem dX10_stablePlans_45 : decode cX10_stablePlans 45 = .ok (.iload_n 3, 1) := by decide +kernel
theorem dX10_stablePlans_46 : decode cX10_stablePlans 46 = .ok (.istore 4, 2) := by decide +kernel
theorem dX10_stablePlans_48 : decode cX10_stablePlans 48 = .ok (.iconst 0, 1) := by decide +kernel
theorem dX10_stablePlans_49 : decode cX10_stablePlans 49 = .ok (.istore 5, 2) := by decide +kernel
theorem dX10_stablePlans_51 : decode cX10_stablePlans 51 = .ok (.iload 5, 2) := by decide +kernel
theorem dX10_stablePlans_53 : decode cX10_stablePlans 53 = .ok (.aload_n 0, 1) := by decide +kernel
theorem dX10_stablePlans_54 : decode cX10_stablePlans 54 = .ok (.getfield 7, 3) := by decide +kernel
theorem dX10_stablePlans_57 : decode cX10_stablePlans 57 = .ok (.iconst 1, 1) := by decide +kernel
theorem dX10_stablePlans_58 : decode cX10_stablePlans 58 = .ok (.iaload, 1) := by decide +kernel
theorem dX10_stablePlans_59 : decode cX10_stablePlans 59 = .ok (.if_icmp .ge 42, 3) := by decide +kernel
theorem dX10_stablePlans_62 : decode cX10_stablePlans 62 = .ok (.aload_n 0, 1) := by decide +kernel
theorem dX10_stablePlans_63 : decode cX10_stablePlans 63 = .ok (.getfield 25, 3) := by decide +kernel
theorem dX10_stablePlans_66 : decode cX10_stablePlans 66 = .ok (.iload 5, 2) := by decide +kernel
theorem dX10_stablePlans_68 : decode cX10_stablePlans 68 = .ok (.iload 4, 2) := by decide +kernel
theorem dX10_stablePlans_70 : decode cX10_stablePlans 70 = .ok (.aload_n 0, 1) := by decide +kernel
theorem dX10_stablePlans_71 : decode cX10_stablePlans 71 = .ok (.getfield 7, 3) := by decide +kernel
theorem dX10_stablePlans_74 : decode cX10_stablePlans 74 = .ok (.iconst 0, 1) := by decide +kernel
theorem dX10_stablePlans_75 : decode cX10_stablePlans 75 = .ok (.iaload, 1) := by decide +kernel
theorem dX10_stablePlans_76 : decode cX10_stablePlans 76 = .ok (.iconst 1, 1) := by decide +kernel
theorem dX10_stablePlans_77 : decode cX10_stablePlans 77 = .ok (.iadd, 1) := by decide +kernel
theorem dX10_stablePlans_78 : decode cX10_stablePlans 78 = .ok (.irem, 1) := by decide +kernel
theorem dX10_stablePlans_79 : decode cX10_stablePlans 79 = .ok (.iconst 1, 1) := by decide +kernel
theorem dX10_stablePlans_80 : decode cX10_stablePlans 80 = .ok (.isub, 1) := by decide +kernel
theorem dX10_stablePlans_81 : decode cX10_stablePlans 81 = .ok (.iastore, 1) := by decide +kernel
theorem dX10_stablePlans_82 : decode cX10_stablePlans 82 = .ok (.iload 4, 2) := by decide +kernel
theorem dX10_stablePlans_84 : decode cX10_stablePlans 84 = .ok (.aload_n 0, 1) := by decide +kernel
theorem dX10_stablePlans_85 : decode cX10_stablePlans 85 = .ok (.getfield 7, 3) := by decide +kernel
theorem dX10_stablePlans_88 : decode cX10_stablePlans 88 = .ok (.iconst 0, 1) := by decide +kernel
theorem dX10_stablePlans_89 : decode cX10_stablePlans 89 = .ok (.iaload, 1) := by decide +kernel
theorem dX10_stablePlans_90 : decode cX10_stablePlans 90 = .ok (.iconst 1, 1) := by decide +kernel
theorem dX10_stablePlans_91 : decode cX10_stablePlans 91 = .ok (.iadd, 1) := by decide +kernel
theorem dX10_stablePlans_92 : decode cX10_stablePlans 92 = .ok (.idiv, 1) := by decide +kernel
theorem dX10_stablePlans_93 : decode cX10_stablePlans 93 = .ok (.istore 4, 2) := by decide +kernel
theorem dX10_stablePlans_95 : decode cX10_stablePlans 95 = .ok (.iinc 5 1, 3) := by decide +kernel
theorem dX10_stablePlans_98 : decode cX10_stablePlans 98 = .ok (.goto (-47), 3) := by decide +kernel
theorem dX10_stablePlans_101 : decode cX10_stablePlans 101 = .ok (.iload_n 2, 1) := by decide +kernel
theorem dX10_stablePlans_102 : decode cX10_stablePlans 102 = .ok (.aload_n 0, 1) := by decide +kernel
theorem dX10_stablePlans_103 : decode cX10_stablePlans 103 = .ok (.invokevirtual 206, 3) := by decide +kernel
theorem dX10_stablePlans_106 : decode cX10_stablePlans 106 = .ok (.ifCond .eq 7, 3) := by decide +kernel
theorem dX10_stablePlans_109 : decode cX10_stablePlans 109 = .ok (.iconst 1, 1) := by decide +kernel
theorem dX10_stablePlans_110 : decode cX10_stablePlans 110 = .ok (.goto 4, 3) := by decide +kernel
theorem dX10_stablePlans_113 : decode cX10_stablePlans 113 = .ok (.iconst 0, 1) := by decide +kernel
theorem dX10_stablePlans_114 : decode cX10_stablePlans 114 = .ok (.iadd, 1) := by decide +kernel
theorem dX10_stablePlans_115 : decode cX10_stablePlans 115 = .ok (.istore_n 2, 1) := by decide +kernel
theorem dX10_stablePlans_116 : decode cX10_stablePlans 116 = .ok (.iinc 3 1, 3) := by decide +kernel
theorem dX10_stablePlans_119 : decode cX10_stablePlans 119 = .ok (.goto (-79), 3) := by decide +kernel
theorem dX10_stablePlans_122 : decode cX10_stablePlans 122 = .ok (.iload_n 2, 1) := by decide +kernel
theorem dX10_stablePlans_123 : decode cX10_stablePlans 123 = .ok (.ireturn, 1) := by decide +kernel
theorem dX10_isStable_0 : decode cX10_isStable 0 = .ok (.aload_n 0, 1) := by decide +kernel
theorem dX10_isStable_1 : decode cX10_isStable 1 = .ok (.iconst 0, 1) := by decide +kernel
theorem dX10_isStable_2 : decode cX10_isStable 2 = .ok (.putfield 57, 3) := by decide +kernel
theorem dX10_isStable_5 : decode cX10_isStable 5 = .ok (.iconst 0, 1) := by decide +kernel
theorem dX10_isStable_6 : decode cX10_isStable 6 = .ok (.istore_n 1, 1) := by decide +kernel
theorem dX10_isStable_7 : decode cX10_isStable 7 = .ok (.iload_n 1, 1) := by decide +kernel
theorem dX10_isStable_8 : decode cX10_isStable 8 = .ok (.aload_n 0, 1) := by decide +kernel
theorem dX10_isStable_9 : decode cX10_isStable 9 = .ok (.getfield 7, 3) := by decide +kernel
theorem dX10_isStable_12 : decode cX10_isStable 12 = .ok (.iconst 1, 1) := by decide +kernel
theorem dX10_isStable_13 : decode cX10_isStable 13 = .ok (.iaload, 1) := by decide +kernel
theorem dX10_isStable_14 : decode cX10_isStable 14 = .ok (.if_icmp .ge 24, 3) := by decide +kernel
theorem dX10_isStable_17 : decode cX10_isStable 17 = .ok (.aload_n 0, 1) := by decide +kernel
theorem dX10_isStable_18 : decode cX10_isStable 18 = .ok (.getfield 25, 3) := by decide +kernel
theorem dX10_isStable_21 : decode cX10_isStable 21 = .ok (.iload_n 1, 1) := by decide +kernel
theorem dX10_isStable_22 : decode cX10_isStable 22 = .ok (.aload_n 0, 1) := by decide +kernel
theorem dX10_isStable_23 : decode cX10_isStable 23 = .ok (.iload_n 1, 1) := by decide +kernel
theorem dX10_isStable_24 : decode cX10_isStable 24 = .ok (.bipush 6, 2) := by decide +kernel
theorem dX10_isStable_26 : decode cX10_isStable 26 = .ok (.invokevirtual 76, 3) := by decide +kernel
theorem dX10_isStable_29 : decode cX10_isStable 29 = .ok (.iconst 1, 1) := by decide +kernel
theorem dX10_isStable_30 : decode cX10_isStable 30 = .ok (.isub, 1) := by decide +kernel
theorem dX10_isStable_31 : decode cX10_isStable 31 = .ok (.iastore, 1) := by decide +kernel
theorem dX10_isStable_32 : decode cX10_isStable 32 = .ok (.iinc 1 1, 3) := by decide +kernel
theorem dX10_isStable_35 : decode cX10_isStable 35 = .ok (.goto (-28), 3) := by decide +kernel
theorem dX10_isStable_38 : decode cX10_isStable 38 = .ok (.aload_n 0, 1) := by decide +kernel
theorem dX10_isStable_39 : decode cX10_isStable 39 = .ok (.invokevirtual 206, 3) := by decide +kernel
theorem dX10_isStable_42 : decode cX10_isStable 42 = .ok (.ireturn, 1) := by decide +kernel
theorem dX10_chainLength_0 : decode cX10_chainLength 0 = .ok (.aload_n 0, 1) := by decide +kernel
theorem dX10_chainLength_1 : decode cX10_chainLength 1 = .ok (.iconst 0, 1) := by decide +kernel
theorem dX10_chainLength_2 : decode cX10_chainLength 2 = .ok (.putfield 57, 3) := by decide +kernel
theorem dX10_chainLength_5 : decode cX10_chainLength 5 = .ok (.aload_n 0, 1) := by decide +kernel
theorem dX10_chainLength_6 : decode cX10_chainLength 6 = .ok (.iload_n 1, 1) := by decide +kernel
theorem dX10_chainLength_7 : decode cX10_chainLength 7 = .ok (.invokevirtual 139, 3) := by decide +kernel
theorem dX10_chainLength_10 : decode cX10_chainLength 10 = .ok (.ifCond .eq 9, 3) := by decide +kernel
theorem dX10_chainLength_13 : decode cX10_chainLength 13 = .ok (.aload_n 0, 1) := by decide +kernel
theorem dX10_chainLength_14 : decode cX10_chainLength 14 = .ok (.iconst 1, 1) := by decide +kernel
theorem dX10_chainLength_15 : decode cX10_chainLength 15 = .ok (.invokevirtual 89, 3) := by decide +kernel
theorem dX10_chainLength_18 : decode cX10_chainLength 18 = .ok (.ireturn, 1) := by decide +kernel
theorem dX10_chainLength_19 : decode cX10_chainLength 19 = .ok (.aload_n 0, 1) := by decide +kernel
theorem dX10_chainLength_20 : decode cX10_chainLength 20 = .ok (.invokevirtual 209, 3) := by decide +kernel
theorem dX10_chainLength_23 : decode cX10_chainLength 23 = .ok (.aload_n 0, 1) := by decide +kernel
theorem dX10_chainLength_24 : decode cX10_chainLength 24 = .ok (.aload_n 0, 1) := by decide +kernel
theorem dX10_chainLength_25 : decode cX10_chainLength 25 = .ok (.iload_n 1, 1) := by decide +kernel
theorem dX10_chainLength_26 : decode cX10_chainLength 26 = .ok (.invokevirtual 110, 3) := by decide +kernel
theorem dX10_chainLength_29 : decode cX10_chainLength 29 = .ok (.invokevirtual 142, 3) := by decide +kernel
theorem dX10_chainLength_32 : decode cX10_chainLength 32 = .ok (.istore_n 2, 1) := by decide +kernel
theorem dX10_chainLength_33 : decode cX10_chainLength 33 = .ok (.aload_n 0, 1) := by decide +kernel
theorem dX10_chainLength_34 : decode cX10_chainLength 34 = .ok (.invokevirtual 212, 3) := by decide +kernel
theorem dX10_chainLength_37 : decode cX10_chainLength 37 = .ok (.iload_n 2, 1) := by decide +kernel
theorem dX10_chainLength_38 : decode cX10_chainLength 38 = .ok (.ireturn, 1) := by decide +kernel
theorem dX10_monthsUntilEviction_0 : decode cX10_monthsUntilEviction 0 = .ok (.aload_n 0, 1) := by decide +kernel
theorem dX10_monthsUntilEviction_1 : decode cX10_monthsUntilEviction 1 = .ok (.iconst 0, 1) := by decide +kernel
theorem dX10_monthsUntilEviction_2 : decode cX10_monthsUntilEviction 2 = .ok (.putfield 57, 3) := by decide +kernel
theorem dX10_monthsUntilEviction_5 : decode cX10_monthsUntilEviction 5 = .ok (.aload_n 0, 1) := by decide +kernel
theorem dX10_monthsUntilEviction_6 : decode cX10_monthsUntilEviction 6 = .ok (.invokevirtual 209, 3) := by decide +kernel
theorem dX10_monthsUntilEviction_9 : decode cX10_monthsUntilEviction 9 = .ok (.iconst 0, 1) := by decide +kernel
theorem dX10_monthsUntilEviction_10 : decode cX10_monthsUntilEviction 10 = .ok (.istore_n 1, 1) := by decide +kernel
theorem dX10_monthsUntilEviction_11 : decode cX10_monthsUntilEviction 11 = .ok (.iconst 0, 1) := by decide +kernel
theorem dX10_monthsUntilEviction_12 : decode cX10_monthsUntilEviction 12 = .ok (.istore_n 2, 1) := by decide +kernel
theorem dX10_monthsUntilEviction_13 : decode cX10_monthsUntilEviction 13 = .ok (.iload_n 1, 1) := by decide +kernel
theorem dX10_monthsUntilEviction_14 : decode cX10_monthsUntilEviction 14 = .ok (.bipush 24, 2) := by decide +kernel
theorem dX10_monthsUntilEviction_16 : decode cX10_monthsUntilEviction 16 = .ok (.if_icmp .ge 19, 3) := by decide +kernel
theorem dX10_monthsUntilEviction_19 : decode cX10_monthsUntilEviction 19 = .ok (.iload_n 2, 1) := by decide +kernel
theorem dX10_monthsUntilEviction_20 : decode cX10_monthsUntilEviction 20 = .ok (.ifCond .ne 15, 3) := by decide +kernel
theorem dX10_monthsUntilEviction_23 : decode cX10_monthsUntilEviction 23 = .ok (.aload_n 0, 1) := by decide +kernel
theorem dX10_monthsUntilEviction_24 : decode cX10_monthsUntilEviction 24 = .ok (.iconst 1, 1) := by decide +kernel
theorem dX10_monthsUntilEviction_25 : decode cX10_monthsUntilEviction 25 = .ok (.invokevirtual 183, 3) := by decide +kernel
theorem dX10_monthsUntilEviction_28 : decode cX10_monthsUntilEviction 28 = .ok (.istore_n 2, 1) := by decide +kernel
theorem dX10_monthsUntilEviction_29 : decode cX10_monthsUntilEviction 29 = .ok (.iinc 1 1, 3) := by decide +kernel
theorem dX10_monthsUntilEviction_32 : decode cX10_monthsUntilEviction 32 = .ok (.goto (-19), 3) := by decide +kernel
theorem dX10_monthsUntilEviction_35 : decode cX10_monthsUntilEviction 35 = .ok (.aload_n 0, 1) := by decide +kernel
theorem dX10_monthsUntilEviction_36 : decode cX10_monthsUntilEviction 36 = .ok (.invokevirtual 212, 3) := by decide +kernel
theorem dX10_monthsUntilEviction_39 : decode cX10_monthsUntilEviction 39 = .ok (.iload_n 2, 1) := by decide +kernel
theorem dX10_monthsUntilEviction_40 : decode cX10_monthsUntilEviction 40 = .ok (.ifCond .le 7, 3) := by decide +kernel
theorem dX10_monthsUntilEviction_43 : decode cX10_monthsUntilEviction 43 = .ok (.iload_n 1, 1) := by decide +kernel
theorem dX10_monthsUntilEviction_44 : decode cX10_monthsUntilEviction 44 = .ok (.goto 8, 3) := by decide +kernel
theorem dX10_monthsUntilEviction_47 : decode cX10_monthsUntilEviction 47 = .ok (.aload_n 0, 1) := by decide +kernel
theorem dX10_monthsUntilEviction_48 : decode cX10_monthsUntilEviction 48 = .ok (.iconst 1, 1) := by decide +kernel
theorem dX10_monthsUntilEviction_49 : decode cX10_monthsUntilEviction 49 = .ok (.invokevirtual 89, 3) := by decide +kernel
theorem dX10_monthsUntilEviction_52 : decode cX10_monthsUntilEviction 52 = .ok (.ireturn, 1) := by decide +kernel
theorem dX10_month_0 : decode cX10_month 0 = .ok (.aload_n 0, 1) := by decide +kernel
theorem dX10_month_1 : decode cX10_month 1 = .ok (.iconst 3, 1) := by decide +kernel
theorem dX10_month_2 : decode cX10_month 2 = .ok (.invokevirtual 186, 3) := by decide +kernel
theorem dX10_month_5 : decode cX10_month 5 = .ok (.ireturn, 1) := by decide +kernel
theorem dX10_received_0 : decode cX10_received 0 = .ok (.aload_n 0, 1) := by decide +kernel
theorem dX10_received_1 : decode cX10_received 1 = .ok (.iconst 0, 1) := by decide +kernel
theorem dX10_received_2 : decode cX10_received 2 = .ok (.putfield 57, 3) := by decide +kernel
theorem dX10_received_5 : decode cX10_received 5 = .ok (.aload_n 0, 1) := by decide +kernel
theorem dX10_received_6 : decode cX10_received 6 = .ok (.getfield 7, 3) := by decide +kernel
theorem dX10_received_9 : decode cX10_received 9 = .ok (.bipush 7, 2) := by decide +kernel
theorem dX10_received_11 : decode cX10_received 11 = .ok (.iaload, 1) := by decide +kernel
theorem dX10_received_12 : decode cX10_received 12 = .ok (.i2l, 1) := by decide +kernel
theorem dX10_received_13 : decode cX10_received 13 = .ok (.lreturn, 1) := by decide +kernel
theorem dX10_purses_0 : decode cX10_purses 0 = .ok (.iconst 0, 1) := by decide +kernel
theorem dX10_purses_1 : decode cX10_purses 1 = .ok (.istore_n 1, 1) := by decide +kernel
theorem dX10_purses_2 : decode cX10_purses 2 = .ok (.iconst 0, 1) := by decide +kernel
theorem dX10_purses_3 : decode cX10_purses 3 = .ok (.istore_n 2, 1) := by decide +kernel
theorem dX10_purses_4 : decode cX10_purses 4 = .ok (.iload_n 2, 1) := by decide +kernel
theorem dX10_purses_5 : decode cX10_purses 5 = .ok (.aload_n 0, 1) := by decide +kernel
theorem dX10_purses_6 : decode cX10_purses 6 = .ok (.getfield 7, 3) := by decide +kernel
theorem dX10_purses_9 : decode cX10_purses 9 = .ok (.iconst 1, 1) := by decide +kernel
theorem dX10_purses_10 : decode cX10_purses 10 = .ok (.iaload, 1) := by decide +kernel
theorem dX10_purses_11 : decode cX10_purses 11 = .ok (.if_icmp .ge 18, 3) := by decide +kernel
theorem dX10_purses_14 : decode cX10_purses 14 = .ok (.iload_n 1, 1) := by decide +kernel
theorem dX10_purses_15 : decode cX10_purses 15 = .ok (.aload_n 0, 1) := by decide +kernel
theorem dX10_purses_16 : decode cX10_purses 16 = .ok (.iload_n 2, 1) := by decide +kernel
theorem dX10_purses_17 : decode cX10_purses 17 = .ok (.iconst 4, 1) := by decide +kernel
theorem dX10_purses_18 : decode cX10_purses 18 = .ok (.invokevirtual 76, 3) := by decide +kernel
theorem dX10_purses_21 : decode cX10_purses 21 = .ok (.iadd, 1) := by decide +kernel
theorem dX10_purses_22 : decode cX10_purses 22 = .ok (.istore_n 1, 1) := by decide +kernel
theorem dX10_purses_23 : decode cX10_purses 23 = .ok (.iinc 2 1, 3) := by decide +kernel
theorem dX10_purses_26 : decode cX10_purses 26 = .ok (.goto (-22), 3) := by decide +kernel
theorem dX10_purses_29 : decode cX10_purses 29 = .ok (.iload_n 1, 1) := by decide +kernel
theorem dX10_purses_30 : decode cX10_purses 30 = .ok (.ireturn, 1) := by decide +kernel
theorem dX10_receivedByParts_0 : decode cX10_receivedByParts 0 = .ok (.aload_n 0, 1) := by decide +kernel
theorem dX10_receivedByParts_1 : decode cX10_receivedByParts 1 = .ok (.iconst 0, 1) := by decide +kernel
theorem dX10_receivedByParts_2 : decode cX10_receivedByParts 2 = .ok (.putfield 57, 3) := by decide +kernel
theorem dX10_receivedByParts_5 : decode cX10_receivedByParts 5 = .ok (.aload_n 0, 1) := by decide +kernel
theorem dX10_receivedByParts_6 : decode cX10_receivedByParts 6 = .ok (.invokevirtual 215, 3) := by decide +kernel
theorem dX10_receivedByParts_9 : decode cX10_receivedByParts 9 = .ok (.aload_n 0, 1) := by decide +kernel
theorem dX10_receivedByParts_10 : decode cX10_receivedByParts 10 = .ok (.getfield 7, 3) := by decide +kernel
theorem dX10_receivedByParts_13 : decode cX10_receivedByParts 13 = .ok (.bipush 6, 2) := by decide +kernel
theorem dX10_receivedByParts_15 : decode cX10_receivedByParts 15 = .ok (.iaload, 1) := by decide +kernel
theorem dX10_receivedByParts_16 : decode cX10_receivedByParts 16 = .ok (.iadd, 1) := by decide +kernel
theorem dX10_receivedByParts_17 : decode cX10_receivedByParts 17 = .ok (.aload_n 0, 1) := by decide +kernel
theorem dX10_receivedByParts_18 : decode cX10_receivedByParts 18 = .ok (.getfield 7, 3) := by decide +kernel
theorem dX10_receivedByParts_21 : decode cX10_receivedByParts 21 = .ok (.iconst 5, 1) := by decide +kernel
theorem dX10_receivedByParts_22 : decode cX10_receivedByParts 22 = .ok (.iaload, 1) := by decide +kernel
theorem dX10_receivedByParts_23 : decode cX10_receivedByParts 23 = .ok (.iadd, 1) := by decide +kernel
theorem dX10_receivedByParts_24 : decode cX10_receivedByParts 24 = .ok (.i2l, 1) := by decide +kernel
theorem dX10_receivedByParts_25 : decode cX10_receivedByParts 25 = .ok (.lreturn, 1) := by decide +kernel
theorem dX10_paidRents_0 : decode cX10_paidRents 0 = .ok (.aload_n 0, 1) := by decide +kernel
theorem dX10_paidRents_1 : decode cX10_paidRents 1 = .ok (.iconst 5, 1) := by decide +kernel
theorem dX10_paidRents_2 : decode cX10_paidRents 2 = .ok (.invokevirtual 186, 3) := by decide +kernel
theorem dX10_paidRents_5 : decode cX10_paidRents 5 = .ok (.ireturn, 1) := by decide +kernel
theorem dX10_evictions_0 : decode cX10_evictions 0 = .ok (.aload_n 0, 1) := by decide +kernel
theorem dX10_evictions_1 : decode cX10_evictions 1 = .ok (.iconst 4, 1) := by decide +kernel
theorem dX10_evictions_2 : decode cX10_evictions 2 = .ok (.invokevirtual 186, 3) := by decide +kernel
theorem dX10_evictions_5 : decode cX10_evictions 5 = .ok (.ireturn, 1) := by decide +kernel
theorem dX10_meanBurden_0 : decode cX10_meanBurden 0 = .ok (.aload_n 0, 1) := by decide +kernel
theorem dX10_meanBurden_1 : decode cX10_meanBurden 1 = .ok (.iconst 0, 1) := by decide +kernel
theorem dX10_meanBurden_2 : decode cX10_meanBurden 2 = .ok (.putfield 57, 3) := by decide +kernel
theorem dX10_meanBurden_5 : decode cX10_meanBurden 5 = .ok (.iconst 0, 1) := by decide +kernel
theorem dX10_meanBurden_6 : decode cX10_meanBurden 6 = .ok (.istore_n 1, 1) := by decide +kernel
theorem dX10_meanBurden_7 : decode cX10_meanBurden 7 = .ok (.iconst 0, 1) := by decide +kernel
theorem dX10_meanBurden_8 : decode cX10_meanBurden 8 = .ok (.istore_n 2, 1) := by decide +kernel
theorem dX10_meanBurden_9 : decode cX10_meanBurden 9 = .ok (.iconst 0, 1) := by decide +kernel
theorem dX10_meanBurden_10 : decode cX10_meanBurden 10 = .ok (.istore_n 3, 1) := by decide +kernel
theorem dX10_meanBurden_11 : decode cX10_meanBurden 11 = .ok (.iload_n 3, 1) := by decide +kernel
theorem dX10_meanBurden_12 : decode cX10_meanBurden 12 = .ok (.aload_n 0, 1) := by decide +kernel
theorem dX10_meanBurden_13 : decode cX10_meanBurden 13 = .ok (.getfield 7, 3) := by decide +kernel
theorem dX10_meanBurden_16 : decode cX10_meanBurden 16 = .ok (.iconst 1, 1) := by decide +kernel
theorem dX10_meanBurden_17 : decode cX10_meanBurden 17 = .ok (.iaload, 1) := by decide +kernel
theorem dX10_meanBurden_18 : decode cX10_meanBurden 18 = .ok (.if_icmp .ge 42, 3) := by decide +kernel
theorem dX10_meanBurden_21 : decode cX10_meanBurden 21 = .ok (.aload_n 0, 1) := by decide +kernel
theorem dX10_meanBurden_22 : decode cX10_meanBurden 22 = .ok (.iload_n 3, 1) := by decide +kernel
theorem dX10_meanBurden_23 : decode cX10_meanBurden 23 = .ok (.bipush 6, 2) := by decide +kernel
theorem dX10_meanBurden_25 : decode cX10_meanBurden 25 = .ok (.invokevirtual 76, 3) := by decide +kernel
theorem dX10_meanBurden_28 : decode cX10_meanBurden 28 = .ok (.ifCond .ne 6, 3) := by decide +kernel
theorem dX10_meanBurden_31 : decode cX10_meanBurden 31 = .ok (.goto 23, 3) := by decide +kernel
theorem dX10_meanBurden_34 : decode cX10_meanBurden 34 = .ok (.iload_n 1, 1) := by decide +kernel
theorem dX10_meanBurden_35 : decode cX10_meanBurden 35 = .ok (.aload_n 0, 1) := by decide +kernel
theorem dX10_meanBurden_36 : decode cX10_meanBurden 36 = .ok (.iload_n 3, 1) := by decide +kernel
theorem dX10_meanBurden_37 : decode cX10_meanBurden 37 = .ok (.aload_n 0, 1) := by decide +kernel
