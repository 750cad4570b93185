theorem dL_addFlat_0 : decode cL_addFlat 0 = .ok (.aload_n 3, 1) := by decide +kernel
theorem dL_addFlat_1 : decode cL_addFlat 1 = .ok (.iconst 0, 1) := by decide +kernel
theorem dL_addFlat_2 : decode cL_addFlat 2 = .ok (.aload_n 0, 1) := by decide +kernel
theorem dL_addFlat_3 : decode cL_addFlat 3 = .ok (.iload_n 1, 1) := by decide +kernel
theorem dL_addFlat_4 : decode cL_addFlat 4 = .ok (.iload_n 2, 1) := by decide +kernel
theorem dL_addFlat_5 : decode cL_addFlat 5 = .ok (.invokevirtual 7, 3) := by decide +kernel
theorem dL_addFlat_8 : decode cL_addFlat 8 = .ok (.i2l, 1) := by decide +kernel
theorem dL_addFlat_9 : decode cL_addFlat 9 = .ok (.lastore, 1) := by decide +kernel
theorem dL_addFlat_10 : decode cL_addFlat 10 = .ok (.goto 11, 3) := by decide +kernel
theorem dL_addFlat_13 : decode cL_addFlat 13 = .ok (.astore 4, 2) := by decide +kernel
theorem dL_addFlat_15 : decode cL_addFlat 15 = .ok (.iconst 1, 1) := by decide +kernel
theorem dL_addFlat_16 : decode cL_addFlat 16 = .ok (.ireturn, 1) := by decide +kernel
theorem dL_addFlat_17 : decode cL_addFlat 17 = .ok (.astore 4, 2) := by decide +kernel
theorem dL_addFlat_19 : decode cL_addFlat 19 = .ok (.iconst 2, 1) := by decide +kernel
theorem dL_addFlat_20 : decode cL_addFlat 20 = .ok (.ireturn, 1) := by decide +kernel
theorem dL_addFlat_21 : decode cL_addFlat 21 = .ok (.iconst 0, 1) := by decide +kernel
theorem dL_addFlat_22 : decode cL_addFlat 22 = .ok (.ireturn, 1) := by decide +kernel
theorem dL_addTenant_0 : decode cL_addTenant 0 = .ok (.aload 5, 2) := by decide +kernel
theorem dL_addTenant_2 : decode cL_addTenant 2 = .ok (.iconst 0, 1) := by decide +kernel
theorem dL_addTenant_3 : decode cL_addTenant 3 = .ok (.aload_n 0, 1) := by decide +kernel
theorem dL_addTenant_4 : decode cL_addTenant 4 = .ok (.iload_n 1, 1) := by decide +kernel
theorem dL_addTenant_5 : decode cL_addTenant 5 = .ok (.iload_n 2, 1) := by decide +kernel
theorem dL_addTenant_6 : decode cL_addTenant 6 = .ok (.iload_n 3, 1) := by decide +kernel
theorem dL_addTenant_7 : decode cL_addTenant 7 = .ok (.iload 4, 2) := by decide +kernel
theorem dL_addTenant_9 : decode cL_addTenant 9 = .ok (.invokevirtual 17, 3) := by decide +kernel
theorem dL_addTenant_12 : decode cL_addTenant 12 = .ok (.i2l, 1) := by decide +kernel
theorem dL_addTenant_13 : decode cL_addTenant 13 = .ok (.lastore, 1) := by decide +kernel
theorem dL_addTenant_14 : decode cL_addTenant 14 = .ok (.goto 11, 3) := by decide +kernel
theorem dL_addTenant_17 : decode cL_addTenant 17 = .ok (.astore 6, 2) := by decide +kernel
theorem dL_addTenant_19 : decode cL_addTenant 19 = .ok (.iconst 1, 1) := by decide +kernel
theorem dL_addTenant_20 : decode cL_addTenant 20 = .ok (.ireturn, 1) := by decide +kernel
theorem dL_addTenant_21 : decode cL_addTenant 21 = .ok (.astore 6, 2) := by decide +kernel
theorem dL_addTenant_23 : decode cL_addTenant 23 = .ok (.iconst 2, 1) := by decide +kernel
theorem dL_addTenant_24 : decode cL_addTenant 24 = .ok (.ireturn, 1) := by decide +kernel
theorem dL_addTenant_25 : decode cL_addTenant 25 = .ok (.iconst 0, 1) := by decide +kernel
theorem dL_addTenant_26 : decode cL_addTenant 26 = .ok (.ireturn, 1) := by decide +kernel
theorem dL_removeTenant_0 : decode cL_removeTenant 0 = .ok (.aload_n 2, 1) := by decide +kernel
theorem dL_removeTenant_1 : decode cL_removeTenant 1 = .ok (.iconst 0, 1) := by decide +kernel
theorem dL_removeTenant_2 : decode cL_removeTenant 2 = .ok (.aload_n 0, 1) := by decide +kernel
theorem dL_removeTenant_3 : decode cL_removeTenant 3 = .ok (.iload_n 1, 1) := by decide +kernel
theorem dL_removeTenant_4 : decode cL_removeTenant 4 = .ok (.invokevirtual 21, 3) := by decide +kernel
theorem dL_removeTenant_7 : decode cL_removeTenant 7 = .ok (.i2l, 1) := by decide +kernel
theorem dL_removeTenant_8 : decode cL_removeTenant 8 = .ok (.lastore, 1) := by decide +kernel
theorem dL_removeTenant_9 : decode cL_removeTenant 9 = .ok (.goto 9, 3) := by decide +kernel
theorem dL_removeTenant_12 : decode cL_removeTenant 12 = .ok (.astore_n 3, 1) := by decide +kernel
theorem dL_removeTenant_13 : decode cL_removeTenant 13 = .ok (.iconst 1, 1) := by decide +kernel
theorem dL_removeTenant_14 : decode cL_removeTenant 14 = .ok (.ireturn, 1) := by decide +kernel
theorem dL_removeTenant_15 : decode cL_removeTenant 15 = .ok (.astore_n 3, 1) := by decide +kernel
theorem dL_removeTenant_16 : decode cL_removeTenant 16 = .ok (.iconst 2, 1) := by decide +kernel
theorem dL_removeTenant_17 : decode cL_removeTenant 17 = .ok (.ireturn, 1) := by decide +kernel
theorem dL_removeTenant_18 : decode cL_removeTenant 18 = .ok (.iconst 0, 1) := by decide +kernel
theorem dL_removeTenant_19 : decode cL_removeTenant 19 = .ok (.ireturn, 1) := by decide +kernel
theorem dL_moveIn_0 : decode cL_moveIn 0 = .ok (.aload_n 3, 1) := by decide +kernel
theorem dL_moveIn_1 : decode cL_moveIn 1 = .ok (.iconst 0, 1) := by decide +kernel
theorem dL_moveIn_2 : decode cL_moveIn 2 = .ok (.aload_n 0, 1) := by decide +kernel
theorem dL_moveIn_3 : decode cL_moveIn 3 = .ok (.iload_n 1, 1) := by decide +kernel
theorem dL_moveIn_4 : decode cL_moveIn 4 = .ok (.iload_n 2, 1) := by decide +kernel
theorem dL_moveIn_5 : decode cL_moveIn 5 = .ok (.invokevirtual 27, 3) := by decide +kernel
theorem dL_moveIn_8 : decode cL_moveIn 8 = .ok (.i2l, 1) := by decide +kernel
theorem dL_moveIn_9 : decode cL_moveIn 9 = .ok (.lastore, 1) := by decide +kernel
theorem dL_moveIn_10 : decode cL_moveIn 10 = .ok (.goto 19, 3) := by decide +kernel
theorem dL_moveIn_13 : decode cL_moveIn 13 = .ok (.astore 4, 2) := by decide +kernel
theorem dL_moveIn_15 : decode cL_moveIn 15 = .ok (.iconst 1, 1) := by decide +kernel
theorem dL_moveIn_16 : decode cL_moveIn 16 = .ok (.ireturn, 1) := by decide +kernel
theorem dL_moveIn_17 : decode cL_moveIn 17 = .ok (.astore 4, 2) := by decide +kernel
theorem dL_moveIn_19 : decode cL_moveIn 19 = .ok (.iconst 2, 1) := by decide +kernel
theorem dL_moveIn_20 : decode cL_moveIn 20 = .ok (.ireturn, 1) := by decide +kernel
theorem dL_moveIn_21 : decode cL_moveIn 21 = .ok (.astore 4, 2) := by decide +kernel
theorem dL_moveIn_23 : decode cL_moveIn 23 = .ok (.iconst 3, 1) := by decide +kernel
theorem dL_moveIn_24 : decode cL_moveIn 24 = .ok (.ireturn, 1) := by decide +kernel
theorem dL_moveIn_25 : decode cL_moveIn 25 = .ok (.astore 4, 2) := by decide +kernel
theorem dL_moveIn_27 : decode cL_moveIn 27 = .ok (.iconst 4, 1) := by decide +kernel
theorem dL_moveIn_28 : decode cL_moveIn 28 = .ok (.ireturn, 1) := by decide +kernel
theorem dL_moveIn_29 : decode cL_moveIn 29 = .ok (.iconst 0, 1) := by decide +kernel
theorem dL_moveIn_30 : decode cL_moveIn 30 = .ok (.ireturn, 1) := by decide +kernel
theorem dL_moveOut_0 : decode cL_moveOut 0 = .ok (.aload_n 2, 1) := by decide +kernel
theorem dL_moveOut_1 : decode cL_moveOut 1 = .ok (.iconst 0, 1) := by decide +kernel
theorem dL_moveOut_2 : decode cL_moveOut 2 = .ok (.aload_n 0, 1) := by decide +kernel
theorem dL_moveOut_3 : decode cL_moveOut 3 = .ok (.iload_n 1, 1) := by decide +kernel
theorem dL_moveOut_4 : decode cL_moveOut 4 = .ok (.invokevirtual 34, 3) := by decide +kernel
theorem dL_moveOut_7 : decode cL_moveOut 7 = .ok (.i2l, 1) := by decide +kernel
theorem dL_moveOut_8 : decode cL_moveOut 8 = .ok (.lastore, 1) := by decide +kernel
theorem dL_moveOut_9 : decode cL_moveOut 9 = .ok (.goto 9, 3) := by decide +kernel
theorem dL_moveOut_12 : decode cL_moveOut 12 = .ok (.astore_n 3, 1) := by decide +kernel
theorem dL_moveOut_13 : decode cL_moveOut 13 = .ok (.iconst 1, 1) := by decide +kernel
theorem dL_moveOut_14 : decode cL_moveOut 14 = .ok (.ireturn, 1) := by decide +kernel
theorem dL_moveOut_15 : decode cL_moveOut 15 = .ok (.astore_n 3, 1) := by decide +kernel
theorem dL_moveOut_16 : decode cL_moveOut 16 = .ok (.iconst 2, 1) := by decide +kernel
theorem dL_moveOut_17 : decode cL_moveOut 17 = .ok (.ireturn, 1) := by decide +kernel
theorem dL_moveOut_18 : decode cL_moveOut 18 = .ok (.iconst 0, 1) := by decide +kernel
theorem dL_moveOut_19 : decode cL_moveOut 19 = .ok (.ireturn, 1) := by decide +kernel
theorem dL_setRent_0 : decode cL_setRent 0 = .ok (.aload_n 3, 1) := by decide +kernel
theorem dL_setRent_1 : decode cL_setRent 1 = .ok (.iconst 0, 1) := by decide +kernel
theorem dL_setRent_2 : decode cL_setRent 2 = .ok (.aload_n 0, 1) := by decide +kernel
theorem dL_setRent_3 : decode cL_setRent 3 = .ok (.iload_n 1, 1) := by decide +kernel
theorem dL_setRent_4 : decode cL_setRent 4 = .ok (.iload_n 2, 1) := by decide +kernel
theorem dL_setRent_5 : decode cL_setRent 5 = .ok (.invokevirtual 37, 3) := by decide +kernel
theorem dL_setRent_8 : decode cL_setRent 8 = .ok (.i2l, 1) := by decide +kernel
theorem dL_setRent_9 : decode cL_setRent 9 = .ok (.lastore, 1) := by decide +kernel
theorem dL_setRent_10 : decode cL_setRent 10 = .ok (.goto 11, 3) := by decide +kernel
theorem dL_setRent_13 : decode cL_setRent 13 = .ok (.astore 4, 2) := by decide +kernel
theorem dL_setRent_15 : decode cL_setRent 15 = .ok (.iconst 1, 1) := by decide +kernel
theorem dL_setRent_16 : decode cL_setRent 16 = .ok (.ireturn, 1) := by decide +kernel
theorem dL_setRent_17 : decode cL_setRent 17 = .ok (.astore 4, 2) := by decide +kernel
theorem dL_setRent_19 : decode cL_setRent 19 = .ok (.iconst 2, 1) := by decide +kernel
theorem dL_setRent_20 : decode cL_setRent 20 = .ok (.ireturn, 1) := by decide +kernel
theorem dL_setRent_21 : decode cL_setRent 21 = .ok (.iconst 0, 1) := by decide +kernel
theorem dL_setRent_22 : decode cL_setRent 22 = .ok (.ireturn, 1) := by decide +kernel
theorem dL_give_0 : decode cL_give 0 = .ok (.aload_n 3, 1) := by decide +kernel
theorem dL_give_1 : decode cL_give 1 = .ok (.iconst 0, 1) := by decide +kernel
theorem dL_give_2 : decode cL_give 2 = .ok (.aload_n 0, 1) := by decide +kernel
theorem dL_give_3 : decode cL_give 3 = .ok (.iload_n 1, 1) := by decide +kernel
theorem dL_give_4 : decode cL_give 4 = .ok (.iload_n 2, 1) := by decide +kernel
theorem dL_give_5 : decode cL_give 5 = .ok (.invokevirtual 40, 3) := by decide +kernel
theorem dL_give_8 : decode cL_give 8 = .ok (.i2l, 1) := by decide +kernel
theorem dL_give_9 : decode cL_give 9 = .ok (.lastore, 1) := by decide +kernel
theorem dL_give_10 : decode cL_give 10 = .ok (.goto 11, 3) := by decide +kernel
theorem dL_give_13 : decode cL_give 13 = .ok (.astore 4, 2) := by decide +kernel
theorem dL_give_15 : decode cL_give 15 = .ok (.iconst 1, 1) := by decide +kernel
theorem dL_give_16 : decode cL_give 16 = .ok (.ireturn, 1) := by decide +kernel
theorem dL_give_17 : decode cL_give 17 = .ok (.astore 4, 2) := by decide +kernel
theorem dL_give_19 : decode cL_give 19 = .ok (.iconst 2, 1) := by decide +kernel
theorem dL_give_20 : decode cL_give 20 = .ok (.ireturn, 1) := by decide +kernel
theorem dL_give_21 : decode cL_give 21 = .ok (.iconst 0, 1) := by decide +kernel
theorem dL_give_22 : decode cL_give 22 = .ok (.ireturn, 1) := by decide +kernel
theorem dL_pass_0 : decode cL_pass 0 = .ok (.aload_n 2, 1) := by decide +kernel
theorem dL_pass_1 : decode cL_pass 1 = .ok (.iconst 0, 1) := by decide +kernel
theorem dL_pass_2 : decode cL_pass 2 = .ok (.aload_n 0, 1) := by decide +kernel
theorem dL_pass_3 : decode cL_pass 3 = .ok (.iload_n 1, 1) := by decide +kernel
theorem dL_pass_4 : decode cL_pass 4 = .ok (.invokevirtual 43, 3) := by decide +kernel
theorem dL_pass_7 : decode cL_pass 7 = .ok (.i2l, 1) := by decide +kernel
theorem dL_pass_8 : decode cL_pass 8 = .ok (.lastore, 1) := by decide +kernel
theorem dL_pass_9 : decode cL_pass 9 = .ok (.goto 6, 3) := by decide +kernel
theorem dL_pass_12 : decode cL_pass 12 = .ok (.astore_n 3, 1) := by decide +kernel
theorem dL_pass_13 : decode cL_pass 13 = .ok (.iconst 1, 1) := by decide +kernel
theorem dL_pass_14 : decode cL_pass 14 = .ok (.ireturn, 1) := by decide +kernel
theorem dL_pass_15 : decode cL_pass 15 = .ok (.iconst 0, 1) := by decide +kernel
theorem dL_pass_16 : decode cL_pass 16 = .ok (.ireturn, 1) := by decide +kernel
theorem dL_floorOf_0 : decode cL_floorOf 0 = .ok (.aload_n 2, 1) := by decide +kernel
theorem dL_floorOf_1 : decode cL_floorOf 1 = .ok (.iconst 0, 1) := by decide +kernel
theorem dL_floorOf_2 : decode cL_floorOf 2 = .ok (.aload_n 0, 1) := by decide +kernel
theorem dL_floorOf_3 : decode cL_floorOf 3 = .ok (.iload_n 1, 1) := by decide +kernel
theorem dL_floorOf_4 : decode cL_floorOf 4 = .ok (.invokevirtual 46, 3) := by decide +kernel
theorem dL_floorOf_7 : decode cL_floorOf 7 = .ok (.i2l, 1) := by decide +kernel
theorem dL_floorOf_8 : decode cL_floorOf 8 = .ok (.lastore, 1) := by decide +kernel
theorem dL_floorOf_9 : decode cL_floorOf 9 = .ok (.goto 6, 3) := by decide +kernel
theorem dL_floorOf_12 : decode cL_floorOf 12 = .ok (.astore_n 3, 1) := by decide +kernel
theorem dL_floorOf_13 : decode cL_floorOf 13 = .ok (.iconst 1, 1) := by decide +kernel
theorem dL_floorOf_14 : decode cL_floorOf 14 = .ok (.ireturn, 1) := by decide +kernel
theorem dL_floorOf_15 : decode cL_floorOf 15 = .ok (.iconst 0, 1) := by decide +kernel
theorem dL_floorOf_16 : decode cL_floorOf 16 = .ok (.ireturn, 1) := by decide +kernel
theorem dL_rentOf_0 : decode cL_rentOf 0 = .ok (.aload_n 2, 1) := by decide +kernel
theorem dL_rentOf_1 : decode cL_rentOf 1 = .ok (.iconst 0, 1) := by decide +kernel
theorem dL_rentOf_2 : decode cL_rentOf 2 = .ok (.aload_n 0, 1) := by decide +kernel
theorem dL_rentOf_3 : decode cL_rentOf 3 = .ok (.iload_n 1, 1) := by decide +kernel
theorem dL_rentOf_4 : decode cL_rentOf 4 = .ok (.invokevirtual 49, 3) := by decide +kernel
theorem dL_rentOf_7 : decode cL_rentOf 7 = .ok (.i2l, 1) := by decide +kernel
theorem dL_rentOf_8 : decode cL_rentOf 8 = .ok (.lastore, 1) := by decide +kernel
theorem dL_rentOf_9 : decode cL_rentOf 9 = .ok (.goto 6, 3) := by decide +kernel
theorem dL_rentOf_12 : decode cL_rentOf 12 = .ok (.astore_n 3, 1) := by decide +kernel
theorem dL_rentOf_13 : decode cL_rentOf 13 = .ok (.iconst 1, 1) := by decide +kernel
theorem dL_rentOf_14 : decode cL_rentOf 14 = .ok (.ireturn, 1) := by decide +kernel
theorem dL_rentOf_15 : decode cL_rentOf 15 = .ok (.iconst 0, 1) := by decide +kernel
theorem dL_rentOf_16 : decode cL_rentOf 16 = .ok (.ireturn, 1) := by decide +kernel
theorem dL_tenantIn_0 : decode cL_tenantIn 0 = .ok (.aload_n 2, 1) := by decide +kernel
theorem dL_tenantIn_1 : decode cL_tenantIn 1 = .ok (.iconst 0, 1) := by decide +kernel
theorem dL_tenantIn_2 : decode cL_tenantIn 2 = .ok (.aload_n 0, 1) := by decide +kernel
theorem dL_tenantIn_3 : decode cL_tenantIn 3 = .ok (.iload_n 1, 1) := by decide +kernel
theorem dL_tenantIn_4 : decode cL_tenantIn 4 = .ok (.invokevirtual 52, 3) := by decide +kernel
theorem dL_tenantIn_7 : decode cL_tenantIn 7 = .ok (.i2l, 1) := by decide +kernel
theorem dL_tenantIn_8 : decode cL_tenantIn 8 = .ok (.lastore, 1) := by decide +kernel
theorem dL_tenantIn_9 : decode cL_tenantIn 9 = .ok (.goto 9, 3) := by decide +kernel
theorem dL_tenantIn_12 : decode cL_tenantIn 12 = .ok (.astore_n 3, 1) := by decide +kernel
theorem dL_tenantIn_13 : decode cL_tenantIn 13 = .ok (.iconst 1, 1) := by decide +kernel
theorem dL_tenantIn_14 : decode cL_tenantIn 14 = .ok (.ireturn, 1) := by decide +kernel
theorem dL_tenantIn_15 : decode cL_tenantIn 15 = .ok (.astore_n 3, 1) := by decide +kernel
theorem dL_tenantIn_16 : decode cL_tenantIn 16 = .ok (.iconst 2, 1) := by decide +kernel
theorem dL_tenantIn_17 : decode cL_tenantIn 17 = .ok (.ireturn, 1) := by decide +kernel
theorem dL_tenantIn_18 : decode cL_tenantIn 18 = .ok (.iconst 0, 1) := by decide +kernel
theorem dL_tenantIn_19 : decode cL_tenantIn 19 = .ok (.ireturn, 1) := by decide +kernel
theorem dL_weightOf_0 : decode cL_weightOf 0 = .ok (.aload_n 2, 1) := by decide +kernel
theorem dL_weightOf_1 : decode cL_weightOf 1 = .ok (.iconst 0, 1) := by decide +kernel
theorem dL_weightOf_2 : decode cL_weightOf 2 = .ok (.aload_n 0, 1) := by decide +kernel
theorem dL_weightOf_3 : decode cL_weightOf 3 = .ok (.iload_n 1, 1) := by decide +kernel
theorem dL_weightOf_4 : decode cL_weightOf 4 = .ok (.invokevirtual 55, 3) := by decide +kernel
theorem dL_weightOf_7 : decode cL_weightOf 7 = .ok (.i2l, 1) := by decide +kernel
theorem dL_weightOf_8 : decode cL_weightOf 8 = .ok (.lastore, 1) := by decide +kernel
theorem dL_weightOf_9 : decode cL_weightOf 9 = .ok (.goto 6, 3) := by decide +kernel
theorem dL_weightOf_12 : decode cL_weightOf 12 = .ok (.astore_n 3, 1) := by decide +kernel
theorem dL_weightOf_13 : decode cL_weightOf 13 = .ok (.iconst 1, 1) := by decide +kernel
theorem dL_weightOf_14 : decode cL_weightOf 14 = .ok (.ireturn, 1) := by decide +kernel
theorem dL_weightOf_15 : decode cL_weightOf 15 = .ok (.iconst 0, 1) := by decide +kernel
theorem dL_weightOf_16 : decode cL_weightOf 16 = .ok (.ireturn, 1) := by decide +kernel
theorem dL_purseOf_0 : decode cL_purseOf 0 = .ok (.aload_n 2, 1) := by decide +kernel
theorem dL_purseOf_1 : decode cL_purseOf 1 = .ok (.iconst 0, 1) := by decide +kernel
theorem dL_purseOf_2 : decode cL_purseOf 2 = .ok (.aload_n 0, 1) := by decide +kernel
theorem dL_purseOf_3 : decode cL_purseOf 3 = .ok (.iload_n 1, 1) := by decide +kernel
theorem dL_purseOf_4 : decode cL_purseOf 4 = .ok (.invokevirtual 58, 3) := by decide +kernel
theorem dL_purseOf_7 : decode cL_purseOf 7 = .ok (.i2l, 1) := by decide +kernel
theorem dL_purseOf_8 : decode cL_purseOf 8 = .ok (.lastore, 1) := by decide +kernel
theorem dL_purseOf_9 : decode cL_purseOf 9 = .ok (.goto 6, 3) := by decide +kernel
theorem dL_purseOf_12 : decode cL_purseOf 12 = .ok (.astore_n 3, 1) := by decide +kernel
theorem dL_purseOf_13 : decode cL_purseOf 13 = .ok (.iconst 1, 1) := by decide +kernel
theorem dL_purseOf_14 : decode cL_purseOf 14 = .ok (.ireturn, 1) := by decide +kernel
theorem dL_purseOf_15 : decode cL_purseOf 15 = .ok (.iconst 0, 1) := by decide +kernel
theorem dL_purseOf_16 : decode cL_purseOf 16 = .ok (.ireturn, 1) := by decide +kernel
theorem dL_noticesOf_0 : decode cL_noticesOf 0 = .ok (.aload_n 2, 1) := by decide +kernel
theorem dL_noticesOf_1 : decode cL_noticesOf 1 = .ok (.iconst 0, 1) := by decide +kernel
theorem dL_noticesOf_2 : decode cL_noticesOf 2 = .ok (.aload_n 0, 1) := by decide +kernel
theorem dL_noticesOf_3 : decode cL_noticesOf 3 = .ok (.iload_n 1, 1) := by decide +kernel
theorem dL_noticesOf_4 : decode cL_noticesOf 4 = .ok (.invokevirtual 61, 3) := by decide +kernel
theorem dL_noticesOf_7 : decode cL_noticesOf 7 = .ok (.i2l, 1) := by decide +kernel
theorem dL_noticesOf_8 : decode cL_noticesOf 8 = .ok (.lastore, 1) := by decide +kernel
theorem dL_noticesOf_9 : decode cL_noticesOf 9 = .ok (.goto 6, 3) := by decide +kernel
theorem dL_noticesOf_12 : decode cL_noticesOf 12 = .ok (.astore_n 3, 1) := by decide +kernel
theorem dL_noticesOf_13 : decode cL_noticesOf 13 = .ok (.iconst 1, 1) := by decide +kernel
theorem dL_noticesOf_14 : decode cL_noticesOf 14 = .ok (.ireturn, 1) := by decide +kernel
theorem dL_noticesOf_15 : decode cL_noticesOf 15 = .ok (.iconst 0, 1) := by decide +kernel
theorem dL_noticesOf_16 : decode cL_noticesOf 16 = .ok (.ireturn, 1) := by decide +kernel
theorem dL_flatOf_0 : decode cL_flatOf 0 = .ok (.aload_n 2, 1) := by decide +kernel
theorem dL_flatOf_1 : decode cL_flatOf 1 = .ok (.iconst 0, 1) := by decide +kernel
theorem dL_flatOf_2 : decode cL_flatOf 2 = .ok (.aload_n 0, 1) := by decide +kernel
theorem dL_flatOf_3 : decode cL_flatOf 3 = .ok (.iload_n 1, 1) := by decide +kernel
theorem dL_flatOf_4 : decode cL_flatOf 4 = .ok (.invokevirtual 64, 3) := by decide +kernel
theorem dL_flatOf_7 : decode cL_flatOf 7 = .ok (.i2l, 1) := by decide +kernel
theorem dL_flatOf_8 : decode cL_flatOf 8 = .ok (.lastore, 1) := by decide +kernel
theorem dL_flatOf_9 : decode cL_flatOf 9 = .ok (.goto 6, 3) := by decide +kernel
theorem dL_flatOf_12 : decode cL_flatOf 12 = .ok (.astore_n 3, 1) := by decide +kernel
theorem dL_flatOf_13 : decode cL_flatOf 13 = .ok (.iconst 1, 1) := by decide +kernel
theorem dL_flatOf_14 : decode cL_flatOf 14 = .ok (.ireturn, 1) := by decide +kernel
theorem dL_flatOf_15 : decode cL_flatOf 15 = .ok (.iconst 0, 1) := by decide +kernel
theorem dL_flatOf_16 : decode cL_flatOf 16 = .ok (.ireturn, 1) := by decide +kernel
theorem dL_burden_0 : decode cL_burden 0 = .ok (.aload_n 3, 1) := by decide +kernel
theorem dL_burden_1 : decode cL_burden 1 = .ok (.iconst 0, 1) := by decide +kernel
theorem dL_burden_2 : decode cL_burden 2 = .ok (.aload_n 0, 1) := by decide +kernel
theorem dL_burden_3 : decode cL_burden 3 = .ok (.iload_n 1, 1) := by decide +kernel
theorem dL_burden_4 : decode cL_burden 4 = .ok (.iload_n 2, 1) := by decide +kernel
theorem dL_burden_5 : decode cL_burden 5 = .ok (.invokevirtual 67, 3) := by decide +kernel
theorem dL_burden_8 : decode cL_burden 8 = .ok (.i2l, 1) := by decide +kernel
theorem dL_burden_9 : decode cL_burden 9 = .ok (.lastore, 1) := by decide +kernel
theorem dL_burden_10 : decode cL_burden 10 = .ok (.goto 11, 3) := by decide +kernel
theorem dL_burden_13 : decode cL_burden 13 = .ok (.astore 4, 2) := by decide +kernel
theorem dL_burden_15 : decode cL_burden 15 = .ok (.iconst 1, 1) := by decide +kernel
theorem dL_burden_16 : decode cL_burden 16 = .ok (.ireturn, 1) := by decide +kernel
theorem dL_burden_17 : decode cL_burden 17 = .ok (.astore 4, 2) := by decide +kernel
theorem dL_burden_19 : decode cL_burden 19 = .ok (.iconst 2, 1) := by decide +kernel
theorem dL_burden_20 : decode cL_burden 20 = .ok (.ireturn, 1) := by decide +kernel
theorem dL_burden_21 : decode cL_burden 21 = .ok (.iconst 0, 1) := by decide +kernel
theorem dL_burden_22 : decode cL_burden 22 = .ok (.ireturn, 1) := by decide +kernel
theorem dL_flatByRank_0 : decode cL_flatByRank 0 = .ok (.aload_n 3, 1) := by decide +kernel
theorem dL_flatByRank_1 : decode cL_flatByRank 1 = .ok (.iconst 0, 1) := by decide +kernel
theorem dL_flatByRank_2 : decode cL_flatByRank 2 = .ok (.aload_n 0, 1) := by decide +kernel
theorem dL_flatByRank_3 : decode cL_flatByRank 3 = .ok (.iload_n 1, 1) := by decide +kernel
theorem dL_flatByRank_4 : decode cL_flatByRank 4 = .ok (.iload_n 2, 1) := by decide +kernel
theorem dL_flatByRank_5 : decode cL_flatByRank 5 = .ok (.invokevirtual 70, 3) := by decide +kernel
theorem dL_flatByRank_8 : decode cL_flatByRank 8 = .ok (.i2l, 1) := by decide +kernel
theorem dL_flatByRank_9 : decode cL_flatByRank 9 = .ok (.lastore, 1) := by decide +kernel
theorem dL_flatByRank_10 : decode cL_flatByRank 10 = .ok (.goto 7, 3) := by decide +kernel
theorem dL_flatByRank_13 : decode cL_flatByRank 13 = .ok (.astore 4, 2) := by decide +kernel
theorem dL_flatByRank_15 : decode cL_flatByRank 15 = .ok (.iconst 1, 1) := by decide +kernel
theorem dL_flatByRank_16 : decode cL_flatByRank 16 = .ok (.ireturn, 1) := by decide +kernel
theorem dL_flatByRank_17 : decode cL_flatByRank 17 = .ok (.iconst 0, 1) := by decide +kernel
theorem dL_flatByRank_18 : decode cL_flatByRank 18 = .ok (.ireturn, 1) := by decide +kernel
theorem dL_tenantByPurse_0 : decode cL_tenantByPurse 0 = .ok (.aload_n 2, 1) := by decide +kernel
theorem dL_tenantByPurse_1 : decode cL_tenantByPurse 1 = .ok (.iconst 0, 1) := by decide +kernel
theorem dL_tenantByPurse_2 : decode cL_tenantByPurse 2 = .ok (.aload_n 0, 1) := by decide +kernel
theorem dL_tenantByPurse_3 : decode cL_tenantByPurse 3 = .ok (.iload_n 1, 1) := by decide +kernel
theorem dL_tenantByPurse_4 : decode cL_tenantByPurse 4 = .ok (.invokevirtual 73, 3) := by decide +kernel
theorem dL_tenantByPurse_7 : decode cL_tenantByPurse 7 = .ok (.i2l, 1) := by decide +kernel
theorem dL_tenantByPurse_8 : decode cL_tenantByPurse 8 = .ok (.lastore, 1) := by decide +kernel
theorem dL_tenantByPurse_9 : decode cL_tenantByPurse 9 = .ok (.goto 6, 3) := by decide +kernel
theorem dL_tenantByPurse_12 : decode cL_tenantByPurse 12 = .ok (.astore_n 3, 1) := by decide +kernel
theorem dL_tenantByPurse_13 : decode cL_tenantByPurse 13 = .ok (.iconst 1, 1) := by decide +kernel
theorem dL_tenantByPurse_14 : decode cL_tenantByPurse 14 = .ok (.ireturn, 1) := by decide +kernel
theorem dL_tenantByPurse_15 : decode cL_tenantByPurse 15 = .ok (.iconst 0, 1) := by decide +kernel
theorem dL_tenantByPurse_16 : decode cL_tenantByPurse 16 = .ok (.ireturn, 1) := by decide +kernel
theorem dL_creak_0 : decode cL_creak 0 = .ok (.aload_n 2, 1) := by decide +kernel
theorem dL_creak_1 : decode cL_creak 1 = .ok (.iconst 0, 1) := by decide +kernel
theorem dL_creak_2 : decode cL_creak 2 = .ok (.aload_n 0, 1) := by decide +kernel
theorem dL_creak_3 : decode cL_creak 3 = .ok (.iload_n 1, 1) := by decide +kernel
theorem dL_creak_4 : decode cL_creak 4 = .ok (.invokevirtual 76, 3) := by decide +kernel
theorem dL_creak_7 : decode cL_creak 7 = .ok (.i2l, 1) := by decide +kernel
theorem dL_creak_8 : decode cL_creak 8 = .ok (.lastore, 1) := by decide +kernel
theorem dL_creak_9 : decode cL_creak 9 = .ok (.goto 6, 3) := by decide +kernel
theorem dL_creak_12 : decode cL_creak 12 = .ok (.astore_n 3, 1) := by decide +kernel
theorem dL_creak_13 : decode cL_creak 13 = .ok (.iconst 1, 1) := by decide +kernel
theorem dL_creak_14 : decode cL_creak 14 = .ok (.ireturn, 1) := by decide +kernel
theorem dL_creak_15 : decode cL_creak 15 = .ok (.iconst 0, 1) := by decide +kernel
theorem dL_creak_16 : decode cL_creak 16 = .ok (.ireturn, 1) := by decide +kernel
theorem dL_possibleFloors_0 : decode cL_possibleFloors 0 = .ok (.aload_n 2, 1) := by decide +kernel
theorem dL_possibleFloors_1 : decode cL_possibleFloors 1 = .ok (.iconst 0, 1) := by decide +kernel
theorem dL_possibleFloors_2 : decode cL_possibleFloors 2 = .ok (.aload_n 0, 1) := by decide +kernel
theorem dL_possibleFloors_3 : decode cL_possibleFloors 3 = .ok (.iload_n 1, 1) := by decide +kernel
theorem dL_possibleFloors_4 : decode cL_possibleFloors 4 = .ok (.invokevirtual 79, 3) := by decide +kernel
theorem dL_possibleFloors_7 : decode cL_possibleFloors 7 = .ok (.i2l, 1) := by decide +kernel
theorem dL_possibleFloors_8 : decode cL_possibleFloors 8 = .ok (.lastore, 1) := by decide +kernel
theorem dL_possibleFloors_9 : decode cL_possibleFloors 9 = .ok (.goto 6, 3) := by decide +kernel
theorem dL_possibleFloors_12 : decode cL_possibleFloors 12 = .ok (.astore_n 3, 1) := by decide +kernel
theorem dL_possibleFloors_13 : decode cL_possibleFloors 13 = .ok (.iconst 1, 1) := by decide +kernel
theorem dL_possibleFloors_14 : decode cL_possibleFloors 14 = .ok (.ireturn, 1) := by decide +kernel
theorem dL_possibleFloors_15 : decode cL_possibleFloors 15 = .ok (.iconst 0, 1) := by decide +kernel
theorem dL_possibleFloors_16 : decode cL_possibleFloors 16 = .ok (.ireturn, 1) := by decide +kernel
theorem dL_plannedFlat_0 : decode cL_plannedFlat 0 = .ok (.aload_n 2, 1) := by decide +kernel
theorem dL_plannedFlat_1 : decode cL_plannedFlat 1 = .ok (.iconst 0, 1) := by decide +kernel
theorem dL_plannedFlat_2 : decode cL_plannedFlat 2 = .ok (.aload_n 0, 1) := by decide +kernel
theorem dL_plannedFlat_3 : decode cL_plannedFlat 3 = .ok (.iload_n 1, 1) := by decide +kernel
theorem dL_plannedFlat_4 : decode cL_plannedFlat 4 = .ok (.invokevirtual 82, 3) := by decide +kernel
theorem dL_plannedFlat_7 : decode cL_plannedFlat 7 = .ok (.i2l, 1) := by decide +kernel
theorem dL_plannedFlat_8 : decode cL_plannedFlat 8 = .ok (.lastore, 1) := by decide +kernel
theorem dL_plannedFlat_9 : decode cL_plannedFlat 9 = .ok (.goto 6, 3) := by decide +kernel
theorem dL_plannedFlat_12 : decode cL_plannedFlat 12 = .ok (.astore_n 3, 1) := by decide +kernel
theorem dL_plannedFlat_13 : decode cL_plannedFlat 13 = .ok (.iconst 1, 1) := by decide +kernel
theorem dL_plannedFlat_14 : decode cL_plannedFlat 14 = .ok (.ireturn, 1) := by decide +kernel
theorem dL_plannedFlat_15 : decode cL_plannedFlat 15 = .ok (.iconst 0, 1) := by decide +kernel
theorem dL_plannedFlat_16 : decode cL_plannedFlat 16 = .ok (.ireturn, 1) := by decide +kernel
theorem dL_plannedFlatByPlans_0 : decode cL_plannedFlatByPlans 0 = .ok (.aload_n 2, 1) := by decide +kernel
theorem dL_plannedFlatByPlans_1 : decode cL_plannedFlatByPlans 1 = .ok (.iconst 0, 1) := by decide +kernel
theorem dL_plannedFlatByPlans_2 : decode cL_plannedFlatByPlans 2 = .ok (.aload_n 0, 1) := by decide +kernel
theorem dL_plannedFlatByPlans_3 : decode cL_plannedFlatByPlans 3 = .ok (.iload_n 1, 1) := by decide +kernel
theorem dL_plannedFlatByPlans_4 : decode cL_plannedFlatByPlans 4 = .ok (.invokevirtual 85, 3) := by decide +kernel
theorem dL_plannedFlatByPlans_7 : decode cL_plannedFlatByPlans 7 = .ok (.i2l, 1) := by decide +kernel
theorem dL_plannedFlatByPlans_8 : decode cL_plannedFlatByPlans 8 = .ok (.lastore, 1) := by decide +kernel
theorem dL_plannedFlatByPlans_9 : decode cL_plannedFlatByPlans 9 = .ok (.goto 6, 3) := by decide +kernel
theorem dL_plannedFlatByPlans_12 : decode cL_plannedFlatByPlans 12 = .ok (.astore_n 3, 1) := by decide +kernel
theorem dL_plannedFlatByPlans_13 : decode cL_plannedFlatByPlans 13 = .ok (.iconst 1, 1) := by decide +kernel
theorem dL_plannedFlatByPlans_14 : decode cL_plannedFlatByPlans 14 = .ok (.ireturn, 1) := by decide +kernel
theorem dL_plannedFlatByPlans_15 : decode cL_plannedFlatByPlans 15 = .ok (.iconst 0, 1) := by decide +kernel
theorem dL_plannedFlatByPlans_16 : decode cL_plannedFlatByPlans 16 = .ok (.ireturn, 1) := by decide +kernel
theorem dL_chainLength_0 : decode cL_chainLength 0 = .ok (.aload_n 2, 1) := by decide +kernel
theorem dL_chainLength_1 : decode cL_chainLength 1 = .ok (.iconst 0, 1) := by decide +kernel
theorem dL_chainLength_2 : decode cL_chainLength 2 = .ok (.aload_n 0, 1) := by decide +kernel
theorem dL_chainLength_3 : decode cL_chainLength 3 = .ok (.iload_n 1, 1) := by decide +kernel
theorem dL_chainLength_4 : decode cL_chainLength 4 = .ok (.invokevirtual 88, 3) := by decide +kernel
theorem dL_chainLength_7 : decode cL_chainLength 7 = .ok (.i2l, 1) := by decide +kernel
theorem dL_chainLength_8 : decode cL_chainLength 8 = .ok (.lastore, 1) := by decide +kernel
theorem dL_chainLength_9 : decode cL_chainLength 9 = .ok (.goto 6, 3) := by decide +kernel
theorem dL_chainLength_12 : decode cL_chainLength 12 = .ok (.astore_n 3, 1) := by decide +kernel
theorem dL_chainLength_13 : decode cL_chainLength 13 = .ok (.iconst 1, 1) := by decide +kernel
theorem dL_chainLength_14 : decode cL_chainLength 14 = .ok (.ireturn, 1) := by decide +kernel
theorem dL_chainLength_15 : decode cL_chainLength 15 = .ok (.iconst 0, 1) := by decide +kernel
theorem dL_chainLength_16 : decode cL_chainLength 16 = .ok (.ireturn, 1) := by decide +kernel
theorem dL_monthsUntilEviction_0 : decode cL_monthsUntilEviction 0 = .ok (.aload_n 1, 1) := by decide +kernel
theorem dL_monthsUntilEviction_1 : decode cL_monthsUntilEviction 1 = .ok (.iconst 0, 1) := by decide +kernel
theorem dL_monthsUntilEviction_2 : decode cL_monthsUntilEviction 2 = .ok (.aload_n 0, 1) := by decide +kernel
theorem dL_monthsUntilEviction_3 : decode cL_monthsUntilEviction 3 = .ok (.invokevirtual 91, 3) := by decide +kernel
theorem dL_monthsUntilEviction_6 : decode cL_monthsUntilEviction 6 = .ok (.i2l, 1) := by decide +kernel
theorem dL_monthsUntilEviction_7 : decode cL_monthsUntilEviction 7 = .ok (.lastore, 1) := by decide +kernel
theorem dL_monthsUntilEviction_8 : decode cL_monthsUntilEviction 8 = .ok (.goto 6, 3) := by decide +kernel
theorem dL_monthsUntilEviction_11 : decode cL_monthsUntilEviction 11 = .ok (.astore_n 2, 1) := by decide +kernel
theorem dL_monthsUntilEviction_12 : decode cL_monthsUntilEviction 12 = .ok (.iconst 1, 1) := by decide +kernel
theorem dL_monthsUntilEviction_13 : decode cL_monthsUntilEviction 13 = .ok (.ireturn, 1) := by decide +kernel
theorem dL_monthsUntilEviction_14 : decode cL_monthsUntilEviction 14 = .ok (.iconst 0, 1) := by decide +kernel
theorem dL_monthsUntilEviction_15 : decode cL_monthsUntilEviction 15 = .ok (.ireturn, 1) := by decide +kernel
theorem dL_meanBurden_0 : decode cL_meanBurden 0 = .ok (.aload_n 1, 1) := by decide +kernel
theorem dL_meanBurden_1 : decode cL_meanBurden 1 = .ok (.iconst 0, 1) := by decide +kernel
theorem dL_meanBurden_2 : decode cL_meanBurden 2 = .ok (.aload_n 0, 1) := by decide +kernel
theorem dL_meanBurden_3 : decode cL_meanBurden 3 = .ok (.invokevirtual 95, 3) := by decide +kernel
theorem dL_meanBurden_6 : decode cL_meanBurden 6 = .ok (.dastore, 1) := by decide +kernel
theorem dL_meanBurden_7 : decode cL_meanBurden 7 = .ok (.goto 6, 3) := by decide +kernel
theorem dL_meanBurden_10 : decode cL_meanBurden 10 = .ok (.astore_n 2, 1) := by decide +kernel
theorem dL_meanBurden_11 : decode cL_meanBurden 11 = .ok (.iconst 1, 1) := by decide +kernel
theorem dL_meanBurden_12 : decode cL_meanBurden 12 = .ok (.ireturn, 1) := by decide +kernel
theorem dL_meanBurden_13 : decode cL_meanBurden 13 = .ok (.iconst 0, 1) := by decide +kernel
theorem dL_meanBurden_14 : decode cL_meanBurden 14 = .ok (.ireturn, 1) := by decide +kernel
theorem dL_occupancy_0 : decode cL_occupancy 0 = .ok (.aload_n 1, 1) := by decide +kernel
theorem dL_occupancy_1 : decode cL_occupancy 1 = .ok (.iconst 0, 1) := by decide +kernel
theorem dL_occupancy_2 : decode cL_occupancy 2 = .ok (.aload_n 0, 1) := by decide +kernel
theorem dL_occupancy_3 : decode cL_occupancy 3 = .ok (.invokevirtual 101, 3) := by decide +kernel
theorem dL_occupancy_6 : decode cL_occupancy 6 = .ok (.f2d, 1) := by decide +kernel
theorem dL_occupancy_7 : decode cL_occupancy 7 = .ok (.dastore, 1) := by decide +kernel
theorem dL_occupancy_8 : decode cL_occupancy 8 = .ok (.goto 6, 3) := by decide +kernel
theorem dL_occupancy_11 : decode cL_occupancy 11 = .ok (.astore_n 2, 1) := by decide +kernel
theorem dL_occupancy_12 : decode cL_occupancy 12 = .ok (.iconst 1, 1) := by decide +kernel
theorem dL_occupancy_13 : decode cL_occupancy 13 = .ok (.ireturn, 1) := by decide +kernel
theorem dL_occupancy_14 : decode cL_occupancy 14 = .ok (.iconst 0, 1) := by decide +kernel
theorem dL_occupancy_15 : decode cL_occupancy 15 = .ok (.ireturn, 1) := by decide +kernel
theorem dL_writeFloor_0 : decode cL_writeFloor 0 = .ok (.aload_n 2, 1) := by decide +kernel
theorem dL_writeFloor_1 : decode cL_writeFloor 1 = .ok (.iconst 0, 1) := by decide +kernel
theorem dL_writeFloor_2 : decode cL_writeFloor 2 = .ok (.aload_n 0, 1) := by decide +kernel
theorem dL_writeFloor_3 : decode cL_writeFloor 3 = .ok (.iload_n 1, 1) := by decide +kernel
theorem dL_writeFloor_4 : decode cL_writeFloor 4 = .ok (.invokevirtual 105, 3) := by decide +kernel
theorem dL_writeFloor_7 : decode cL_writeFloor 7 = .ok (.i2l, 1) := by decide +kernel
theorem dL_writeFloor_8 : decode cL_writeFloor 8 = .ok (.lastore, 1) := by decide +kernel
theorem dL_writeFloor_9 : decode cL_writeFloor 9 = .ok (.goto 6, 3) := by decide +kernel
theorem dL_writeFloor_12 : decode cL_writeFloor 12 = .ok (.astore_n 3, 1) := by decide +kernel
theorem dL_writeFloor_13 : decode cL_writeFloor 13 = .ok (.iconst 1, 1) := by decide +kernel
theorem dL_writeFloor_14 : decode cL_writeFloor 14 = .ok (.ireturn, 1) := by decide +kernel
theorem dL_writeFloor_15 : decode cL_writeFloor 15 = .ok (.iconst 0, 1) := by decide +kernel
theorem dL_writeFloor_16 : decode cL_writeFloor 16 = .ok (.ireturn, 1) := by decide +kernel
theorem dL_charAt_0 : decode cL_charAt 0 = .ok (.aload_n 2, 1) := by decide +kernel
theorem dL_charAt_1 : decode cL_charAt 1 = .ok (.iconst 0, 1) := by decide +kernel
theorem dL_charAt_2 : decode cL_charAt 2 = .ok (.aload_n 0, 1) := by decide +kernel
theorem dL_charAt_3 : decode cL_charAt 3 = .ok (.iload_n 1, 1) := by decide +kernel
theorem dL_charAt_4 : decode cL_charAt 4 = .ok (.invokevirtual 108, 3) := by decide +kernel
theorem dL_charAt_7 : decode cL_charAt 7 = .ok (.i2l, 1) := by decide +kernel
theorem dL_charAt_8 : decode cL_charAt 8 = .ok (.lastore, 1) := by decide +kernel
theorem dL_charAt_9 : decode cL_charAt 9 = .ok (.goto 6, 3) := by decide +kernel
theorem dL_charAt_12 : decode cL_charAt 12 = .ok (.astore_n 3, 1) := by decide +kernel
theorem dL_charAt_13 : decode cL_charAt 13 = .ok (.iconst 1, 1) := by decide +kernel
theorem dL_charAt_14 : decode cL_charAt 14 = .ok (.ireturn, 1) := by decide +kernel
theorem dL_charAt_15 : decode cL_charAt 15 = .ok (.iconst 0, 1) := by decide +kernel
theorem dL_charAt_16 : decode cL_charAt 16 = .ok (.ireturn, 1) := by decide +kernel
theorem dL_type_0 : decode cL_type 0 = .ok (.aload_n 2, 1) := by decide +kernel
theorem dL_type_1 : decode cL_type 1 = .ok (.iconst 0, 1) := by decide +kernel
theorem dL_type_2 : decode cL_type 2 = .ok (.aload_n 0, 1) := by decide +kernel
theorem dL_type_3 : decode cL_type 3 = .ok (.iload_n 1, 1) := by decide +kernel
theorem dL_type_4 : decode cL_type 4 = .ok (.invokevirtual 112, 3) := by decide +kernel
theorem dL_type_7 : decode cL_type 7 = .ok (.i2l, 1) := by decide +kernel
theorem dL_type_8 : decode cL_type 8 = .ok (.lastore, 1) := by decide +kernel
theorem dL_type_9 : decode cL_type 9 = .ok (.goto 6, 3) := by decide +kernel
theorem dL_type_12 : decode cL_type 12 = .ok (.astore_n 3, 1) := by decide +kernel
theorem dL_type_13 : decode cL_type 13 = .ok (.iconst 1, 1) := by decide +kernel
theorem dL_type_14 : decode cL_type 14 = .ok (.ireturn, 1) := by decide +kernel
theorem dL_type_15 : decode cL_type 15 = .ok (.iconst 0, 1) := by decide +kernel
theorem dL_type_16 : decode cL_type 16 = .ok (.ireturn, 1) := by decide +kernel
theorem dL_run_0 : decode cL_run 0 = .ok (.aload_n 1, 1) := by decide +kernel
theorem dL_run_1 : decode cL_run 1 = .ok (.iconst 0, 1) := by decide +kernel
theorem dL_run_2 : decode cL_run 2 = .ok (.aload_n 0, 1) := by decide +kernel
theorem dL_run_3 : decode cL_run 3 = .ok (.invokevirtual 116, 3) := by decide +kernel
theorem dL_run_6 : decode cL_run 6 = .ok (.i2l, 1) := by decide +kernel
theorem dL_run_7 : decode cL_run 7 = .ok (.lastore, 1) := by decide +kernel
theorem dL_run_8 : decode cL_run 8 = .ok (.goto 9, 3) := by decide +kernel
theorem dL_run_11 : decode cL_run 11 = .ok (.astore_n 2, 1) := by decide +kernel
theorem dL_run_12 : decode cL_run 12 = .ok (.iconst 1, 1) := by decide +kernel
theorem dL_run_13 : decode cL_run 13 = .ok (.ireturn, 1) := by decide +kernel
theorem dL_run_14 : decode cL_run 14 = .ok (.astore_n 2, 1) := by decide +kernel
theorem dL_run_15 : decode cL_run 15 = .ok (.iconst 2, 1) := by decide +kernel
theorem dL_run_16 : decode cL_run 16 = .ok (.ireturn, 1) := by decide +kernel
theorem dL_run_17 : decode cL_run 17 = .ok (.iconst 0, 1) := by decide +kernel
theorem dL_run_18 : decode cL_run 18 = .ok (.ireturn, 1) := by decide +kernel
theorem dL_errorPosition_0 : decode cL_errorPosition 0 = .ok (.aload_n 1, 1) := by decide +kernel
theorem dL_errorPosition_1 : decode cL_errorPosition 1 = .ok (.iconst 0, 1) := by decide +kernel
theorem dL_errorPosition_2 : decode cL_errorPosition 2 = .ok (.aload_n 0, 1) := by decide +kernel
theorem dL_errorPosition_3 : decode cL_errorPosition 3 = .ok (.invokevirtual 119, 3) := by decide +kernel
theorem dL_errorPosition_6 : decode cL_errorPosition 6 = .ok (.i2l, 1) := by decide +kernel
theorem dL_errorPosition_7 : decode cL_errorPosition 7 = .ok (.lastore, 1) := by decide +kernel
theorem dL_errorPosition_8 : decode cL_errorPosition 8 = .ok (.goto 6, 3) := by decide +kernel
theorem dL_errorPosition_11 : decode cL_errorPosition 11 = .ok (.astore_n 2, 1) := by decide +kernel
theorem dL_errorPosition_12 : decode cL_errorPosition 12 = .ok (.iconst 1, 1) := by decide +kernel
theorem dL_errorPosition_13 : decode cL_errorPosition 13 = .ok (.ireturn, 1) := by decide +kernel
theorem dL_errorPosition_14 : decode cL_errorPosition 14 = .ok (.iconst 0, 1) := by decide +kernel
theorem dL_errorPosition_15 : decode cL_errorPosition 15 = .ok (.ireturn, 1) := by decide +kernel
theorem dL_failedCommand_0 : decode cL_failedCommand 0 = .ok (.aload_n 1, 1) := by decide +kernel
theorem dL_failedCommand_1 : decode cL_failedCommand 1 = .ok (.iconst 0, 1) := by decide +kernel
theorem dL_failedCommand_2 : decode cL_failedCommand 2 = .ok (.aload_n 0, 1) := by decide +kernel
theorem dL_failedCommand_3 : decode cL_failedCommand 3 = .ok (.invokevirtual 122, 3) := by decide +kernel
theorem dL_failedCommand_6 : decode cL_failedCommand 6 = .ok (.i2l, 1) := by decide +kernel
theorem dL_failedCommand_7 : decode cL_failedCommand 7 = .ok (.lastore, 1) := by decide +kernel
theorem dL_failedCommand_8 : decode cL_failedCommand 8 = .ok (.goto 6, 3) := by decide +kernel
theorem dL_failedCommand_11 : decode cL_failedCommand 11 = .ok (.astore_n 2, 1) := by decide +kernel
theorem dL_failedCommand_12 : decode cL_failedCommand 12 = .ok (.iconst 1, 1) := by decide +kernel
theorem dL_failedCommand_13 : decode cL_failedCommand 13 = .ok (.ireturn, 1) := by decide +kernel
theorem dL_failedCommand_14 : decode cL_failedCommand 14 = .ok (.iconst 0, 1) := by decide +kernel
theorem dL_failedCommand_15 : decode cL_failedCommand 15 = .ok (.ireturn, 1) := by decide +kernel
theorem dL_undo_0 : decode cL_undo 0 = .ok (.aload_n 1, 1) := by decide +kernel
theorem dL_undo_1 : decode cL_undo 1 = .ok (.iconst 0, 1) := by decide +kernel
theorem dL_undo_2 : decode cL_undo 2 = .ok (.aload_n 0, 1) := by decide +kernel
theorem dL_undo_3 : decode cL_undo 3 = .ok (.invokevirtual 125, 3) := by decide +kernel
theorem dL_undo_6 : decode cL_undo 6 = .ok (.i2l, 1) := by decide +kernel
theorem dL_undo_7 : decode cL_undo 7 = .ok (.lastore, 1) := by decide +kernel
theorem dL_undo_8 : decode cL_undo 8 = .ok (.goto 6, 3) := by decide +kernel
theorem dL_undo_11 : decode cL_undo 11 = .ok (.astore_n 2, 1) := by decide +kernel
theorem dL_undo_12 : decode cL_undo 12 = .ok (.iconst 1, 1) := by decide +kernel
theorem dL_undo_13 : decode cL_undo 13 = .ok (.ireturn, 1) := by decide +kernel
theorem dL_undo_14 : decode cL_undo 14 = .ok (.iconst 0, 1) := by decide +kernel
theorem dL_undo_15 : decode cL_undo 15 = .ok (.ireturn, 1) := by decide +kernel
theorem dL_restore_0 : decode cL_restore 0 = .ok (.aload_n 1, 1) := by decide +kernel
theorem dL_restore_1 : decode cL_restore 1 = .ok (.iconst 0, 1) := by decide +kernel
theorem dL_restore_2 : decode cL_restore 2 = .ok (.aload_n 0, 1) := by decide +kernel
theorem dL_restore_3 : decode cL_restore 3 = .ok (.invokevirtual 128, 3) := by decide +kernel
theorem dL_restore_6 : decode cL_restore 6 = .ok (.i2l, 1) := by decide +kernel
theorem dL_restore_7 : decode cL_restore 7 = .ok (.lastore, 1) := by decide +kernel
theorem dL_restore_8 : decode cL_restore 8 = .ok (.goto 6, 3) := by decide +kernel
theorem dL_restore_11 : decode cL_restore 11 = .ok (.astore_n 2, 1) := by decide +kernel
theorem dL_restore_12 : decode cL_restore 12 = .ok (.iconst 1, 1) := by decide +kernel
theorem dL_restore_13 : decode cL_restore 13 = .ok (.ireturn, 1) := by decide +kernel
theorem dL_restore_14 : decode cL_restore 14 = .ok (.iconst 0, 1) := by decide +kernel
theorem dL_restore_15 : decode cL_restore 15 = .ok (.ireturn, 1) := by decide +kernel
theorem dL_law_0 : decode cL_law 0 = .ok (.new 8, 3) := by decide +kernel
theorem dL_law_3 : decode cL_law 3 = .ok (.dup, 1) := by decide +kernel
theorem dL_law_4 : decode cL_law 4 = .ok (.invokespecial 131, 3) := by decide +kernel
theorem dL_law_7 : decode cL_law 7 = .ok (.astore_n 1, 1) := by decide +kernel
theorem dL_law_8 : decode cL_law 8 = .ok (.new 132, 3) := by decide +kernel
theorem dL_law_11 : decode cL_law 11 = .ok (.dup, 1) := by decide +kernel
theorem dL_law_12 : decode cL_law 12 = .ok (.invokespecial 134, 3) := by decide +kernel
theorem dL_law_15 : decode cL_law 15 = .ok (.astore_n 2, 1) := by decide +kernel
theorem dL_law_16 : decode cL_law 16 = .ok (.iconst 1, 1) := by decide +kernel
theorem dL_law_17 : decode cL_law 17 = .ok (.newarray .long, 2) := by decide +kernel
theorem dL_law_19 : decode cL_law 19 = .ok (.astore_n 3, 1) := by decide +kernel
theorem dL_law_20 : decode cL_law 20 = .ok (.iconst 1, 1) := by decide +kernel
theorem dL_law_21 : decode cL_law 21 = .ok (.newarray .double, 2) := by decide +kernel
theorem dL_law_23 : decode cL_law 23 = .ok (.astore 4, 2) := by decide +kernel
theorem dL_law_25 : decode cL_law 25 = .ok (.iconst 0, 1) := by decide +kernel
theorem dL_law_26 : decode cL_law 26 = .ok (.istore 5, 2) := by decide +kernel
theorem dL_law_28 : decode cL_law 28 = .ok (.iload 5, 2) := by decide +kernel
theorem dL_law_30 : decode cL_law 30 = .ok (.aload_n 0, 1) := by decide +kernel
theorem dL_law_31 : decode cL_law 31 = .ok (.arraylength, 1) := by decide +kernel
theorem dL_law_32 : decode cL_law 32 = .ok (.iconst 5, 1) := by decide +kernel
theorem dL_law_33 : decode cL_law 33 = .ok (.isub, 1) := by decide +kernel
theorem dL_law_34 : decode cL_law 34 = .ok (.if_icmp .gt 2432, 3) := by decide +kernel
theorem dL_law_37 : decode cL_law 37 = .ok (.aload_n 0, 1) := by decide +kernel
theorem dL_law_38 : decode cL_law 38 = .ok (.iload 5, 2) := by decide +kernel
theorem dL_law_40 : decode cL_law 40 = .ok (.iaload, 1) := by decide +kernel
theorem dL_law_41 : decode cL_law 41 = .ok (.bipush 63, 2) := by decide +kernel
theorem dL_law_43 : decode cL_law 43 = .ok (.iand, 1) := by decide +kernel
theorem dL_law_44 : decode cL_law 44 = .ok (.tableswitch 2416 0 50 #[220, 288, 380, 436, 504, 560, 628, 696, 709, 765, 778, 834, 890, 946, 959, 972, 997, 1053, 1109, 1165, 1221, 1289, 1357, 1413, 1469, 1482, 1495, 1551, 1607, 1663, 1676, 1689, 1745, 1789, 1802, 1816, 1830, 1843, 1856, 1921, 1987, 2000, 2056, 2069, 2125, 2183, 2227, 2271, 2315, 2359, 2372], 220) := by decide +kernel
theorem dL_law_264 : decode cL_law 264 = .ok (.aload_n 1, 1) := by decide +kernel
theorem dL_law_265 : decode cL_law 265 = .ok (.aload_n 0, 1) := by decide +kernel
theorem dL_law_266 : decode cL_law 266 = .ok (.iload 5, 2) := by decide +kernel
theorem dL_law_268 : decode cL_law 268 = .ok (.iconst 1, 1) := by decide +kernel
theorem dL_law_269 : decode cL_law 269 = .ok (.iadd, 1) := by decide +kernel
theorem dL_law_270 : decode cL_law 270 = .ok (.iaload, 1) := by decide +kernel
theorem dL_law_271 : decode cL_law 271 = .ok (.aload_n 0, 1) := by decide +kernel
theorem dL_law_272 : decode cL_law 272 = .ok (.iload 5, 2) := by decide +kernel
theorem dL_law_274 : decode cL_law 274 = .ok (.iconst 2, 1) := by decide +kernel
theorem dL_law_275 : decode cL_law 275 = .ok (.iadd, 1) := by decide +kernel
theorem dL_law_276 : decode cL_law 276 = .ok (.iaload, 1) := by decide +kernel
theorem dL_law_277 : decode cL_law 277 = .ok (.aload_n 3, 1) := by decide +kernel
theorem dL_law_278 : decode cL_law 278 = .ok (.invokestatic 135, 3) := by decide +kernel
theorem dL_law_281 : decode cL_law 281 = .ok (.istore 6, 2) := by decide +kernel
theorem dL_law_283 : decode cL_law 283 = .ok (.aload_n 2, 1) := by decide +kernel
theorem dL_law_284 : decode cL_law 284 = .ok (.aload_n 0, 1) := by decide +kernel
theorem dL_law_285 : decode cL_law 285 = .ok (.iload 5, 2) := by decide +kernel
theorem dL_law_287 : decode cL_law 287 = .ok (.iconst 1, 1) := by decide +kernel
theorem dL_law_288 : decode cL_law 288 = .ok (.iadd, 1) := by decide +kernel
theorem dL_law_289 : decode cL_law 289 = .ok (.iaload, 1) := by decide +kernel
theorem dL_law_290 : decode cL_law 290 = .ok (.aload_n 0, 1) := by decide +kernel
theorem dL_law_291 : decode cL_law 291 = .ok (.iload 5, 2) := by decide +kernel
theorem dL_law_293 : decode cL_law 293 = .ok (.iconst 2, 1) := by decide +kernel
theorem dL_law_294 : decode cL_law 294 = .ok (.iadd, 1) := by decide +kernel
theorem dL_law_295 : decode cL_law 295 = .ok (.iaload, 1) := by decide +kernel
theorem dL_law_296 : decode cL_law 296 = .ok (.invokevirtual 140, 3) := by decide +kernel
theorem dL_law_299 : decode cL_law 299 = .ok (.istore 7, 2) := by decide +kernel
theorem dL_law_301 : decode cL_law 301 = .ok (.aload_n 2, 1) := by decide +kernel
theorem dL_law_302 : decode cL_law 302 = .ok (.invokevirtual 141, 3) := by decide +kernel
theorem dL_law_305 : decode cL_law 305 = .ok (.iload 6, 2) := by decide +kernel
theorem dL_law_307 : decode cL_law 307 = .ok (.if_icmp .eq 5, 3) := by decide +kernel
theorem dL_law_310 : decode cL_law 310 = .ok (.iconst 0, 1) := by decide +kernel
theorem dL_law_311 : decode cL_law 311 = .ok (.ireturn, 1) := by decide +kernel
theorem dL_law_312 : decode cL_law 312 = .ok (.iload 6, 2) := by decide +kernel
theorem dL_law_314 : decode cL_law 314 = .ok (.ifCond .ne 15, 3) := by decide +kernel
theorem dL_law_317 : decode cL_law 317 = .ok (.aload_n 3, 1) := by decide +kernel
theorem dL_law_318 : decode cL_law 318 = .ok (.iconst 0, 1) := by decide +kernel
theorem dL_law_319 : decode cL_law 319 = .ok (.laload, 1) := by decide +kernel
theorem dL_law_320 : decode cL_law 320 = .ok (.iload 7, 2) := by decide +kernel
theorem dL_law_322 : decode cL_law 322 = .ok (.i2l, 1) := by decide +kernel
theorem dL_law_323 : decode cL_law 323 = .ok (.lcmp, 1) := by decide +kernel
theorem dL_law_324 : decode cL_law 324 = .ok (.ifCond .eq 5, 3) := by decide +kernel
theorem dL_law_327 : decode cL_law 327 = .ok (.iconst 0, 1) := by decide +kernel
theorem dL_law_328 : decode cL_law 328 = .ok (.ireturn, 1) := by decide +kernel
theorem dL_law_329 : decode cL_law 329 = .ok (.goto 2131, 3) := by decide +kernel
theorem dL_law_332 : decode cL_law 332 = .ok (.aload_n 1, 1) := by decide +kernel
theorem dL_law_333 : decode cL_law 333 = .ok (.aload_n 0, 1) := by decide +kernel
theorem dL_law_334 : decode cL_law 334 = .ok (.iload 5, 2) := by decide +kernel
theorem dL_law_336 : decode cL_law 336 = .ok (.iconst 1, 1) := by decide +kernel
theorem dL_law_337 : decode cL_law 337 = .ok (.iadd, 1) := by decide +kernel
theorem dL_law_338 : decode cL_law 338 = .ok (.iaload, 1) := by decide +kernel
theorem dL_law_339 : decode cL_law 339 = .ok (.aload_n 0, 1) := by decide +kernel
theorem dL_law_340 : decode cL_law 340 = .ok (.iload 5, 2) := by decide +kernel
theorem dL_law_342 : decode cL_law 342 = .ok (.iconst 2, 1) := by decide +kernel
theorem dL_law_343 : decode cL_law 343 = .ok (.iadd, 1) := by decide +kernel
theorem dL_law_344 : decode cL_law 344 = .ok (.iaload, 1) := by decide +kernel
theorem dL_law_345 : decode cL_law 345 = .ok (.aload_n 0, 1) := by decide +kernel
theorem dL_law_346 : decode cL_law 346 = .ok (.iload 5, 2) := by decide +kernel
theorem dL_law_348 : decode cL_law 348 = .ok (.iconst 3, 1) := by decide +kernel
theorem dL_law_349 : decode cL_law 349 = .ok (.iadd, 1) := by decide +kernel
theorem dL_law_350 : decode cL_law 350 = .ok (.iaload, 1) := by decide +kernel
theorem dL_law_351 : decode cL_law 351 = .ok (.aload_n 0, 1) := by decide +kernel
theorem dL_law_352 : decode cL_law 352 = .ok (.iload 5, 2) := by decide +kernel
theorem dL_law_354 : decode cL_law 354 = .ok (.iconst 4, 1) := by decide +kernel
theorem dL_law_355 : decode cL_law 355 = .ok (.iadd, 1) := by decide +kernel
theorem dL_law_356 : decode cL_law 356 = .ok (.iaload, 1) := by decide +kernel
theorem dL_law_357 : decode cL_law 357 = .ok (.aload_n 3, 1) := by decide +kernel
theorem dL_law_358 : decode cL_law 358 = .ok (.invokestatic 144, 3) := by decide +kernel
theorem dL_law_361 : decode cL_law 361 = .ok (.istore 6, 2) := by decide +kernel
theorem dL_law_363 : decode cL_law 363 = .ok (.aload_n 2, 1) := by decide +kernel
theorem dL_law_364 : decode cL_law 364 = .ok (.aload_n 0, 1) := by decide +kernel
theorem dL_law_365 : decode cL_law 365 = .ok (.iload 5, 2) := by decide +kernel
theorem dL_law_367 : decode cL_law 367 = .ok (.iconst 1, 1) := by decide +kernel
theorem dL_law_368 : decode cL_law 368 = .ok (.iadd, 1) := by decide +kernel
theorem dL_law_369 : decode cL_law 369 = .ok (.iaload, 1) := by decide +kernel
theorem dL_law_370 : decode cL_law 370 = .ok (.aload_n 0, 1) := by decide +kernel
theorem dL_law_371 : decode cL_law 371 = .ok (.iload 5, 2) := by decide +kernel
theorem dL_law_373 : decode cL_law 373 = .ok (.iconst 2, 1) := by decide +kernel
theorem dL_law_374 : decode cL_law 374 = .ok (.iadd, 1) := by decide +kernel
theorem dL_law_375 : decode cL_law 375 = .ok (.iaload, 1) := by decide +kernel
theorem dL_law_376 : decode cL_law 376 = .ok (.aload_n 0, 1) := by decide +kernel
theorem dL_law_377 : decode cL_law 377 = .ok (.iload 5, 2) := by decide +kernel
theorem dL_law_379 : decode cL_law 379 = .ok (.iconst 3, 1) := by decide +kernel
theorem dL_law_380 : decode cL_law 380 = .ok (.iadd, 1) := by decide +kernel
theorem dL_law_381 : decode cL_law 381 = .ok (.iaload, 1) := by decide +kernel
theorem dL_law_382 : decode cL_law 382 = .ok (.aload_n 0, 1) := by decide +kernel
theorem dL_law_383 : decode cL_law 383 = .ok (.iload 5, 2) := by decide +kernel
theorem dL_law_385 : decode cL_law 385 = .ok (.iconst 4, 1) := by decide +kernel
theorem dL_law_386 : decode cL_law 386 = .ok (.iadd, 1) := by decide +kernel
theorem dL_law_387 : decode cL_law 387 = .ok (.iaload, 1) := by decide +kernel
theorem dL_law_388 : decode cL_law 388 = .ok (.invokevirtual 147, 3) := by decide +kernel
theorem dL_law_391 : decode cL_law 391 = .ok (.istore 7, 2) := by decide +kernel
theorem dL_law_393 : decode cL_law 393 = .ok (.aload_n 2, 1) := by decide +kernel
theorem dL_law_394 : decode cL_law 394 = .ok (.invokevirtual 141, 3) := by decide +kernel
theorem dL_law_397 : decode cL_law 397 = .ok (.iload 6, 2) := by decide +kernel
theorem dL_law_399 : decode cL_law 399 = .ok (.if_icmp .eq 5, 3) := by decide +kernel
theorem dL_law_402 : decode cL_law 402 = .ok (.iconst 0, 1) := by decide +kernel
theorem dL_law_403 : decode cL_law 403 = .ok (.ireturn, 1) := by decide +kernel
theorem dL_law_404 : decode cL_law 404 = .ok (.iload 6, 2) := by decide +kernel
theorem dL_law_406 : decode cL_law 406 = .ok (.ifCond .ne 15, 3) := by decide +kernel
theorem dL_law_409 : decode cL_law 409 = .ok (.aload_n 3, 1) := by decide +kernel
theorem dL_law_410 : decode cL_law 410 = .ok (.iconst 0, 1) := by decide +kernel
theorem dL_law_411 : decode cL_law 411 = .ok (.laload, 1) := by decide +kernel
theorem dL_law_412 : decode cL_law 412 = .ok (.iload 7, 2) := by decide +kernel
theorem dL_law_414 : decode cL_law 414 = .ok (.i2l, 1) := by decide +kernel
theorem dL_law_415 : decode cL_law 415 = .ok (.lcmp, 1) := by decide +kernel
theorem dL_law_416 : decode cL_law 416 = .ok (.ifCond .eq 5, 3) := by decide +kernel
theorem dL_law_419 : decode cL_law 419 = .ok (.iconst 0, 1) := by decide +kernel
theorem dL_law_420 : decode cL_law 420 = .ok (.ireturn, 1) := by decide +kernel
theorem dL_law_421 : decode cL_law 421 = .ok (.goto 2039, 3) := by decide +kernel
theorem dL_law_424 : decode cL_law 424 = .ok (.aload_n 1, 1) := by decide +kernel
theorem dL_law_425 : decode cL_law 425 = .ok (.aload_n 0, 1) := by decide +kernel
theorem dL_law_426 : decode cL_law 426 = .ok (.iload 5, 2) := by decide +kernel
theorem dL_law_428 : decode cL_law 428 = .ok (.iconst 1, 1) := by decide +kernel
theorem dL_law_429 : decode cL_law 429 = .ok (.iadd, 1) := by decide +kernel
theorem dL_law_430 : decode cL_law 430 = .ok (.iaload, 1) := by decide +kernel
theorem dL_law_431 : decode cL_law 431 = .ok (.aload_n 3, 1) := by decide +kernel
theorem dL_law_432 : decode cL_law 432 = .ok (.invokestatic 148, 3) := by decide +kernel
theorem dL_law_435 : decode cL_law 435 = .ok (.istore 6, 2) := by decide +kernel
theorem dL_law_437 : decode cL_law 437 = .ok (.aload_n 2, 1) := by decide +kernel
theorem dL_law_438 : decode cL_law 438 = .ok (.aload_n 0, 1) := by decide +kernel
theorem dL_law_439 : decode cL_law 439 = .ok (.iload 5, 2) := by decide +kernel
theorem dL_law_441 : decode cL_law 441 = .ok (.iconst 1, 1) := by decide +kernel
theorem dL_law_442 : decode cL_law 442 = .ok (.iadd, 1) := by decide +kernel
theorem dL_law_443 : decode cL_law 443 = .ok (.iaload, 1) := by decide +kernel
theorem dL_law_444 : decode cL_law 444 = .ok (.invokevirtual 151, 3) := by decide +kernel
theorem dL_law_447 : decode cL_law 447 = .ok (.istore 7, 2) := by decide +kernel
theorem dL_law_449 : decode cL_law 449 = .ok (.aload_n 2, 1) := by decide +kernel
theorem dL_law_450 : decode cL_law 450 = .ok (.invokevirtual 141, 3) := by decide +kernel
theorem dL_law_453 : decode cL_law 453 = .ok (.iload 6, 2) := by decide +kernel
theorem dL_law_455 : decode cL_law 455 = .ok (.if_icmp .eq 5, 3) := by decide +kernel
theorem dL_law_458 : decode cL_law 458 = .ok (.iconst 0, 1) := by decide +kernel
theorem dL_law_459 : decode cL_law 459 = .ok (.ireturn, 1) := by decide +kernel
theorem dL_law_460 : decode cL_law 460 = .ok (.iload 6, 2) := by decide +kernel
theorem dL_law_462 : decode cL_law 462 = .ok (.ifCond .ne 15, 3) := by decide +kernel
theorem dL_law_465 : decode cL_law 465 = .ok (.aload_n 3, 1) := by decide +kernel
theorem dL_law_466 : decode cL_law 466 = .ok (.iconst 0, 1) := by decide +kernel
theorem dL_law_467 : decode cL_law 467 = .ok (.laload, 1) := by decide +kernel
theorem dL_law_468 : decode cL_law 468 = .ok (.iload 7, 2) := by decide +kernel
theorem dL_law_470 : decode cL_law 470 = .ok (.i2l, 1) := by decide +kernel
theorem dL_law_471 : decode cL_law 471 = .ok (.lcmp, 1) := by decide +kernel
theorem dL_law_472 : decode cL_law 472 = .ok (.ifCond .eq 5, 3) := by decide +kernel
theorem dL_law_475 : decode cL_law 475 = .ok (.iconst 0, 1) := by decide +kernel
theorem dL_law_476 : decode cL_law 476 = .ok (.ireturn, 1) := by decide +kernel
theorem dL_law_477 : decode cL_law 477 = .ok (.goto 1983, 3) := by decide +kernel
theorem dL_law_480 : decode cL_law 480 = .ok (.aload_n 1, 1) := by decide +kernel
theorem dL_law_481 : decode cL_law 481 = .ok (.aload_n 0, 1) := by decide +kernel
theorem dL_law_482 : decode cL_law 482 = .ok (.iload 5, 2) := by decide +kernel
theorem dL_law_484 : decode cL_law 484 = .ok (.iconst 1, 1) := by decide +kernel
theorem dL_law_485 : decode cL_law 485 = .ok (.iadd, 1) := by decide +kernel
theorem dL_law_486 : decode cL_law 486 = .ok (.iaload, 1) := by decide +kernel
theorem dL_law_487 : decode cL_law 487 = .ok (.aload_n 0, 1) := by decide +kernel
theorem dL_law_488 : decode cL_law 488 = .ok (.iload 5, 2) := by decide +kernel
theorem dL_law_490 : decode cL_law 490 = .ok (.iconst 2, 1) := by decide +kernel
theorem dL_law_491 : decode cL_law 491 = .ok (.iadd, 1) := by decide +kernel
theorem dL_law_492 : decode cL_law 492 = .ok (.iaload, 1) := by decide +kernel
theorem dL_law_493 : decode cL_law 493 = .ok (.aload_n 3, 1) := by decide +kernel
theorem dL_law_494 : decode cL_law 494 = .ok (.invokestatic 152, 3) := by decide +kernel
theorem dL_law_497 : decode cL_law 497 = .ok (.istore 6, 2) := by decide +kernel
theorem dL_law_499 : decode cL_law 499 = .ok (.aload_n 2, 1) := by decide +kernel
theorem dL_law_500 : decode cL_law 500 = .ok (.aload_n 0, 1) := by decide +kernel
theorem dL_law_501 : decode cL_law 501 = .ok (.iload 5, 2) := by decide +kernel
theorem dL_law_503 : decode cL_law 503 = .ok (.iconst 1, 1) := by decide +kernel
theorem dL_law_504 : decode cL_law 504 = .ok (.iadd, 1) := by decide +kernel
theorem dL_law_505 : decode cL_law 505 = .ok (.iaload, 1) := by decide +kernel
theorem dL_law_506 : decode cL_law 506 = .ok (.aload_n 0, 1) := by decide +kernel
theorem dL_law_507 : decode cL_law 507 = .ok (.iload 5, 2) := by decide +kernel
theorem dL_law_509 : decode cL_law 509 = .ok (.iconst 2, 1) := by decide +kernel
theorem dL_law_510 : decode cL_law 510 = .ok (.iadd, 1) := by decide +kernel
theorem dL_law_511 : decode cL_law 511 = .ok (.iaload, 1) := by decide +kernel
theorem dL_law_512 : decode cL_law 512 = .ok (.invokevirtual 154, 3) := by decide +kernel
theorem dL_law_515 : decode cL_law 515 = .ok (.istore 7, 2) := by decide +kernel
theorem dL_law_517 : decode cL_law 517 = .ok (.aload_n 2, 1) := by decide +kernel
theorem dL_law_518 : decode cL_law 518 = .ok (.invokevirtual 141, 3) := by decide +kernel
theorem dL_law_521 : decode cL_law 521 = .ok (.iload 6, 2) := by decide +kernel
theorem dL_law_523 : decode cL_law 523 = .ok (.if_icmp .eq 5, 3) := by decide +kernel
theorem dL_law_526 : decode cL_law 526 = .ok (.iconst 0, 1) := by decide +kernel
theorem dL_law_527 : decode cL_law 527 = .ok (.ireturn, 1) := by decide +kernel
theorem dL_law_528 : decode cL_law 528 = .ok (.iload 6, 2) := by decide +kernel
theorem dL_law_530 : decode cL_law 530 = .ok (.ifCond .ne 15, 3) := by decide +kernel
theorem dL_law_533 : decode cL_law 533 = .ok (.aload_n 3, 1) := by decide +kernel
theorem dL_law_534 : decode cL_law 534 = .ok (.iconst 0, 1) := by decide +kernel
theorem dL_law_535 : decode cL_law 535 = .ok (.laload, 1) := by decide +kernel
theorem dL_law_536 : decode cL_law 536 = .ok (.iload 7, 2) := by decide +kernel
theorem dL_law_538 : decode cL_law 538 = .ok (.i2l, 1) := by decide +kernel
theorem dL_law_539 : decode cL_law 539 = .ok (.lcmp, 1) := by decide +kernel
theorem dL_law_540 : decode cL_law 540 = .ok (.ifCond .eq 5, 3) := by decide +kernel
theorem dL_law_543 : decode cL_law 543 = .ok (.iconst 0, 1) := by decide +kernel
theorem dL_law_544 : decode cL_law 544 = .ok (.ireturn, 1) := by decide +kernel
theorem dL_law_545 : decode cL_law 545 = .ok (.goto 1915, 3) := by decide +kernel
theorem dL_law_548 : decode cL_law 548 = .ok (.aload_n 1, 1) := by decide +kernel
theorem dL_law_549 : decode cL_law 549 = .ok (.aload_n 0, 1) := by decide +kernel
theorem dL_law_550 : decode cL_law 550 = .ok (.iload 5, 2) := by decide +kernel
theorem dL_law_552 : decode cL_law 552 = .ok (.iconst 1, 1) := by decide +kernel
