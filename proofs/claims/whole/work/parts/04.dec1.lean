theorem dX4_readNumber_35 : decode cX4_readNumber 35 = .ok (.goto 23, 3) := by decide +kernel
theorem dX4_readNumber_38 : decode cX4_readNumber 38 = .ok (.aload_n 0, 1) := by decide +kernel
theorem dX4_readNumber_39 : decode cX4_readNumber 39 = .ok (.dup, 1) := by decide +kernel
theorem dX4_readNumber_40 : decode cX4_readNumber 40 = .ok (.getfield 9, 3) := by decide +kernel
theorem dX4_readNumber_43 : decode cX4_readNumber 43 = .ok (.iconst 2, 1) := by decide +kernel
theorem dX4_readNumber_44 : decode cX4_readNumber 44 = .ok (.iadd, 1) := by decide +kernel
theorem dX4_readNumber_45 : decode cX4_readNumber 45 = .ok (.putfield 9, 3) := by decide +kernel
theorem dX4_readNumber_48 : decode cX4_readNumber 48 = .ok (.aload_n 0, 1) := by decide +kernel
theorem dX4_readNumber_49 : decode cX4_readNumber 49 = .ok (.bipush 10, 2) := by decide +kernel
theorem dX4_readNumber_51 : decode cX4_readNumber 51 = .ok (.iload_n 2, 1) := by decide +kernel
theorem dX4_readNumber_52 : decode cX4_readNumber 52 = .ok (.imul, 1) := by decide +kernel
theorem dX4_readNumber_53 : decode cX4_readNumber 53 = .ok (.iload_n 3, 1) := by decide +kernel
theorem dX4_readNumber_54 : decode cX4_readNumber 54 = .ok (.iadd, 1) := by decide +kernel
theorem dX4_readNumber_55 : decode cX4_readNumber 55 = .ok (.invokevirtual 91, 3) := by decide +kernel
theorem dX4_readNumber_58 : decode cX4_readNumber 58 = .ok (.return_, 1) := by decide +kernel
theorem dX4_keepValue_0 : decode cX4_keepValue 0 = .ok (.aload_n 0, 1) := by decide +kernel
theorem dX4_keepValue_1 : decode cX4_keepValue 1 = .ok (.getfield 28, 3) := by decide +kernel
theorem dX4_keepValue_4 : decode cX4_keepValue 4 = .ok (.aload_n 0, 1) := by decide +kernel
theorem dX4_keepValue_5 : decode cX4_keepValue 5 = .ok (.getfield 24, 3) := by decide +kernel
theorem dX4_keepValue_8 : decode cX4_keepValue 8 = .ok (.arraylength, 1) := by decide +kernel
theorem dX4_keepValue_9 : decode cX4_keepValue 9 = .ok (.if_icmp .ge 23, 3) := by decide +kernel
theorem dX4_keepValue_12 : decode cX4_keepValue 12 = .ok (.aload_n 0, 1) := by decide +kernel
theorem dX4_keepValue_13 : decode cX4_keepValue 13 = .ok (.getfield 24, 3) := by decide +kernel
theorem dX4_keepValue_16 : decode cX4_keepValue 16 = .ok (.aload_n 0, 1) := by decide +kernel
theorem dX4_keepValue_17 : decode cX4_keepValue 17 = .ok (.getfield 28, 3) := by decide +kernel
theorem dX4_keepValue_20 : decode cX4_keepValue 20 = .ok (.iload_n 1, 1) := by decide +kernel
theorem dX4_keepValue_21 : decode cX4_keepValue 21 = .ok (.iastore, 1) := by decide +kernel
theorem dX4_keepValue_22 : decode cX4_keepValue 22 = .ok (.aload_n 0, 1) := by decide +kernel
theorem dX4_keepValue_23 : decode cX4_keepValue 23 = .ok (.dup, 1) := by decide +kernel
theorem dX4_keepValue_24 : decode cX4_keepValue 24 = .ok (.getfield 28, 3) := by decide +kernel
theorem dX4_keepValue_27 : decode cX4_keepValue 27 = .ok (.iconst 1, 1) := by decide +kernel
theorem dX4_keepValue_28 : decode cX4_keepValue 28 = .ok (.iadd, 1) := by decide +kernel
theorem dX4_keepValue_29 : decode cX4_keepValue 29 = .ok (.putfield 28, 3) := by decide +kernel
theorem dX4_keepValue_32 : decode cX4_keepValue 32 = .ok (.return_, 1) := by decide +kernel
theorem dX5_init_0 : decode cX5_init 0 = .ok (.aload_n 0, 1) := by decide +kernel
theorem dX5_init_1 : decode cX5_init 1 = .ok (.invokespecial 3, 3) := by decide +kernel
theorem dX5_init_4 : decode cX5_init 4 = .ok (.aload_n 0, 1) := by decide +kernel
theorem dX5_init_5 : decode cX5_init 5 = .ok (.bipush 6, 2) := by decide +kernel
theorem dX5_init_7 : decode cX5_init 7 = .ok (.bipush 6, 2) := by decide +kernel
theorem dX5_init_9 : decode cX5_init 9 = .ok (.multianewarray 9 2, 4) := by decide +kernel
theorem dX5_init_13 : decode cX5_init 13 = .ok (.putfield 11, 3) := by decide +kernel
theorem dX5_init_16 : decode cX5_init 16 = .ok (.aload_n 0, 1) := by decide +kernel
theorem dX5_init_17 : decode cX5_init 17 = .ok (.bipush 6, 2) := by decide +kernel
theorem dX5_init_19 : decode cX5_init 19 = .ok (.bipush 6, 2) := by decide +kernel
theorem dX5_init_21 : decode cX5_init 21 = .ok (.multianewarray 9 2, 4) := by decide +kernel
theorem dX5_init_25 : decode cX5_init 25 = .ok (.putfield 16, 3) := by decide +kernel
theorem dX5_init_28 : decode cX5_init 28 = .ok (.aload_n 0, 1) := by decide +kernel
theorem dX5_init_29 : decode cX5_init 29 = .ok (.bipush 6, 2) := by decide +kernel
theorem dX5_init_31 : decode cX5_init 31 = .ok (.newarray .int, 2) := by decide +kernel
theorem dX5_init_33 : decode cX5_init 33 = .ok (.putfield 19, 3) := by decide +kernel
theorem dX5_init_36 : decode cX5_init 36 = .ok (.aload_n 0, 1) := by decide +kernel
theorem dX5_init_37 : decode cX5_init 37 = .ok (.bipush 6, 2) := by decide +kernel
theorem dX5_init_39 : decode cX5_init 39 = .ok (.newarray .int, 2) := by decide +kernel
theorem dX5_init_41 : decode cX5_init 41 = .ok (.putfield 23, 3) := by decide +kernel
theorem dX5_init_44 : decode cX5_init 44 = .ok (.aload_n 0, 1) := by decide +kernel
theorem dX5_init_45 : decode cX5_init 45 = .ok (.bipush 6, 2) := by decide +kernel
theorem dX5_init_47 : decode cX5_init 47 = .ok (.newarray .int, 2) := by decide +kernel
theorem dX5_init_49 : decode cX5_init 49 = .ok (.putfield 26, 3) := by decide +kernel
theorem dX5_init_52 : decode cX5_init 52 = .ok (.aload_n 0, 1) := by decide +kernel
theorem dX5_init_53 : decode cX5_init 53 = .ok (.bipush 6, 2) := by decide +kernel
theorem dX5_init_55 : decode cX5_init 55 = .ok (.newarray .int, 2) := by decide +kernel
theorem dX5_init_57 : decode cX5_init 57 = .ok (.putfield 29, 3) := by decide +kernel
theorem dX5_init_60 : decode cX5_init 60 = .ok (.aload_n 0, 1) := by decide +kernel
theorem dX5_init_61 : decode cX5_init 61 = .ok (.iconst 0, 1) := by decide +kernel
theorem dX5_init_62 : decode cX5_init 62 = .ok (.putfield 32, 3) := by decide +kernel
theorem dX5_init_65 : decode cX5_init 65 = .ok (.return_, 1) := by decide +kernel
theorem dX5_begin_0 : decode cX5_begin 0 = .ok (.aload_n 0, 1) := by decide +kernel
theorem dX5_begin_1 : decode cX5_begin 1 = .ok (.getfield 19, 3) := by decide +kernel
theorem dX5_begin_4 : decode cX5_begin 4 = .ok (.iconst (-1), 1) := by decide +kernel
theorem dX5_begin_5 : decode cX5_begin 5 = .ok (.invokestatic 36, 3) := by decide +kernel
theorem dX5_begin_8 : decode cX5_begin 8 = .ok (.aload_n 0, 1) := by decide +kernel
theorem dX5_begin_9 : decode cX5_begin 9 = .ok (.getfield 23, 3) := by decide +kernel
theorem dX5_begin_12 : decode cX5_begin 12 = .ok (.iconst (-1), 1) := by decide +kernel
theorem dX5_begin_13 : decode cX5_begin 13 = .ok (.invokestatic 36, 3) := by decide +kernel
theorem dX5_begin_16 : decode cX5_begin 16 = .ok (.iconst 0, 1) := by decide +kernel
theorem dX5_begin_17 : decode cX5_begin 17 = .ok (.istore_n 2, 1) := by decide +kernel
theorem dX5_begin_18 : decode cX5_begin 18 = .ok (.iload_n 2, 1) := by decide +kernel
theorem dX5_begin_19 : decode cX5_begin 19 = .ok (.aload_n 1, 1) := by decide +kernel
theorem dX5_begin_20 : decode cX5_begin 20 = .ok (.getfield 40, 3) := by decide +kernel
theorem dX5_begin_23 : decode cX5_begin 23 = .ok (.if_icmp .ge 53, 3) := by decide +kernel
theorem dX5_begin_26 : decode cX5_begin 26 = .ok (.iconst 0, 1) := by decide +kernel
theorem dX5_begin_27 : decode cX5_begin 27 = .ok (.istore_n 3, 1) := by decide +kernel
theorem dX5_begin_28 : decode cX5_begin 28 = .ok (.iload_n 3, 1) := by decide +kernel
theorem dX5_begin_29 : decode cX5_begin 29 = .ok (.aload_n 1, 1) := by decide +kernel
theorem dX5_begin_30 : decode cX5_begin 30 = .ok (.getfield 45, 3) := by decide +kernel
theorem dX5_begin_33 : decode cX5_begin 33 = .ok (.if_icmp .ge 37, 3) := by decide +kernel
theorem dX5_begin_36 : decode cX5_begin 36 = .ok (.aload_n 1, 1) := by decide +kernel
theorem dX5_begin_37 : decode cX5_begin 37 = .ok (.iload_n 2, 1) := by decide +kernel
theorem dX5_begin_38 : decode cX5_begin 38 = .ok (.iload_n 3, 1) := by decide +kernel
theorem dX5_begin_39 : decode cX5_begin 39 = .ok (.invokevirtual 48, 3) := by decide +kernel
theorem dX5_begin_42 : decode cX5_begin 42 = .ok (.istore 4, 2) := by decide +kernel
theorem dX5_begin_44 : decode cX5_begin 44 = .ok (.aload_n 0, 1) := by decide +kernel
theorem dX5_begin_45 : decode cX5_begin 45 = .ok (.getfield 11, 3) := by decide +kernel
theorem dX5_begin_48 : decode cX5_begin 48 = .ok (.iload_n 2, 1) := by decide +kernel
theorem dX5_begin_49 : decode cX5_begin 49 = .ok (.aaload, 1) := by decide +kernel
theorem dX5_begin_50 : decode cX5_begin 50 = .ok (.iload_n 3, 1) := by decide +kernel
theorem dX5_begin_51 : decode cX5_begin 51 = .ok (.iload 4, 2) := by decide +kernel
theorem dX5_begin_53 : decode cX5_begin 53 = .ok (.iastore, 1) := by decide +kernel
theorem dX5_begin_54 : decode cX5_begin 54 = .ok (.aload_n 0, 1) := by decide +kernel
theorem dX5_begin_55 : decode cX5_begin 55 = .ok (.getfield 16, 3) := by decide +kernel
theorem dX5_begin_58 : decode cX5_begin 58 = .ok (.iload_n 2, 1) := by decide +kernel
theorem dX5_begin_59 : decode cX5_begin 59 = .ok (.aaload, 1) := by decide +kernel
theorem dX5_begin_60 : decode cX5_begin 60 = .ok (.iload 4, 2) := by decide +kernel
theorem dX5_begin_62 : decode cX5_begin 62 = .ok (.iload_n 3, 1) := by decide +kernel
theorem dX5_begin_63 : decode cX5_begin 63 = .ok (.iastore, 1) := by decide +kernel
theorem dX5_begin_64 : decode cX5_begin 64 = .ok (.iinc 3 1, 3) := by decide +kernel
theorem dX5_begin_67 : decode cX5_begin 67 = .ok (.goto (-39), 3) := by decide +kernel
theorem dX5_begin_70 : decode cX5_begin 70 = .ok (.iinc 2 1, 3) := by decide +kernel
theorem dX5_begin_73 : decode cX5_begin 73 = .ok (.goto (-55), 3) := by decide +kernel
theorem dX5_begin_76 : decode cX5_begin 76 = .ok (.return_, 1) := by decide +kernel
theorem dX5_planByAsking_0 : decode cX5_planByAsking 0 = .ok (.aload_n 0, 1) := by decide +kernel
theorem dX5_planByAsking_1 : decode cX5_planByAsking 1 = .ok (.aload_n 1, 1) := by decide +kernel
theorem dX5_planByAsking_2 : decode cX5_planByAsking 2 = .ok (.invokevirtual 52, 3) := by decide +kernel
theorem dX5_planByAsking_5 : decode cX5_planByAsking 5 = .ok (.aload_n 0, 1) := by decide +kernel
theorem dX5_planByAsking_6 : decode cX5_planByAsking 6 = .ok (.getfield 26, 3) := by decide +kernel
theorem dX5_planByAsking_9 : decode cX5_planByAsking 9 = .ok (.iconst 0, 1) := by decide +kernel
theorem dX5_planByAsking_10 : decode cX5_planByAsking 10 = .ok (.invokestatic 36, 3) := by decide +kernel
theorem dX5_planByAsking_13 : decode cX5_planByAsking 13 = .ok (.iconst 0, 1) := by decide +kernel
theorem dX5_planByAsking_14 : decode cX5_planByAsking 14 = .ok (.istore_n 2, 1) := by decide +kernel
theorem dX5_planByAsking_15 : decode cX5_planByAsking 15 = .ok (.iload_n 2, 1) := by decide +kernel
theorem dX5_planByAsking_16 : decode cX5_planByAsking 16 = .ok (.aload_n 1, 1) := by decide +kernel
theorem dX5_planByAsking_17 : decode cX5_planByAsking 17 = .ok (.getfield 40, 3) := by decide +kernel
theorem dX5_planByAsking_20 : decode cX5_planByAsking 20 = .ok (.if_icmp .ge 39, 3) := by decide +kernel
theorem dX5_planByAsking_23 : decode cX5_planByAsking 23 = .ok (.iload_n 2, 1) := by decide +kernel
theorem dX5_planByAsking_24 : decode cX5_planByAsking 24 = .ok (.istore_n 3, 1) := by decide +kernel
theorem dX5_planByAsking_25 : decode cX5_planByAsking 25 = .ok (.iconst 0, 1) := by decide +kernel
theorem dX5_planByAsking_26 : decode cX5_planByAsking 26 = .ok (.istore 4, 2) := by decide +kernel
theorem dX5_planByAsking_28 : decode cX5_planByAsking 28 = .ok (.iload 4, 2) := by decide +kernel
theorem dX5_planByAsking_30 : decode cX5_planByAsking 30 = .ok (.bipush 36, 2) := by decide +kernel
theorem dX5_planByAsking_32 : decode cX5_planByAsking 32 = .ok (.if_icmp .ge 21, 3) := by decide +kernel
theorem dX5_planByAsking_35 : decode cX5_planByAsking 35 = .ok (.iload_n 3, 1) := by decide +kernel
theorem dX5_planByAsking_36 : decode cX5_planByAsking 36 = .ok (.iconst (-1), 1) := by decide +kernel
theorem dX5_planByAsking_37 : decode cX5_planByAsking 37 = .ok (.if_icmp .eq 16, 3) := by decide +kernel
theorem dX5_planByAsking_40 : decode cX5_planByAsking 40 = .ok (.aload_n 0, 1) := by decide +kernel
theorem dX5_planByAsking_41 : decode cX5_planByAsking 41 = .ok (.aload_n 1, 1) := by decide +kernel
theorem dX5_planByAsking_42 : decode cX5_planByAsking 42 = .ok (.iload_n 3, 1) := by decide +kernel
theorem dX5_planByAsking_43 : decode cX5_planByAsking 43 = .ok (.invokevirtual 56, 3) := by decide +kernel
theorem dX5_planByAsking_46 : decode cX5_planByAsking 46 = .ok (.istore_n 3, 1) := by decide +kernel
theorem dX5_planByAsking_47 : decode cX5_planByAsking 47 = .ok (.iinc 4 1, 3) := by decide +kernel
theorem dX5_planByAsking_50 : decode cX5_planByAsking 50 = .ok (.goto (-22), 3) := by decide +kernel
theorem dX5_planByAsking_53 : decode cX5_planByAsking 53 = .ok (.iinc 2 1, 3) := by decide +kernel
theorem dX5_planByAsking_56 : decode cX5_planByAsking 56 = .ok (.goto (-41), 3) := by decide +kernel
theorem dX5_planByAsking_59 : decode cX5_planByAsking 59 = .ok (.aload_n 0, 1) := by decide +kernel
theorem dX5_planByAsking_60 : decode cX5_planByAsking 60 = .ok (.getfield 19, 3) := by decide +kernel
theorem dX5_planByAsking_63 : decode cX5_planByAsking 63 = .ok (.areturn, 1) := by decide +kernel
theorem dX5_refusedAfterAsking_0 : decode cX5_refusedAfterAsking 0 = .ok (.aload_n 0, 1) := by decide +kernel
theorem dX5_refusedAfterAsking_1 : decode cX5_refusedAfterAsking 1 = .ok (.getfield 26, 3) := by decide +kernel
theorem dX5_refusedAfterAsking_4 : decode cX5_refusedAfterAsking 4 = .ok (.iload_n 2, 1) := by decide +kernel
theorem dX5_refusedAfterAsking_5 : decode cX5_refusedAfterAsking 5 = .ok (.iaload, 1) := by decide +kernel
theorem dX5_refusedAfterAsking_6 : decode cX5_refusedAfterAsking 6 = .ok (.aload_n 1, 1) := by decide +kernel
theorem dX5_refusedAfterAsking_7 : decode cX5_refusedAfterAsking 7 = .ok (.getfield 45, 3) := by decide +kernel
theorem dX5_refusedAfterAsking_10 : decode cX5_refusedAfterAsking 10 = .ok (.if_icmp .lt 5, 3) := by decide +kernel
theorem dX5_refusedAfterAsking_13 : decode cX5_refusedAfterAsking 13 = .ok (.iconst (-1), 1) := by decide +kernel
theorem dX5_refusedAfterAsking_14 : decode cX5_refusedAfterAsking 14 = .ok (.ireturn, 1) := by decide +kernel
theorem dX5_refusedAfterAsking_15 : decode cX5_refusedAfterAsking 15 = .ok (.aload_n 0, 1) := by decide +kernel
theorem dX5_refusedAfterAsking_16 : decode cX5_refusedAfterAsking 16 = .ok (.getfield 16, 3) := by decide +kernel
theorem dX5_refusedAfterAsking_19 : decode cX5_refusedAfterAsking 19 = .ok (.iload_n 2, 1) := by decide +kernel
theorem dX5_refusedAfterAsking_20 : decode cX5_refusedAfterAsking 20 = .ok (.aaload, 1) := by decide +kernel
theorem dX5_refusedAfterAsking_21 : decode cX5_refusedAfterAsking 21 = .ok (.aload_n 0, 1) := by decide +kernel
theorem dX5_refusedAfterAsking_22 : decode cX5_refusedAfterAsking 22 = .ok (.getfield 26, 3) := by decide +kernel
theorem dX5_refusedAfterAsking_25 : decode cX5_refusedAfterAsking 25 = .ok (.iload_n 2, 1) := by decide +kernel
theorem dX5_refusedAfterAsking_26 : decode cX5_refusedAfterAsking 26 = .ok (.iaload, 1) := by decide +kernel
theorem dX5_refusedAfterAsking_27 : decode cX5_refusedAfterAsking 27 = .ok (.iaload, 1) := by decide +kernel
theorem dX5_refusedAfterAsking_28 : decode cX5_refusedAfterAsking 28 = .ok (.istore_n 3, 1) := by decide +kernel
theorem dX5_refusedAfterAsking_29 : decode cX5_refusedAfterAsking 29 = .ok (.aload_n 0, 1) := by decide +kernel
theorem dX5_refusedAfterAsking_30 : decode cX5_refusedAfterAsking 30 = .ok (.getfield 26, 3) := by decide +kernel
theorem dX5_refusedAfterAsking_33 : decode cX5_refusedAfterAsking 33 = .ok (.iload_n 2, 1) := by decide +kernel
theorem dX5_refusedAfterAsking_34 : decode cX5_refusedAfterAsking 34 = .ok (.dup2, 1) := by decide +kernel
theorem dX5_refusedAfterAsking_35 : decode cX5_refusedAfterAsking 35 = .ok (.iaload, 1) := by decide +kernel
theorem dX5_refusedAfterAsking_36 : decode cX5_refusedAfterAsking 36 = .ok (.iconst 1, 1) := by decide +kernel
theorem dX5_refusedAfterAsking_37 : decode cX5_refusedAfterAsking 37 = .ok (.iadd, 1) := by decide +kernel
theorem dX5_refusedAfterAsking_38 : decode cX5_refusedAfterAsking 38 = .ok (.iastore, 1) := by decide +kernel
theorem dX5_refusedAfterAsking_39 : decode cX5_refusedAfterAsking 39 = .ok (.aload_n 0, 1) := by decide +kernel
theorem dX5_refusedAfterAsking_40 : decode cX5_refusedAfterAsking 40 = .ok (.getfield 23, 3) := by decide +kernel
theorem dX5_refusedAfterAsking_43 : decode cX5_refusedAfterAsking 43 = .ok (.iload_n 3, 1) := by decide +kernel
theorem dX5_refusedAfterAsking_44 : decode cX5_refusedAfterAsking 44 = .ok (.iaload, 1) := by decide +kernel
theorem dX5_refusedAfterAsking_45 : decode cX5_refusedAfterAsking 45 = .ok (.istore 4, 2) := by decide +kernel
theorem dX5_refusedAfterAsking_47 : decode cX5_refusedAfterAsking 47 = .ok (.aload_n 1, 1) := by decide +kernel
theorem dX5_refusedAfterAsking_48 : decode cX5_refusedAfterAsking 48 = .ok (.iload_n 2, 1) := by decide +kernel
theorem dX5_refusedAfterAsking_49 : decode cX5_refusedAfterAsking 49 = .ok (.iload_n 3, 1) := by decide +kernel
theorem dX5_refusedAfterAsking_50 : decode cX5_refusedAfterAsking 50 = .ok (.invokevirtual 60, 3) := by decide +kernel
theorem dX5_refusedAfterAsking_53 : decode cX5_refusedAfterAsking 53 = .ok (.ifCond .eq 19, 3) := by decide +kernel
theorem dX5_refusedAfterAsking_56 : decode cX5_refusedAfterAsking 56 = .ok (.iload 4, 2) := by decide +kernel
theorem dX5_refusedAfterAsking_58 : decode cX5_refusedAfterAsking 58 = .ok (.iconst (-1), 1) := by decide +kernel
theorem dX5_refusedAfterAsking_59 : decode cX5_refusedAfterAsking 59 = .ok (.if_icmp .eq 15, 3) := by decide +kernel
theorem dX5_refusedAfterAsking_62 : decode cX5_refusedAfterAsking 62 = .ok (.aload_n 1, 1) := by decide +kernel
theorem dX5_refusedAfterAsking_63 : decode cX5_refusedAfterAsking 63 = .ok (.iload 4, 2) := by decide +kernel
theorem dX5_refusedAfterAsking_65 : decode cX5_refusedAfterAsking 65 = .ok (.iload_n 2, 1) := by decide +kernel
theorem dX5_refusedAfterAsking_66 : decode cX5_refusedAfterAsking 66 = .ok (.invokevirtual 64, 3) := by decide +kernel
theorem dX5_refusedAfterAsking_69 : decode cX5_refusedAfterAsking 69 = .ok (.ifCond .eq 5, 3) := by decide +kernel
theorem dX5_refusedAfterAsking_72 : decode cX5_refusedAfterAsking 72 = .ok (.iload_n 2, 1) := by decide +kernel
theorem dX5_refusedAfterAsking_73 : decode cX5_refusedAfterAsking 73 = .ok (.ireturn, 1) := by decide +kernel
theorem dX5_refusedAfterAsking_74 : decode cX5_refusedAfterAsking 74 = .ok (.iload 4, 2) := by decide +kernel
theorem dX5_refusedAfterAsking_76 : decode cX5_refusedAfterAsking 76 = .ok (.iconst (-1), 1) := by decide +kernel
theorem dX5_refusedAfterAsking_77 : decode cX5_refusedAfterAsking 77 = .ok (.if_icmp .eq 11, 3) := by decide +kernel
theorem dX5_refusedAfterAsking_80 : decode cX5_refusedAfterAsking 80 = .ok (.aload_n 0, 1) := by decide +kernel
theorem dX5_refusedAfterAsking_81 : decode cX5_refusedAfterAsking 81 = .ok (.getfield 19, 3) := by decide +kernel
theorem dX5_refusedAfterAsking_84 : decode cX5_refusedAfterAsking 84 = .ok (.iload 4, 2) := by decide +kernel
theorem dX5_refusedAfterAsking_86 : decode cX5_refusedAfterAsking 86 = .ok (.iconst (-1), 1) := by decide +kernel
theorem dX5_refusedAfterAsking_87 : decode cX5_refusedAfterAsking 87 = .ok (.iastore, 1) := by decide +kernel
theorem dX5_refusedAfterAsking_88 : decode cX5_refusedAfterAsking 88 = .ok (.aload_n 0, 1) := by decide +kernel
theorem dX5_refusedAfterAsking_89 : decode cX5_refusedAfterAsking 89 = .ok (.getfield 23, 3) := by decide +kernel
theorem dX5_refusedAfterAsking_92 : decode cX5_refusedAfterAsking 92 = .ok (.iload_n 3, 1) := by decide +kernel
theorem dX5_refusedAfterAsking_93 : decode cX5_refusedAfterAsking 93 = .ok (.iload_n 2, 1) := by decide +kernel
theorem dX5_refusedAfterAsking_94 : decode cX5_refusedAfterAsking 94 = .ok (.iastore, 1) := by decide +kernel
theorem dX5_refusedAfterAsking_95 : decode cX5_refusedAfterAsking 95 = .ok (.aload_n 0, 1) := by decide +kernel
theorem dX5_refusedAfterAsking_96 : decode cX5_refusedAfterAsking 96 = .ok (.getfield 19, 3) := by decide +kernel
theorem dX5_refusedAfterAsking_99 : decode cX5_refusedAfterAsking 99 = .ok (.iload_n 2, 1) := by decide +kernel
theorem dX5_refusedAfterAsking_100 : decode cX5_refusedAfterAsking 100 = .ok (.iload_n 3, 1) := by decide +kernel
theorem dX5_refusedAfterAsking_101 : decode cX5_refusedAfterAsking 101 = .ok (.iastore, 1) := by decide +kernel
theorem dX5_refusedAfterAsking_102 : decode cX5_refusedAfterAsking 102 = .ok (.iload 4, 2) := by decide +kernel
theorem dX5_refusedAfterAsking_104 : decode cX5_refusedAfterAsking 104 = .ok (.ireturn, 1) := by decide +kernel
theorem dX5_planByPlans_0 : decode cX5_planByPlans 0 = .ok (.aload_n 0, 1) := by decide +kernel
theorem dX5_planByPlans_1 : decode cX5_planByPlans 1 = .ok (.aload_n 1, 1) := by decide +kernel
theorem dX5_planByPlans_2 : decode cX5_planByPlans 2 = .ok (.invokevirtual 67, 3) := by decide +kernel
theorem dX5_planByPlans_5 : decode cX5_planByPlans 5 = .ok (.aload_n 0, 1) := by decide +kernel
theorem dX5_planByPlans_6 : decode cX5_planByPlans 6 = .ok (.getfield 29, 3) := by decide +kernel
theorem dX5_planByPlans_9 : decode cX5_planByPlans 9 = .ok (.areturn, 1) := by decide +kernel
theorem dX5_countStable_0 : decode cX5_countStable 0 = .ok (.aload_n 0, 1) := by decide +kernel
theorem dX5_countStable_1 : decode cX5_countStable 1 = .ok (.aload_n 1, 1) := by decide +kernel
theorem dX5_countStable_2 : decode cX5_countStable 2 = .ok (.invokevirtual 67, 3) := by decide +kernel
theorem dX5_countStable_5 : decode cX5_countStable 5 = .ok (.aload_n 0, 1) := by decide +kernel
theorem dX5_countStable_6 : decode cX5_countStable 6 = .ok (.getfield 32, 3) := by decide +kernel
theorem dX5_countStable_9 : decode cX5_countStable 9 = .ok (.ireturn, 1) := by decide +kernel
theorem dX5_tryAll_0 : decode cX5_tryAll 0 = .ok (.aload_n 0, 1) := by decide +kernel
theorem dX5_tryAll_1 : decode cX5_tryAll 1 = .ok (.aload_n 1, 1) := by decide +kernel
theorem dX5_tryAll_2 : decode cX5_tryAll 2 = .ok (.invokevirtual 52, 3) := by decide +kernel
theorem dX5_tryAll_5 : decode cX5_tryAll 5 = .ok (.aload_n 0, 1) := by decide +kernel
theorem dX5_tryAll_6 : decode cX5_tryAll 6 = .ok (.getfield 29, 3) := by decide +kernel
theorem dX5_tryAll_9 : decode cX5_tryAll 9 = .ok (.iconst (-1), 1) := by decide +kernel
theorem dX5_tryAll_10 : decode cX5_tryAll 10 = .ok (.invokestatic 36, 3) := by decide +kernel
theorem dX5_tryAll_13 : decode cX5_tryAll 13 = .ok (.aload_n 0, 1) := by decide +kernel
theorem dX5_tryAll_14 : decode cX5_tryAll 14 = .ok (.iconst 0, 1) := by decide +kernel
theorem dX5_tryAll_15 : decode cX5_tryAll 15 = .ok (.putfield 32, 3) := by decide +kernel
theorem dX5_tryAll_18 : decode cX5_tryAll 18 = .ok (.aload_n 0, 1) := by decide +kernel
theorem dX5_tryAll_19 : decode cX5_tryAll 19 = .ok (.aload_n 1, 1) := by decide +kernel
theorem dX5_tryAll_20 : decode cX5_tryAll 20 = .ok (.iconst 0, 1) := by decide +kernel
theorem dX5_tryAll_21 : decode cX5_tryAll 21 = .ok (.invokevirtual 70, 3) := by decide +kernel
theorem dX5_tryAll_24 : decode cX5_tryAll 24 = .ok (.return_, 1) := by decide +kernel
theorem dX5_tryFlats_0 : decode cX5_tryFlats 0 = .ok (.iload_n 2, 1) := by decide +kernel
theorem dX5_tryFlats_1 : decode cX5_tryFlats 1 = .ok (.aload_n 1, 1) := by decide +kernel
theorem dX5_tryFlats_2 : decode cX5_tryFlats 2 = .ok (.getfield 40, 3) := by decide +kernel
theorem dX5_tryFlats_5 : decode cX5_tryFlats 5 = .ok (.if_icmp .lt 17, 3) := by decide +kernel
theorem dX5_tryFlats_8 : decode cX5_tryFlats 8 = .ok (.aload_n 0, 1) := by decide +kernel
theorem dX5_tryFlats_9 : decode cX5_tryFlats 9 = .ok (.aload_n 1, 1) := by decide +kernel
theorem dX5_tryFlats_10 : decode cX5_tryFlats 10 = .ok (.invokevirtual 74, 3) := by decide +kernel
theorem dX5_tryFlats_13 : decode cX5_tryFlats 13 = .ok (.ifCond .ne 8, 3) := by decide +kernel
theorem dX5_tryFlats_16 : decode cX5_tryFlats 16 = .ok (.aload_n 0, 1) := by decide +kernel
theorem dX5_tryFlats_17 : decode cX5_tryFlats 17 = .ok (.aload_n 1, 1) := by decide +kernel
theorem dX5_tryFlats_18 : decode cX5_tryFlats 18 = .ok (.invokevirtual 78, 3) := by decide +kernel
theorem dX5_tryFlats_21 : decode cX5_tryFlats 21 = .ok (.return_, 1) := by decide +kernel
theorem dX5_tryFlats_22 : decode cX5_tryFlats 22 = .ok (.aload_n 0, 1) := by decide +kernel
theorem dX5_tryFlats_23 : decode cX5_tryFlats 23 = .ok (.aload_n 1, 1) := by decide +kernel
theorem dX5_tryFlats_24 : decode cX5_tryFlats 24 = .ok (.iload_n 2, 1) := by decide +kernel
theorem dX5_tryFlats_25 : decode cX5_tryFlats 25 = .ok (.iconst (-1), 1) := by decide +kernel
theorem dX5_tryFlats_26 : decode cX5_tryFlats 26 = .ok (.invokevirtual 81, 3) := by decide +kernel
theorem dX5_tryFlats_29 : decode cX5_tryFlats 29 = .ok (.iconst 0, 1) := by decide +kernel
theorem dX5_tryFlats_30 : decode cX5_tryFlats 30 = .ok (.istore_n 3, 1) := by decide +kernel
theorem dX5_tryFlats_31 : decode cX5_tryFlats 31 = .ok (.iload_n 3, 1) := by decide +kernel
theorem dX5_tryFlats_32 : decode cX5_tryFlats 32 = .ok (.aload_n 1, 1) := by decide +kernel
theorem dX5_tryFlats_33 : decode cX5_tryFlats 33 = .ok (.getfield 45, 3) := by decide +kernel
theorem dX5_tryFlats_36 : decode cX5_tryFlats 36 = .ok (.if_icmp .ge 49, 3) := by decide +kernel
theorem dX5_tryFlats_39 : decode cX5_tryFlats 39 = .ok (.aload_n 0, 1) := by decide +kernel
theorem dX5_tryFlats_40 : decode cX5_tryFlats 40 = .ok (.getfield 23, 3) := by decide +kernel
theorem dX5_tryFlats_43 : decode cX5_tryFlats 43 = .ok (.iload_n 3, 1) := by decide +kernel
theorem dX5_tryFlats_44 : decode cX5_tryFlats 44 = .ok (.iaload, 1) := by decide +kernel
theorem dX5_tryFlats_45 : decode cX5_tryFlats 45 = .ok (.iconst (-1), 1) := by decide +kernel
theorem dX5_tryFlats_46 : decode cX5_tryFlats 46 = .ok (.if_icmp .ne 33, 3) := by decide +kernel
theorem dX5_tryFlats_49 : decode cX5_tryFlats 49 = .ok (.aload_n 1, 1) := by decide +kernel
theorem dX5_tryFlats_50 : decode cX5_tryFlats 50 = .ok (.iload_n 2, 1) := by decide +kernel
theorem dX5_tryFlats_51 : decode cX5_tryFlats 51 = .ok (.iload_n 3, 1) := by decide +kernel
theorem dX5_tryFlats_52 : decode cX5_tryFlats 52 = .ok (.invokevirtual 60, 3) := by decide +kernel
theorem dX5_tryFlats_55 : decode cX5_tryFlats 55 = .ok (.ifCond .eq 24, 3) := by decide +kernel
theorem dX5_tryFlats_58 : decode cX5_tryFlats 58 = .ok (.aload_n 0, 1) := by decide +kernel
theorem dX5_tryFlats_59 : decode cX5_tryFlats 59 = .ok (.getfield 23, 3) := by decide +kernel
theorem dX5_tryFlats_62 : decode cX5_tryFlats 62 = .ok (.iload_n 3, 1) := by decide +kernel
theorem dX5_tryFlats_63 : decode cX5_tryFlats 63 = .ok (.iload_n 2, 1) := by decide +kernel
theorem dX5_tryFlats_64 : decode cX5_tryFlats 64 = .ok (.iastore, 1) := by decide +kernel
theorem dX5_tryFlats_65 : decode cX5_tryFlats 65 = .ok (.aload_n 0, 1) := by decide +kernel
theorem dX5_tryFlats_66 : decode cX5_tryFlats 66 = .ok (.aload_n 1, 1) := by decide +kernel
theorem dX5_tryFlats_67 : decode cX5_tryFlats 67 = .ok (.iload_n 2, 1) := by decide +kernel
theorem dX5_tryFlats_68 : decode cX5_tryFlats 68 = .ok (.iload_n 3, 1) := by decide +kernel
theorem dX5_tryFlats_69 : decode cX5_tryFlats 69 = .ok (.invokevirtual 81, 3) := by decide +kernel
theorem dX5_tryFlats_72 : decode cX5_tryFlats 72 = .ok (.aload_n 0, 1) := by decide +kernel
theorem dX5_tryFlats_73 : decode cX5_tryFlats 73 = .ok (.getfield 23, 3) := by decide +kernel
theorem dX5_tryFlats_76 : decode cX5_tryFlats 76 = .ok (.iload_n 3, 1) := by decide +kernel
theorem dX5_tryFlats_77 : decode cX5_tryFlats 77 = .ok (.iconst (-1), 1) := by decide +kernel
theorem dX5_tryFlats_78 : decode cX5_tryFlats 78 = .ok (.iastore, 1) := by decide +kernel
theorem dX5_tryFlats_79 : decode cX5_tryFlats 79 = .ok (.iinc 3 1, 3) := by decide +kernel
theorem dX5_tryFlats_82 : decode cX5_tryFlats 82 = .ok (.goto (-51), 3) := by decide +kernel
theorem dX5_tryFlats_85 : decode cX5_tryFlats 85 = .ok (.return_, 1) := by decide +kernel
theorem dX5_tryRest_0 : decode cX5_tryRest 0 = .ok (.aload_n 0, 1) := by decide +kernel
theorem dX5_tryRest_1 : decode cX5_tryRest 1 = .ok (.getfield 19, 3) := by decide +kernel
theorem dX5_tryRest_4 : decode cX5_tryRest 4 = .ok (.iload_n 2, 1) := by decide +kernel
theorem dX5_tryRest_5 : decode cX5_tryRest 5 = .ok (.iload_n 3, 1) := by decide +kernel
theorem dX5_tryRest_6 : decode cX5_tryRest 6 = .ok (.iastore, 1) := by decide +kernel
theorem dX5_tryRest_7 : decode cX5_tryRest 7 = .ok (.aload_n 0, 1) := by decide +kernel
theorem dX5_tryRest_8 : decode cX5_tryRest 8 = .ok (.aload_n 1, 1) := by decide +kernel
theorem dX5_tryRest_9 : decode cX5_tryRest 9 = .ok (.iload_n 2, 1) := by decide +kernel
theorem dX5_tryRest_10 : decode cX5_tryRest 10 = .ok (.invokevirtual 85, 3) := by decide +kernel
theorem dX5_tryRest_13 : decode cX5_tryRest 13 = .ok (.ifCond .ne 11, 3) := by decide +kernel
theorem dX5_tryRest_16 : decode cX5_tryRest 16 = .ok (.aload_n 0, 1) := by decide +kernel
theorem dX5_tryRest_17 : decode cX5_tryRest 17 = .ok (.aload_n 1, 1) := by decide +kernel
theorem dX5_tryRest_18 : decode cX5_tryRest 18 = .ok (.iload_n 2, 1) := by decide +kernel
theorem dX5_tryRest_19 : decode cX5_tryRest 19 = .ok (.iconst 1, 1) := by decide +kernel
theorem dX5_tryRest_20 : decode cX5_tryRest 20 = .ok (.iadd, 1) := by decide +kernel
theorem dX5_tryRest_21 : decode cX5_tryRest 21 = .ok (.invokevirtual 70, 3) := by decide +kernel
theorem dX5_tryRest_24 : decode cX5_tryRest 24 = .ok (.return_, 1) := by decide +kernel
theorem dX5_keepStable_0 : decode cX5_keepStable 0 = .ok (.aload_n 0, 1) := by decide +kernel
theorem dX5_keepStable_1 : decode cX5_keepStable 1 = .ok (.dup, 1) := by decide +kernel
theorem dX5_keepStable_2 : decode cX5_keepStable 2 = .ok (.getfield 32, 3) := by decide +kernel
theorem dX5_keepStable_5 : decode cX5_keepStable 5 = .ok (.iconst 1, 1) := by decide +kernel
theorem dX5_keepStable_6 : decode cX5_keepStable 6 = .ok (.iadd, 1) := by decide +kernel
theorem dX5_keepStable_7 : decode cX5_keepStable 7 = .ok (.putfield 32, 3) := by decide +kernel
theorem dX5_keepStable_10 : decode cX5_keepStable 10 = .ok (.aload_n 0, 1) := by decide +kernel
theorem dX5_keepStable_11 : decode cX5_keepStable 11 = .ok (.getfield 32, 3) := by decide +kernel
theorem dX5_keepStable_14 : decode cX5_keepStable 14 = .ok (.iconst 1, 1) := by decide +kernel
theorem dX5_keepStable_15 : decode cX5_keepStable 15 = .ok (.if_icmp .eq 11, 3) := by decide +kernel
theorem dX5_keepStable_18 : decode cX5_keepStable 18 = .ok (.aload_n 0, 1) := by decide +kernel
theorem dX5_keepStable_19 : decode cX5_keepStable 19 = .ok (.aload_n 1, 1) := by decide +kernel
theorem dX5_keepStable_20 : decode cX5_keepStable 20 = .ok (.invokevirtual 89, 3) := by decide +kernel
theorem dX5_keepStable_23 : decode cX5_keepStable 23 = .ok (.ifCond .eq 18, 3) := by decide +kernel
theorem dX5_keepStable_26 : decode cX5_keepStable 26 = .ok (.aload_n 0, 1) := by decide +kernel
theorem dX5_keepStable_27 : decode cX5_keepStable 27 = .ok (.getfield 19, 3) := by decide +kernel
theorem dX5_keepStable_30 : decode cX5_keepStable 30 = .ok (.iconst 0, 1) := by decide +kernel
theorem dX5_keepStable_31 : decode cX5_keepStable 31 = .ok (.aload_n 0, 1) := by decide +kernel
theorem dX5_keepStable_32 : decode cX5_keepStable 32 = .ok (.getfield 29, 3) := by decide +kernel
theorem dX5_keepStable_35 : decode cX5_keepStable 35 = .ok (.iconst 0, 1) := by decide +kernel
theorem dX5_keepStable_36 : decode cX5_keepStable 36 = .ok (.bipush 6, 2) := by decide +kernel
theorem dX5_keepStable_38 : decode cX5_keepStable 38 = .ok (.invokestatic 92, 3) := by decide +kernel
theorem dX5_keepStable_41 : decode cX5_keepStable 41 = .ok (.return_, 1) := by decide +kernel
theorem dX5_isBetterForAll_0 : decode cX5_isBetterForAll 0 = .ok (.iconst 0, 1) := by decide +kernel
theorem dX5_isBetterForAll_1 : decode cX5_isBetterForAll 1 = .ok (.istore_n 2, 1) := by decide +kernel
theorem dX5_isBetterForAll_2 : decode cX5_isBetterForAll 2 = .ok (.iload_n 2, 1) := by decide +kernel
theorem dX5_isBetterForAll_3 : decode cX5_isBetterForAll 3 = .ok (.aload_n 1, 1) := by decide +kernel
theorem dX5_isBetterForAll_4 : decode cX5_isBetterForAll 4 = .ok (.getfield 40, 3) := by decide +kernel
theorem dX5_isBetterForAll_7 : decode cX5_isBetterForAll 7 = .ok (.if_icmp .ge 36, 3) := by decide +kernel
theorem dX5_isBetterForAll_10 : decode cX5_isBetterForAll 10 = .ok (.aload_n 0, 1) := by decide +kernel
theorem dX5_isBetterForAll_11 : decode cX5_isBetterForAll 11 = .ok (.iload_n 2, 1) := by decide +kernel
theorem dX5_isBetterForAll_12 : decode cX5_isBetterForAll 12 = .ok (.aload_n 0, 1) := by decide +kernel
theorem dX5_isBetterForAll_13 : decode cX5_isBetterForAll 13 = .ok (.getfield 19, 3) := by decide +kernel
theorem dX5_isBetterForAll_16 : decode cX5_isBetterForAll 16 = .ok (.iload_n 2, 1) := by decide +kernel
theorem dX5_isBetterForAll_17 : decode cX5_isBetterForAll 17 = .ok (.iaload, 1) := by decide +kernel
theorem dX5_isBetterForAll_18 : decode cX5_isBetterForAll 18 = .ok (.invokevirtual 98, 3) := by decide +kernel
theorem dX5_isBetterForAll_21 : decode cX5_isBetterForAll 21 = .ok (.aload_n 0, 1) := by decide +kernel
theorem dX5_isBetterForAll_22 : decode cX5_isBetterForAll 22 = .ok (.iload_n 2, 1) := by decide +kernel
theorem dX5_isBetterForAll_23 : decode cX5_isBetterForAll 23 = .ok (.aload_n 0, 1) := by decide +kernel
theorem dX5_isBetterForAll_24 : decode cX5_isBetterForAll 24 = .ok (.getfield 29, 3) := by decide +kernel
theorem dX5_isBetterForAll_27 : decode cX5_isBetterForAll 27 = .ok (.iload_n 2, 1) := by decide +kernel
theorem dX5_isBetterForAll_28 : decode cX5_isBetterForAll 28 = .ok (.iaload, 1) := by decide +kernel
theorem dX5_isBetterForAll_29 : decode cX5_isBetterForAll 29 = .ok (.invokevirtual 98, 3) := by decide +kernel
theorem dX5_isBetterForAll_32 : decode cX5_isBetterForAll 32 = .ok (.if_icmp .le 5, 3) := by decide +kernel
theorem dX5_isBetterForAll_35 : decode cX5_isBetterForAll 35 = .ok (.iconst 0, 1) := by decide +kernel
theorem dX5_isBetterForAll_36 : decode cX5_isBetterForAll 36 = .ok (.ireturn, 1) := by decide +kernel
theorem dX5_isBetterForAll_37 : decode cX5_isBetterForAll 37 = .ok (.iinc 2 1, 3) := by decide +kernel
theorem dX5_isBetterForAll_40 : decode cX5_isBetterForAll 40 = .ok (.goto (-38), 3) := by decide +kernel
theorem dX5_isBetterForAll_43 : decode cX5_isBetterForAll 43 = .ok (.iconst 1, 1) := by decide +kernel
theorem dX5_isBetterForAll_44 : decode cX5_isBetterForAll 44 = .ok (.ireturn, 1) := by decide +kernel
theorem dX5_rankOf_0 : decode cX5_rankOf 0 = .ok (.iload_n 2, 1) := by decide +kernel
theorem dX5_rankOf_1 : decode cX5_rankOf 1 = .ok (.iconst (-1), 1) := by decide +kernel
theorem dX5_rankOf_2 : decode cX5_rankOf 2 = .ok (.if_icmp .ne 8, 3) := by decide +kernel
theorem dX5_rankOf_5 : decode cX5_rankOf 5 = .ok (.bipush 6, 2) := by decide +kernel
theorem dX5_rankOf_7 : decode cX5_rankOf 7 = .ok (.goto 11, 3) := by decide +kernel
theorem dX5_rankOf_10 : decode cX5_rankOf 10 = .ok (.aload_n 0, 1) := by decide +kernel
theorem dX5_rankOf_11 : decode cX5_rankOf 11 = .ok (.getfield 11, 3) := by decide +kernel
theorem dX5_rankOf_14 : decode cX5_rankOf 14 = .ok (.iload_n 1, 1) := by decide +kernel
theorem dX5_rankOf_15 : decode cX5_rankOf 15 = .ok (.aaload, 1) := by decide +kernel
theorem dX5_rankOf_16 : decode cX5_rankOf 16 = .ok (.iload_n 2, 1) := by decide +kernel
theorem dX5_rankOf_17 : decode cX5_rankOf 17 = .ok (.iaload, 1) := by decide +kernel
theorem dX5_rankOf_18 : decode cX5_rankOf 18 = .ok (.ireturn, 1) := by decide +kernel
theorem dX5_isHouseStable_0 : decode cX5_isHouseStable 0 = .ok (.aload_n 0, 1) := by decide +kernel
theorem dX5_isHouseStable_1 : decode cX5_isHouseStable 1 = .ok (.aload_n 1, 1) := by decide +kernel
theorem dX5_isHouseStable_2 : decode cX5_isHouseStable 2 = .ok (.invokevirtual 52, 3) := by decide +kernel
theorem dX5_isHouseStable_5 : decode cX5_isHouseStable 5 = .ok (.iconst 0, 1) := by decide +kernel
theorem dX5_isHouseStable_6 : decode cX5_isHouseStable 6 = .ok (.istore_n 2, 1) := by decide +kernel
theorem dX5_isHouseStable_7 : decode cX5_isHouseStable 7 = .ok (.iload_n 2, 1) := by decide +kernel
theorem dX5_isHouseStable_8 : decode cX5_isHouseStable 8 = .ok (.aload_n 1, 1) := by decide +kernel
theorem dX5_isHouseStable_9 : decode cX5_isHouseStable 9 = .ok (.getfield 40, 3) := by decide +kernel
theorem dX5_isHouseStable_12 : decode cX5_isHouseStable 12 = .ok (.if_icmp .ge 57, 3) := by decide +kernel
theorem dX5_isHouseStable_15 : decode cX5_isHouseStable 15 = .ok (.aload_n 1, 1) := by decide +kernel
theorem dX5_isHouseStable_16 : decode cX5_isHouseStable 16 = .ok (.getfield 101, 3) := by decide +kernel
theorem dX5_isHouseStable_19 : decode cX5_isHouseStable 19 = .ok (.iload_n 2, 1) := by decide +kernel
theorem dX5_isHouseStable_20 : decode cX5_isHouseStable 20 = .ok (.iaload, 1) := by decide +kernel
theorem dX5_isHouseStable_21 : decode cX5_isHouseStable 21 = .ok (.istore_n 3, 1) := by decide +kernel
theorem dX5_isHouseStable_22 : decode cX5_isHouseStable 22 = .ok (.iload_n 3, 1) := by decide +kernel
theorem dX5_isHouseStable_23 : decode cX5_isHouseStable 23 = .ok (.iconst (-1), 1) := by decide +kernel
theorem dX5_isHouseStable_24 : decode cX5_isHouseStable 24 = .ok (.if_icmp .eq 21, 3) := by decide +kernel
theorem dX5_isHouseStable_27 : decode cX5_isHouseStable 27 = .ok (.aload_n 1, 1) := by decide +kernel
theorem dX5_isHouseStable_28 : decode cX5_isHouseStable 28 = .ok (.iload_n 2, 1) := by decide +kernel
theorem dX5_isHouseStable_29 : decode cX5_isHouseStable 29 = .ok (.iload_n 3, 1) := by decide +kernel
theorem dX5_isHouseStable_30 : decode cX5_isHouseStable 30 = .ok (.invokevirtual 60, 3) := by decide +kernel
theorem dX5_isHouseStable_33 : decode cX5_isHouseStable 33 = .ok (.ifCond .ne 5, 3) := by decide +kernel
theorem dX5_isHouseStable_36 : decode cX5_isHouseStable 36 = .ok (.iconst 0, 1) := by decide +kernel
theorem dX5_isHouseStable_37 : decode cX5_isHouseStable 37 = .ok (.ireturn, 1) := by decide +kernel
theorem dX5_isHouseStable_38 : decode cX5_isHouseStable 38 = .ok (.aload_n 0, 1) := by decide +kernel
theorem dX5_isHouseStable_39 : decode cX5_isHouseStable 39 = .ok (.getfield 23, 3) := by decide +kernel
theorem dX5_isHouseStable_42 : decode cX5_isHouseStable 42 = .ok (.iload_n 3, 1) := by decide +kernel
theorem dX5_isHouseStable_43 : decode cX5_isHouseStable 43 = .ok (.iload_n 2, 1) := by decide +kernel
theorem dX5_isHouseStable_44 : decode cX5_isHouseStable 44 = .ok (.iastore, 1) := by decide +kernel
theorem dX5_isHouseStable_45 : decode cX5_isHouseStable 45 = .ok (.aload_n 0, 1) := by decide +kernel
theorem dX5_isHouseStable_46 : decode cX5_isHouseStable 46 = .ok (.getfield 19, 3) := by decide +kernel
theorem dX5_isHouseStable_49 : decode cX5_isHouseStable 49 = .ok (.iload_n 2, 1) := by decide +kernel
theorem dX5_isHouseStable_50 : decode cX5_isHouseStable 50 = .ok (.iload_n 3, 1) := by decide +kernel
theorem dX5_isHouseStable_51 : decode cX5_isHouseStable 51 = .ok (.iastore, 1) := by decide +kernel
theorem dX5_isHouseStable_52 : decode cX5_isHouseStable 52 = .ok (.aload_n 0, 1) := by decide +kernel
theorem dX5_isHouseStable_53 : decode cX5_isHouseStable 53 = .ok (.aload_n 1, 1) := by decide +kernel
theorem dX5_isHouseStable_54 : decode cX5_isHouseStable 54 = .ok (.iload_n 2, 1) := by decide +kernel
theorem dX5_isHouseStable_55 : decode cX5_isHouseStable 55 = .ok (.invokevirtual 85, 3) := by decide +kernel
theorem dX5_isHouseStable_58 : decode cX5_isHouseStable 58 = .ok (.ifCond .eq 5, 3) := by decide +kernel
theorem dX5_isHouseStable_61 : decode cX5_isHouseStable 61 = .ok (.iconst 0, 1) := by decide +kernel
theorem dX5_isHouseStable_62 : decode cX5_isHouseStable 62 = .ok (.ireturn, 1) := by decide +kernel
theorem dX5_isHouseStable_63 : decode cX5_isHouseStable 63 = .ok (.iinc 2 1, 3) := by decide +kernel
theorem dX5_isHouseStable_66 : decode cX5_isHouseStable 66 = .ok (.goto (-59), 3) := by decide +kernel
theorem dX5_isHouseStable_69 : decode cX5_isHouseStable 69 = .ok (.aload_n 0, 1) := by decide +kernel
theorem dX5_isHouseStable_70 : decode cX5_isHouseStable 70 = .ok (.aload_n 1, 1) := by decide +kernel
theorem dX5_isHouseStable_71 : decode cX5_isHouseStable 71 = .ok (.invokevirtual 74, 3) := by decide +kernel
theorem dX5_isHouseStable_74 : decode cX5_isHouseStable 74 = .ok (.ifCond .ne 7, 3) := by decide +kernel
theorem dX5_isHouseStable_77 : decode cX5_isHouseStable 77 = .ok (.iconst 1, 1) := by decide +kernel
theorem dX5_isHouseStable_78 : decode cX5_isHouseStable 78 = .ok (.goto 4, 3) := by decide +kernel
theorem dX5_isHouseStable_81 : decode cX5_isHouseStable 81 = .ok (.iconst 0, 1) := by decide +kernel
theorem dX5_isHouseStable_82 : decode cX5_isHouseStable 82 = .ok (.ireturn, 1) := by decide +kernel
theorem dX5_clashes_0 : decode cX5_clashes 0 = .ok (.iconst 0, 1) := by decide +kernel
theorem dX5_clashes_1 : decode cX5_clashes 1 = .ok (.istore_n 3, 1) := by decide +kernel
theorem dX5_clashes_2 : decode cX5_clashes 2 = .ok (.iload_n 3, 1) := by decide +kernel
theorem dX5_clashes_3 : decode cX5_clashes 3 = .ok (.iload_n 2, 1) := by decide +kernel
theorem dX5_clashes_4 : decode cX5_clashes 4 = .ok (.if_icmp .ge 68, 3) := by decide +kernel
theorem dX5_clashes_7 : decode cX5_clashes 7 = .ok (.aload_n 1, 1) := by decide +kernel
theorem dX5_clashes_8 : decode cX5_clashes 8 = .ok (.iload_n 2, 1) := by decide +kernel
theorem dX5_clashes_9 : decode cX5_clashes 9 = .ok (.iload_n 3, 1) := by decide +kernel
theorem dX5_clashes_10 : decode cX5_clashes 10 = .ok (.invokevirtual 64, 3) := by decide +kernel
theorem dX5_clashes_13 : decode cX5_clashes 13 = .ok (.ifCond .eq 7, 3) := by decide +kernel
theorem dX5_clashes_16 : decode cX5_clashes 16 = .ok (.iload_n 2, 1) := by decide +kernel
theorem dX5_clashes_17 : decode cX5_clashes 17 = .ok (.goto 4, 3) := by decide +kernel
theorem dX5_clashes_20 : decode cX5_clashes 20 = .ok (.iload_n 3, 1) := by decide +kernel
theorem dX5_clashes_21 : decode cX5_clashes 21 = .ok (.istore 4, 2) := by decide +kernel
theorem dX5_clashes_23 : decode cX5_clashes 23 = .ok (.iload 4, 2) := by decide +kernel
theorem dX5_clashes_25 : decode cX5_clashes 25 = .ok (.iload_n 2, 1) := by decide +kernel
theorem dX5_clashes_26 : decode cX5_clashes 26 = .ok (.if_icmp .ne 7, 3) := by decide +kernel
theorem dX5_clashes_29 : decode cX5_clashes 29 = .ok (.iload_n 3, 1) := by decide +kernel
theorem dX5_clashes_30 : decode cX5_clashes 30 = .ok (.goto 4, 3) := by decide +kernel
theorem dX5_clashes_33 : decode cX5_clashes 33 = .ok (.iload_n 2, 1) := by decide +kernel
theorem dX5_clashes_34 : decode cX5_clashes 34 = .ok (.istore 5, 2) := by decide +kernel
theorem dX5_clashes_36 : decode cX5_clashes 36 = .ok (.aload_n 0, 1) := by decide +kernel
theorem dX5_clashes_37 : decode cX5_clashes 37 = .ok (.getfield 19, 3) := by decide +kernel
theorem dX5_clashes_40 : decode cX5_clashes 40 = .ok (.iload 5, 2) := by decide +kernel
theorem dX5_clashes_42 : decode cX5_clashes 42 = .ok (.iaload, 1) := by decide +kernel
theorem dX5_clashes_43 : decode cX5_clashes 43 = .ok (.iconst (-1), 1) := by decide +kernel
theorem dX5_clashes_44 : decode cX5_clashes 44 = .ok (.if_icmp .eq 22, 3) := by decide +kernel
theorem dX5_clashes_47 : decode cX5_clashes 47 = .ok (.aload_n 0, 1) := by decide +kernel
theorem dX5_clashes_48 : decode cX5_clashes 48 = .ok (.aload_n 1, 1) := by decide +kernel
theorem dX5_clashes_49 : decode cX5_clashes 49 = .ok (.iload 4, 2) := by decide +kernel
theorem dX5_clashes_51 : decode cX5_clashes 51 = .ok (.aload_n 0, 1) := by decide +kernel
theorem dX5_clashes_52 : decode cX5_clashes 52 = .ok (.getfield 19, 3) := by decide +kernel
theorem dX5_clashes_55 : decode cX5_clashes 55 = .ok (.iload 5, 2) := by decide +kernel
theorem dX5_clashes_57 : decode cX5_clashes 57 = .ok (.iaload, 1) := by decide +kernel
theorem dX5_clashes_58 : decode cX5_clashes 58 = .ok (.invokevirtual 104, 3) := by decide +kernel
theorem dX5_clashes_61 : decode cX5_clashes 61 = .ok (.ifCond .eq 5, 3) := by decide +kernel
theorem dX5_clashes_64 : decode cX5_clashes 64 = .ok (.iconst 1, 1) := by decide +kernel
theorem dX5_clashes_65 : decode cX5_clashes 65 = .ok (.ireturn, 1) := by decide +kernel
theorem dX5_clashes_66 : decode cX5_clashes 66 = .ok (.iinc 3 1, 3) := by decide +kernel
theorem dX5_clashes_69 : decode cX5_clashes 69 = .ok (.goto (-67), 3) := by decide +kernel
theorem dX5_clashes_72 : decode cX5_clashes 72 = .ok (.iconst 0, 1) := by decide +kernel
theorem dX5_clashes_73 : decode cX5_clashes 73 = .ok (.ireturn, 1) := by decide +kernel
theorem dX5_isFreeFlatWanted_0 : decode cX5_isFreeFlatWanted 0 = .ok (.iconst 0, 1) := by decide +kernel
theorem dX5_isFreeFlatWanted_1 : decode cX5_isFreeFlatWanted 1 = .ok (.istore_n 2, 1) := by decide +kernel
theorem dX5_isFreeFlatWanted_2 : decode cX5_isFreeFlatWanted 2 = .ok (.iload_n 2, 1) := by decide +kernel
theorem dX5_isFreeFlatWanted_3 : decode cX5_isFreeFlatWanted 3 = .ok (.aload_n 1, 1) := by decide +kernel
theorem dX5_isFreeFlatWanted_4 : decode cX5_isFreeFlatWanted 4 = .ok (.getfield 45, 3) := by decide +kernel
theorem dX5_isFreeFlatWanted_7 : decode cX5_isFreeFlatWanted 7 = .ok (.if_icmp .ge 47, 3) := by decide +kernel
theorem dX5_isFreeFlatWanted_10 : decode cX5_isFreeFlatWanted 10 = .ok (.iconst 0, 1) := by decide +kernel
theorem dX5_isFreeFlatWanted_11 : decode cX5_isFreeFlatWanted 11 = .ok (.istore_n 3, 1) := by decide +kernel
theorem dX5_isFreeFlatWanted_12 : decode cX5_isFreeFlatWanted 12 = .ok (.iload_n 3, 1) := by decide +kernel
theorem dX5_isFreeFlatWanted_13 : decode cX5_isFreeFlatWanted 13 = .ok (.aload_n 1, 1) := by decide +kernel
theorem dX5_isFreeFlatWanted_14 : decode cX5_isFreeFlatWanted 14 = .ok (.getfield 40, 3) := by decide +kernel
theorem dX5_isFreeFlatWanted_17 : decode cX5_isFreeFlatWanted 17 = .ok (.if_icmp .ge 31, 3) := by decide +kernel
theorem dX5_isFreeFlatWanted_20 : decode cX5_isFreeFlatWanted 20 = .ok (.aload_n 0, 1) := by decide +kernel
theorem dX5_isFreeFlatWanted_21 : decode cX5_isFreeFlatWanted 21 = .ok (.getfield 23, 3) := by decide +kernel
theorem dX5_isFreeFlatWanted_24 : decode cX5_isFreeFlatWanted 24 = .ok (.iload_n 2, 1) := by decide +kernel
theorem dX5_isFreeFlatWanted_25 : decode cX5_isFreeFlatWanted 25 = .ok (.iaload, 1) := by decide +kernel
theorem dX5_isFreeFlatWanted_26 : decode cX5_isFreeFlatWanted 26 = .ok (.iconst (-1), 1) := by decide +kernel
theorem dX5_isFreeFlatWanted_27 : decode cX5_isFreeFlatWanted 27 = .ok (.if_icmp .ne 21, 3) := by decide +kernel
theorem dX5_isFreeFlatWanted_30 : decode cX5_isFreeFlatWanted 30 = .ok (.aload_n 0, 1) := by decide +kernel
theorem dX5_isFreeFlatWanted_31 : decode cX5_isFreeFlatWanted 31 = .ok (.aload_n 1, 1) := by decide +kernel
theorem dX5_isFreeFlatWanted_32 : decode cX5_isFreeFlatWanted 32 = .ok (.iload_n 3, 1) := by decide +kernel
theorem dX5_isFreeFlatWanted_33 : decode cX5_isFreeFlatWanted 33 = .ok (.iload_n 2, 1) := by decide +kernel
theorem dX5_isFreeFlatWanted_34 : decode cX5_isFreeFlatWanted 34 = .ok (.invokevirtual 104, 3) := by decide +kernel
theorem dX5_isFreeFlatWanted_37 : decode cX5_isFreeFlatWanted 37 = .ok (.ifCond .eq 5, 3) := by decide +kernel
theorem dX5_isFreeFlatWanted_40 : decode cX5_isFreeFlatWanted 40 = .ok (.iconst 1, 1) := by decide +kernel
theorem dX5_isFreeFlatWanted_41 : decode cX5_isFreeFlatWanted 41 = .ok (.ireturn, 1) := by decide +kernel
theorem dX5_isFreeFlatWanted_42 : decode cX5_isFreeFlatWanted 42 = .ok (.iinc 3 1, 3) := by decide +kernel
theorem dX5_isFreeFlatWanted_45 : decode cX5_isFreeFlatWanted 45 = .ok (.goto (-33), 3) := by decide +kernel
theorem dX5_isFreeFlatWanted_48 : decode cX5_isFreeFlatWanted 48 = .ok (.iinc 2 1, 3) := by decide +kernel
theorem dX5_isFreeFlatWanted_51 : decode cX5_isFreeFlatWanted 51 = .ok (.goto (-49), 3) := by decide +kernel
theorem dX5_isFreeFlatWanted_54 : decode cX5_isFreeFlatWanted 54 = .ok (.iconst 0, 1) := by decide +kernel
theorem dX5_isFreeFlatWanted_55 : decode cX5_isFreeFlatWanted 55 = .ok (.ireturn, 1) := by decide +kernel
theorem dX5_wants_0 : decode cX5_wants 0 = .ok (.aload_n 1, 1) := by decide +kernel
theorem dX5_wants_1 : decode cX5_wants 1 = .ok (.iload_n 2, 1) := by decide +kernel
theorem dX5_wants_2 : decode cX5_wants 2 = .ok (.iload_n 3, 1) := by decide +kernel
theorem dX5_wants_3 : decode cX5_wants 3 = .ok (.invokevirtual 60, 3) := by decide +kernel
theorem dX5_wants_6 : decode cX5_wants 6 = .ok (.ifCond .eq 29, 3) := by decide +kernel
theorem dX5_wants_9 : decode cX5_wants 9 = .ok (.aload_n 0, 1) := by decide +kernel
theorem dX5_wants_10 : decode cX5_wants 10 = .ok (.getfield 11, 3) := by decide +kernel
theorem dX5_wants_13 : decode cX5_wants 13 = .ok (.iload_n 2, 1) := by decide +kernel
theorem dX5_wants_14 : decode cX5_wants 14 = .ok (.aaload, 1) := by decide +kernel
theorem dX5_wants_15 : decode cX5_wants 15 = .ok (.iload_n 3, 1) := by decide +kernel
theorem dX5_wants_16 : decode cX5_wants 16 = .ok (.iaload, 1) := by decide +kernel
theorem dX5_wants_17 : decode cX5_wants 17 = .ok (.aload_n 0, 1) := by decide +kernel
theorem dX5_wants_18 : decode cX5_wants 18 = .ok (.iload_n 2, 1) := by decide +kernel
theorem dX5_wants_19 : decode cX5_wants 19 = .ok (.aload_n 0, 1) := by decide +kernel
theorem dX5_wants_20 : decode cX5_wants 20 = .ok (.getfield 19, 3) := by decide +kernel
theorem dX5_wants_23 : decode cX5_wants 23 = .ok (.iload_n 2, 1) := by decide +kernel
theorem dX5_wants_24 : decode cX5_wants 24 = .ok (.iaload, 1) := by decide +kernel
theorem dX5_wants_25 : decode cX5_wants 25 = .ok (.invokevirtual 98, 3) := by decide +kernel
theorem dX5_wants_28 : decode cX5_wants 28 = .ok (.if_icmp .ge 7, 3) := by decide +kernel
theorem dX5_wants_31 : decode cX5_wants 31 = .ok (.iconst 1, 1) := by decide +kernel
theorem dX5_wants_32 : decode cX5_wants 32 = .ok (.goto 4, 3) := by decide +kernel
theorem dX5_wants_35 : decode cX5_wants 35 = .ok (.iconst 0, 1) := by decide +kernel
theorem dX5_wants_36 : decode cX5_wants 36 = .ok (.ireturn, 1) := by decide +kernel
theorem dX5_doWaysAgree_0 : decode cX5_doWaysAgree 0 = .ok (.aload_n 0, 1) := by decide +kernel
theorem dX5_doWaysAgree_1 : decode cX5_doWaysAgree 1 = .ok (.aload_n 1, 1) := by decide +kernel
theorem dX5_doWaysAgree_2 : decode cX5_doWaysAgree 2 = .ok (.invokevirtual 67, 3) := by decide +kernel
theorem dX5_doWaysAgree_5 : decode cX5_doWaysAgree 5 = .ok (.aload_n 0, 1) := by decide +kernel
theorem dX5_doWaysAgree_6 : decode cX5_doWaysAgree 6 = .ok (.aload_n 1, 1) := by decide +kernel
theorem dX5_doWaysAgree_7 : decode cX5_doWaysAgree 7 = .ok (.invokevirtual 108, 3) := by decide +kernel
theorem dX5_doWaysAgree_10 : decode cX5_doWaysAgree 10 = .ok (.pop, 1) := by decide +kernel
theorem dX5_doWaysAgree_11 : decode cX5_doWaysAgree 11 = .ok (.iconst 0, 1) := by decide +kernel
theorem dX5_doWaysAgree_12 : decode cX5_doWaysAgree 12 = .ok (.istore_n 2, 1) := by decide +kernel
theorem dX5_doWaysAgree_13 : decode cX5_doWaysAgree 13 = .ok (.iload_n 2, 1) := by decide +kernel
theorem dX5_doWaysAgree_14 : decode cX5_doWaysAgree 14 = .ok (.aload_n 1, 1) := by decide +kernel
theorem dX5_doWaysAgree_15 : decode cX5_doWaysAgree 15 = .ok (.getfield 40, 3) := by decide +kernel
theorem dX5_doWaysAgree_18 : decode cX5_doWaysAgree 18 = .ok (.if_icmp .ge 26, 3) := by decide +kernel
theorem dX5_doWaysAgree_21 : decode cX5_doWaysAgree 21 = .ok (.aload_n 0, 1) := by decide +kernel
theorem dX5_doWaysAgree_22 : decode cX5_doWaysAgree 22 = .ok (.getfield 19, 3) := by decide +kernel
theorem dX5_doWaysAgree_25 : decode cX5_doWaysAgree 25 = .ok (.iload_n 2, 1) := by decide +kernel
theorem dX5_doWaysAgree_26 : decode cX5_doWaysAgree 26 = .ok (.iaload, 1) := by decide +kernel
theorem dX5_doWaysAgree_27 : decode cX5_doWaysAgree 27 = .ok (.aload_n 0, 1) := by decide +kernel
theorem dX5_doWaysAgree_28 : decode cX5_doWaysAgree 28 = .ok (.getfield 29, 3) := by decide +kernel
theorem dX5_doWaysAgree_31 : decode cX5_doWaysAgree 31 = .ok (.iload_n 2, 1) := by decide +kernel
theorem dX5_doWaysAgree_32 : decode cX5_doWaysAgree 32 = .ok (.iaload, 1) := by decide +kernel
theorem dX5_doWaysAgree_33 : decode cX5_doWaysAgree 33 = .ok (.if_icmp .eq 5, 3) := by decide +kernel
theorem dX5_doWaysAgree_36 : decode cX5_doWaysAgree 36 = .ok (.iconst 0, 1) := by decide +kernel
theorem dX5_doWaysAgree_37 : decode cX5_doWaysAgree 37 = .ok (.ireturn, 1) := by decide +kernel
theorem dX5_doWaysAgree_38 : decode cX5_doWaysAgree 38 = .ok (.iinc 2 1, 3) := by decide +kernel
theorem dX5_doWaysAgree_41 : decode cX5_doWaysAgree 41 = .ok (.goto (-28), 3) := by decide +kernel
theorem dX5_doWaysAgree_44 : decode cX5_doWaysAgree 44 = .ok (.aload_n 0, 1) := by decide +kernel
theorem dX5_doWaysAgree_45 : decode cX5_doWaysAgree 45 = .ok (.getfield 32, 3) := by decide +kernel
theorem dX5_doWaysAgree_48 : decode cX5_doWaysAgree 48 = .ok (.iconst 1, 1) := by decide +kernel
theorem dX5_doWaysAgree_49 : decode cX5_doWaysAgree 49 = .ok (.if_icmp .lt 7, 3) := by decide +kernel
theorem dX5_doWaysAgree_52 : decode cX5_doWaysAgree 52 = .ok (.iconst 1, 1) := by decide +kernel
theorem dX5_doWaysAgree_53 : decode cX5_doWaysAgree 53 = .ok (.goto 4, 3) := by decide +kernel
theorem dX5_doWaysAgree_56 : decode cX5_doWaysAgree 56 = .ok (.iconst 0, 1) := by decide +kernel
theorem dX5_doWaysAgree_57 : decode cX5_doWaysAgree 57 = .ok (.ireturn, 1) := by decide +kernel
theorem dX7_init_0 : decode cX7_init 0 = .ok (.aload_n 0, 1) := by decide +kernel
theorem dX7_init_1 : decode cX7_init 1 = .ok (.invokespecial 3, 3) := by decide +kernel
theorem dX7_init_4 : decode cX7_init 4 = .ok (.aload_n 0, 1) := by decide +kernel
theorem dX7_init_5 : decode cX7_init 5 = .ok (.bipush 6, 2) := by decide +kernel
theorem dX7_init_7 : decode cX7_init 7 = .ok (.newarray .int, 2) := by decide +kernel
theorem dX7_init_9 : decode cX7_init 9 = .ok (.putfield 9, 3) := by decide +kernel
theorem dX7_init_12 : decode cX7_init 12 = .ok (.aload_n 0, 1) := by decide +kernel
theorem dX7_init_13 : decode cX7_init 13 = .ok (.bipush 64, 2) := by decide +kernel
theorem dX7_init_15 : decode cX7_init 15 = .ok (.newarray .int, 2) := by decide +kernel
theorem dX7_init_17 : decode cX7_init 17 = .ok (.putfield 15, 3) := by decide +kernel
theorem dX7_init_20 : decode cX7_init 20 = .ok (.aload_n 0, 1) := by decide +kernel
theorem dX7_init_21 : decode cX7_init 21 = .ok (.bipush 64, 2) := by decide +kernel
theorem dX7_init_23 : decode cX7_init 23 = .ok (.newarray .int, 2) := by decide +kernel
theorem dX7_init_25 : decode cX7_init 25 = .ok (.putfield 18, 3) := by decide +kernel
theorem dX7_init_28 : decode cX7_init 28 = .ok (.return_, 1) := by decide +kernel
theorem dX7_measure_0 : decode cX7_measure 0 = .ok (.iconst 0, 1) := by decide +kernel
theorem dX7_measure_1 : decode cX7_measure 1 = .ok (.istore_n 2, 1) := by decide +kernel
theorem dX7_measure_2 : decode cX7_measure 2 = .ok (.iload_n 2, 1) := by decide +kernel
theorem dX7_measure_3 : decode cX7_measure 3 = .ok (.bipush 6, 2) := by decide +kernel
theorem dX7_measure_5 : decode cX7_measure 5 = .ok (.if_icmp .ge 20, 3) := by decide +kernel
theorem dX7_measure_8 : decode cX7_measure 8 = .ok (.aload_n 0, 1) := by decide +kernel
theorem dX7_measure_9 : decode cX7_measure 9 = .ok (.getfield 9, 3) := by decide +kernel
theorem dX7_measure_12 : decode cX7_measure 12 = .ok (.iload_n 2, 1) := by decide +kernel
theorem dX7_measure_13 : decode cX7_measure 13 = .ok (.aload_n 1, 1) := by decide +kernel
theorem dX7_measure_14 : decode cX7_measure 14 = .ok (.iload_n 2, 1) := by decide +kernel
theorem dX7_measure_15 : decode cX7_measure 15 = .ok (.invokevirtual 21, 3) := by decide +kernel
theorem dX7_measure_18 : decode cX7_measure 18 = .ok (.iastore, 1) := by decide +kernel
theorem dX7_measure_19 : decode cX7_measure 19 = .ok (.iinc 2 1, 3) := by decide +kernel
theorem dX7_measure_22 : decode cX7_measure 22 = .ok (.goto (-20), 3) := by decide +kernel
theorem dX7_measure_25 : decode cX7_measure 25 = .ok (.return_, 1) := by decide +kernel
theorem dX7_countByTrying_0 : decode cX7_countByTrying 0 = .ok (.aload_n 0, 1) := by decide +kernel
theorem dX7_countByTrying_1 : decode cX7_countByTrying 1 = .ok (.aload_n 1, 1) := by decide +kernel
theorem dX7_countByTrying_2 : decode cX7_countByTrying 2 = .ok (.invokevirtual 27, 3) := by decide +kernel
theorem dX7_countByTrying_5 : decode cX7_countByTrying 5 = .ok (.aload_n 1, 1) := by decide +kernel
theorem dX7_countByTrying_6 : decode cX7_countByTrying 6 = .ok (.aload_n 0, 1) := by decide +kernel
theorem dX7_countByTrying_7 : decode cX7_countByTrying 7 = .ok (.getfield 9, 3) := by decide +kernel
theorem dX7_countByTrying_10 : decode cX7_countByTrying 10 = .ok (.iconst 0, 1) := by decide +kernel
theorem dX7_countByTrying_11 : decode cX7_countByTrying 11 = .ok (.iconst (-1), 1) := by decide +kernel
theorem dX7_countByTrying_12 : decode cX7_countByTrying 12 = .ok (.invokestatic 31, 3) := by decide +kernel
theorem dX7_countByTrying_15 : decode cX7_countByTrying 15 = .ok (.ireturn, 1) := by decide +kernel
theorem dX7_spread_0 : decode cX7_spread 0 = .ok (.iload_n 2, 1) := by decide +kernel
theorem dX7_spread_1 : decode cX7_spread 1 = .ok (.aload_n 0, 1) := by decide +kernel
theorem dX7_spread_2 : decode cX7_spread 2 = .ok (.getfield 35, 3) := by decide +kernel
theorem dX7_spread_5 : decode cX7_spread 5 = .ok (.if_icmp .lt 5, 3) := by decide +kernel
theorem dX7_spread_8 : decode cX7_spread 8 = .ok (.iconst 1, 1) := by decide +kernel
theorem dX7_spread_9 : decode cX7_spread 9 = .ok (.ireturn, 1) := by decide +kernel
theorem dX7_spread_10 : decode cX7_spread 10 = .ok (.aload_n 0, 1) := by decide +kernel
theorem dX7_spread_11 : decode cX7_spread 11 = .ok (.getfield 39, 3) := by decide +kernel
theorem dX7_spread_14 : decode cX7_spread 14 = .ok (.iload_n 2, 1) := by decide +kernel
theorem dX7_spread_15 : decode cX7_spread 15 = .ok (.iaload, 1) := by decide +kernel
theorem dX7_spread_16 : decode cX7_spread 16 = .ok (.iconst (-1), 1) := by decide +kernel
theorem dX7_spread_17 : decode cX7_spread 17 = .ok (.if_icmp .eq 8, 3) := by decide +kernel
theorem dX7_spread_20 : decode cX7_spread 20 = .ok (.iload_n 2, 1) := by decide +kernel
theorem dX7_spread_21 : decode cX7_spread 21 = .ok (.iload_n 3, 1) := by decide +kernel
theorem dX7_spread_22 : decode cX7_spread 22 = .ok (.if_icmp .ne 13, 3) := by decide +kernel
theorem dX7_spread_25 : decode cX7_spread 25 = .ok (.aload_n 0, 1) := by decide +kernel
theorem dX7_spread_26 : decode cX7_spread 26 = .ok (.aload_n 1, 1) := by decide +kernel
theorem dX7_spread_27 : decode cX7_spread 27 = .ok (.iload_n 2, 1) := by decide +kernel
theorem dX7_spread_28 : decode cX7_spread 28 = .ok (.iconst 1, 1) := by decide +kernel
theorem dX7_spread_29 : decode cX7_spread 29 = .ok (.iadd, 1) := by decide +kernel
theorem dX7_spread_30 : decode cX7_spread 30 = .ok (.iload_n 3, 1) := by decide +kernel
theorem dX7_spread_31 : decode cX7_spread 31 = .ok (.invokestatic 31, 3) := by decide +kernel
theorem dX7_spread_34 : decode cX7_spread 34 = .ok (.ireturn, 1) := by decide +kernel
theorem dX7_spread_35 : decode cX7_spread 35 = .ok (.aload_n 0, 1) := by decide +kernel
theorem dX7_spread_36 : decode cX7_spread 36 = .ok (.getfield 42, 3) := by decide +kernel
theorem dX7_spread_39 : decode cX7_spread 39 = .ok (.iload_n 2, 1) := by decide +kernel
theorem dX7_spread_40 : decode cX7_spread 40 = .ok (.iaload, 1) := by decide +kernel
theorem dX7_spread_41 : decode cX7_spread 41 = .ok (.istore 4, 2) := by decide +kernel
theorem dX7_spread_43 : decode cX7_spread 43 = .ok (.iconst 0, 1) := by decide +kernel
theorem dX7_spread_44 : decode cX7_spread 44 = .ok (.istore 5, 2) := by decide +kernel
theorem dX7_spread_46 : decode cX7_spread 46 = .ok (.iconst 0, 1) := by decide +kernel
theorem dX7_spread_47 : decode cX7_spread 47 = .ok (.istore 6, 2) := by decide +kernel
theorem dX7_spread_49 : decode cX7_spread 49 = .ok (.iload 6, 2) := by decide +kernel
theorem dX7_spread_51 : decode cX7_spread 51 = .ok (.aload_n 1, 1) := by decide +kernel
theorem dX7_spread_52 : decode cX7_spread 52 = .ok (.arraylength, 1) := by decide +kernel
theorem dX7_spread_53 : decode cX7_spread 53 = .ok (.if_icmp .ge 50, 3) := by decide +kernel
theorem dX7_spread_56 : decode cX7_spread 56 = .ok (.aload_n 1, 1) := by decide +kernel
theorem dX7_spread_57 : decode cX7_spread 57 = .ok (.iload 6, 2) := by decide +kernel
theorem dX7_spread_59 : decode cX7_spread 59 = .ok (.iaload, 1) := by decide +kernel
theorem dX7_spread_60 : decode cX7_spread 60 = .ok (.iload 4, 2) := by decide +kernel
theorem dX7_spread_62 : decode cX7_spread 62 = .ok (.if_icmp .lt 35, 3) := by decide +kernel
theorem dX7_spread_65 : decode cX7_spread 65 = .ok (.aload_n 1, 1) := by decide +kernel
theorem dX7_spread_66 : decode cX7_spread 66 = .ok (.iload 6, 2) := by decide +kernel
theorem dX7_spread_68 : decode cX7_spread 68 = .ok (.dup2, 1) := by decide +kernel
theorem dX7_spread_69 : decode cX7_spread 69 = .ok (.iaload, 1) := by decide +kernel
theorem dX7_spread_70 : decode cX7_spread 70 = .ok (.iload 4, 2) := by decide +kernel
theorem dX7_spread_72 : decode cX7_spread 72 = .ok (.isub, 1) := by decide +kernel
theorem dX7_spread_73 : decode cX7_spread 73 = .ok (.iastore, 1) := by decide +kernel
theorem dX7_spread_74 : decode cX7_spread 74 = .ok (.iload 5, 2) := by decide +kernel
theorem dX7_spread_76 : decode cX7_spread 76 = .ok (.aload_n 0, 1) := by decide +kernel
theorem dX7_spread_77 : decode cX7_spread 77 = .ok (.aload_n 1, 1) := by decide +kernel
theorem dX7_spread_78 : decode cX7_spread 78 = .ok (.iload_n 2, 1) := by decide +kernel
theorem dX7_spread_79 : decode cX7_spread 79 = .ok (.iconst 1, 1) := by decide +kernel
theorem dX7_spread_80 : decode cX7_spread 80 = .ok (.iadd, 1) := by decide +kernel
theorem dX7_spread_81 : decode cX7_spread 81 = .ok (.iload_n 3, 1) := by decide +kernel
theorem dX7_spread_82 : decode cX7_spread 82 = .ok (.invokestatic 31, 3) := by decide +kernel
theorem dX7_spread_85 : decode cX7_spread 85 = .ok (.iadd, 1) := by decide +kernel
theorem dX7_spread_86 : decode cX7_spread 86 = .ok (.istore 5, 2) := by decide +kernel
theorem dX7_spread_88 : decode cX7_spread 88 = .ok (.aload_n 1, 1) := by decide +kernel
theorem dX7_spread_89 : decode cX7_spread 89 = .ok (.iload 6, 2) := by decide +kernel
theorem dX7_spread_91 : decode cX7_spread 91 = .ok (.dup2, 1) := by decide +kernel
theorem dX7_spread_92 : decode cX7_spread 92 = .ok (.iaload, 1) := by decide +kernel
theorem dX7_spread_93 : decode cX7_spread 93 = .ok (.iload 4, 2) := by decide +kernel
theorem dX7_spread_95 : decode cX7_spread 95 = .ok (.iadd, 1) := by decide +kernel
theorem dX7_spread_96 : decode cX7_spread 96 = .ok (.iastore, 1) := by decide +kernel
theorem dX7_spread_97 : decode cX7_spread 97 = .ok (.iinc 6 1, 3) := by decide +kernel
theorem dX7_spread_100 : decode cX7_spread 100 = .ok (.goto (-51), 3) := by decide +kernel
theorem dX7_spread_103 : decode cX7_spread 103 = .ok (.iload 5, 2) := by decide +kernel
theorem dX7_spread_105 : decode cX7_spread 105 = .ok (.ireturn, 1) := by decide +kernel
theorem dX7_countFloors_0 : decode cX7_countFloors 0 = .ok (.aload_n 1, 1) := by decide +kernel
theorem dX7_countFloors_1 : decode cX7_countFloors 1 = .ok (.getfield 39, 3) := by decide +kernel
theorem dX7_countFloors_4 : decode cX7_countFloors 4 = .ok (.iload_n 2, 1) := by decide +kernel
theorem dX7_countFloors_5 : decode cX7_countFloors 5 = .ok (.iaload, 1) := by decide +kernel
theorem dX7_countFloors_6 : decode cX7_countFloors 6 = .ok (.iconst (-1), 1) := by decide +kernel
theorem dX7_countFloors_7 : decode cX7_countFloors 7 = .ok (.if_icmp .ne 5, 3) := by decide +kernel
theorem dX7_countFloors_10 : decode cX7_countFloors 10 = .ok (.iconst 0, 1) := by decide +kernel
theorem dX7_countFloors_11 : decode cX7_countFloors 11 = .ok (.ireturn, 1) := by decide +kernel
theorem dX7_countFloors_12 : decode cX7_countFloors 12 = .ok (.aload_n 0, 1) := by decide +kernel
theorem dX7_countFloors_13 : decode cX7_countFloors 13 = .ok (.aload_n 1, 1) := by decide +kernel
theorem dX7_countFloors_14 : decode cX7_countFloors 14 = .ok (.invokevirtual 27, 3) := by decide +kernel
theorem dX7_countFloors_17 : decode cX7_countFloors 17 = .ok (.aload_n 1, 1) := by decide +kernel
theorem dX7_countFloors_18 : decode cX7_countFloors 18 = .ok (.getfield 42, 3) := by decide +kernel
theorem dX7_countFloors_21 : decode cX7_countFloors 21 = .ok (.iload_n 2, 1) := by decide +kernel
theorem dX7_countFloors_22 : decode cX7_countFloors 22 = .ok (.iaload, 1) := by decide +kernel
theorem dX7_countFloors_23 : decode cX7_countFloors 23 = .ok (.istore_n 3, 1) := by decide +kernel
theorem dX7_countFloors_24 : decode cX7_countFloors 24 = .ok (.iconst 0, 1) := by decide +kernel
theorem dX7_countFloors_25 : decode cX7_countFloors 25 = .ok (.istore 4, 2) := by decide +kernel
theorem dX7_countFloors_27 : decode cX7_countFloors 27 = .ok (.iconst 0, 1) := by decide +kernel
theorem dX7_countFloors_28 : decode cX7_countFloors 28 = .ok (.istore 5, 2) := by decide +kernel
theorem dX7_countFloors_30 : decode cX7_countFloors 30 = .ok (.iload 5, 2) := by decide +kernel
theorem dX7_countFloors_32 : decode cX7_countFloors 32 = .ok (.bipush 6, 2) := by decide +kernel
theorem dX7_countFloors_34 : decode cX7_countFloors 34 = .ok (.if_icmp .ge 65, 3) := by decide +kernel
theorem dX7_countFloors_37 : decode cX7_countFloors 37 = .ok (.aload_n 0, 1) := by decide +kernel
theorem dX7_countFloors_38 : decode cX7_countFloors 38 = .ok (.getfield 9, 3) := by decide +kernel
theorem dX7_countFloors_41 : decode cX7_countFloors 41 = .ok (.iload 5, 2) := by decide +kernel
theorem dX7_countFloors_43 : decode cX7_countFloors 43 = .ok (.iaload, 1) := by decide +kernel
theorem dX7_countFloors_44 : decode cX7_countFloors 44 = .ok (.iload_n 3, 1) := by decide +kernel
theorem dX7_countFloors_45 : decode cX7_countFloors 45 = .ok (.if_icmp .lt 48, 3) := by decide +kernel
theorem dX7_countFloors_48 : decode cX7_countFloors 48 = .ok (.aload_n 0, 1) := by decide +kernel
theorem dX7_countFloors_49 : decode cX7_countFloors 49 = .ok (.getfield 9, 3) := by decide +kernel
theorem dX7_countFloors_52 : decode cX7_countFloors 52 = .ok (.iload 5, 2) := by decide +kernel
theorem dX7_countFloors_54 : decode cX7_countFloors 54 = .ok (.dup2, 1) := by decide +kernel
theorem dX7_countFloors_55 : decode cX7_countFloors 55 = .ok (.iaload, 1) := by decide +kernel
theorem dX7_countFloors_56 : decode cX7_countFloors 56 = .ok (.iload_n 3, 1) := by decide +kernel
theorem dX7_countFloors_57 : decode cX7_countFloors 57 = .ok (.isub, 1) := by decide +kernel
theorem dX7_countFloors_58 : decode cX7_countFloors 58 = .ok (.iastore, 1) := by decide +kernel
theorem dX7_countFloors_59 : decode cX7_countFloors 59 = .ok (.iload 4, 2) := by decide +kernel
theorem dX7_countFloors_61 : decode cX7_countFloors 61 = .ok (.aload_n 1, 1) := by decide +kernel
theorem dX7_countFloors_62 : decode cX7_countFloors 62 = .ok (.aload_n 0, 1) := by decide +kernel
theorem dX7_countFloors_63 : decode cX7_countFloors 63 = .ok (.getfield 9, 3) := by decide +kernel
theorem dX7_countFloors_66 : decode cX7_countFloors 66 = .ok (.iconst 0, 1) := by decide +kernel
theorem dX7_countFloors_67 : decode cX7_countFloors 67 = .ok (.iload_n 2, 1) := by decide +kernel
theorem dX7_countFloors_68 : decode cX7_countFloors 68 = .ok (.invokestatic 31, 3) := by decide +kernel
theorem dX7_countFloors_71 : decode cX7_countFloors 71 = .ok (.ifCond .le 7, 3) := by decide +kernel
theorem dX7_countFloors_74 : decode cX7_countFloors 74 = .ok (.iconst 1, 1) := by decide +kernel
theorem dX7_countFloors_75 : decode cX7_countFloors 75 = .ok (.goto 4, 3) := by decide +kernel
theorem dX7_countFloors_78 : decode cX7_countFloors 78 = .ok (.iconst 0, 1) := by decide +kernel
theorem dX7_countFloors_79 : decode cX7_countFloors 79 = .ok (.iadd, 1) := by decide +kernel
theorem dX7_countFloors_80 : decode cX7_countFloors 80 = .ok (.istore 4, 2) := by decide +kernel
theorem dX7_countFloors_82 : decode cX7_countFloors 82 = .ok (.aload_n 0, 1) := by decide +kernel
theorem dX7_countFloors_83 : decode cX7_countFloors 83 = .ok (.getfield 9, 3) := by decide +kernel
theorem dX7_countFloors_86 : decode cX7_countFloors 86 = .ok (.iload 5, 2) := by decide +kernel
theorem dX7_countFloors_88 : decode cX7_countFloors 88 = .ok (.dup2, 1) := by decide +kernel
theorem dX7_countFloors_89 : decode cX7_countFloors 89 = .ok (.iaload, 1) := by decide +kernel
theorem dX7_countFloors_90 : decode cX7_countFloors 90 = .ok (.iload_n 3, 1) := by decide +kernel
theorem dX7_countFloors_91 : decode cX7_countFloors 91 = .ok (.iadd, 1) := by decide +kernel
theorem dX7_countFloors_92 : decode cX7_countFloors 92 = .ok (.iastore, 1) := by decide +kernel
theorem dX7_countFloors_93 : decode cX7_countFloors 93 = .ok (.iinc 5 1, 3) := by decide +kernel
theorem dX7_countFloors_96 : decode cX7_countFloors 96 = .ok (.goto (-66), 3) := by decide +kernel
theorem dX7_countFloors_99 : decode cX7_countFloors 99 = .ok (.iload 4, 2) := by decide +kernel
theorem dX7_countFloors_101 : decode cX7_countFloors 101 = .ok (.ireturn, 1) := by decide +kernel
theorem dX7_countBySets_0 : decode cX7_countBySets 0 = .ok (.aload_n 0, 1) := by decide +kernel
theorem dX7_countBySets_1 : decode cX7_countBySets 1 = .ok (.aload_n 1, 1) := by decide +kernel
theorem dX7_countBySets_2 : decode cX7_countBySets 2 = .ok (.invokevirtual 27, 3) := by decide +kernel
theorem dX7_countBySets_5 : decode cX7_countBySets 5 = .ok (.aload_n 0, 1) := by decide +kernel
theorem dX7_countBySets_6 : decode cX7_countBySets 6 = .ok (.aload_n 1, 1) := by decide +kernel
theorem dX7_countBySets_7 : decode cX7_countBySets 7 = .ok (.invokevirtual 45, 3) := by decide +kernel
theorem dX7_countBySets_10 : decode cX7_countBySets 10 = .ok (.aload_n 0, 1) := by decide +kernel
theorem dX7_countBySets_11 : decode cX7_countBySets 11 = .ok (.getfield 18, 3) := by decide +kernel
theorem dX7_countBySets_14 : decode cX7_countBySets 14 = .ok (.iconst 0, 1) := by decide +kernel
theorem dX7_countBySets_15 : decode cX7_countBySets 15 = .ok (.invokestatic 48, 3) := by decide +kernel
theorem dX7_countBySets_18 : decode cX7_countBySets 18 = .ok (.aload_n 0, 1) := by decide +kernel
theorem dX7_countBySets_19 : decode cX7_countBySets 19 = .ok (.getfield 18, 3) := by decide +kernel
theorem dX7_countBySets_22 : decode cX7_countBySets 22 = .ok (.iconst 0, 1) := by decide +kernel
theorem dX7_countBySets_23 : decode cX7_countBySets 23 = .ok (.iconst 1, 1) := by decide +kernel
theorem dX7_countBySets_24 : decode cX7_countBySets 24 = .ok (.iastore, 1) := by decide +kernel
theorem dX7_countBySets_25 : decode cX7_countBySets 25 = .ok (.aload_n 1, 1) := by decide +kernel
theorem dX7_countBySets_26 : decode cX7_countBySets 26 = .ok (.invokestatic 52, 3) := by decide +kernel
theorem dX7_countBySets_29 : decode cX7_countBySets 29 = .ok (.istore_n 2, 1) := by decide +kernel
theorem dX7_countBySets_30 : decode cX7_countBySets 30 = .ok (.iconst 0, 1) := by decide +kernel
theorem dX7_countBySets_31 : decode cX7_countBySets 31 = .ok (.istore_n 3, 1) := by decide +kernel
theorem dX7_countBySets_32 : decode cX7_countBySets 32 = .ok (.iload_n 3, 1) := by decide +kernel
theorem dX7_countBySets_33 : decode cX7_countBySets 33 = .ok (.bipush 6, 2) := by decide +kernel
theorem dX7_countBySets_35 : decode cX7_countBySets 35 = .ok (.if_icmp .ge 20, 3) := by decide +kernel
theorem dX7_countBySets_38 : decode cX7_countBySets 38 = .ok (.aload_n 0, 1) := by decide +kernel
theorem dX7_countBySets_39 : decode cX7_countBySets 39 = .ok (.iload_n 2, 1) := by decide +kernel
theorem dX7_countBySets_40 : decode cX7_countBySets 40 = .ok (.aload_n 0, 1) := by decide +kernel
theorem dX7_countBySets_41 : decode cX7_countBySets 41 = .ok (.getfield 9, 3) := by decide +kernel
theorem dX7_countBySets_44 : decode cX7_countBySets 44 = .ok (.iload_n 3, 1) := by decide +kernel
theorem dX7_countBySets_45 : decode cX7_countBySets 45 = .ok (.iaload, 1) := by decide +kernel
theorem dX7_countBySets_46 : decode cX7_countBySets 46 = .ok (.invokevirtual 56, 3) := by decide +kernel
theorem dX7_countBySets_49 : decode cX7_countBySets 49 = .ok (.iinc 3 1, 3) := by decide +kernel
theorem dX7_countBySets_52 : decode cX7_countBySets 52 = .ok (.goto (-20), 3) := by decide +kernel
theorem dX7_countBySets_55 : decode cX7_countBySets 55 = .ok (.aload_n 0, 1) := by decide +kernel
theorem dX7_countBySets_56 : decode cX7_countBySets 56 = .ok (.getfield 18, 3) := by decide +kernel
theorem dX7_countBySets_59 : decode cX7_countBySets 59 = .ok (.iload_n 2, 1) := by decide +kernel
theorem dX7_countBySets_60 : decode cX7_countBySets 60 = .ok (.iaload, 1) := by decide +kernel
theorem dX7_countBySets_61 : decode cX7_countBySets 61 = .ok (.ireturn, 1) := by decide +kernel
theorem dX7_weighSets_0 : decode cX7_weighSets 0 = .ok (.aload_n 0, 1) := by decide +kernel
theorem dX7_weighSets_1 : decode cX7_weighSets 1 = .ok (.getfield 15, 3) := by decide +kernel
theorem dX7_weighSets_4 : decode cX7_weighSets 4 = .ok (.iconst 0, 1) := by decide +kernel
theorem dX7_weighSets_5 : decode cX7_weighSets 5 = .ok (.invokestatic 48, 3) := by decide +kernel
theorem dX7_weighSets_8 : decode cX7_weighSets 8 = .ok (.iconst 0, 1) := by decide +kernel
theorem dX7_weighSets_9 : decode cX7_weighSets 9 = .ok (.istore_n 2, 1) := by decide +kernel
theorem dX7_weighSets_10 : decode cX7_weighSets 10 = .ok (.iload_n 2, 1) := by decide +kernel
theorem dX7_weighSets_11 : decode cX7_weighSets 11 = .ok (.aload_n 0, 1) := by decide +kernel
theorem dX7_weighSets_12 : decode cX7_weighSets 12 = .ok (.getfield 15, 3) := by decide +kernel
theorem dX7_weighSets_15 : decode cX7_weighSets 15 = .ok (.arraylength, 1) := by decide +kernel
theorem dX7_weighSets_16 : decode cX7_weighSets 16 = .ok (.if_icmp .ge 49, 3) := by decide +kernel
theorem dX7_weighSets_19 : decode cX7_weighSets 19 = .ok (.iconst 0, 1) := by decide +kernel
theorem dX7_weighSets_20 : decode cX7_weighSets 20 = .ok (.istore_n 3, 1) := by decide +kernel
theorem dX7_weighSets_21 : decode cX7_weighSets 21 = .ok (.iload_n 3, 1) := by decide +kernel
theorem dX7_weighSets_22 : decode cX7_weighSets 22 = .ok (.aload_n 1, 1) := by decide +kernel
theorem dX7_weighSets_23 : decode cX7_weighSets 23 = .ok (.getfield 35, 3) := by decide +kernel
theorem dX7_weighSets_26 : decode cX7_weighSets 26 = .ok (.if_icmp .ge 33, 3) := by decide +kernel
theorem dX7_weighSets_29 : decode cX7_weighSets 29 = .ok (.iload_n 2, 1) := by decide +kernel
theorem dX7_weighSets_30 : decode cX7_weighSets 30 = .ok (.iload_n 3, 1) := by decide +kernel
theorem dX7_weighSets_31 : decode cX7_weighSets 31 = .ok (.ishr, 1) := by decide +kernel
theorem dX7_weighSets_32 : decode cX7_weighSets 32 = .ok (.iconst 1, 1) := by decide +kernel
theorem dX7_weighSets_33 : decode cX7_weighSets 33 = .ok (.iand, 1) := by decide +kernel
theorem dX7_weighSets_34 : decode cX7_weighSets 34 = .ok (.iconst 1, 1) := by decide +kernel
theorem dX7_weighSets_35 : decode cX7_weighSets 35 = .ok (.if_icmp .ne 18, 3) := by decide +kernel
theorem dX7_weighSets_38 : decode cX7_weighSets 38 = .ok (.aload_n 0, 1) := by decide +kernel
theorem dX7_weighSets_39 : decode cX7_weighSets 39 = .ok (.getfield 15, 3) := by decide +kernel
theorem dX7_weighSets_42 : decode cX7_weighSets 42 = .ok (.iload_n 2, 1) := by decide +kernel
theorem dX7_weighSets_43 : decode cX7_weighSets 43 = .ok (.dup2, 1) := by decide +kernel
theorem dX7_weighSets_44 : decode cX7_weighSets 44 = .ok (.iaload, 1) := by decide +kernel
theorem dX7_weighSets_45 : decode cX7_weighSets 45 = .ok (.aload_n 1, 1) := by decide +kernel
theorem dX7_weighSets_46 : decode cX7_weighSets 46 = .ok (.getfield 42, 3) := by decide +kernel
theorem dX7_weighSets_49 : decode cX7_weighSets 49 = .ok (.iload_n 3, 1) := by decide +kernel
theorem dX7_weighSets_50 : decode cX7_weighSets 50 = .ok (.iaload, 1) := by decide +kernel
theorem dX7_weighSets_51 : decode cX7_weighSets 51 = .ok (.iadd, 1) := by decide +kernel
theorem dX7_weighSets_52 : decode cX7_weighSets 52 = .ok (.iastore, 1) := by decide +kernel
theorem dX7_weighSets_53 : decode cX7_weighSets 53 = .ok (.iinc 3 1, 3) := by decide +kernel
theorem dX7_weighSets_56 : decode cX7_weighSets 56 = .ok (.goto (-35), 3) := by decide +kernel
theorem dX7_weighSets_59 : decode cX7_weighSets 59 = .ok (.iinc 2 1, 3) := by decide +kernel
theorem dX7_weighSets_62 : decode cX7_weighSets 62 = .ok (.goto (-52), 3) := by decide +kernel
theorem dX7_weighSets_65 : decode cX7_weighSets 65 = .ok (.return_, 1) := by decide +kernel
theorem dX7_housedSet_0 : decode cX7_housedSet 0 = .ok (.iconst 0, 1) := by decide +kernel
theorem dX7_housedSet_1 : decode cX7_housedSet 1 = .ok (.istore_n 1, 1) := by decide +kernel
theorem dX7_housedSet_2 : decode cX7_housedSet 2 = .ok (.iconst 0, 1) := by decide +kernel
theorem dX7_housedSet_3 : decode cX7_housedSet 3 = .ok (.istore_n 2, 1) := by decide +kernel
theorem dX7_housedSet_4 : decode cX7_housedSet 4 = .ok (.iload_n 2, 1) := by decide +kernel
theorem dX7_housedSet_5 : decode cX7_housedSet 5 = .ok (.aload_n 0, 1) := by decide +kernel
theorem dX7_housedSet_6 : decode cX7_housedSet 6 = .ok (.getfield 35, 3) := by decide +kernel
theorem dX7_housedSet_9 : decode cX7_housedSet 9 = .ok (.if_icmp .ge 25, 3) := by decide +kernel
theorem dX7_housedSet_12 : decode cX7_housedSet 12 = .ok (.aload_n 0, 1) := by decide +kernel
theorem dX7_housedSet_13 : decode cX7_housedSet 13 = .ok (.getfield 39, 3) := by decide +kernel
theorem dX7_housedSet_16 : decode cX7_housedSet 16 = .ok (.iload_n 2, 1) := by decide +kernel
theorem dX7_housedSet_17 : decode cX7_housedSet 17 = .ok (.iaload, 1) := by decide +kernel
theorem dX7_housedSet_18 : decode cX7_housedSet 18 = .ok (.iconst (-1), 1) := by decide +kernel
theorem dX7_housedSet_19 : decode cX7_housedSet 19 = .ok (.if_icmp .eq 9, 3) := by decide +kernel
theorem dX7_housedSet_22 : decode cX7_housedSet 22 = .ok (.iload_n 1, 1) := by decide +kernel
theorem dX7_housedSet_23 : decode cX7_housedSet 23 = .ok (.iconst 1, 1) := by decide +kernel
theorem dX7_housedSet_24 : decode cX7_housedSet 24 = .ok (.iload_n 2, 1) := by decide +kernel
theorem dX7_housedSet_25 : decode cX7_housedSet 25 = .ok (.ishl, 1) := by decide +kernel
theorem dX7_housedSet_26 : decode cX7_housedSet 26 = .ok (.ior, 1) := by decide +kernel
theorem dX7_housedSet_27 : decode cX7_housedSet 27 = .ok (.istore_n 1, 1) := by decide +kernel
theorem dX7_housedSet_28 : decode cX7_housedSet 28 = .ok (.iinc 2 1, 3) := by decide +kernel
theorem dX7_housedSet_31 : decode cX7_housedSet 31 = .ok (.goto (-27), 3) := by decide +kernel
theorem dX7_housedSet_34 : decode cX7_housedSet 34 = .ok (.iload_n 1, 1) := by decide +kernel
theorem dX7_housedSet_35 : decode cX7_housedSet 35 = .ok (.ireturn, 1) := by decide +kernel
theorem dX7_improve_0 : decode cX7_improve 0 = .ok (.iload_n 1, 1) := by decide +kernel
theorem dX7_improve_1 : decode cX7_improve 1 = .ok (.istore_n 3, 1) := by decide +kernel
theorem dX7_improve_2 : decode cX7_improve 2 = .ok (.iload_n 3, 1) := by decide +kernel
theorem dX7_improve_3 : decode cX7_improve 3 = .ok (.ifCond .lt 69, 3) := by decide +kernel
theorem dX7_improve_6 : decode cX7_improve 6 = .ok (.iconst 0, 1) := by decide +kernel
theorem dX7_improve_7 : decode cX7_improve 7 = .ok (.istore 4, 2) := by decide +kernel
theorem dX7_improve_9 : decode cX7_improve 9 = .ok (.iconst 0, 1) := by decide +kernel
theorem dX7_improve_10 : decode cX7_improve 10 = .ok (.istore 5, 2) := by decide +kernel
theorem dX7_improve_12 : decode cX7_improve 12 = .ok (.iload 5, 2) := by decide +kernel
theorem dX7_improve_14 : decode cX7_improve 14 = .ok (.iload_n 3, 1) := by decide +kernel
theorem dX7_improve_15 : decode cX7_improve 15 = .ok (.if_icmp .gt 43, 3) := by decide +kernel
theorem dX7_improve_18 : decode cX7_improve 18 = .ok (.aload_n 0, 1) := by decide +kernel
theorem dX7_improve_19 : decode cX7_improve 19 = .ok (.getfield 15, 3) := by decide +kernel
theorem dX7_improve_22 : decode cX7_improve 22 = .ok (.iload 5, 2) := by decide +kernel
theorem dX7_improve_24 : decode cX7_improve 24 = .ok (.iaload, 1) := by decide +kernel
theorem dX7_improve_25 : decode cX7_improve 25 = .ok (.iload_n 2, 1) := by decide +kernel
theorem dX7_improve_26 : decode cX7_improve 26 = .ok (.if_icmp .ne 26, 3) := by decide +kernel
theorem dX7_improve_29 : decode cX7_improve 29 = .ok (.iload 5, 2) := by decide +kernel
theorem dX7_improve_31 : decode cX7_improve 31 = .ok (.iload_n 3, 1) := by decide +kernel
theorem dX7_improve_32 : decode cX7_improve 32 = .ok (.iand, 1) := by decide +kernel
theorem dX7_improve_33 : decode cX7_improve 33 = .ok (.iload 5, 2) := by decide +kernel
theorem dX7_improve_35 : decode cX7_improve 35 = .ok (.if_icmp .ne 17, 3) := by decide +kernel
theorem dX7_improve_38 : decode cX7_improve 38 = .ok (.iload 4, 2) := by decide +kernel
theorem dX7_improve_40 : decode cX7_improve 40 = .ok (.aload_n 0, 1) := by decide +kernel
theorem dX7_improve_41 : decode cX7_improve 41 = .ok (.getfield 18, 3) := by decide +kernel
theorem dX7_improve_44 : decode cX7_improve 44 = .ok (.iload_n 3, 1) := by decide +kernel
theorem dX7_improve_45 : decode cX7_improve 45 = .ok (.iload 5, 2) := by decide +kernel
theorem dX7_improve_47 : decode cX7_improve 47 = .ok (.ixor, 1) := by decide +kernel
theorem dX7_improve_48 : decode cX7_improve 48 = .ok (.iaload, 1) := by decide +kernel
theorem dX7_improve_49 : decode cX7_improve 49 = .ok (.iadd, 1) := by decide +kernel
theorem dX7_improve_50 : decode cX7_improve 50 = .ok (.istore 4, 2) := by decide +kernel
theorem dX7_improve_52 : decode cX7_improve 52 = .ok (.iinc 5 1, 3) := by decide +kernel
theorem dX7_improve_55 : decode cX7_improve 55 = .ok (.goto (-43), 3) := by decide +kernel
theorem dX7_improve_58 : decode cX7_improve 58 = .ok (.aload_n 0, 1) := by decide +kernel
theorem dX7_improve_59 : decode cX7_improve 59 = .ok (.getfield 18, 3) := by decide +kernel
theorem dX7_improve_62 : decode cX7_improve 62 = .ok (.iload_n 3, 1) := by decide +kernel
theorem dX7_improve_63 : decode cX7_improve 63 = .ok (.iload 4, 2) := by decide +kernel
theorem dX7_improve_65 : decode cX7_improve 65 = .ok (.iastore, 1) := by decide +kernel
theorem dX7_improve_66 : decode cX7_improve 66 = .ok (.iinc 3 (-1), 3) := by decide +kernel
theorem dX7_improve_69 : decode cX7_improve 69 = .ok (.goto (-67), 3) := by decide +kernel
theorem dX7_improve_72 : decode cX7_improve 72 = .ok (.return_, 1) := by decide +kernel
theorem dX8_init_0 : decode cX8_init 0 = .ok (.aload_n 0, 1) := by decide +kernel
theorem dX8_init_1 : decode cX8_init 1 = .ok (.invokespecial 3, 3) := by decide +kernel
theorem dX8_init_4 : decode cX8_init 4 = .ok (.aload_n 0, 1) := by decide +kernel
theorem dX8_init_5 : decode cX8_init 5 = .ok (.sipush 128, 3) := by decide +kernel
theorem dX8_init_8 : decode cX8_init 8 = .ok (.newarray .char, 2) := by decide +kernel
theorem dX8_init_10 : decode cX8_init 10 = .ok (.putfield 9, 3) := by decide +kernel
theorem dX8_init_13 : decode cX8_init 13 = .ok (.aload_n 0, 1) := by decide +kernel
theorem dX8_init_14 : decode cX8_init 14 = .ok (.iconst 0, 1) := by decide +kernel
theorem dX8_init_15 : decode cX8_init 15 = .ok (.putfield 15, 3) := by decide +kernel
theorem dX8_init_18 : decode cX8_init 18 = .ok (.return_, 1) := by decide +kernel
theorem dX8_clear_0 : decode cX8_clear 0 = .ok (.aload_n 0, 1) := by decide +kernel
theorem dX8_clear_1 : decode cX8_clear 1 = .ok (.iconst 0, 1) := by decide +kernel
theorem dX8_clear_2 : decode cX8_clear 2 = .ok (.putfield 15, 3) := by decide +kernel
theorem dX8_clear_5 : decode cX8_clear 5 = .ok (.return_, 1) := by decide +kernel
theorem dX8_append_0 : decode cX8_append 0 = .ok (.aload_n 0, 1) := by decide +kernel
theorem dX8_append_1 : decode cX8_append 1 = .ok (.getfield 15, 3) := by decide +kernel
theorem dX8_append_4 : decode cX8_append 4 = .ok (.aload_n 0, 1) := by decide +kernel
theorem dX8_append_5 : decode cX8_append 5 = .ok (.getfield 9, 3) := by decide +kernel
theorem dX8_append_8 : decode cX8_append 8 = .ok (.arraylength, 1) := by decide +kernel
theorem dX8_append_9 : decode cX8_append 9 = .ok (.if_icmp .ge 23, 3) := by decide +kernel
theorem dX8_append_12 : decode cX8_append 12 = .ok (.aload_n 0, 1) := by decide +kernel
theorem dX8_append_13 : decode cX8_append 13 = .ok (.getfield 9, 3) := by decide +kernel
theorem dX8_append_16 : decode cX8_append 16 = .ok (.aload_n 0, 1) := by decide +kernel
theorem dX8_append_17 : decode cX8_append 17 = .ok (.getfield 15, 3) := by decide +kernel
theorem dX8_append_20 : decode cX8_append 20 = .ok (.iload_n 1, 1) := by decide +kernel
theorem dX8_append_21 : decode cX8_append 21 = .ok (.castore, 1) := by decide +kernel
theorem dX8_append_22 : decode cX8_append 22 = .ok (.aload_n 0, 1) := by decide +kernel
theorem dX8_append_23 : decode cX8_append 23 = .ok (.dup, 1) := by decide +kernel
theorem dX8_append_24 : decode cX8_append 24 = .ok (.getfield 15, 3) := by decide +kernel
theorem dX8_append_27 : decode cX8_append 27 = .ok (.iconst 1, 1) := by decide +kernel
theorem dX8_append_28 : decode cX8_append 28 = .ok (.iadd, 1) := by decide +kernel
theorem dX8_append_29 : decode cX8_append 29 = .ok (.putfield 15, 3) := by decide +kernel
theorem dX8_append_32 : decode cX8_append 32 = .ok (.return_, 1) := by decide +kernel
theorem dX8_appendNumber_0 : decode cX8_appendNumber 0 = .ok (.iconst 1, 1) := by decide +kernel
theorem dX8_appendNumber_1 : decode cX8_appendNumber 1 = .ok (.istore_n 2, 1) := by decide +kernel
theorem dX8_appendNumber_2 : decode cX8_appendNumber 2 = .ok (.iload_n 2, 1) := by decide +kernel
theorem dX8_appendNumber_3 : decode cX8_appendNumber 3 = .ok (.iload_n 1, 1) := by decide +kernel
theorem dX8_appendNumber_4 : decode cX8_appendNumber 4 = .ok (.bipush 10, 2) := by decide +kernel
theorem dX8_appendNumber_6 : decode cX8_appendNumber 6 = .ok (.idiv, 1) := by decide +kernel
theorem dX8_appendNumber_7 : decode cX8_appendNumber 7 = .ok (.if_icmp .gt 11, 3) := by decide +kernel
theorem dX8_appendNumber_10 : decode cX8_appendNumber 10 = .ok (.iload_n 2, 1) := by decide +kernel
theorem dX8_appendNumber_11 : decode cX8_appendNumber 11 = .ok (.bipush 10, 2) := by decide +kernel
theorem dX8_appendNumber_13 : decode cX8_appendNumber 13 = .ok (.imul, 1) := by decide +kernel
theorem dX8_appendNumber_14 : decode cX8_appendNumber 14 = .ok (.istore_n 2, 1) := by decide +kernel
theorem dX8_appendNumber_15 : decode cX8_appendNumber 15 = .ok (.goto (-13), 3) := by decide +kernel
theorem dX8_appendNumber_18 : decode cX8_appendNumber 18 = .ok (.iload_n 2, 1) := by decide +kernel
theorem dX8_appendNumber_19 : decode cX8_appendNumber 19 = .ok (.istore_n 3, 1) := by decide +kernel
theorem dX8_appendNumber_20 : decode cX8_appendNumber 20 = .ok (.iload_n 3, 1) := by decide +kernel
theorem dX8_appendNumber_21 : decode cX8_appendNumber 21 = .ok (.ifCond .le 25, 3) := by decide +kernel
theorem dX8_appendNumber_24 : decode cX8_appendNumber 24 = .ok (.aload_n 0, 1) := by decide +kernel
theorem dX8_appendNumber_25 : decode cX8_appendNumber 25 = .ok (.bipush 48, 2) := by decide +kernel
theorem dX8_appendNumber_27 : decode cX8_appendNumber 27 = .ok (.iload_n 1, 1) := by decide +kernel
theorem dX8_appendNumber_28 : decode cX8_appendNumber 28 = .ok (.iload_n 3, 1) := by decide +kernel
theorem dX8_appendNumber_29 : decode cX8_appendNumber 29 = .ok (.idiv, 1) := by decide +kernel
theorem dX8_appendNumber_30 : decode cX8_appendNumber 30 = .ok (.bipush 10, 2) := by decide +kernel
theorem dX8_appendNumber_32 : decode cX8_appendNumber 32 = .ok (.irem, 1) := by decide +kernel
theorem dX8_appendNumber_33 : decode cX8_appendNumber 33 = .ok (.iadd, 1) := by decide +kernel
theorem dX8_appendNumber_34 : decode cX8_appendNumber 34 = .ok (.i2c, 1) := by decide +kernel
theorem dX8_appendNumber_35 : decode cX8_appendNumber 35 = .ok (.invokevirtual 19, 3) := by decide +kernel
theorem dX8_appendNumber_38 : decode cX8_appendNumber 38 = .ok (.iload_n 3, 1) := by decide +kernel
theorem dX8_appendNumber_39 : decode cX8_appendNumber 39 = .ok (.bipush 10, 2) := by decide +kernel
theorem dX8_appendNumber_41 : decode cX8_appendNumber 41 = .ok (.idiv, 1) := by decide +kernel
theorem dX8_appendNumber_42 : decode cX8_appendNumber 42 = .ok (.istore_n 3, 1) := by decide +kernel
theorem dX8_appendNumber_43 : decode cX8_appendNumber 43 = .ok (.goto (-23), 3) := by decide +kernel
theorem dX8_appendNumber_46 : decode cX8_appendNumber 46 = .ok (.return_, 1) := by decide +kernel
theorem dX8_hasAt_0 : decode cX8_hasAt 0 = .ok (.iload_n 1, 1) := by decide +kernel
theorem dX8_hasAt_1 : decode cX8_hasAt 1 = .ok (.ifCond .lt 25, 3) := by decide +kernel
theorem dX8_hasAt_4 : decode cX8_hasAt 4 = .ok (.iload_n 1, 1) := by decide +kernel
theorem dX8_hasAt_5 : decode cX8_hasAt 5 = .ok (.aload_n 0, 1) := by decide +kernel
theorem dX8_hasAt_6 : decode cX8_hasAt 6 = .ok (.getfield 15, 3) := by decide +kernel
theorem dX8_hasAt_9 : decode cX8_hasAt 9 = .ok (.if_icmp .ge 17, 3) := by decide +kernel
theorem dX8_hasAt_12 : decode cX8_hasAt 12 = .ok (.aload_n 0, 1) := by decide +kernel
theorem dX8_hasAt_13 : decode cX8_hasAt 13 = .ok (.getfield 9, 3) := by decide +kernel
theorem dX8_hasAt_16 : decode cX8_hasAt 16 = .ok (.iload_n 1, 1) := by decide +kernel
theorem dX8_hasAt_17 : decode cX8_hasAt 17 = .ok (.caload, 1) := by decide +kernel
theorem dX8_hasAt_18 : decode cX8_hasAt 18 = .ok (.iload_n 2, 1) := by decide +kernel
theorem dX8_hasAt_19 : decode cX8_hasAt 19 = .ok (.if_icmp .ne 7, 3) := by decide +kernel
theorem dX8_hasAt_22 : decode cX8_hasAt 22 = .ok (.iconst 1, 1) := by decide +kernel
theorem dX8_hasAt_23 : decode cX8_hasAt 23 = .ok (.goto 4, 3) := by decide +kernel
theorem dX8_hasAt_26 : decode cX8_hasAt 26 = .ok (.iconst 0, 1) := by decide +kernel
theorem dX8_hasAt_27 : decode cX8_hasAt 27 = .ok (.ireturn, 1) := by decide +kernel
theorem dX8_digitAt_0 : decode cX8_digitAt 0 = .ok (.iload_n 1, 1) := by decide +kernel
theorem dX8_digitAt_1 : decode cX8_digitAt 1 = .ok (.ifCond .lt 33, 3) := by decide +kernel
theorem dX8_digitAt_4 : decode cX8_digitAt 4 = .ok (.iload_n 1, 1) := by decide +kernel
theorem dX8_digitAt_5 : decode cX8_digitAt 5 = .ok (.aload_n 0, 1) := by decide +kernel
theorem dX8_digitAt_6 : decode cX8_digitAt 6 = .ok (.getfield 15, 3) := by decide +kernel
theorem dX8_digitAt_9 : decode cX8_digitAt 9 = .ok (.if_icmp .ge 25, 3) := by decide +kernel
theorem dX8_digitAt_12 : decode cX8_digitAt 12 = .ok (.aload_n 0, 1) := by decide +kernel
theorem dX8_digitAt_13 : decode cX8_digitAt 13 = .ok (.getfield 9, 3) := by decide +kernel
theorem dX8_digitAt_16 : decode cX8_digitAt 16 = .ok (.iload_n 1, 1) := by decide +kernel
theorem dX8_digitAt_17 : decode cX8_digitAt 17 = .ok (.caload, 1) := by decide +kernel
theorem dX8_digitAt_18 : decode cX8_digitAt 18 = .ok (.bipush 48, 2) := by decide +kernel
theorem dX8_digitAt_20 : decode cX8_digitAt 20 = .ok (.if_icmp .lt 14, 3) := by decide +kernel
theorem dX8_digitAt_23 : decode cX8_digitAt 23 = .ok (.aload_n 0, 1) := by decide +kernel
theorem dX8_digitAt_24 : decode cX8_digitAt 24 = .ok (.getfield 9, 3) := by decide +kernel
theorem dX8_digitAt_27 : decode cX8_digitAt 27 = .ok (.iload_n 1, 1) := by decide +kernel
theorem dX8_digitAt_28 : decode cX8_digitAt 28 = .ok (.caload, 1) := by decide +kernel
theorem dX8_digitAt_29 : decode cX8_digitAt 29 = .ok (.bipush 57, 2) := by decide +kernel
theorem dX8_digitAt_31 : decode cX8_digitAt 31 = .ok (.if_icmp .le 5, 3) := by decide +kernel
theorem dX8_digitAt_34 : decode cX8_digitAt 34 = .ok (.iconst (-1), 1) := by decide +kernel
theorem dX8_digitAt_35 : decode cX8_digitAt 35 = .ok (.ireturn, 1) := by decide +kernel
theorem dX8_digitAt_36 : decode cX8_digitAt 36 = .ok (.aload_n 0, 1) := by decide +kernel
theorem dX8_digitAt_37 : decode cX8_digitAt 37 = .ok (.getfield 9, 3) := by decide +kernel
theorem dX8_digitAt_40 : decode cX8_digitAt 40 = .ok (.iload_n 1, 1) := by decide +kernel
theorem dX8_digitAt_41 : decode cX8_digitAt 41 = .ok (.caload, 1) := by decide +kernel
theorem dX8_digitAt_42 : decode cX8_digitAt 42 = .ok (.bipush 48, 2) := by decide +kernel
theorem dX8_digitAt_44 : decode cX8_digitAt 44 = .ok (.isub, 1) := by decide +kernel
theorem dX8_digitAt_45 : decode cX8_digitAt 45 = .ok (.ireturn, 1) := by decide +kernel
theorem dX9_init_0 : decode cX9_init 0 = .ok (.aload_n 0, 1) := by decide +kernel
theorem dX9_init_1 : decode cX9_init 1 = .ok (.invokespecial 3, 3) := by decide +kernel
theorem dX9_init_4 : decode cX9_init 4 = .ok (.aload_n 0, 1) := by decide +kernel
theorem dX9_init_5 : decode cX9_init 5 = .ok (.new 9, 3) := by decide +kernel
theorem dX9_init_8 : decode cX9_init 8 = .ok (.dup, 1) := by decide +kernel
theorem dX9_init_9 : decode cX9_init 9 = .ok (.invokespecial 11, 3) := by decide +kernel
theorem dX9_init_12 : decode cX9_init 12 = .ok (.putfield 12, 3) := by decide +kernel
theorem dX9_init_15 : decode cX9_init 15 = .ok (.aload_n 0, 1) := by decide +kernel
theorem dX9_init_16 : decode cX9_init 16 = .ok (.new 9, 3) := by decide +kernel
theorem dX9_init_19 : decode cX9_init 19 = .ok (.dup, 1) := by decide +kernel
theorem dX9_init_20 : decode cX9_init 20 = .ok (.invokespecial 11, 3) := by decide +kernel
theorem dX9_init_23 : decode cX9_init 23 = .ok (.putfield 16, 3) := by decide +kernel
theorem dX9_init_26 : decode cX9_init 26 = .ok (.aload_n 0, 1) := by decide +kernel
theorem dX9_init_27 : decode cX9_init 27 = .ok (.new 9, 3) := by decide +kernel
theorem dX9_init_30 : decode cX9_init 30 = .ok (.dup, 1) := by decide +kernel
theorem dX9_init_31 : decode cX9_init 31 = .ok (.invokespecial 11, 3) := by decide +kernel
theorem dX9_init_34 : decode cX9_init 34 = .ok (.putfield 19, 3) := by decide +kernel
theorem dX9_init_37 : decode cX9_init 37 = .ok (.aload_n 0, 1) := by decide +kernel
theorem dX9_init_38 : decode cX9_init 38 = .ok (.new 22, 3) := by decide +kernel
theorem dX9_init_41 : decode cX9_init 41 = .ok (.dup, 1) := by decide +kernel
theorem dX9_init_42 : decode cX9_init 42 = .ok (.invokespecial 24, 3) := by decide +kernel
theorem dX9_init_45 : decode cX9_init 45 = .ok (.putfield 25, 3) := by decide +kernel
theorem dX9_init_48 : decode cX9_init 48 = .ok (.aload_n 0, 1) := by decide +kernel
theorem dX9_init_49 : decode cX9_init 49 = .ok (.new 29, 3) := by decide +kernel
theorem dX9_init_52 : decode cX9_init 52 = .ok (.dup, 1) := by decide +kernel
theorem dX9_init_53 : decode cX9_init 53 = .ok (.invokespecial 31, 3) := by decide +kernel
theorem dX9_init_56 : decode cX9_init 56 = .ok (.putfield 32, 3) := by decide +kernel
theorem dX9_init_59 : decode cX9_init 59 = .ok (.aload_n 0, 1) := by decide +kernel
theorem dX9_init_60 : decode cX9_init 60 = .ok (.new 36, 3) := by decide +kernel
theorem dX9_init_63 : decode cX9_init 63 = .ok (.dup, 1) := by decide +kernel
theorem dX9_init_64 : decode cX9_init 64 = .ok (.invokespecial 38, 3) := by decide +kernel
theorem dX9_init_67 : decode cX9_init 67 = .ok (.putfield 39, 3) := by decide +kernel
theorem dX9_init_70 : decode cX9_init 70 = .ok (.aload_n 0, 1) := by decide +kernel
theorem dX9_init_71 : decode cX9_init 71 = .ok (.new 43, 3) := by decide +kernel
theorem dX9_init_74 : decode cX9_init 74 = .ok (.dup, 1) := by decide +kernel
theorem dX9_init_75 : decode cX9_init 75 = .ok (.invokespecial 45, 3) := by decide +kernel
theorem dX9_init_78 : decode cX9_init 78 = .ok (.putfield 46, 3) := by decide +kernel
theorem dX9_init_81 : decode cX9_init 81 = .ok (.aload_n 0, 1) := by decide +kernel
theorem dX9_init_82 : decode cX9_init 82 = .ok (.new 50, 3) := by decide +kernel
theorem dX9_init_85 : decode cX9_init 85 = .ok (.dup, 1) := by decide +kernel
theorem dX9_init_86 : decode cX9_init 86 = .ok (.invokespecial 52, 3) := by decide +kernel
theorem dX9_init_89 : decode cX9_init 89 = .ok (.putfield 53, 3) := by decide +kernel
theorem dX9_init_92 : decode cX9_init 92 = .ok (.aload_n 0, 1) := by decide +kernel
theorem dX9_init_93 : decode cX9_init 93 = .ok (.new 50, 3) := by decide +kernel
theorem dX9_init_96 : decode cX9_init 96 = .ok (.dup, 1) := by decide +kernel
theorem dX9_init_97 : decode cX9_init 97 = .ok (.invokespecial 52, 3) := by decide +kernel
theorem dX9_init_100 : decode cX9_init 100 = .ok (.putfield 57, 3) := by decide +kernel
theorem dX9_init_103 : decode cX9_init 103 = .ok (.aload_n 0, 1) := by decide +kernel
theorem dX9_init_104 : decode cX9_init 104 = .ok (.iconst 0, 1) := by decide +kernel
theorem dX9_init_105 : decode cX9_init 105 = .ok (.putfield 60, 3) := by decide +kernel
theorem dX9_init_108 : decode cX9_init 108 = .ok (.aload_n 0, 1) := by decide +kernel
theorem dX9_init_109 : decode cX9_init 109 = .ok (.iconst (-1), 1) := by decide +kernel
theorem dX9_init_110 : decode cX9_init 110 = .ok (.putfield 64, 3) := by decide +kernel
theorem dX9_init_113 : decode cX9_init 113 = .ok (.aload_n 0, 1) := by decide +kernel
theorem dX9_init_114 : decode cX9_init 114 = .ok (.iconst (-1), 1) := by decide +kernel
theorem dX9_init_115 : decode cX9_init 115 = .ok (.putfield 68, 3) := by decide +kernel
theorem dX9_init_118 : decode cX9_init 118 = .ok (.return_, 1) := by decide +kernel
theorem dX9_addFlat_0 : decode cX9_addFlat 0 = .ok (.aload_n 0, 1) := by decide +kernel
theorem dX9_addFlat_1 : decode cX9_addFlat 1 = .ok (.getfield 12, 3) := by decide +kernel
theorem dX9_addFlat_4 : decode cX9_addFlat 4 = .ok (.iload_n 1, 1) := by decide +kernel
theorem dX9_addFlat_5 : decode cX9_addFlat 5 = .ok (.iload_n 2, 1) := by decide +kernel
theorem dX9_addFlat_6 : decode cX9_addFlat 6 = .ok (.invokevirtual 71, 3) := by decide +kernel
theorem dX9_addFlat_9 : decode cX9_addFlat 9 = .ok (.invokestatic 75, 3) := by decide +kernel
theorem dX9_addFlat_12 : decode cX9_addFlat 12 = .ok (.aload_n 0, 1) := by decide +kernel
theorem dX9_addFlat_13 : decode cX9_addFlat 13 = .ok (.getfield 25, 3) := by decide +kernel
theorem dX9_addFlat_16 : decode cX9_addFlat 16 = .ok (.aload_n 0, 1) := by decide +kernel
theorem dX9_addFlat_17 : decode cX9_addFlat 17 = .ok (.getfield 12, 3) := by decide +kernel
theorem dX9_addFlat_20 : decode cX9_addFlat 20 = .ok (.invokevirtual 79, 3) := by decide +kernel
theorem dX9_addFlat_23 : decode cX9_addFlat 23 = .ok (.aload_n 0, 1) := by decide +kernel
theorem dX9_addFlat_24 : decode cX9_addFlat 24 = .ok (.getfield 12, 3) := by decide +kernel
theorem dX9_addFlat_27 : decode cX9_addFlat 27 = .ok (.iload_n 1, 1) := by decide +kernel
theorem dX9_addFlat_28 : decode cX9_addFlat 28 = .ok (.iload_n 2, 1) := by decide +kernel
theorem dX9_addFlat_29 : decode cX9_addFlat 29 = .ok (.invokevirtual 83, 3) := by decide +kernel
theorem dX9_addFlat_32 : decode cX9_addFlat 32 = .ok (.ireturn, 1) := by decide +kernel
theorem dX9_addTenant_0 : decode cX9_addTenant 0 = .ok (.aload_n 0, 1) := by decide +kernel
theorem dX9_addTenant_1 : decode cX9_addTenant 1 = .ok (.getfield 12, 3) := by decide +kernel
theorem dX9_addTenant_4 : decode cX9_addTenant 4 = .ok (.iload_n 1, 1) := by decide +kernel
theorem dX9_addTenant_5 : decode cX9_addTenant 5 = .ok (.iload_n 2, 1) := by decide +kernel
theorem dX9_addTenant_6 : decode cX9_addTenant 6 = .ok (.iload_n 3, 1) := by decide +kernel
theorem dX9_addTenant_7 : decode cX9_addTenant 7 = .ok (.iload 4, 2) := by decide +kernel
theorem dX9_addTenant_9 : decode cX9_addTenant 9 = .ok (.invokevirtual 87, 3) := by decide +kernel
theorem dX9_addTenant_12 : decode cX9_addTenant 12 = .ok (.invokestatic 75, 3) := by decide +kernel
theorem dX9_addTenant_15 : decode cX9_addTenant 15 = .ok (.aload_n 0, 1) := by decide +kernel
theorem dX9_addTenant_16 : decode cX9_addTenant 16 = .ok (.getfield 25, 3) := by decide +kernel
theorem dX9_addTenant_19 : decode cX9_addTenant 19 = .ok (.aload_n 0, 1) := by decide +kernel
theorem dX9_addTenant_20 : decode cX9_addTenant 20 = .ok (.getfield 12, 3) := by decide +kernel
theorem dX9_addTenant_23 : decode cX9_addTenant 23 = .ok (.invokevirtual 79, 3) := by decide +kernel
theorem dX9_addTenant_26 : decode cX9_addTenant 26 = .ok (.aload_n 0, 1) := by decide +kernel
theorem dX9_addTenant_27 : decode cX9_addTenant 27 = .ok (.getfield 12, 3) := by decide +kernel
theorem dX9_addTenant_30 : decode cX9_addTenant 30 = .ok (.iload_n 1, 1) := by decide +kernel
theorem dX9_addTenant_31 : decode cX9_addTenant 31 = .ok (.iload_n 2, 1) := by decide +kernel
theorem dX9_addTenant_32 : decode cX9_addTenant 32 = .ok (.iload_n 3, 1) := by decide +kernel
theorem dX9_addTenant_33 : decode cX9_addTenant 33 = .ok (.iload 4, 2) := by decide +kernel
theorem dX9_addTenant_35 : decode cX9_addTenant 35 = .ok (.invokevirtual 91, 3) := by decide +kernel
theorem dX9_addTenant_38 : decode cX9_addTenant 38 = .ok (.ireturn, 1) := by decide +kernel
theorem dX9_removeTenant_0 : decode cX9_removeTenant 0 = .ok (.aload_n 0, 1) := by decide +kernel
theorem dX9_removeTenant_1 : decode cX9_removeTenant 1 = .ok (.getfield 12, 3) := by decide +kernel
theorem dX9_removeTenant_4 : decode cX9_removeTenant 4 = .ok (.iload_n 1, 1) := by decide +kernel
theorem dX9_removeTenant_5 : decode cX9_removeTenant 5 = .ok (.invokevirtual 95, 3) := by decide +kernel
theorem dX9_removeTenant_8 : decode cX9_removeTenant 8 = .ok (.invokestatic 75, 3) := by decide +kernel
theorem dX9_removeTenant_11 : decode cX9_removeTenant 11 = .ok (.aload_n 0, 1) := by decide +kernel
theorem dX9_removeTenant_12 : decode cX9_removeTenant 12 = .ok (.getfield 25, 3) := by decide +kernel
theorem dX9_removeTenant_15 : decode cX9_removeTenant 15 = .ok (.aload_n 0, 1) := by decide +kernel
theorem dX9_removeTenant_16 : decode cX9_removeTenant 16 = .ok (.getfield 12, 3) := by decide +kernel
theorem dX9_removeTenant_19 : decode cX9_removeTenant 19 = .ok (.invokevirtual 79, 3) := by decide +kernel
theorem dX9_removeTenant_22 : decode cX9_removeTenant 22 = .ok (.aload_n 0, 1) := by decide +kernel
theorem dX9_removeTenant_23 : decode cX9_removeTenant 23 = .ok (.getfield 12, 3) := by decide +kernel
theorem dX9_removeTenant_26 : decode cX9_removeTenant 26 = .ok (.aload_n 0, 1) := by decide +kernel
theorem dX9_removeTenant_27 : decode cX9_removeTenant 27 = .ok (.getfield 12, 3) := by decide +kernel
theorem dX9_removeTenant_30 : decode cX9_removeTenant 30 = .ok (.iload_n 1, 1) := by decide +kernel
theorem dX9_removeTenant_31 : decode cX9_removeTenant 31 = .ok (.invokevirtual 99, 3) := by decide +kernel
theorem dX9_removeTenant_34 : decode cX9_removeTenant 34 = .ok (.invokevirtual 103, 3) := by decide +kernel
theorem dX9_removeTenant_37 : decode cX9_removeTenant 37 = .ok (.ireturn, 1) := by decide +kernel
theorem dX9_moveIn_0 : decode cX9_moveIn 0 = .ok (.aload_n 0, 1) := by decide +kernel
theorem dX9_moveIn_1 : decode cX9_moveIn 1 = .ok (.getfield 12, 3) := by decide +kernel
theorem dX9_moveIn_4 : decode cX9_moveIn 4 = .ok (.iload_n 1, 1) := by decide +kernel
theorem dX9_moveIn_5 : decode cX9_moveIn 5 = .ok (.iload_n 2, 1) := by decide +kernel
theorem dX9_moveIn_6 : decode cX9_moveIn 6 = .ok (.invokevirtual 106, 3) := by decide +kernel
theorem dX9_moveIn_9 : decode cX9_moveIn 9 = .ok (.invokestatic 75, 3) := by decide +kernel
theorem dX9_moveIn_12 : decode cX9_moveIn 12 = .ok (.aload_n 0, 1) := by decide +kernel
theorem dX9_moveIn_13 : decode cX9_moveIn 13 = .ok (.getfield 25, 3) := by decide +kernel
theorem dX9_moveIn_16 : decode cX9_moveIn 16 = .ok (.aload_n 0, 1) := by decide +kernel
theorem dX9_moveIn_17 : decode cX9_moveIn 17 = .ok (.getfield 12, 3) := by decide +kernel
theorem dX9_moveIn_20 : decode cX9_moveIn 20 = .ok (.invokevirtual 79, 3) := by decide +kernel
theorem dX9_moveIn_23 : decode cX9_moveIn 23 = .ok (.aload_n 0, 1) := by decide +kernel
theorem dX9_moveIn_24 : decode cX9_moveIn 24 = .ok (.getfield 12, 3) := by decide +kernel
theorem dX9_moveIn_27 : decode cX9_moveIn 27 = .ok (.aload_n 0, 1) := by decide +kernel
theorem dX9_moveIn_28 : decode cX9_moveIn 28 = .ok (.getfield 12, 3) := by decide +kernel
theorem dX9_moveIn_31 : decode cX9_moveIn 31 = .ok (.iload_n 1, 1) := by decide +kernel
theorem dX9_moveIn_32 : decode cX9_moveIn 32 = .ok (.invokevirtual 99, 3) := by decide +kernel
theorem dX9_moveIn_35 : decode cX9_moveIn 35 = .ok (.iload_n 2, 1) := by decide +kernel
theorem dX9_moveIn_36 : decode cX9_moveIn 36 = .ok (.invokevirtual 109, 3) := by decide +kernel
theorem dX9_moveIn_39 : decode cX9_moveIn 39 = .ok (.ireturn, 1) := by decide +kernel
theorem dX9_moveOut_0 : decode cX9_moveOut 0 = .ok (.aload_n 0, 1) := by decide +kernel
theorem dX9_moveOut_1 : decode cX9_moveOut 1 = .ok (.getfield 12, 3) := by decide +kernel
theorem dX9_moveOut_4 : decode cX9_moveOut 4 = .ok (.iload_n 1, 1) := by decide +kernel
theorem dX9_moveOut_5 : decode cX9_moveOut 5 = .ok (.invokevirtual 112, 3) := by decide +kernel
theorem dX9_moveOut_8 : decode cX9_moveOut 8 = .ok (.invokestatic 75, 3) := by decide +kernel
theorem dX9_moveOut_11 : decode cX9_moveOut 11 = .ok (.aload_n 0, 1) := by decide +kernel
theorem dX9_moveOut_12 : decode cX9_moveOut 12 = .ok (.getfield 25, 3) := by decide +kernel
theorem dX9_moveOut_15 : decode cX9_moveOut 15 = .ok (.aload_n 0, 1) := by decide +kernel
theorem dX9_moveOut_16 : decode cX9_moveOut 16 = .ok (.getfield 12, 3) := by decide +kernel
theorem dX9_moveOut_19 : decode cX9_moveOut 19 = .ok (.invokevirtual 79, 3) := by decide +kernel
theorem dX9_moveOut_22 : decode cX9_moveOut 22 = .ok (.aload_n 0, 1) := by decide +kernel
theorem dX9_moveOut_23 : decode cX9_moveOut 23 = .ok (.getfield 12, 3) := by decide +kernel
theorem dX9_moveOut_26 : decode cX9_moveOut 26 = .ok (.aload_n 0, 1) := by decide +kernel
theorem dX9_moveOut_27 : decode cX9_moveOut 27 = .ok (.getfield 12, 3) := by decide +kernel
theorem dX9_moveOut_30 : decode cX9_moveOut 30 = .ok (.iload_n 1, 1) := by decide +kernel
theorem dX9_moveOut_31 : decode cX9_moveOut 31 = .ok (.invokevirtual 99, 3) := by decide +kernel
theorem dX9_moveOut_34 : decode cX9_moveOut 34 = .ok (.invokevirtual 115, 3) := by decide +kernel
theorem dX9_moveOut_37 : decode cX9_moveOut 37 = .ok (.ireturn, 1) := by decide +kernel
theorem dX9_setRent_0 : decode cX9_setRent 0 = .ok (.aload_n 0, 1) := by decide +kernel
theorem dX9_setRent_1 : decode cX9_setRent 1 = .ok (.getfield 12, 3) := by decide +kernel
theorem dX9_setRent_4 : decode cX9_setRent 4 = .ok (.iload_n 1, 1) := by decide +kernel
theorem dX9_setRent_5 : decode cX9_setRent 5 = .ok (.iload_n 2, 1) := by decide +kernel
theorem dX9_setRent_6 : decode cX9_setRent 6 = .ok (.invokevirtual 118, 3) := by decide +kernel
theorem dX9_setRent_9 : decode cX9_setRent 9 = .ok (.invokestatic 75, 3) := by decide +kernel
theorem dX9_setRent_12 : decode cX9_setRent 12 = .ok (.aload_n 0, 1) := by decide +kernel
theorem dX9_setRent_13 : decode cX9_setRent 13 = .ok (.getfield 25, 3) := by decide +kernel
theorem dX9_setRent_16 : decode cX9_setRent 16 = .ok (.aload_n 0, 1) := by decide +kernel
theorem dX9_setRent_17 : decode cX9_setRent 17 = .ok (.getfield 12, 3) := by decide +kernel
theorem dX9_setRent_20 : decode cX9_setRent 20 = .ok (.invokevirtual 79, 3) := by decide +kernel
theorem dX9_setRent_23 : decode cX9_setRent 23 = .ok (.aload_n 0, 1) := by decide +kernel
theorem dX9_setRent_24 : decode cX9_setRent 24 = .ok (.getfield 12, 3) := by decide +kernel
theorem dX9_setRent_27 : decode cX9_setRent 27 = .ok (.iload_n 1, 1) := by decide +kernel
theorem dX9_setRent_28 : decode cX9_setRent 28 = .ok (.iload_n 2, 1) := by decide +kernel
theorem dX9_setRent_29 : decode cX9_setRent 29 = .ok (.invokevirtual 121, 3) := by decide +kernel
theorem dX9_setRent_32 : decode cX9_setRent 32 = .ok (.ireturn, 1) := by decide +kernel
theorem dX9_give_0 : decode cX9_give 0 = .ok (.aload_n 0, 1) := by decide +kernel
theorem dX9_give_1 : decode cX9_give 1 = .ok (.getfield 12, 3) := by decide +kernel
theorem dX9_give_4 : decode cX9_give 4 = .ok (.iload_n 1, 1) := by decide +kernel
theorem dX9_give_5 : decode cX9_give 5 = .ok (.iload_n 2, 1) := by decide +kernel
theorem dX9_give_6 : decode cX9_give 6 = .ok (.invokevirtual 124, 3) := by decide +kernel
theorem dX9_give_9 : decode cX9_give 9 = .ok (.invokestatic 75, 3) := by decide +kernel
theorem dX9_give_12 : decode cX9_give 12 = .ok (.aload_n 0, 1) := by decide +kernel
theorem dX9_give_13 : decode cX9_give 13 = .ok (.getfield 25, 3) := by decide +kernel
theorem dX9_give_16 : decode cX9_give 16 = .ok (.aload_n 0, 1) := by decide +kernel
theorem dX9_give_17 : decode cX9_give 17 = .ok (.getfield 12, 3) := by decide +kernel
theorem dX9_give_20 : decode cX9_give 20 = .ok (.invokevirtual 79, 3) := by decide +kernel
theorem dX9_give_23 : decode cX9_give 23 = .ok (.aload_n 0, 1) := by decide +kernel
theorem dX9_give_24 : decode cX9_give 24 = .ok (.getfield 12, 3) := by decide +kernel
theorem dX9_give_27 : decode cX9_give 27 = .ok (.aload_n 0, 1) := by decide +kernel
theorem dX9_give_28 : decode cX9_give 28 = .ok (.getfield 12, 3) := by decide +kernel
theorem dX9_give_31 : decode cX9_give 31 = .ok (.iload_n 1, 1) := by decide +kernel
theorem dX9_give_32 : decode cX9_give 32 = .ok (.invokevirtual 99, 3) := by decide +kernel
theorem dX9_give_35 : decode cX9_give 35 = .ok (.iload_n 2, 1) := by decide +kernel
theorem dX9_give_36 : decode cX9_give 36 = .ok (.invokevirtual 127, 3) := by decide +kernel
theorem dX9_give_39 : decode cX9_give 39 = .ok (.ireturn, 1) := by decide +kernel
theorem dX9_settle_0 : decode cX9_settle 0 = .ok (.aload_n 0, 1) := by decide +kernel
theorem dX9_settle_1 : decode cX9_settle 1 = .ok (.getfield 25, 3) := by decide +kernel
theorem dX9_settle_4 : decode cX9_settle 4 = .ok (.aload_n 0, 1) := by decide +kernel
theorem dX9_settle_5 : decode cX9_settle 5 = .ok (.getfield 12, 3) := by decide +kernel
theorem dX9_settle_8 : decode cX9_settle 8 = .ok (.invokevirtual 79, 3) := by decide +kernel
theorem dX9_settle_11 : decode cX9_settle 11 = .ok (.aload_n 0, 1) := by decide +kernel
theorem dX9_settle_12 : decode cX9_settle 12 = .ok (.getfield 12, 3) := by decide +kernel
theorem dX9_settle_15 : decode cX9_settle 15 = .ok (.aload_n 0, 1) := by decide +kernel
theorem dX9_settle_16 : decode cX9_settle 16 = .ok (.getfield 32, 3) := by decide +kernel
theorem dX9_settle_19 : decode cX9_settle 19 = .ok (.aload_n 0, 1) := by decide +kernel
theorem dX9_settle_20 : decode cX9_settle 20 = .ok (.getfield 12, 3) := by decide +kernel
theorem dX9_settle_23 : decode cX9_settle 23 = .ok (.invokevirtual 130, 3) := by decide +kernel
theorem dX9_settle_26 : decode cX9_settle 26 = .ok (.invokevirtual 134, 3) := by decide +kernel
theorem dX9_settle_29 : decode cX9_settle 29 = .ok (.ireturn, 1) := by decide +kernel
theorem dX9_pass_0 : decode cX9_pass 0 = .ok (.aload_n 0, 1) := by decide +kernel
theorem dX9_pass_1 : decode cX9_pass 1 = .ok (.getfield 12, 3) := by decide +kernel
theorem dX9_pass_4 : decode cX9_pass 4 = .ok (.iload_n 1, 1) := by decide +kernel
theorem dX9_pass_5 : decode cX9_pass 5 = .ok (.invokevirtual 138, 3) := by decide +kernel
theorem dX9_pass_8 : decode cX9_pass 8 = .ok (.invokestatic 75, 3) := by decide +kernel
theorem dX9_pass_11 : decode cX9_pass 11 = .ok (.aload_n 0, 1) := by decide +kernel
theorem dX9_pass_12 : decode cX9_pass 12 = .ok (.getfield 25, 3) := by decide +kernel
theorem dX9_pass_15 : decode cX9_pass 15 = .ok (.aload_n 0, 1) := by decide +kernel
theorem dX9_pass_16 : decode cX9_pass 16 = .ok (.getfield 12, 3) := by decide +kernel
theorem dX9_pass_19 : decode cX9_pass 19 = .ok (.invokevirtual 79, 3) := by decide +kernel
theorem dX9_pass_22 : decode cX9_pass 22 = .ok (.aload_n 0, 1) := by decide +kernel
theorem dX9_pass_23 : decode cX9_pass 23 = .ok (.getfield 12, 3) := by decide +kernel
theorem dX9_pass_26 : decode cX9_pass 26 = .ok (.iload_n 1, 1) := by decide +kernel
theorem dX9_pass_27 : decode cX9_pass 27 = .ok (.invokevirtual 141, 3) := by decide +kernel
theorem dX9_pass_30 : decode cX9_pass 30 = .ok (.ireturn, 1) := by decide +kernel
theorem dX9_flats_0 : decode cX9_flats 0 = .ok (.aload_n 0, 1) := by decide +kernel
theorem dX9_flats_1 : decode cX9_flats 1 = .ok (.getfield 12, 3) := by decide +kernel
theorem dX9_flats_4 : decode cX9_flats 4 = .ok (.getfield 144, 3) := by decide +kernel
theorem dX9_flats_7 : decode cX9_flats 7 = .ok (.ireturn, 1) := by decide +kernel
theorem dX9_floorOf_0 : decode cX9_floorOf 0 = .ok (.aload_n 0, 1) := by decide +kernel
theorem dX9_floorOf_1 : decode cX9_floorOf 1 = .ok (.iload_n 1, 1) := by decide +kernel
theorem dX9_floorOf_2 : decode cX9_floorOf 2 = .ok (.invokevirtual 147, 3) := by decide +kernel
theorem dX9_floorOf_5 : decode cX9_floorOf 5 = .ok (.aload_n 0, 1) := by decide +kernel
theorem dX9_floorOf_6 : decode cX9_floorOf 6 = .ok (.getfield 12, 3) := by decide +kernel
theorem dX9_floorOf_9 : decode cX9_floorOf 9 = .ok (.getfield 151, 3) := by decide +kernel
theorem dX9_floorOf_12 : decode cX9_floorOf 12 = .ok (.iload_n 1, 1) := by decide +kernel
theorem dX9_floorOf_13 : decode cX9_floorOf 13 = .ok (.iaload, 1) := by decide +kernel
theorem dX9_floorOf_14 : decode cX9_floorOf 14 = .ok (.ireturn, 1) := by decide +kernel
theorem dX9_rentOf_0 : decode cX9_rentOf 0 = .ok (.aload_n 0, 1) := by decide +kernel
theorem dX9_rentOf_1 : decode cX9_rentOf 1 = .ok (.iload_n 1, 1) := by decide +kernel
theorem dX9_rentOf_2 : decode cX9_rentOf 2 = .ok (.invokevirtual 147, 3) := by decide +kernel
theorem dX9_rentOf_5 : decode cX9_rentOf 5 = .ok (.aload_n 0, 1) := by decide +kernel
theorem dX9_rentOf_6 : decode cX9_rentOf 6 = .ok (.getfield 12, 3) := by decide +kernel
theorem dX9_rentOf_9 : decode cX9_rentOf 9 = .ok (.getfield 155, 3) := by decide +kernel
theorem dX9_rentOf_12 : decode cX9_rentOf 12 = .ok (.iload_n 1, 1) := by decide +kernel
theorem dX9_rentOf_13 : decode cX9_rentOf 13 = .ok (.iaload, 1) := by decide +kernel
theorem dX9_rentOf_14 : decode cX9_rentOf 14 = .ok (.ireturn, 1) := by decide +kernel
theorem dX9_tenantIn_0 : decode cX9_tenantIn 0 = .ok (.aload_n 0, 1) := by decide +kernel
theorem dX9_tenantIn_1 : decode cX9_tenantIn 1 = .ok (.iload_n 1, 1) := by decide +kernel
theorem dX9_tenantIn_2 : decode cX9_tenantIn 2 = .ok (.invokevirtual 147, 3) := by decide +kernel
theorem dX9_tenantIn_5 : decode cX9_tenantIn 5 = .ok (.aload_n 0, 1) := by decide +kernel
theorem dX9_tenantIn_6 : decode cX9_tenantIn 6 = .ok (.getfield 12, 3) := by decide +kernel
theorem dX9_tenantIn_9 : decode cX9_tenantIn 9 = .ok (.iload_n 1, 1) := by decide +kernel
theorem dX9_tenantIn_10 : decode cX9_tenantIn 10 = .ok (.invokevirtual 158, 3) := by decide +kernel
theorem dX9_tenantIn_13 : decode cX9_tenantIn 13 = .ok (.istore_n 2, 1) := by decide +kernel
theorem dX9_tenantIn_14 : decode cX9_tenantIn 14 = .ok (.iload_n 2, 1) := by decide +kernel
theorem dX9_tenantIn_15 : decode cX9_tenantIn 15 = .ok (.iconst (-1), 1) := by decide +kernel
theorem dX9_tenantIn_16 : decode cX9_tenantIn 16 = .ok (.if_icmp .ne 13, 3) := by decide +kernel
theorem dX9_tenantIn_19 : decode cX9_tenantIn 19 = .ok (.new 161, 3) := by decide +kernel
theorem dX9_tenantIn_22 : decode cX9_tenantIn 22 = .ok (.dup, 1) := by decide +kernel
theorem dX9_tenantIn_23 : decode cX9_tenantIn 23 = .ok (.ldc 163, 2) := by decide +kernel
theorem dX9_tenantIn_25 : decode cX9_tenantIn 25 = .ok (.invokespecial 165, 3) := by decide +kernel
theorem dX9_tenantIn_28 : decode cX9_tenantIn 28 = .ok (.athrow, 1) := by decide +kernel
theorem dX9_tenantIn_29 : decode cX9_tenantIn 29 = .ok (.aload_n 0, 1) := by decide +kernel
theorem dX9_tenantIn_30 : decode cX9_tenantIn 30 = .ok (.getfield 12, 3) := by decide +kernel
theorem dX9_tenantIn_33 : decode cX9_tenantIn 33 = .ok (.getfield 168, 3) := by decide +kernel
theorem dX9_tenantIn_36 : decode cX9_tenantIn 36 = .ok (.iload_n 2, 1) := by decide +kernel
theorem dX9_tenantIn_37 : decode cX9_tenantIn 37 = .ok (.iaload, 1) := by decide +kernel
theorem dX9_tenantIn_38 : decode cX9_tenantIn 38 = .ok (.ireturn, 1) := by decide +kernel
theorem dX9_vacantFlats_0 : decode cX9_vacantFlats 0 = .ok (.aload_n 0, 1) := by decide +kernel
theorem dX9_vacantFlats_1 : decode cX9_vacantFlats 1 = .ok (.getfield 12, 3) := by decide +kernel
theorem dX9_vacantFlats_4 : decode cX9_vacantFlats 4 = .ok (.getfield 144, 3) := by decide +kernel
theorem dX9_vacantFlats_7 : decode cX9_vacantFlats 7 = .ok (.aload_n 0, 1) := by decide +kernel
theorem dX9_vacantFlats_8 : decode cX9_vacantFlats 8 = .ok (.getfield 12, 3) := by decide +kernel
theorem dX9_vacantFlats_11 : decode cX9_vacantFlats 11 = .ok (.invokevirtual 171, 3) := by decide +kernel
theorem dX9_vacantFlats_14 : decode cX9_vacantFlats 14 = .ok (.isub, 1) := by decide +kernel
theorem dX9_vacantFlats_15 : decode cX9_vacantFlats 15 = .ok (.ireturn, 1) := by decide +kernel
theorem dX9_tenants_0 : decode cX9_tenants 0 = .ok (.aload_n 0, 1) := by decide +kernel
theorem dX9_tenants_1 : decode cX9_tenants 1 = .ok (.getfield 12, 3) := by decide +kernel
theorem dX9_tenants_4 : decode cX9_tenants 4 = .ok (.getfield 175, 3) := by decide +kernel
theorem dX9_tenants_7 : decode cX9_tenants 7 = .ok (.ireturn, 1) := by decide +kernel
theorem dX9_isPresent_0 : decode cX9_isPresent 0 = .ok (.aload_n 0, 1) := by decide +kernel
theorem dX9_isPresent_1 : decode cX9_isPresent 1 = .ok (.getfield 12, 3) := by decide +kernel
theorem dX9_isPresent_4 : decode cX9_isPresent 4 = .ok (.iload_n 1, 1) := by decide +kernel
theorem dX9_isPresent_5 : decode cX9_isPresent 5 = .ok (.invokevirtual 99, 3) := by decide +kernel
theorem dX9_isPresent_8 : decode cX9_isPresent 8 = .ok (.iconst (-1), 1) := by decide +kernel
theorem dX9_isPresent_9 : decode cX9_isPresent 9 = .ok (.if_icmp .eq 7, 3) := by decide +kernel
theorem dX9_isPresent_12 : decode cX9_isPresent 12 = .ok (.iconst 1, 1) := by decide +kernel
theorem dX9_isPresent_13 : decode cX9_isPresent 13 = .ok (.goto 4, 3) := by decide +kernel
theorem dX9_isPresent_16 : decode cX9_isPresent 16 = .ok (.iconst 0, 1) := by decide +kernel
theorem dX9_isPresent_17 : decode cX9_isPresent 17 = .ok (.ireturn, 1) := by decide +kernel
theorem dX9_weightOf_0 : decode cX9_weightOf 0 = .ok (.aload_n 0, 1) := by decide +kernel
theorem dX9_weightOf_1 : decode cX9_weightOf 1 = .ok (.getfield 12, 3) := by decide +kernel
theorem dX9_weightOf_4 : decode cX9_weightOf 4 = .ok (.getfield 178, 3) := by decide +kernel
theorem dX9_weightOf_7 : decode cX9_weightOf 7 = .ok (.aload_n 0, 1) := by decide +kernel
theorem dX9_weightOf_8 : decode cX9_weightOf 8 = .ok (.iload_n 1, 1) := by decide +kernel
theorem dX9_weightOf_9 : decode cX9_weightOf 9 = .ok (.invokevirtual 181, 3) := by decide +kernel
theorem dX9_weightOf_12 : decode cX9_weightOf 12 = .ok (.iaload, 1) := by decide +kernel
theorem dX9_weightOf_13 : decode cX9_weightOf 13 = .ok (.ireturn, 1) := by decide +kernel
theorem dX9_purseOf_0 : decode cX9_purseOf 0 = .ok (.aload_n 0, 1) := by decide +kernel
theorem dX9_purseOf_1 : decode cX9_purseOf 1 = .ok (.getfield 12, 3) := by decide +kernel
theorem dX9_purseOf_4 : decode cX9_purseOf 4 = .ok (.getfield 184, 3) := by decide +kernel
theorem dX9_purseOf_7 : decode cX9_purseOf 7 = .ok (.aload_n 0, 1) := by decide +kernel
theorem dX9_purseOf_8 : decode cX9_purseOf 8 = .ok (.iload_n 1, 1) := by decide +kernel
theorem dX9_purseOf_9 : decode cX9_purseOf 9 = .ok (.invokevirtual 181, 3) := by decide +kernel
theorem dX9_purseOf_12 : decode cX9_purseOf 12 = .ok (.iaload, 1) := by decide +kernel
theorem dX9_purseOf_13 : decode cX9_purseOf 13 = .ok (.ireturn, 1) := by decide +kernel
theorem dX9_noticesOf_0 : decode cX9_noticesOf 0 = .ok (.aload_n 0, 1) := by decide +kernel
theorem dX9_noticesOf_1 : decode cX9_noticesOf 1 = .ok (.getfield 12, 3) := by decide +kernel
theorem dX9_noticesOf_4 : decode cX9_noticesOf 4 = .ok (.getfield 187, 3) := by decide +kernel
theorem dX9_noticesOf_7 : decode cX9_noticesOf 7 = .ok (.aload_n 0, 1) := by decide +kernel
theorem dX9_noticesOf_8 : decode cX9_noticesOf 8 = .ok (.iload_n 1, 1) := by decide +kernel
theorem dX9_noticesOf_9 : decode cX9_noticesOf 9 = .ok (.invokevirtual 181, 3) := by decide +kernel
theorem dX9_noticesOf_12 : decode cX9_noticesOf 12 = .ok (.iaload, 1) := by decide +kernel
theorem dX9_noticesOf_13 : decode cX9_noticesOf 13 = .ok (.ireturn, 1) := by decide +kernel
theorem dX9_flatOf_0 : decode cX9_flatOf 0 = .ok (.aload_n 0, 1) := by decide +kernel
theorem dX9_flatOf_1 : decode cX9_flatOf 1 = .ok (.getfield 12, 3) := by decide +kernel
theorem dX9_flatOf_4 : decode cX9_flatOf 4 = .ok (.getfield 190, 3) := by decide +kernel
theorem dX9_flatOf_7 : decode cX9_flatOf 7 = .ok (.aload_n 0, 1) := by decide +kernel
theorem dX9_flatOf_8 : decode cX9_flatOf 8 = .ok (.iload_n 1, 1) := by decide +kernel
theorem dX9_flatOf_9 : decode cX9_flatOf 9 = .ok (.invokevirtual 193, 3) := by decide +kernel
theorem dX9_flatOf_12 : decode cX9_flatOf 12 = .ok (.iaload, 1) := by decide +kernel
theorem dX9_flatOf_13 : decode cX9_flatOf 13 = .ok (.ireturn, 1) := by decide +kernel
theorem dX9_burden_0 : decode cX9_burden 0 = .ok (.aload_n 0, 1) := by decide +kernel
theorem dX9_burden_1 : decode cX9_burden 1 = .ok (.iload_n 1, 1) := by decide +kernel
theorem dX9_burden_2 : decode cX9_burden 2 = .ok (.invokevirtual 181, 3) := by decide +kernel
theorem dX9_burden_5 : decode cX9_burden 5 = .ok (.istore_n 3, 1) := by decide +kernel
theorem dX9_burden_6 : decode cX9_burden 6 = .ok (.aload_n 0, 1) := by decide +kernel
theorem dX9_burden_7 : decode cX9_burden 7 = .ok (.iload_n 2, 1) := by decide +kernel
theorem dX9_burden_8 : decode cX9_burden 8 = .ok (.invokevirtual 147, 3) := by decide +kernel
theorem dX9_burden_11 : decode cX9_burden 11 = .ok (.aload_n 0, 1) := by decide +kernel
theorem dX9_burden_12 : decode cX9_burden 12 = .ok (.getfield 12, 3) := by decide +kernel
theorem dX9_burden_15 : decode cX9_burden 15 = .ok (.iload_n 3, 1) := by decide +kernel
theorem dX9_burden_16 : decode cX9_burden 16 = .ok (.iload_n 2, 1) := by decide +kernel
theorem dX9_burden_17 : decode cX9_burden 17 = .ok (.invokevirtual 196, 3) := by decide +kernel
theorem dX9_burden_20 : decode cX9_burden 20 = .ok (.ireturn, 1) := by decide +kernel
theorem dX9_flatByRank_0 : decode cX9_flatByRank 0 = .ok (.aload_n 0, 1) := by decide +kernel
theorem dX9_flatByRank_1 : decode cX9_flatByRank 1 = .ok (.iload_n 1, 1) := by decide +kernel
theorem dX9_flatByRank_2 : decode cX9_flatByRank 2 = .ok (.invokevirtual 181, 3) := by decide +kernel
theorem dX9_flatByRank_5 : decode cX9_flatByRank 5 = .ok (.istore_n 3, 1) := by decide +kernel
theorem dX9_flatByRank_6 : decode cX9_flatByRank 6 = .ok (.iconst 0, 1) := by decide +kernel
theorem dX9_flatByRank_7 : decode cX9_flatByRank 7 = .ok (.istore 4, 2) := by decide +kernel
theorem dX9_flatByRank_9 : decode cX9_flatByRank 9 = .ok (.iload 4, 2) := by decide +kernel
theorem dX9_flatByRank_11 : decode cX9_flatByRank 11 = .ok (.aload_n 0, 1) := by decide +kernel
theorem dX9_flatByRank_12 : decode cX9_flatByRank 12 = .ok (.getfield 12, 3) := by decide +kernel
theorem dX9_flatByRank_15 : decode cX9_flatByRank 15 = .ok (.getfield 144, 3) := by decide +kernel
theorem dX9_flatByRank_18 : decode cX9_flatByRank 18 = .ok (.if_icmp .ge 26, 3) := by decide +kernel
theorem dX9_flatByRank_21 : decode cX9_flatByRank 21 = .ok (.aload_n 0, 1) := by decide +kernel
theorem dX9_flatByRank_22 : decode cX9_flatByRank 22 = .ok (.getfield 12, 3) := by decide +kernel
theorem dX9_flatByRank_25 : decode cX9_flatByRank 25 = .ok (.iload_n 3, 1) := by decide +kernel
theorem dX9_flatByRank_26 : decode cX9_flatByRank 26 = .ok (.iload 4, 2) := by decide +kernel
theorem dX9_flatByRank_28 : decode cX9_flatByRank 28 = .ok (.invokevirtual 199, 3) := by decide +kernel
theorem dX9_flatByRank_31 : decode cX9_flatByRank 31 = .ok (.iload_n 2, 1) := by decide +kernel
theorem dX9_flatByRank_32 : decode cX9_flatByRank 32 = .ok (.if_icmp .ne 6, 3) := by decide +kernel
theorem dX9_flatByRank_35 : decode cX9_flatByRank 35 = .ok (.iload 4, 2) := by decide +kernel
theorem dX9_flatByRank_37 : decode cX9_flatByRank 37 = .ok (.ireturn, 1) := by decide +kernel
theorem dX9_flatByRank_38 : decode cX9_flatByRank 38 = .ok (.iinc 4 1, 3) := by decide +kernel
theorem dX9_flatByRank_41 : decode cX9_flatByRank 41 = .ok (.goto (-32), 3) := by decide +kernel
theorem dX9_flatByRank_44 : decode cX9_flatByRank 44 = .ok (.new 161, 3) := by decide +kernel
theorem dX9_flatByRank_47 : decode cX9_flatByRank 47 = .ok (.dup, 1) := by decide +kernel
theorem dX9_flatByRank_48 : decode cX9_flatByRank 48 = .ok (.ldc 202, 2) := by decide +kernel
theorem dX9_flatByRank_50 : decode cX9_flatByRank 50 = .ok (.invokespecial 165, 3) := by decide +kernel
theorem dX9_flatByRank_53 : decode cX9_flatByRank 53 = .ok (.athrow, 1) := by decide +kernel
theorem dX9_tenantByPurse_0 : decode cX9_tenantByPurse 0 = .ok (.iconst 0, 1) := by decide +kernel
theorem dX9_tenantByPurse_1 : decode cX9_tenantByPurse 1 = .ok (.istore_n 2, 1) := by decide +kernel
theorem dX9_tenantByPurse_2 : decode cX9_tenantByPurse 2 = .ok (.iload_n 2, 1) := by decide +kernel
theorem dX9_tenantByPurse_3 : decode cX9_tenantByPurse 3 = .ok (.aload_n 0, 1) := by decide +kernel
theorem dX9_tenantByPurse_4 : decode cX9_tenantByPurse 4 = .ok (.getfield 12, 3) := by decide +kernel
theorem dX9_tenantByPurse_7 : decode cX9_tenantByPurse 7 = .ok (.getfield 175, 3) := by decide +kernel
theorem dX9_tenantByPurse_10 : decode cX9_tenantByPurse 10 = .ok (.if_icmp .ge 31, 3) := by decide +kernel
theorem dX9_tenantByPurse_13 : decode cX9_tenantByPurse 13 = .ok (.aload_n 0, 1) := by decide +kernel
theorem dX9_tenantByPurse_14 : decode cX9_tenantByPurse 14 = .ok (.getfield 12, 3) := by decide +kernel
theorem dX9_tenantByPurse_17 : decode cX9_tenantByPurse 17 = .ok (.iload_n 2, 1) := by decide +kernel
theorem dX9_tenantByPurse_18 : decode cX9_tenantByPurse 18 = .ok (.invokevirtual 204, 3) := by decide +kernel
theorem dX9_tenantByPurse_21 : decode cX9_tenantByPurse 21 = .ok (.iload_n 1, 1) := by decide +kernel
theorem dX9_tenantByPurse_22 : decode cX9_tenantByPurse 22 = .ok (.if_icmp .ne 13, 3) := by decide +kernel
theorem dX9_tenantByPurse_25 : decode cX9_tenantByPurse 25 = .ok (.aload_n 0, 1) := by decide +kernel
theorem dX9_tenantByPurse_26 : decode cX9_tenantByPurse 26 = .ok (.getfield 12, 3) := by decide +kernel
theorem dX9_tenantByPurse_29 : decode cX9_tenantByPurse 29 = .ok (.getfield 168, 3) := by decide +kernel
theorem dX9_tenantByPurse_32 : decode cX9_tenantByPurse 32 = .ok (.iload_n 2, 1) := by decide +kernel
theorem dX9_tenantByPurse_33 : decode cX9_tenantByPurse 33 = .ok (.iaload, 1) := by decide +kernel
theorem dX9_tenantByPurse_34 : decode cX9_tenantByPurse 34 = .ok (.ireturn, 1) := by decide +kernel
theorem dX9_tenantByPurse_35 : decode cX9_tenantByPurse 35 = .ok (.iinc 2 1, 3) := by decide +kernel
theorem dX9_tenantByPurse_38 : decode cX9_tenantByPurse 38 = .ok (.goto (-36), 3) := by decide +kernel
theorem dX9_tenantByPurse_41 : decode cX9_tenantByPurse 41 = .ok (.new 161, 3) := by decide +kernel
theorem dX9_tenantByPurse_44 : decode cX9_tenantByPurse 44 = .ok (.dup, 1) := by decide +kernel
theorem dX9_tenantByPurse_45 : decode cX9_tenantByPurse 45 = .ok (.ldc 202, 2) := by decide +kernel
theorem dX9_tenantByPurse_47 : decode cX9_tenantByPurse 47 = .ok (.invokespecial 165, 3) := by decide +kernel
theorem dX9_tenantByPurse_50 : decode cX9_tenantByPurse 50 = .ok (.athrow, 1) := by decide +kernel
theorem dX9_creak_0 : decode cX9_creak 0 = .ok (.iload_n 1, 1) := by decide +kernel
theorem dX9_creak_1 : decode cX9_creak 1 = .ok (.invokestatic 207, 3) := by decide +kernel
theorem dX9_creak_4 : decode cX9_creak 4 = .ok (.aload_n 0, 1) := by decide +kernel
theorem dX9_creak_5 : decode cX9_creak 5 = .ok (.getfield 12, 3) := by decide +kernel
theorem dX9_creak_8 : decode cX9_creak 8 = .ok (.iload_n 1, 1) := by decide +kernel
theorem dX9_creak_9 : decode cX9_creak 9 = .ok (.invokevirtual 210, 3) := by decide +kernel
theorem dX9_creak_12 : decode cX9_creak 12 = .ok (.ireturn, 1) := by decide +kernel
theorem dX9_censuses_0 : decode cX9_censuses 0 = .ok (.aload_n 0, 1) := by decide +kernel
theorem dX9_censuses_1 : decode cX9_censuses 1 = .ok (.getfield 39, 3) := by decide +kernel
theorem dX9_censuses_4 : decode cX9_censuses 4 = .ok (.aload_n 0, 1) := by decide +kernel
theorem dX9_censuses_5 : decode cX9_censuses 5 = .ok (.getfield 12, 3) := by decide +kernel
theorem dX9_censuses_8 : decode cX9_censuses 8 = .ok (.invokevirtual 213, 3) := by decide +kernel
theorem dX9_censuses_11 : decode cX9_censuses 11 = .ok (.ireturn, 1) := by decide +kernel
theorem dX9_censusesBySets_0 : decode cX9_censusesBySets 0 = .ok (.aload_n 0, 1) := by decide +kernel
theorem dX9_censusesBySets_1 : decode cX9_censusesBySets 1 = .ok (.getfield 39, 3) := by decide +kernel
theorem dX9_censusesBySets_4 : decode cX9_censusesBySets 4 = .ok (.aload_n 0, 1) := by decide +kernel
theorem dX9_censusesBySets_5 : decode cX9_censusesBySets 5 = .ok (.getfield 12, 3) := by decide +kernel
theorem dX9_censusesBySets_8 : decode cX9_censusesBySets 8 = .ok (.invokevirtual 217, 3) := by decide +kernel
theorem dX9_censusesBySets_11 : decode cX9_censusesBySets 11 = .ok (.ireturn, 1) := by decide +kernel
theorem dX9_possibleFloors_0 : decode cX9_possibleFloors 0 = .ok (.aload_n 0, 1) := by decide +kernel
theorem dX9_possibleFloors_1 : decode cX9_possibleFloors 1 = .ok (.getfield 39, 3) := by decide +kernel
theorem dX9_possibleFloors_4 : decode cX9_possibleFloors 4 = .ok (.aload_n 0, 1) := by decide +kernel
theorem dX9_possibleFloors_5 : decode cX9_possibleFloors 5 = .ok (.getfield 12, 3) := by decide +kernel
theorem dX9_possibleFloors_8 : decode cX9_possibleFloors 8 = .ok (.aload_n 0, 1) := by decide +kernel
theorem dX9_possibleFloors_9 : decode cX9_possibleFloors 9 = .ok (.iload_n 1, 1) := by decide +kernel
theorem dX9_possibleFloors_10 : decode cX9_possibleFloors 10 = .ok (.invokevirtual 181, 3) := by decide +kernel
theorem dX9_possibleFloors_13 : decode cX9_possibleFloors 13 = .ok (.invokevirtual 220, 3) := by decide +kernel
theorem dX9_possibleFloors_16 : decode cX9_possibleFloors 16 = .ok (.ireturn, 1) := by decide +kernel
theorem dX9_plannedFlat_0 : decode cX9_plannedFlat 0 = .ok (.aload_n 0, 1) := by decide +kernel
theorem dX9_plannedFlat_1 : decode cX9_plannedFlat 1 = .ok (.iload_n 1, 1) := by decide +kernel
theorem dX9_plannedFlat_2 : decode cX9_plannedFlat 2 = .ok (.invokevirtual 181, 3) := by decide +kernel
theorem dX9_plannedFlat_5 : decode cX9_plannedFlat 5 = .ok (.istore_n 2, 1) := by decide +kernel
theorem dX9_plannedFlat_6 : decode cX9_plannedFlat 6 = .ok (.aload_n 0, 1) := by decide +kernel
theorem dX9_plannedFlat_7 : decode cX9_plannedFlat 7 = .ok (.getfield 32, 3) := by decide +kernel
theorem dX9_plannedFlat_10 : decode cX9_plannedFlat 10 = .ok (.aload_n 0, 1) := by decide +kernel
theorem dX9_plannedFlat_11 : decode cX9_plannedFlat 11 = .ok (.getfield 12, 3) := by decide +kernel
theorem dX9_plannedFlat_14 : decode cX9_plannedFlat 14 = .ok (.invokevirtual 130, 3) := by decide +kernel
theorem dX9_plannedFlat_17 : decode cX9_plannedFlat 17 = .ok (.iload_n 2, 1) := by decide +kernel
theorem dX9_plannedFlat_18 : decode cX9_plannedFlat 18 = .ok (.iaload, 1) := by decide +kernel
theorem dX9_plannedFlat_19 : decode cX9_plannedFlat 19 = .ok (.invokestatic 224, 3) := by decide +kernel
theorem dX9_plannedFlat_22 : decode cX9_plannedFlat 22 = .ok (.ireturn, 1) := by decide +kernel
theorem dX9_plannedFlatByPlans_0 : decode cX9_plannedFlatByPlans 0 = .ok (.aload_n 0, 1) := by decide +kernel
theorem dX9_plannedFlatByPlans_1 : decode cX9_plannedFlatByPlans 1 = .ok (.iload_n 1, 1) := by decide +kernel
theorem dX9_plannedFlatByPlans_2 : decode cX9_plannedFlatByPlans 2 = .ok (.invokevirtual 181, 3) := by decide +kernel
theorem dX9_plannedFlatByPlans_5 : decode cX9_plannedFlatByPlans 5 = .ok (.istore_n 2, 1) := by decide +kernel
theorem dX9_plannedFlatByPlans_6 : decode cX9_plannedFlatByPlans 6 = .ok (.aload_n 0, 1) := by decide +kernel
theorem dX9_plannedFlatByPlans_7 : decode cX9_plannedFlatByPlans 7 = .ok (.getfield 32, 3) := by decide +kernel
theorem dX9_plannedFlatByPlans_10 : decode cX9_plannedFlatByPlans 10 = .ok (.aload_n 0, 1) := by decide +kernel
theorem dX9_plannedFlatByPlans_11 : decode cX9_plannedFlatByPlans 11 = .ok (.getfield 12, 3) := by decide +kernel
theorem dX9_plannedFlatByPlans_14 : decode cX9_plannedFlatByPlans 14 = .ok (.invokevirtual 227, 3) := by decide +kernel
theorem dX9_plannedFlatByPlans_17 : decode cX9_plannedFlatByPlans 17 = .ok (.iload_n 2, 1) := by decide +kernel
theorem dX9_plannedFlatByPlans_18 : decode cX9_plannedFlatByPlans 18 = .ok (.iaload, 1) := by decide +kernel
theorem dX9_plannedFlatByPlans_19 : decode cX9_plannedFlatByPlans 19 = .ok (.invokestatic 224, 3) := by decide +kernel
theorem dX9_plannedFlatByPlans_22 : decode cX9_plannedFlatByPlans 22 = .ok (.ireturn, 1) := by decide +kernel
theorem dX9_stablePlans_0 : decode cX9_stablePlans 0 = .ok (.aload_n 0, 1) := by decide +kernel
theorem dX9_stablePlans_1 : decode cX9_stablePlans 1 = .ok (.getfield 32, 3) := by decide +kernel
theorem dX9_stablePlans_4 : decode cX9_stablePlans 4 = .ok (.aload_n 0, 1) := by decide +kernel
theorem dX9_stablePlans_5 : decode cX9_stablePlans 5 = .ok (.getfield 12, 3) := by decide +kernel
theorem dX9_stablePlans_8 : decode cX9_stablePlans 8 = .ok (.invokevirtual 230, 3) := by decide +kernel
theorem dX9_stablePlans_11 : decode cX9_stablePlans 11 = .ok (.ireturn, 1) := by decide +kernel
theorem dX9_isStable_0 : decode cX9_isStable 0 = .ok (.aload_n 0, 1) := by decide +kernel
theorem dX9_isStable_1 : decode cX9_isStable 1 = .ok (.getfield 32, 3) := by decide +kernel
theorem dX9_isStable_4 : decode cX9_isStable 4 = .ok (.aload_n 0, 1) := by decide +kernel
theorem dX9_isStable_5 : decode cX9_isStable 5 = .ok (.getfield 12, 3) := by decide +kernel
theorem dX9_isStable_8 : decode cX9_isStable 8 = .ok (.invokevirtual 233, 3) := by decide +kernel
theorem dX9_isStable_11 : decode cX9_isStable 11 = .ok (.ireturn, 1) := by decide +kernel
theorem dX9_chainLength_0 : decode cX9_chainLength 0 = .ok (.aload_n 0, 1) := by decide +kernel
theorem dX9_chainLength_1 : decode cX9_chainLength 1 = .ok (.iload_n 1, 1) := by decide +kernel
theorem dX9_chainLength_2 : decode cX9_chainLength 2 = .ok (.invokevirtual 193, 3) := by decide +kernel
theorem dX9_chainLength_5 : decode cX9_chainLength 5 = .ok (.istore_n 2, 1) := by decide +kernel
theorem dX9_chainLength_6 : decode cX9_chainLength 6 = .ok (.aload_n 0, 1) := by decide +kernel
theorem dX9_chainLength_7 : decode cX9_chainLength 7 = .ok (.getfield 16, 3) := by decide +kernel
theorem dX9_chainLength_10 : decode cX9_chainLength 10 = .ok (.aload_n 0, 1) := by decide +kernel
theorem dX9_chainLength_11 : decode cX9_chainLength 11 = .ok (.getfield 12, 3) := by decide +kernel
theorem dX9_chainLength_14 : decode cX9_chainLength 14 = .ok (.invokevirtual 237, 3) := by decide +kernel
theorem dX9_chainLength_17 : decode cX9_chainLength 17 = .ok (.aload_n 0, 1) := by decide +kernel
theorem dX9_chainLength_18 : decode cX9_chainLength 18 = .ok (.getfield 16, 3) := by decide +kernel
theorem dX9_chainLength_21 : decode cX9_chainLength 21 = .ok (.iload_n 2, 1) := by decide +kernel
theorem dX9_chainLength_22 : decode cX9_chainLength 22 = .ok (.invokevirtual 115, 3) := by decide +kernel
theorem dX9_chainLength_25 : decode cX9_chainLength 25 = .ok (.ireturn, 1) := by decide +kernel
theorem dX9_monthsUntilEviction_0 : decode cX9_monthsUntilEviction 0 = .ok (.aload_n 0, 1) := by decide +kernel
theorem dX9_monthsUntilEviction_1 : decode cX9_monthsUntilEviction 1 = .ok (.getfield 16, 3) := by decide +kernel
theorem dX9_monthsUntilEviction_4 : decode cX9_monthsUntilEviction 4 = .ok (.aload_n 0, 1) := by decide +kernel
theorem dX9_monthsUntilEviction_5 : decode cX9_monthsUntilEviction 5 = .ok (.getfield 12, 3) := by decide +kernel
theorem dX9_monthsUntilEviction_8 : decode cX9_monthsUntilEviction 8 = .ok (.invokevirtual 237, 3) := by decide +kernel
theorem dX9_monthsUntilEviction_11 : decode cX9_monthsUntilEviction 11 = .ok (.iconst 1, 1) := by decide +kernel
theorem dX9_monthsUntilEviction_12 : decode cX9_monthsUntilEviction 12 = .ok (.istore_n 1, 1) := by decide +kernel
theorem dX9_monthsUntilEviction_13 : decode cX9_monthsUntilEviction 13 = .ok (.iload_n 1, 1) := by decide +kernel
theorem dX9_monthsUntilEviction_14 : decode cX9_monthsUntilEviction 14 = .ok (.bipush 24, 2) := by decide +kernel
theorem dX9_monthsUntilEviction_16 : decode cX9_monthsUntilEviction 16 = .ok (.if_icmp .gt 22, 3) := by decide +kernel
theorem dX9_monthsUntilEviction_19 : decode cX9_monthsUntilEviction 19 = .ok (.aload_n 0, 1) := by decide +kernel
theorem dX9_monthsUntilEviction_20 : decode cX9_monthsUntilEviction 20 = .ok (.getfield 16, 3) := by decide +kernel
theorem dX9_monthsUntilEviction_23 : decode cX9_monthsUntilEviction 23 = .ok (.iconst 1, 1) := by decide +kernel
theorem dX9_monthsUntilEviction_24 : decode cX9_monthsUntilEviction 24 = .ok (.invokevirtual 141, 3) := by decide +kernel
theorem dX9_monthsUntilEviction_27 : decode cX9_monthsUntilEviction 27 = .ok (.ifCond .le 5, 3) := by decide +kernel
theorem dX9_monthsUntilEviction_30 : decode cX9_monthsUntilEviction 30 = .ok (.iload_n 1, 1) := by decide +kernel
theorem dX9_monthsUntilEviction_31 : decode cX9_monthsUntilEviction 31 = .ok (.ireturn, 1) := by decide +kernel
theorem dX9_monthsUntilEviction_32 : decode cX9_monthsUntilEviction 32 = .ok (.iinc 1 1, 3) := by decide +kernel
theorem dX9_monthsUntilEviction_35 : decode cX9_monthsUntilEviction 35 = .ok (.goto (-22), 3) := by decide +kernel
theorem dX9_monthsUntilEviction_38 : decode cX9_monthsUntilEviction 38 = .ok (.new 161, 3) := by decide +kernel
theorem dX9_monthsUntilEviction_41 : decode cX9_monthsUntilEviction 41 = .ok (.dup, 1) := by decide +kernel
theorem dX9_monthsUntilEviction_42 : decode cX9_monthsUntilEviction 42 = .ok (.ldc 240, 2) := by decide +kernel
theorem dX9_monthsUntilEviction_44 : decode cX9_monthsUntilEviction 44 = .ok (.invokespecial 165, 3) := by decide +kernel
theorem dX9_monthsUntilEviction_47 : decode cX9_monthsUntilEviction 47 = .ok (.athrow, 1) := by decide +kernel
theorem dX9_month_0 : decode cX9_month 0 = .ok (.aload_n 0, 1) := by decide +kernel
theorem dX9_month_1 : decode cX9_month 1 = .ok (.getfield 12, 3) := by decide +kernel
theorem dX9_month_4 : decode cX9_month 4 = .ok (.getfield 242, 3) := by decide +kernel
theorem dX9_month_7 : decode cX9_month 7 = .ok (.ireturn, 1) := by decide +kernel
theorem dX9_received_0 : decode cX9_received 0 = .ok (.aload_n 0, 1) := by decide +kernel
theorem dX9_received_1 : decode cX9_received 1 = .ok (.getfield 12, 3) := by decide +kernel
theorem dX9_received_4 : decode cX9_received 4 = .ok (.getfield 245, 3) := by decide +kernel
theorem dX9_received_7 : decode cX9_received 7 = .ok (.lreturn, 1) := by decide +kernel
theorem dX9_receivedByParts_0 : decode cX9_receivedByParts 0 = .ok (.aload_n 0, 1) := by decide +kernel
theorem dX9_receivedByParts_1 : decode cX9_receivedByParts 1 = .ok (.getfield 12, 3) := by decide +kernel
theorem dX9_receivedByParts_4 : decode cX9_receivedByParts 4 = .ok (.invokevirtual 249, 3) := by decide +kernel
theorem dX9_receivedByParts_7 : decode cX9_receivedByParts 7 = .ok (.lreturn, 1) := by decide +kernel
theorem dX9_paidRents_0 : decode cX9_paidRents 0 = .ok (.aload_n 0, 1) := by decide +kernel
theorem dX9_paidRents_1 : decode cX9_paidRents 1 = .ok (.getfield 12, 3) := by decide +kernel
theorem dX9_paidRents_4 : decode cX9_paidRents 4 = .ok (.getfield 253, 3) := by decide +kernel
theorem dX9_paidRents_7 : decode cX9_paidRents 7 = .ok (.ireturn, 1) := by decide +kernel
theorem dX9_evictions_0 : decode cX9_evictions 0 = .ok (.aload_n 0, 1) := by decide +kernel
theorem dX9_evictions_1 : decode cX9_evictions 1 = .ok (.getfield 12, 3) := by decide +kernel
theorem dX9_evictions_4 : decode cX9_evictions 4 = .ok (.getfield 256, 3) := by decide +kernel
theorem dX9_evictions_7 : decode cX9_evictions 7 = .ok (.ireturn, 1) := by decide +kernel
theorem dX9_meanBurden_0 : decode cX9_meanBurden 0 = .ok (.aload_n 0, 1) := by decide +kernel
theorem dX9_meanBurden_1 : decode cX9_meanBurden 1 = .ok (.getfield 12, 3) := by decide +kernel
theorem dX9_meanBurden_4 : decode cX9_meanBurden 4 = .ok (.invokevirtual 171, 3) := by decide +kernel
theorem dX9_meanBurden_7 : decode cX9_meanBurden 7 = .ok (.istore_n 1, 1) := by decide +kernel
theorem dX9_meanBurden_8 : decode cX9_meanBurden 8 = .ok (.iload_n 1, 1) := by decide +kernel
theorem dX9_meanBurden_9 : decode cX9_meanBurden 9 = .ok (.ifCond .ne 14, 3) := by decide +kernel
theorem dX9_meanBurden_12 : decode cX9_meanBurden 12 = .ok (.new 259, 3) := by decide +kernel
theorem dX9_meanBurden_15 : decode cX9_meanBurden 15 = .ok (.dup, 1) := by decide +kernel
theorem dX9_meanBurden_16 : decode cX9_meanBurden 16 = .ok (.ldc_w 261, 3) := by decide +kernel
theorem dX9_meanBurden_19 : decode cX9_meanBurden 19 = .ok (.invokespecial 263, 3) := by decide +kernel
theorem dX9_meanBurden_22 : decode cX9_meanBurden 22 = .ok (.athrow, 1) := by decide +kernel
theorem dX9_meanBurden_23 : decode cX9_meanBurden 23 = .ok (.aload_n 0, 1) := by decide +kernel
theorem dX9_meanBurden_24 : decode cX9_meanBurden 24 = .ok (.getfield 12, 3) := by decide +kernel
theorem dX9_meanBurden_27 : decode cX9_meanBurden 27 = .ok (.invokevirtual 264, 3) := by decide +kernel
theorem dX9_meanBurden_30 : decode cX9_meanBurden 30 = .ok (.i2d, 1) := by decide +kernel
theorem dX9_meanBurden_31 : decode cX9_meanBurden 31 = .ok (.iload_n 1, 1) := by decide +kernel
theorem dX9_meanBurden_32 : decode cX9_meanBurden 32 = .ok (.i2d, 1) := by decide +kernel
theorem dX9_meanBurden_33 : decode cX9_meanBurden 33 = .ok (.ddiv, 1) := by decide +kernel
theorem dX9_meanBurden_34 : decode cX9_meanBurden 34 = .ok (.dreturn, 1) := by decide +kernel
theorem dX9_occupancy_0 : decode cX9_occupancy 0 = .ok (.aload_n 0, 1) := by decide +kernel
theorem dX9_occupancy_1 : decode cX9_occupancy 1 = .ok (.getfield 12, 3) := by decide +kernel
theorem dX9_occupancy_4 : decode cX9_occupancy 4 = .ok (.getfield 144, 3) := by decide +kernel
