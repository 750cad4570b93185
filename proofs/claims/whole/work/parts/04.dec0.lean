theorem dX1_init_0 : decode cX1_init 0 = .ok (.aload_n 0, 1) := by decide +kernel
theorem dX1_init_1 : decode cX1_init 1 = .ok (.invokespecial 3, 3) := by decide +kernel
theorem dX1_init_4 : decode cX1_init 4 = .ok (.aload_n 0, 1) := by decide +kernel
theorem dX1_init_5 : decode cX1_init 5 = .ok (.bipush 8, 2) := by decide +kernel
theorem dX1_init_7 : decode cX1_init 7 = .ok (.anewarray 9, 3) := by decide +kernel
theorem dX1_init_10 : decode cX1_init 10 = .ok (.putfield 11, 3) := by decide +kernel
theorem dX1_init_13 : decode cX1_init 13 = .ok (.aload_n 0, 1) := by decide +kernel
theorem dX1_init_14 : decode cX1_init 14 = .ok (.iconst 0, 1) := by decide +kernel
theorem dX1_init_15 : decode cX1_init 15 = .ok (.putfield 17, 3) := by decide +kernel
theorem dX1_init_18 : decode cX1_init 18 = .ok (.aload_n 0, 1) := by decide +kernel
theorem dX1_init_19 : decode cX1_init 19 = .ok (.iconst 0, 1) := by decide +kernel
theorem dX1_init_20 : decode cX1_init 20 = .ok (.putfield 21, 3) := by decide +kernel
theorem dX1_init_23 : decode cX1_init 23 = .ok (.iconst 0, 1) := by decide +kernel
theorem dX1_init_24 : decode cX1_init 24 = .ok (.istore_n 1, 1) := by decide +kernel
theorem dX1_init_25 : decode cX1_init 25 = .ok (.iload_n 1, 1) := by decide +kernel
theorem dX1_init_26 : decode cX1_init 26 = .ok (.aload_n 0, 1) := by decide +kernel
theorem dX1_init_27 : decode cX1_init 27 = .ok (.getfield 11, 3) := by decide +kernel
theorem dX1_init_30 : decode cX1_init 30 = .ok (.arraylength, 1) := by decide +kernel
theorem dX1_init_31 : decode cX1_init 31 = .ok (.if_icmp .ge 22, 3) := by decide +kernel
theorem dX1_init_34 : decode cX1_init 34 = .ok (.aload_n 0, 1) := by decide +kernel
theorem dX1_init_35 : decode cX1_init 35 = .ok (.getfield 11, 3) := by decide +kernel
theorem dX1_init_38 : decode cX1_init 38 = .ok (.iload_n 1, 1) := by decide +kernel
theorem dX1_init_39 : decode cX1_init 39 = .ok (.new 9, 3) := by decide +kernel
theorem dX1_init_42 : decode cX1_init 42 = .ok (.dup, 1) := by decide +kernel
theorem dX1_init_43 : decode cX1_init 43 = .ok (.invokespecial 24, 3) := by decide +kernel
theorem dX1_init_46 : decode cX1_init 46 = .ok (.aastore, 1) := by decide +kernel
theorem dX1_init_47 : decode cX1_init 47 = .ok (.iinc 1 1, 3) := by decide +kernel
theorem dX1_init_50 : decode cX1_init 50 = .ok (.goto (-25), 3) := by decide +kernel
theorem dX1_init_53 : decode cX1_init 53 = .ok (.return_, 1) := by decide +kernel
theorem dX1_push_0 : decode cX1_push 0 = .ok (.aload_n 0, 1) := by decide +kernel
theorem dX1_push_1 : decode cX1_push 1 = .ok (.getfield 11, 3) := by decide +kernel
theorem dX1_push_4 : decode cX1_push 4 = .ok (.aload_n 0, 1) := by decide +kernel
theorem dX1_push_5 : decode cX1_push 5 = .ok (.getfield 17, 3) := by decide +kernel
theorem dX1_push_8 : decode cX1_push 8 = .ok (.aload_n 0, 1) := by decide +kernel
theorem dX1_push_9 : decode cX1_push 9 = .ok (.getfield 21, 3) := by decide +kernel
theorem dX1_push_12 : decode cX1_push 12 = .ok (.iadd, 1) := by decide +kernel
theorem dX1_push_13 : decode cX1_push 13 = .ok (.bipush 8, 2) := by decide +kernel
theorem dX1_push_15 : decode cX1_push 15 = .ok (.irem, 1) := by decide +kernel
theorem dX1_push_16 : decode cX1_push 16 = .ok (.aaload, 1) := by decide +kernel
theorem dX1_push_17 : decode cX1_push 17 = .ok (.aload_n 1, 1) := by decide +kernel
theorem dX1_push_18 : decode cX1_push 18 = .ok (.invokevirtual 25, 3) := by decide +kernel
theorem dX1_push_21 : decode cX1_push 21 = .ok (.aload_n 0, 1) := by decide +kernel
theorem dX1_push_22 : decode cX1_push 22 = .ok (.getfield 21, 3) := by decide +kernel
theorem dX1_push_25 : decode cX1_push 25 = .ok (.bipush 8, 2) := by decide +kernel
theorem dX1_push_27 : decode cX1_push 27 = .ok (.if_icmp .ge 16, 3) := by decide +kernel
theorem dX1_push_30 : decode cX1_push 30 = .ok (.aload_n 0, 1) := by decide +kernel
theorem dX1_push_31 : decode cX1_push 31 = .ok (.dup, 1) := by decide +kernel
theorem dX1_push_32 : decode cX1_push 32 = .ok (.getfield 21, 3) := by decide +kernel
theorem dX1_push_35 : decode cX1_push 35 = .ok (.iconst 1, 1) := by decide +kernel
theorem dX1_push_36 : decode cX1_push 36 = .ok (.iadd, 1) := by decide +kernel
theorem dX1_push_37 : decode cX1_push 37 = .ok (.putfield 21, 3) := by decide +kernel
theorem dX1_push_40 : decode cX1_push 40 = .ok (.goto 16, 3) := by decide +kernel
theorem dX1_push_43 : decode cX1_push 43 = .ok (.aload_n 0, 1) := by decide +kernel
theorem dX1_push_44 : decode cX1_push 44 = .ok (.aload_n 0, 1) := by decide +kernel
theorem dX1_push_45 : decode cX1_push 45 = .ok (.getfield 17, 3) := by decide +kernel
theorem dX1_push_48 : decode cX1_push 48 = .ok (.iconst 1, 1) := by decide +kernel
theorem dX1_push_49 : decode cX1_push 49 = .ok (.iadd, 1) := by decide +kernel
theorem dX1_push_50 : decode cX1_push 50 = .ok (.bipush 8, 2) := by decide +kernel
theorem dX1_push_52 : decode cX1_push 52 = .ok (.irem, 1) := by decide +kernel
theorem dX1_push_53 : decode cX1_push 53 = .ok (.putfield 17, 3) := by decide +kernel
theorem dX1_push_56 : decode cX1_push 56 = .ok (.return_, 1) := by decide +kernel
theorem dX1_popInto_0 : decode cX1_popInto 0 = .ok (.aload_n 0, 1) := by decide +kernel
theorem dX1_popInto_1 : decode cX1_popInto 1 = .ok (.getfield 21, 3) := by decide +kernel
theorem dX1_popInto_4 : decode cX1_popInto 4 = .ok (.ifCond .le 34, 3) := by decide +kernel
theorem dX1_popInto_7 : decode cX1_popInto 7 = .ok (.aload_n 0, 1) := by decide +kernel
theorem dX1_popInto_8 : decode cX1_popInto 8 = .ok (.dup, 1) := by decide +kernel
theorem dX1_popInto_9 : decode cX1_popInto 9 = .ok (.getfield 21, 3) := by decide +kernel
theorem dX1_popInto_12 : decode cX1_popInto 12 = .ok (.iconst 1, 1) := by decide +kernel
theorem dX1_popInto_13 : decode cX1_popInto 13 = .ok (.isub, 1) := by decide +kernel
theorem dX1_popInto_14 : decode cX1_popInto 14 = .ok (.putfield 21, 3) := by decide +kernel
theorem dX1_popInto_17 : decode cX1_popInto 17 = .ok (.aload_n 1, 1) := by decide +kernel
theorem dX1_popInto_18 : decode cX1_popInto 18 = .ok (.aload_n 0, 1) := by decide +kernel
theorem dX1_popInto_19 : decode cX1_popInto 19 = .ok (.getfield 11, 3) := by decide +kernel
theorem dX1_popInto_22 : decode cX1_popInto 22 = .ok (.aload_n 0, 1) := by decide +kernel
theorem dX1_popInto_23 : decode cX1_popInto 23 = .ok (.getfield 17, 3) := by decide +kernel
theorem dX1_popInto_26 : decode cX1_popInto 26 = .ok (.aload_n 0, 1) := by decide +kernel
theorem dX1_popInto_27 : decode cX1_popInto 27 = .ok (.getfield 21, 3) := by decide +kernel
theorem dX1_popInto_30 : decode cX1_popInto 30 = .ok (.iadd, 1) := by decide +kernel
theorem dX1_popInto_31 : decode cX1_popInto 31 = .ok (.bipush 8, 2) := by decide +kernel
theorem dX1_popInto_33 : decode cX1_popInto 33 = .ok (.irem, 1) := by decide +kernel
theorem dX1_popInto_34 : decode cX1_popInto 34 = .ok (.aaload, 1) := by decide +kernel
theorem dX1_popInto_35 : decode cX1_popInto 35 = .ok (.invokevirtual 25, 3) := by decide +kernel
theorem dX1_popInto_38 : decode cX1_popInto 38 = .ok (.return_, 1) := by decide +kernel
theorem dX1_forget_0 : decode cX1_forget 0 = .ok (.aload_n 0, 1) := by decide +kernel
theorem dX1_forget_1 : decode cX1_forget 1 = .ok (.iconst 0, 1) := by decide +kernel
theorem dX1_forget_2 : decode cX1_forget 2 = .ok (.putfield 21, 3) := by decide +kernel
theorem dX1_forget_5 : decode cX1_forget 5 = .ok (.return_, 1) := by decide +kernel
theorem dX2_init_0 : decode cX2_init 0 = .ok (.aload_n 0, 1) := by decide +kernel
theorem dX2_init_1 : decode cX2_init 1 = .ok (.invokespecial 3, 3) := by decide +kernel
theorem dX2_init_4 : decode cX2_init 4 = .ok (.aload_n 0, 1) := by decide +kernel
theorem dX2_init_5 : decode cX2_init 5 = .ok (.iconst 0, 1) := by decide +kernel
theorem dX2_init_6 : decode cX2_init 6 = .ok (.putfield 9, 3) := by decide +kernel
theorem dX2_init_9 : decode cX2_init 9 = .ok (.aload_n 0, 1) := by decide +kernel
theorem dX2_init_10 : decode cX2_init 10 = .ok (.bipush 6, 2) := by decide +kernel
theorem dX2_init_12 : decode cX2_init 12 = .ok (.newarray .int, 2) := by decide +kernel
theorem dX2_init_14 : decode cX2_init 14 = .ok (.putfield 15, 3) := by decide +kernel
theorem dX2_init_17 : decode cX2_init 17 = .ok (.aload_n 0, 1) := by decide +kernel
theorem dX2_init_18 : decode cX2_init 18 = .ok (.bipush 6, 2) := by decide +kernel
theorem dX2_init_20 : decode cX2_init 20 = .ok (.newarray .int, 2) := by decide +kernel
theorem dX2_init_22 : decode cX2_init 22 = .ok (.putfield 19, 3) := by decide +kernel
theorem dX2_init_25 : decode cX2_init 25 = .ok (.aload_n 0, 1) := by decide +kernel
theorem dX2_init_26 : decode cX2_init 26 = .ok (.iconst 0, 1) := by decide +kernel
theorem dX2_init_27 : decode cX2_init 27 = .ok (.putfield 22, 3) := by decide +kernel
theorem dX2_init_30 : decode cX2_init 30 = .ok (.aload_n 0, 1) := by decide +kernel
theorem dX2_init_31 : decode cX2_init 31 = .ok (.iconst 0, 1) := by decide +kernel
theorem dX2_init_32 : decode cX2_init 32 = .ok (.putfield 25, 3) := by decide +kernel
theorem dX2_init_35 : decode cX2_init 35 = .ok (.aload_n 0, 1) := by decide +kernel
theorem dX2_init_36 : decode cX2_init 36 = .ok (.bipush 6, 2) := by decide +kernel
theorem dX2_init_38 : decode cX2_init 38 = .ok (.newarray .int, 2) := by decide +kernel
theorem dX2_init_40 : decode cX2_init 40 = .ok (.putfield 28, 3) := by decide +kernel
theorem dX2_init_43 : decode cX2_init 43 = .ok (.aload_n 0, 1) := by decide +kernel
theorem dX2_init_44 : decode cX2_init 44 = .ok (.bipush 6, 2) := by decide +kernel
theorem dX2_init_46 : decode cX2_init 46 = .ok (.newarray .int, 2) := by decide +kernel
theorem dX2_init_48 : decode cX2_init 48 = .ok (.putfield 31, 3) := by decide +kernel
theorem dX2_init_51 : decode cX2_init 51 = .ok (.aload_n 0, 1) := by decide +kernel
theorem dX2_init_52 : decode cX2_init 52 = .ok (.bipush 6, 2) := by decide +kernel
theorem dX2_init_54 : decode cX2_init 54 = .ok (.newarray .int, 2) := by decide +kernel
theorem dX2_init_56 : decode cX2_init 56 = .ok (.putfield 34, 3) := by decide +kernel
theorem dX2_init_59 : decode cX2_init 59 = .ok (.aload_n 0, 1) := by decide +kernel
theorem dX2_init_60 : decode cX2_init 60 = .ok (.bipush 6, 2) := by decide +kernel
theorem dX2_init_62 : decode cX2_init 62 = .ok (.newarray .int, 2) := by decide +kernel
theorem dX2_init_64 : decode cX2_init 64 = .ok (.putfield 37, 3) := by decide +kernel
theorem dX2_init_67 : decode cX2_init 67 = .ok (.aload_n 0, 1) := by decide +kernel
theorem dX2_init_68 : decode cX2_init 68 = .ok (.bipush 6, 2) := by decide +kernel
theorem dX2_init_70 : decode cX2_init 70 = .ok (.newarray .int, 2) := by decide +kernel
theorem dX2_init_72 : decode cX2_init 72 = .ok (.putfield 40, 3) := by decide +kernel
theorem dX2_init_75 : decode cX2_init 75 = .ok (.aload_n 0, 1) := by decide +kernel
theorem dX2_init_76 : decode cX2_init 76 = .ok (.bipush 6, 2) := by decide +kernel
theorem dX2_init_78 : decode cX2_init 78 = .ok (.newarray .int, 2) := by decide +kernel
theorem dX2_init_80 : decode cX2_init 80 = .ok (.putfield 43, 3) := by decide +kernel
theorem dX2_init_83 : decode cX2_init 83 = .ok (.aload_n 0, 1) := by decide +kernel
theorem dX2_init_84 : decode cX2_init 84 = .ok (.bipush 6, 2) := by decide +kernel
theorem dX2_init_86 : decode cX2_init 86 = .ok (.newarray .int, 2) := by decide +kernel
theorem dX2_init_88 : decode cX2_init 88 = .ok (.putfield 46, 3) := by decide +kernel
theorem dX2_init_91 : decode cX2_init 91 = .ok (.aload_n 0, 1) := by decide +kernel
theorem dX2_init_92 : decode cX2_init 92 = .ok (.iconst 0, 1) := by decide +kernel
theorem dX2_init_93 : decode cX2_init 93 = .ok (.putfield 49, 3) := by decide +kernel
theorem dX2_init_96 : decode cX2_init 96 = .ok (.aload_n 0, 1) := by decide +kernel
theorem dX2_init_97 : decode cX2_init 97 = .ok (.iconst 0, 1) := by decide +kernel
theorem dX2_init_98 : decode cX2_init 98 = .ok (.putfield 52, 3) := by decide +kernel
theorem dX2_init_101 : decode cX2_init 101 = .ok (.aload_n 0, 1) := by decide +kernel
theorem dX2_init_102 : decode cX2_init 102 = .ok (.iconst 0, 1) := by decide +kernel
theorem dX2_init_103 : decode cX2_init 103 = .ok (.putfield 55, 3) := by decide +kernel
theorem dX2_init_106 : decode cX2_init 106 = .ok (.aload_n 0, 1) := by decide +kernel
theorem dX2_init_107 : decode cX2_init 107 = .ok (.lconst 0, 1) := by decide +kernel
theorem dX2_init_108 : decode cX2_init 108 = .ok (.putfield 58, 3) := by decide +kernel
theorem dX2_init_111 : decode cX2_init 111 = .ok (.aload_n 0, 1) := by decide +kernel
theorem dX2_init_112 : decode cX2_init 112 = .ok (.lconst 0, 1) := by decide +kernel
theorem dX2_init_113 : decode cX2_init 113 = .ok (.putfield 62, 3) := by decide +kernel
theorem dX2_init_116 : decode cX2_init 116 = .ok (.return_, 1) := by decide +kernel
theorem dX2_copyFrom_0 : decode cX2_copyFrom 0 = .ok (.aload_n 0, 1) := by decide +kernel
theorem dX2_copyFrom_1 : decode cX2_copyFrom 1 = .ok (.aload_n 1, 1) := by decide +kernel
theorem dX2_copyFrom_2 : decode cX2_copyFrom 2 = .ok (.getfield 9, 3) := by decide +kernel
theorem dX2_copyFrom_5 : decode cX2_copyFrom 5 = .ok (.putfield 9, 3) := by decide +kernel
theorem dX2_copyFrom_8 : decode cX2_copyFrom 8 = .ok (.aload_n 1, 1) := by decide +kernel
theorem dX2_copyFrom_9 : decode cX2_copyFrom 9 = .ok (.getfield 15, 3) := by decide +kernel
theorem dX2_copyFrom_12 : decode cX2_copyFrom 12 = .ok (.aload_n 0, 1) := by decide +kernel
theorem dX2_copyFrom_13 : decode cX2_copyFrom 13 = .ok (.getfield 15, 3) := by decide +kernel
theorem dX2_copyFrom_16 : decode cX2_copyFrom 16 = .ok (.invokestatic 65, 3) := by decide +kernel
theorem dX2_copyFrom_19 : decode cX2_copyFrom 19 = .ok (.aload_n 1, 1) := by decide +kernel
theorem dX2_copyFrom_20 : decode cX2_copyFrom 20 = .ok (.getfield 19, 3) := by decide +kernel
theorem dX2_copyFrom_23 : decode cX2_copyFrom 23 = .ok (.aload_n 0, 1) := by decide +kernel
theorem dX2_copyFrom_24 : decode cX2_copyFrom 24 = .ok (.getfield 19, 3) := by decide +kernel
theorem dX2_copyFrom_27 : decode cX2_copyFrom 27 = .ok (.invokestatic 65, 3) := by decide +kernel
theorem dX2_copyFrom_30 : decode cX2_copyFrom 30 = .ok (.aload_n 0, 1) := by decide +kernel
theorem dX2_copyFrom_31 : decode cX2_copyFrom 31 = .ok (.aload_n 1, 1) := by decide +kernel
theorem dX2_copyFrom_32 : decode cX2_copyFrom 32 = .ok (.getfield 22, 3) := by decide +kernel
theorem dX2_copyFrom_35 : decode cX2_copyFrom 35 = .ok (.putfield 22, 3) := by decide +kernel
theorem dX2_copyFrom_38 : decode cX2_copyFrom 38 = .ok (.aload_n 0, 1) := by decide +kernel
theorem dX2_copyFrom_39 : decode cX2_copyFrom 39 = .ok (.aload_n 1, 1) := by decide +kernel
theorem dX2_copyFrom_40 : decode cX2_copyFrom 40 = .ok (.getfield 25, 3) := by decide +kernel
theorem dX2_copyFrom_43 : decode cX2_copyFrom 43 = .ok (.putfield 25, 3) := by decide +kernel
theorem dX2_copyFrom_46 : decode cX2_copyFrom 46 = .ok (.aload_n 1, 1) := by decide +kernel
theorem dX2_copyFrom_47 : decode cX2_copyFrom 47 = .ok (.getfield 28, 3) := by decide +kernel
theorem dX2_copyFrom_50 : decode cX2_copyFrom 50 = .ok (.aload_n 0, 1) := by decide +kernel
theorem dX2_copyFrom_51 : decode cX2_copyFrom 51 = .ok (.getfield 28, 3) := by decide +kernel
theorem dX2_copyFrom_54 : decode cX2_copyFrom 54 = .ok (.invokestatic 65, 3) := by decide +kernel
theorem dX2_copyFrom_57 : decode cX2_copyFrom 57 = .ok (.aload_n 1, 1) := by decide +kernel
theorem dX2_copyFrom_58 : decode cX2_copyFrom 58 = .ok (.getfield 31, 3) := by decide +kernel
theorem dX2_copyFrom_61 : decode cX2_copyFrom 61 = .ok (.aload_n 0, 1) := by decide +kernel
theorem dX2_copyFrom_62 : decode cX2_copyFrom 62 = .ok (.getfield 31, 3) := by decide +kernel
theorem dX2_copyFrom_65 : decode cX2_copyFrom 65 = .ok (.invokestatic 65, 3) := by decide +kernel
theorem dX2_copyFrom_68 : decode cX2_copyFrom 68 = .ok (.aload_n 1, 1) := by decide +kernel
theorem dX2_copyFrom_69 : decode cX2_copyFrom 69 = .ok (.getfield 34, 3) := by decide +kernel
theorem dX2_copyFrom_72 : decode cX2_copyFrom 72 = .ok (.aload_n 0, 1) := by decide +kernel
theorem dX2_copyFrom_73 : decode cX2_copyFrom 73 = .ok (.getfield 34, 3) := by decide +kernel
theorem dX2_copyFrom_76 : decode cX2_copyFrom 76 = .ok (.invokestatic 65, 3) := by decide +kernel
theorem dX2_copyFrom_79 : decode cX2_copyFrom 79 = .ok (.aload_n 1, 1) := by decide +kernel
theorem dX2_copyFrom_80 : decode cX2_copyFrom 80 = .ok (.getfield 37, 3) := by decide +kernel
theorem dX2_copyFrom_83 : decode cX2_copyFrom 83 = .ok (.aload_n 0, 1) := by decide +kernel
theorem dX2_copyFrom_84 : decode cX2_copyFrom 84 = .ok (.getfield 37, 3) := by decide +kernel
theorem dX2_copyFrom_87 : decode cX2_copyFrom 87 = .ok (.invokestatic 65, 3) := by decide +kernel
theorem dX2_copyFrom_90 : decode cX2_copyFrom 90 = .ok (.aload_n 1, 1) := by decide +kernel
theorem dX2_copyFrom_91 : decode cX2_copyFrom 91 = .ok (.getfield 40, 3) := by decide +kernel
theorem dX2_copyFrom_94 : decode cX2_copyFrom 94 = .ok (.aload_n 0, 1) := by decide +kernel
theorem dX2_copyFrom_95 : decode cX2_copyFrom 95 = .ok (.getfield 40, 3) := by decide +kernel
theorem dX2_copyFrom_98 : decode cX2_copyFrom 98 = .ok (.invokestatic 65, 3) := by decide +kernel
theorem dX2_copyFrom_101 : decode cX2_copyFrom 101 = .ok (.aload_n 1, 1) := by decide +kernel
theorem dX2_copyFrom_102 : decode cX2_copyFrom 102 = .ok (.getfield 43, 3) := by decide +kernel
theorem dX2_copyFrom_105 : decode cX2_copyFrom 105 = .ok (.aload_n 0, 1) := by decide +kernel
theorem dX2_copyFrom_106 : decode cX2_copyFrom 106 = .ok (.getfield 43, 3) := by decide +kernel
theorem dX2_copyFrom_109 : decode cX2_copyFrom 109 = .ok (.invokestatic 65, 3) := by decide +kernel
theorem dX2_copyFrom_112 : decode cX2_copyFrom 112 = .ok (.aload_n 1, 1) := by decide +kernel
theorem dX2_copyFrom_113 : decode cX2_copyFrom 113 = .ok (.getfield 46, 3) := by decide +kernel
theorem dX2_copyFrom_116 : decode cX2_copyFrom 116 = .ok (.aload_n 0, 1) := by decide +kernel
theorem dX2_copyFrom_117 : decode cX2_copyFrom 117 = .ok (.getfield 46, 3) := by decide +kernel
theorem dX2_copyFrom_120 : decode cX2_copyFrom 120 = .ok (.invokestatic 65, 3) := by decide +kernel
theorem dX2_copyFrom_123 : decode cX2_copyFrom 123 = .ok (.aload_n 0, 1) := by decide +kernel
theorem dX2_copyFrom_124 : decode cX2_copyFrom 124 = .ok (.aload_n 1, 1) := by decide +kernel
theorem dX2_copyFrom_125 : decode cX2_copyFrom 125 = .ok (.getfield 49, 3) := by decide +kernel
theorem dX2_copyFrom_128 : decode cX2_copyFrom 128 = .ok (.putfield 49, 3) := by decide +kernel
theorem dX2_copyFrom_131 : decode cX2_copyFrom 131 = .ok (.aload_n 0, 1) := by decide +kernel
theorem dX2_copyFrom_132 : decode cX2_copyFrom 132 = .ok (.aload_n 1, 1) := by decide +kernel
theorem dX2_copyFrom_133 : decode cX2_copyFrom 133 = .ok (.getfield 52, 3) := by decide +kernel
theorem dX2_copyFrom_136 : decode cX2_copyFrom 136 = .ok (.putfield 52, 3) := by decide +kernel
theorem dX2_copyFrom_139 : decode cX2_copyFrom 139 = .ok (.aload_n 0, 1) := by decide +kernel
theorem dX2_copyFrom_140 : decode cX2_copyFrom 140 = .ok (.aload_n 1, 1) := by decide +kernel
theorem dX2_copyFrom_141 : decode cX2_copyFrom 141 = .ok (.getfield 55, 3) := by decide +kernel
theorem dX2_copyFrom_144 : decode cX2_copyFrom 144 = .ok (.putfield 55, 3) := by decide +kernel
theorem dX2_copyFrom_147 : decode cX2_copyFrom 147 = .ok (.aload_n 0, 1) := by decide +kernel
theorem dX2_copyFrom_148 : decode cX2_copyFrom 148 = .ok (.aload_n 1, 1) := by decide +kernel
theorem dX2_copyFrom_149 : decode cX2_copyFrom 149 = .ok (.getfield 58, 3) := by decide +kernel
theorem dX2_copyFrom_152 : decode cX2_copyFrom 152 = .ok (.putfield 58, 3) := by decide +kernel
theorem dX2_copyFrom_155 : decode cX2_copyFrom 155 = .ok (.aload_n 0, 1) := by decide +kernel
theorem dX2_copyFrom_156 : decode cX2_copyFrom 156 = .ok (.aload_n 1, 1) := by decide +kernel
theorem dX2_copyFrom_157 : decode cX2_copyFrom 157 = .ok (.getfield 62, 3) := by decide +kernel
theorem dX2_copyFrom_160 : decode cX2_copyFrom 160 = .ok (.putfield 62, 3) := by decide +kernel
theorem dX2_copyFrom_163 : decode cX2_copyFrom 163 = .ok (.return_, 1) := by decide +kernel
theorem dX2_copyRow_0 : decode cX2_copyRow 0 = .ok (.aload_n 0, 1) := by decide +kernel
theorem dX2_copyRow_1 : decode cX2_copyRow 1 = .ok (.iconst 0, 1) := by decide +kernel
theorem dX2_copyRow_2 : decode cX2_copyRow 2 = .ok (.aload_n 1, 1) := by decide +kernel
theorem dX2_copyRow_3 : decode cX2_copyRow 3 = .ok (.iconst 0, 1) := by decide +kernel
theorem dX2_copyRow_4 : decode cX2_copyRow 4 = .ok (.aload_n 0, 1) := by decide +kernel
theorem dX2_copyRow_5 : decode cX2_copyRow 5 = .ok (.arraylength, 1) := by decide +kernel
theorem dX2_copyRow_6 : decode cX2_copyRow 6 = .ok (.aload_n 1, 1) := by decide +kernel
theorem dX2_copyRow_7 : decode cX2_copyRow 7 = .ok (.arraylength, 1) := by decide +kernel
theorem dX2_copyRow_8 : decode cX2_copyRow 8 = .ok (.invokestatic 69, 3) := by decide +kernel
theorem dX2_copyRow_11 : decode cX2_copyRow 11 = .ok (.invokestatic 75, 3) := by decide +kernel
theorem dX2_copyRow_14 : decode cX2_copyRow 14 = .ok (.return_, 1) := by decide +kernel
theorem dX2_refusalOfFlat_0 : decode cX2_refusalOfFlat 0 = .ok (.iload_n 1, 1) := by decide +kernel
theorem dX2_refusalOfFlat_1 : decode cX2_refusalOfFlat 1 = .ok (.iconst 0, 1) := by decide +kernel
theorem dX2_refusalOfFlat_2 : decode cX2_refusalOfFlat 2 = .ok (.iconst 5, 1) := by decide +kernel
theorem dX2_refusalOfFlat_3 : decode cX2_refusalOfFlat 3 = .ok (.invokestatic 81, 3) := by decide +kernel
theorem dX2_refusalOfFlat_6 : decode cX2_refusalOfFlat 6 = .ok (.ifCond .eq 13, 3) := by decide +kernel
theorem dX2_refusalOfFlat_9 : decode cX2_refusalOfFlat 9 = .ok (.iload_n 2, 1) := by decide +kernel
theorem dX2_refusalOfFlat_10 : decode cX2_refusalOfFlat 10 = .ok (.iconst 1, 1) := by decide +kernel
theorem dX2_refusalOfFlat_11 : decode cX2_refusalOfFlat 11 = .ok (.bipush 99, 2) := by decide +kernel
theorem dX2_refusalOfFlat_13 : decode cX2_refusalOfFlat 13 = .ok (.invokestatic 81, 3) := by decide +kernel
theorem dX2_refusalOfFlat_16 : decode cX2_refusalOfFlat 16 = .ok (.ifCond .ne 7, 3) := by decide +kernel
theorem dX2_refusalOfFlat_19 : decode cX2_refusalOfFlat 19 = .ok (.getstatic 85, 3) := by decide +kernel
theorem dX2_refusalOfFlat_22 : decode cX2_refusalOfFlat 22 = .ok (.areturn, 1) := by decide +kernel
theorem dX2_refusalOfFlat_23 : decode cX2_refusalOfFlat 23 = .ok (.aload_n 0, 1) := by decide +kernel
theorem dX2_refusalOfFlat_24 : decode cX2_refusalOfFlat 24 = .ok (.getfield 9, 3) := by decide +kernel
theorem dX2_refusalOfFlat_27 : decode cX2_refusalOfFlat 27 = .ok (.bipush 6, 2) := by decide +kernel
theorem dX2_refusalOfFlat_29 : decode cX2_refusalOfFlat 29 = .ok (.if_icmp .lt 9, 3) := by decide +kernel
theorem dX2_refusalOfFlat_32 : decode cX2_refusalOfFlat 32 = .ok (.getstatic 91, 3) := by decide +kernel
theorem dX2_refusalOfFlat_35 : decode cX2_refusalOfFlat 35 = .ok (.goto 6, 3) := by decide +kernel
theorem dX2_refusalOfFlat_38 : decode cX2_refusalOfFlat 38 = .ok (.getstatic 94, 3) := by decide +kernel
theorem dX2_refusalOfFlat_41 : decode cX2_refusalOfFlat 41 = .ok (.areturn, 1) := by decide +kernel
theorem dX2_refusalOfTenant_0 : decode cX2_refusalOfTenant 0 = .ok (.iload_n 1, 1) := by decide +kernel
theorem dX2_refusalOfTenant_1 : decode cX2_refusalOfTenant 1 = .ok (.iconst 1, 1) := by decide +kernel
theorem dX2_refusalOfTenant_2 : decode cX2_refusalOfTenant 2 = .ok (.bipush 50, 2) := by decide +kernel
theorem dX2_refusalOfTenant_4 : decode cX2_refusalOfTenant 4 = .ok (.invokestatic 81, 3) := by decide +kernel
theorem dX2_refusalOfTenant_7 : decode cX2_refusalOfTenant 7 = .ok (.ifCond .eq 33, 3) := by decide +kernel
theorem dX2_refusalOfTenant_10 : decode cX2_refusalOfTenant 10 = .ok (.iload_n 2, 1) := by decide +kernel
theorem dX2_refusalOfTenant_11 : decode cX2_refusalOfTenant 11 = .ok (.iconst 0, 1) := by decide +kernel
theorem dX2_refusalOfTenant_12 : decode cX2_refusalOfTenant 12 = .ok (.iconst 5, 1) := by decide +kernel
theorem dX2_refusalOfTenant_13 : decode cX2_refusalOfTenant 13 = .ok (.invokestatic 81, 3) := by decide +kernel
theorem dX2_refusalOfTenant_16 : decode cX2_refusalOfTenant 16 = .ok (.ifCond .eq 24, 3) := by decide +kernel
theorem dX2_refusalOfTenant_19 : decode cX2_refusalOfTenant 19 = .ok (.iload_n 3, 1) := by decide +kernel
theorem dX2_refusalOfTenant_20 : decode cX2_refusalOfTenant 20 = .ok (.iconst 1, 1) := by decide +kernel
theorem dX2_refusalOfTenant_21 : decode cX2_refusalOfTenant 21 = .ok (.bipush 40, 2) := by decide +kernel
theorem dX2_refusalOfTenant_23 : decode cX2_refusalOfTenant 23 = .ok (.invokestatic 81, 3) := by decide +kernel
theorem dX2_refusalOfTenant_26 : decode cX2_refusalOfTenant 26 = .ok (.ifCond .eq 14, 3) := by decide +kernel
theorem dX2_refusalOfTenant_29 : decode cX2_refusalOfTenant 29 = .ok (.iload 4, 2) := by decide +kernel
theorem dX2_refusalOfTenant_31 : decode cX2_refusalOfTenant 31 = .ok (.iconst 0, 1) := by decide +kernel
theorem dX2_refusalOfTenant_32 : decode cX2_refusalOfTenant 32 = .ok (.bipush 99, 2) := by decide +kernel
theorem dX2_refusalOfTenant_34 : decode cX2_refusalOfTenant 34 = .ok (.invokestatic 81, 3) := by decide +kernel
theorem dX2_refusalOfTenant_37 : decode cX2_refusalOfTenant 37 = .ok (.ifCond .ne 7, 3) := by decide +kernel
theorem dX2_refusalOfTenant_40 : decode cX2_refusalOfTenant 40 = .ok (.getstatic 85, 3) := by decide +kernel
theorem dX2_refusalOfTenant_43 : decode cX2_refusalOfTenant 43 = .ok (.areturn, 1) := by decide +kernel
theorem dX2_refusalOfTenant_44 : decode cX2_refusalOfTenant 44 = .ok (.aload_n 0, 1) := by decide +kernel
theorem dX2_refusalOfTenant_45 : decode cX2_refusalOfTenant 45 = .ok (.getfield 22, 3) := by decide +kernel
theorem dX2_refusalOfTenant_48 : decode cX2_refusalOfTenant 48 = .ok (.bipush 6, 2) := by decide +kernel
theorem dX2_refusalOfTenant_50 : decode cX2_refusalOfTenant 50 = .ok (.if_icmp .lt 9, 3) := by decide +kernel
theorem dX2_refusalOfTenant_53 : decode cX2_refusalOfTenant 53 = .ok (.getstatic 91, 3) := by decide +kernel
theorem dX2_refusalOfTenant_56 : decode cX2_refusalOfTenant 56 = .ok (.goto 6, 3) := by decide +kernel
theorem dX2_refusalOfTenant_59 : decode cX2_refusalOfTenant 59 = .ok (.getstatic 94, 3) := by decide +kernel
theorem dX2_refusalOfTenant_62 : decode cX2_refusalOfTenant 62 = .ok (.areturn, 1) := by decide +kernel
theorem dX2_refusalOfGoing_0 : decode cX2_refusalOfGoing 0 = .ok (.aload_n 0, 1) := by decide +kernel
theorem dX2_refusalOfGoing_1 : decode cX2_refusalOfGoing 1 = .ok (.iload_n 1, 1) := by decide +kernel
theorem dX2_refusalOfGoing_2 : decode cX2_refusalOfGoing 2 = .ok (.invokevirtual 97, 3) := by decide +kernel
theorem dX2_refusalOfGoing_5 : decode cX2_refusalOfGoing 5 = .ok (.istore_n 2, 1) := by decide +kernel
theorem dX2_refusalOfGoing_6 : decode cX2_refusalOfGoing 6 = .ok (.iload_n 2, 1) := by decide +kernel
theorem dX2_refusalOfGoing_7 : decode cX2_refusalOfGoing 7 = .ok (.iconst (-1), 1) := by decide +kernel
theorem dX2_refusalOfGoing_8 : decode cX2_refusalOfGoing 8 = .ok (.if_icmp .ne 7, 3) := by decide +kernel
theorem dX2_refusalOfGoing_11 : decode cX2_refusalOfGoing 11 = .ok (.getstatic 101, 3) := by decide +kernel
theorem dX2_refusalOfGoing_14 : decode cX2_refusalOfGoing 14 = .ok (.areturn, 1) := by decide +kernel
theorem dX2_refusalOfGoing_15 : decode cX2_refusalOfGoing 15 = .ok (.aload_n 0, 1) := by decide +kernel
theorem dX2_refusalOfGoing_16 : decode cX2_refusalOfGoing 16 = .ok (.getfield 46, 3) := by decide +kernel
theorem dX2_refusalOfGoing_19 : decode cX2_refusalOfGoing 19 = .ok (.iload_n 2, 1) := by decide +kernel
theorem dX2_refusalOfGoing_20 : decode cX2_refusalOfGoing 20 = .ok (.iaload, 1) := by decide +kernel
theorem dX2_refusalOfGoing_21 : decode cX2_refusalOfGoing 21 = .ok (.iconst (-1), 1) := by decide +kernel
theorem dX2_refusalOfGoing_22 : decode cX2_refusalOfGoing 22 = .ok (.if_icmp .eq 9, 3) := by decide +kernel
theorem dX2_refusalOfGoing_25 : decode cX2_refusalOfGoing 25 = .ok (.getstatic 91, 3) := by decide +kernel
theorem dX2_refusalOfGoing_28 : decode cX2_refusalOfGoing 28 = .ok (.goto 6, 3) := by decide +kernel
theorem dX2_refusalOfGoing_31 : decode cX2_refusalOfGoing 31 = .ok (.getstatic 94, 3) := by decide +kernel
theorem dX2_refusalOfGoing_34 : decode cX2_refusalOfGoing 34 = .ok (.areturn, 1) := by decide +kernel
theorem dX2_refusalOfMovingIn_0 : decode cX2_refusalOfMovingIn 0 = .ok (.aload_n 0, 1) := by decide +kernel
theorem dX2_refusalOfMovingIn_1 : decode cX2_refusalOfMovingIn 1 = .ok (.iload_n 1, 1) := by decide +kernel
theorem dX2_refusalOfMovingIn_2 : decode cX2_refusalOfMovingIn 2 = .ok (.invokevirtual 97, 3) := by decide +kernel
theorem dX2_refusalOfMovingIn_5 : decode cX2_refusalOfMovingIn 5 = .ok (.istore_n 3, 1) := by decide +kernel
theorem dX2_refusalOfMovingIn_6 : decode cX2_refusalOfMovingIn 6 = .ok (.iload_n 3, 1) := by decide +kernel
theorem dX2_refusalOfMovingIn_7 : decode cX2_refusalOfMovingIn 7 = .ok (.iconst (-1), 1) := by decide +kernel
theorem dX2_refusalOfMovingIn_8 : decode cX2_refusalOfMovingIn 8 = .ok (.if_icmp .ne 7, 3) := by decide +kernel
theorem dX2_refusalOfMovingIn_11 : decode cX2_refusalOfMovingIn 11 = .ok (.getstatic 101, 3) := by decide +kernel
theorem dX2_refusalOfMovingIn_14 : decode cX2_refusalOfMovingIn 14 = .ok (.areturn, 1) := by decide +kernel
theorem dX2_refusalOfMovingIn_15 : decode cX2_refusalOfMovingIn 15 = .ok (.aload_n 0, 1) := by decide +kernel
theorem dX2_refusalOfMovingIn_16 : decode cX2_refusalOfMovingIn 16 = .ok (.iload_n 2, 1) := by decide +kernel
theorem dX2_refusalOfMovingIn_17 : decode cX2_refusalOfMovingIn 17 = .ok (.invokevirtual 104, 3) := by decide +kernel
theorem dX2_refusalOfMovingIn_20 : decode cX2_refusalOfMovingIn 20 = .ok (.ifCond .ne 7, 3) := by decide +kernel
theorem dX2_refusalOfMovingIn_23 : decode cX2_refusalOfMovingIn 23 = .ok (.getstatic 108, 3) := by decide +kernel
theorem dX2_refusalOfMovingIn_26 : decode cX2_refusalOfMovingIn 26 = .ok (.areturn, 1) := by decide +kernel
theorem dX2_refusalOfMovingIn_27 : decode cX2_refusalOfMovingIn 27 = .ok (.aload_n 0, 1) := by decide +kernel
theorem dX2_refusalOfMovingIn_28 : decode cX2_refusalOfMovingIn 28 = .ok (.getfield 46, 3) := by decide +kernel
theorem dX2_refusalOfMovingIn_31 : decode cX2_refusalOfMovingIn 31 = .ok (.iload_n 3, 1) := by decide +kernel
theorem dX2_refusalOfMovingIn_32 : decode cX2_refusalOfMovingIn 32 = .ok (.iaload, 1) := by decide +kernel
theorem dX2_refusalOfMovingIn_33 : decode cX2_refusalOfMovingIn 33 = .ok (.iconst (-1), 1) := by decide +kernel
theorem dX2_refusalOfMovingIn_34 : decode cX2_refusalOfMovingIn 34 = .ok (.if_icmp .ne 12, 3) := by decide +kernel
theorem dX2_refusalOfMovingIn_37 : decode cX2_refusalOfMovingIn 37 = .ok (.aload_n 0, 1) := by decide +kernel
theorem dX2_refusalOfMovingIn_38 : decode cX2_refusalOfMovingIn 38 = .ok (.iload_n 2, 1) := by decide +kernel
theorem dX2_refusalOfMovingIn_39 : decode cX2_refusalOfMovingIn 39 = .ok (.invokevirtual 111, 3) := by decide +kernel
theorem dX2_refusalOfMovingIn_42 : decode cX2_refusalOfMovingIn 42 = .ok (.iconst (-1), 1) := by decide +kernel
theorem dX2_refusalOfMovingIn_43 : decode cX2_refusalOfMovingIn 43 = .ok (.if_icmp .eq 7, 3) := by decide +kernel
theorem dX2_refusalOfMovingIn_46 : decode cX2_refusalOfMovingIn 46 = .ok (.getstatic 91, 3) := by decide +kernel
theorem dX2_refusalOfMovingIn_49 : decode cX2_refusalOfMovingIn 49 = .ok (.areturn, 1) := by decide +kernel
theorem dX2_refusalOfMovingIn_50 : decode cX2_refusalOfMovingIn 50 = .ok (.aload_n 0, 1) := by decide +kernel
theorem dX2_refusalOfMovingIn_51 : decode cX2_refusalOfMovingIn 51 = .ok (.iload_n 3, 1) := by decide +kernel
theorem dX2_refusalOfMovingIn_52 : decode cX2_refusalOfMovingIn 52 = .ok (.iload_n 2, 1) := by decide +kernel
theorem dX2_refusalOfMovingIn_53 : decode cX2_refusalOfMovingIn 53 = .ok (.invokevirtual 114, 3) := by decide +kernel
theorem dX2_refusalOfMovingIn_56 : decode cX2_refusalOfMovingIn 56 = .ok (.ifCond .eq 9, 3) := by decide +kernel
theorem dX2_refusalOfMovingIn_59 : decode cX2_refusalOfMovingIn 59 = .ok (.getstatic 94, 3) := by decide +kernel
theorem dX2_refusalOfMovingIn_62 : decode cX2_refusalOfMovingIn 62 = .ok (.goto 6, 3) := by decide +kernel
theorem dX2_refusalOfMovingIn_65 : decode cX2_refusalOfMovingIn 65 = .ok (.getstatic 118, 3) := by decide +kernel
theorem dX2_refusalOfMovingIn_68 : decode cX2_refusalOfMovingIn 68 = .ok (.areturn, 1) := by decide +kernel
theorem dX2_refusalOfMovingOut_0 : decode cX2_refusalOfMovingOut 0 = .ok (.aload_n 0, 1) := by decide +kernel
theorem dX2_refusalOfMovingOut_1 : decode cX2_refusalOfMovingOut 1 = .ok (.iload_n 1, 1) := by decide +kernel
theorem dX2_refusalOfMovingOut_2 : decode cX2_refusalOfMovingOut 2 = .ok (.invokevirtual 97, 3) := by decide +kernel
theorem dX2_refusalOfMovingOut_5 : decode cX2_refusalOfMovingOut 5 = .ok (.istore_n 2, 1) := by decide +kernel
theorem dX2_refusalOfMovingOut_6 : decode cX2_refusalOfMovingOut 6 = .ok (.iload_n 2, 1) := by decide +kernel
theorem dX2_refusalOfMovingOut_7 : decode cX2_refusalOfMovingOut 7 = .ok (.iconst (-1), 1) := by decide +kernel
theorem dX2_refusalOfMovingOut_8 : decode cX2_refusalOfMovingOut 8 = .ok (.if_icmp .ne 7, 3) := by decide +kernel
theorem dX2_refusalOfMovingOut_11 : decode cX2_refusalOfMovingOut 11 = .ok (.getstatic 101, 3) := by decide +kernel
theorem dX2_refusalOfMovingOut_14 : decode cX2_refusalOfMovingOut 14 = .ok (.areturn, 1) := by decide +kernel
theorem dX2_refusalOfMovingOut_15 : decode cX2_refusalOfMovingOut 15 = .ok (.aload_n 0, 1) := by decide +kernel
theorem dX2_refusalOfMovingOut_16 : decode cX2_refusalOfMovingOut 16 = .ok (.getfield 46, 3) := by decide +kernel
theorem dX2_refusalOfMovingOut_19 : decode cX2_refusalOfMovingOut 19 = .ok (.iload_n 2, 1) := by decide +kernel
theorem dX2_refusalOfMovingOut_20 : decode cX2_refusalOfMovingOut 20 = .ok (.iaload, 1) := by decide +kernel
theorem dX2_refusalOfMovingOut_21 : decode cX2_refusalOfMovingOut 21 = .ok (.iconst (-1), 1) := by decide +kernel
theorem dX2_refusalOfMovingOut_22 : decode cX2_refusalOfMovingOut 22 = .ok (.if_icmp .ne 9, 3) := by decide +kernel
theorem dX2_refusalOfMovingOut_25 : decode cX2_refusalOfMovingOut 25 = .ok (.getstatic 91, 3) := by decide +kernel
theorem dX2_refusalOfMovingOut_28 : decode cX2_refusalOfMovingOut 28 = .ok (.goto 6, 3) := by decide +kernel
theorem dX2_refusalOfMovingOut_31 : decode cX2_refusalOfMovingOut 31 = .ok (.getstatic 94, 3) := by decide +kernel
theorem dX2_refusalOfMovingOut_34 : decode cX2_refusalOfMovingOut 34 = .ok (.areturn, 1) := by decide +kernel
theorem dX2_refusalOfRent_0 : decode cX2_refusalOfRent 0 = .ok (.aload_n 0, 1) := by decide +kernel
theorem dX2_refusalOfRent_1 : decode cX2_refusalOfRent 1 = .ok (.iload_n 1, 1) := by decide +kernel
theorem dX2_refusalOfRent_2 : decode cX2_refusalOfRent 2 = .ok (.invokevirtual 104, 3) := by decide +kernel
theorem dX2_refusalOfRent_5 : decode cX2_refusalOfRent 5 = .ok (.ifCond .ne 7, 3) := by decide +kernel
theorem dX2_refusalOfRent_8 : decode cX2_refusalOfRent 8 = .ok (.getstatic 108, 3) := by decide +kernel
theorem dX2_refusalOfRent_11 : decode cX2_refusalOfRent 11 = .ok (.areturn, 1) := by decide +kernel
theorem dX2_refusalOfRent_12 : decode cX2_refusalOfRent 12 = .ok (.iload_n 2, 1) := by decide +kernel
theorem dX2_refusalOfRent_13 : decode cX2_refusalOfRent 13 = .ok (.iconst 1, 1) := by decide +kernel
theorem dX2_refusalOfRent_14 : decode cX2_refusalOfRent 14 = .ok (.bipush 99, 2) := by decide +kernel
theorem dX2_refusalOfRent_16 : decode cX2_refusalOfRent 16 = .ok (.invokestatic 81, 3) := by decide +kernel
theorem dX2_refusalOfRent_19 : decode cX2_refusalOfRent 19 = .ok (.ifCond .eq 9, 3) := by decide +kernel
theorem dX2_refusalOfRent_22 : decode cX2_refusalOfRent 22 = .ok (.getstatic 94, 3) := by decide +kernel
theorem dX2_refusalOfRent_25 : decode cX2_refusalOfRent 25 = .ok (.goto 6, 3) := by decide +kernel
theorem dX2_refusalOfRent_28 : decode cX2_refusalOfRent 28 = .ok (.getstatic 85, 3) := by decide +kernel
theorem dX2_refusalOfRent_31 : decode cX2_refusalOfRent 31 = .ok (.areturn, 1) := by decide +kernel
theorem dX2_refusalOfGift_0 : decode cX2_refusalOfGift 0 = .ok (.aload_n 0, 1) := by decide +kernel
theorem dX2_refusalOfGift_1 : decode cX2_refusalOfGift 1 = .ok (.iload_n 1, 1) := by decide +kernel
theorem dX2_refusalOfGift_2 : decode cX2_refusalOfGift 2 = .ok (.invokevirtual 97, 3) := by decide +kernel
theorem dX2_refusalOfGift_5 : decode cX2_refusalOfGift 5 = .ok (.iconst (-1), 1) := by decide +kernel
theorem dX2_refusalOfGift_6 : decode cX2_refusalOfGift 6 = .ok (.if_icmp .ne 7, 3) := by decide +kernel
theorem dX2_refusalOfGift_9 : decode cX2_refusalOfGift 9 = .ok (.getstatic 101, 3) := by decide +kernel
theorem dX2_refusalOfGift_12 : decode cX2_refusalOfGift 12 = .ok (.areturn, 1) := by decide +kernel
theorem dX2_refusalOfGift_13 : decode cX2_refusalOfGift 13 = .ok (.iload_n 2, 1) := by decide +kernel
theorem dX2_refusalOfGift_14 : decode cX2_refusalOfGift 14 = .ok (.iconst 1, 1) := by decide +kernel
theorem dX2_refusalOfGift_15 : decode cX2_refusalOfGift 15 = .ok (.bipush 99, 2) := by decide +kernel
theorem dX2_refusalOfGift_17 : decode cX2_refusalOfGift 17 = .ok (.invokestatic 81, 3) := by decide +kernel
theorem dX2_refusalOfGift_20 : decode cX2_refusalOfGift 20 = .ok (.ifCond .eq 9, 3) := by decide +kernel
theorem dX2_refusalOfGift_23 : decode cX2_refusalOfGift 23 = .ok (.getstatic 94, 3) := by decide +kernel
theorem dX2_refusalOfGift_26 : decode cX2_refusalOfGift 26 = .ok (.goto 6, 3) := by decide +kernel
theorem dX2_refusalOfGift_29 : decode cX2_refusalOfGift 29 = .ok (.getstatic 85, 3) := by decide +kernel
theorem dX2_refusalOfGift_32 : decode cX2_refusalOfGift 32 = .ok (.areturn, 1) := by decide +kernel
theorem dX2_refusalOfMonths_0 : decode cX2_refusalOfMonths 0 = .ok (.iload_n 1, 1) := by decide +kernel
theorem dX2_refusalOfMonths_1 : decode cX2_refusalOfMonths 1 = .ok (.iconst 1, 1) := by decide +kernel
theorem dX2_refusalOfMonths_2 : decode cX2_refusalOfMonths 2 = .ok (.bipush 24, 2) := by decide +kernel
theorem dX2_refusalOfMonths_4 : decode cX2_refusalOfMonths 4 = .ok (.invokestatic 81, 3) := by decide +kernel
theorem dX2_refusalOfMonths_7 : decode cX2_refusalOfMonths 7 = .ok (.ifCond .eq 9, 3) := by decide +kernel
theorem dX2_refusalOfMonths_10 : decode cX2_refusalOfMonths 10 = .ok (.getstatic 94, 3) := by decide +kernel
theorem dX2_refusalOfMonths_13 : decode cX2_refusalOfMonths 13 = .ok (.goto 6, 3) := by decide +kernel
theorem dX2_refusalOfMonths_16 : decode cX2_refusalOfMonths 16 = .ok (.getstatic 85, 3) := by decide +kernel
theorem dX2_refusalOfMonths_19 : decode cX2_refusalOfMonths 19 = .ok (.areturn, 1) := by decide +kernel
theorem dX2_buildFlat_0 : decode cX2_buildFlat 0 = .ok (.aload_n 0, 1) := by decide +kernel
theorem dX2_buildFlat_1 : decode cX2_buildFlat 1 = .ok (.getfield 9, 3) := by decide +kernel
theorem dX2_buildFlat_4 : decode cX2_buildFlat 4 = .ok (.istore_n 3, 1) := by decide +kernel
theorem dX2_buildFlat_5 : decode cX2_buildFlat 5 = .ok (.aload_n 0, 1) := by decide +kernel
theorem dX2_buildFlat_6 : decode cX2_buildFlat 6 = .ok (.getfield 15, 3) := by decide +kernel
theorem dX2_buildFlat_9 : decode cX2_buildFlat 9 = .ok (.iload_n 3, 1) := by decide +kernel
theorem dX2_buildFlat_10 : decode cX2_buildFlat 10 = .ok (.iload_n 1, 1) := by decide +kernel
theorem dX2_buildFlat_11 : decode cX2_buildFlat 11 = .ok (.iastore, 1) := by decide +kernel
theorem dX2_buildFlat_12 : decode cX2_buildFlat 12 = .ok (.aload_n 0, 1) := by decide +kernel
theorem dX2_buildFlat_13 : decode cX2_buildFlat 13 = .ok (.getfield 19, 3) := by decide +kernel
theorem dX2_buildFlat_16 : decode cX2_buildFlat 16 = .ok (.iload_n 3, 1) := by decide +kernel
theorem dX2_buildFlat_17 : decode cX2_buildFlat 17 = .ok (.iload_n 2, 1) := by decide +kernel
theorem dX2_buildFlat_18 : decode cX2_buildFlat 18 = .ok (.iastore, 1) := by decide +kernel
theorem dX2_buildFlat_19 : decode cX2_buildFlat 19 = .ok (.aload_n 0, 1) := by decide +kernel
theorem dX2_buildFlat_20 : decode cX2_buildFlat 20 = .ok (.dup, 1) := by decide +kernel
theorem dX2_buildFlat_21 : decode cX2_buildFlat 21 = .ok (.getfield 9, 3) := by decide +kernel
theorem dX2_buildFlat_24 : decode cX2_buildFlat 24 = .ok (.iconst 1, 1) := by decide +kernel
theorem dX2_buildFlat_25 : decode cX2_buildFlat 25 = .ok (.iadd, 1) := by decide +kernel
theorem dX2_buildFlat_26 : decode cX2_buildFlat 26 = .ok (.putfield 9, 3) := by decide +kernel
theorem dX2_buildFlat_29 : decode cX2_buildFlat 29 = .ok (.iload_n 3, 1) := by decide +kernel
theorem dX2_buildFlat_30 : decode cX2_buildFlat 30 = .ok (.ireturn, 1) := by decide +kernel
theorem dX2_welcome_0 : decode cX2_welcome 0 = .ok (.aload_n 0, 1) := by decide +kernel
theorem dX2_welcome_1 : decode cX2_welcome 1 = .ok (.getfield 22, 3) := by decide +kernel
theorem dX2_welcome_4 : decode cX2_welcome 4 = .ok (.istore 5, 2) := by decide +kernel
theorem dX2_welcome_6 : decode cX2_welcome 6 = .ok (.aload_n 0, 1) := by decide +kernel
theorem dX2_welcome_7 : decode cX2_welcome 7 = .ok (.getfield 28, 3) := by decide +kernel
theorem dX2_welcome_10 : decode cX2_welcome 10 = .ok (.iload 5, 2) := by decide +kernel
theorem dX2_welcome_12 : decode cX2_welcome 12 = .ok (.aload_n 0, 1) := by decide +kernel
theorem dX2_welcome_13 : decode cX2_welcome 13 = .ok (.getfield 25, 3) := by decide +kernel
theorem dX2_welcome_16 : decode cX2_welcome 16 = .ok (.iastore, 1) := by decide +kernel
theorem dX2_welcome_17 : decode cX2_welcome 17 = .ok (.aload_n 0, 1) := by decide +kernel
theorem dX2_welcome_18 : decode cX2_welcome 18 = .ok (.getfield 31, 3) := by decide +kernel
theorem dX2_welcome_21 : decode cX2_welcome 21 = .ok (.iload 5, 2) := by decide +kernel
theorem dX2_welcome_23 : decode cX2_welcome 23 = .ok (.iload_n 1, 1) := by decide +kernel
theorem dX2_welcome_24 : decode cX2_welcome 24 = .ok (.iastore, 1) := by decide +kernel
theorem dX2_welcome_25 : decode cX2_welcome 25 = .ok (.aload_n 0, 1) := by decide +kernel
theorem dX2_welcome_26 : decode cX2_welcome 26 = .ok (.getfield 34, 3) := by decide +kernel
theorem dX2_welcome_29 : decode cX2_welcome 29 = .ok (.iload 5, 2) := by decide +kernel
theorem dX2_welcome_31 : decode cX2_welcome 31 = .ok (.iload_n 2, 1) := by decide +kernel
theorem dX2_welcome_32 : decode cX2_welcome 32 = .ok (.iastore, 1) := by decide +kernel
theorem dX2_welcome_33 : decode cX2_welcome 33 = .ok (.aload_n 0, 1) := by decide +kernel
theorem dX2_welcome_34 : decode cX2_welcome 34 = .ok (.getfield 37, 3) := by decide +kernel
theorem dX2_welcome_37 : decode cX2_welcome 37 = .ok (.iload 5, 2) := by decide +kernel
theorem dX2_welcome_39 : decode cX2_welcome 39 = .ok (.iload_n 3, 1) := by decide +kernel
theorem dX2_welcome_40 : decode cX2_welcome 40 = .ok (.iastore, 1) := by decide +kernel
theorem dX2_welcome_41 : decode cX2_welcome 41 = .ok (.aload_n 0, 1) := by decide +kernel
theorem dX2_welcome_42 : decode cX2_welcome 42 = .ok (.getfield 40, 3) := by decide +kernel
theorem dX2_welcome_45 : decode cX2_welcome 45 = .ok (.iload 5, 2) := by decide +kernel
theorem dX2_welcome_47 : decode cX2_welcome 47 = .ok (.iload 4, 2) := by decide +kernel
theorem dX2_welcome_49 : decode cX2_welcome 49 = .ok (.iastore, 1) := by decide +kernel
theorem dX2_welcome_50 : decode cX2_welcome 50 = .ok (.aload_n 0, 1) := by decide +kernel
theorem dX2_welcome_51 : decode cX2_welcome 51 = .ok (.getfield 43, 3) := by decide +kernel
theorem dX2_welcome_54 : decode cX2_welcome 54 = .ok (.iload 5, 2) := by decide +kernel
theorem dX2_welcome_56 : decode cX2_welcome 56 = .ok (.iconst 0, 1) := by decide +kernel
theorem dX2_welcome_57 : decode cX2_welcome 57 = .ok (.iastore, 1) := by decide +kernel
theorem dX2_welcome_58 : decode cX2_welcome 58 = .ok (.aload_n 0, 1) := by decide +kernel
theorem dX2_welcome_59 : decode cX2_welcome 59 = .ok (.getfield 46, 3) := by decide +kernel
theorem dX2_welcome_62 : decode cX2_welcome 62 = .ok (.iload 5, 2) := by decide +kernel
theorem dX2_welcome_64 : decode cX2_welcome 64 = .ok (.iconst (-1), 1) := by decide +kernel
theorem dX2_welcome_65 : decode cX2_welcome 65 = .ok (.iastore, 1) := by decide +kernel
theorem dX2_welcome_66 : decode cX2_welcome 66 = .ok (.aload_n 0, 1) := by decide +kernel
theorem dX2_welcome_67 : decode cX2_welcome 67 = .ok (.dup, 1) := by decide +kernel
theorem dX2_welcome_68 : decode cX2_welcome 68 = .ok (.getfield 22, 3) := by decide +kernel
theorem dX2_welcome_71 : decode cX2_welcome 71 = .ok (.iconst 1, 1) := by decide +kernel
theorem dX2_welcome_72 : decode cX2_welcome 72 = .ok (.iadd, 1) := by decide +kernel
theorem dX2_welcome_73 : decode cX2_welcome 73 = .ok (.putfield 22, 3) := by decide +kernel
theorem dX2_welcome_76 : decode cX2_welcome 76 = .ok (.aload_n 0, 1) := by decide +kernel
theorem dX2_welcome_77 : decode cX2_welcome 77 = .ok (.dup, 1) := by decide +kernel
theorem dX2_welcome_78 : decode cX2_welcome 78 = .ok (.getfield 25, 3) := by decide +kernel
theorem dX2_welcome_81 : decode cX2_welcome 81 = .ok (.iconst 1, 1) := by decide +kernel
theorem dX2_welcome_82 : decode cX2_welcome 82 = .ok (.iadd, 1) := by decide +kernel
theorem dX2_welcome_83 : decode cX2_welcome 83 = .ok (.putfield 25, 3) := by decide +kernel
theorem dX2_welcome_86 : decode cX2_welcome 86 = .ok (.aload_n 0, 1) := by decide +kernel
theorem dX2_welcome_87 : decode cX2_welcome 87 = .ok (.dup, 1) := by decide +kernel
theorem dX2_welcome_88 : decode cX2_welcome 88 = .ok (.getfield 58, 3) := by decide +kernel
theorem dX2_welcome_91 : decode cX2_welcome 91 = .ok (.iload 4, 2) := by decide +kernel
theorem dX2_welcome_93 : decode cX2_welcome 93 = .ok (.i2l, 1) := by decide +kernel
theorem dX2_welcome_94 : decode cX2_welcome 94 = .ok (.ladd, 1) := by decide +kernel
theorem dX2_welcome_95 : decode cX2_welcome 95 = .ok (.putfield 58, 3) := by decide +kernel
theorem dX2_welcome_98 : decode cX2_welcome 98 = .ok (.aload_n 0, 1) := by decide +kernel
theorem dX2_welcome_99 : decode cX2_welcome 99 = .ok (.getfield 28, 3) := by decide +kernel
theorem dX2_welcome_102 : decode cX2_welcome 102 = .ok (.iload 5, 2) := by decide +kernel
theorem dX2_welcome_104 : decode cX2_welcome 104 = .ok (.iaload, 1) := by decide +kernel
theorem dX2_welcome_105 : decode cX2_welcome 105 = .ok (.ireturn, 1) := by decide +kernel
theorem dX2_sendAway_0 : decode cX2_sendAway 0 = .ok (.aload_n 0, 1) := by decide +kernel
theorem dX2_sendAway_1 : decode cX2_sendAway 1 = .ok (.dup, 1) := by decide +kernel
theorem dX2_sendAway_2 : decode cX2_sendAway 2 = .ok (.getfield 62, 3) := by decide +kernel
theorem dX2_sendAway_5 : decode cX2_sendAway 5 = .ok (.aload_n 0, 1) := by decide +kernel
theorem dX2_sendAway_6 : decode cX2_sendAway 6 = .ok (.getfield 40, 3) := by decide +kernel
theorem dX2_sendAway_9 : decode cX2_sendAway 9 = .ok (.iload_n 1, 1) := by decide +kernel
theorem dX2_sendAway_10 : decode cX2_sendAway 10 = .ok (.iaload, 1) := by decide +kernel
theorem dX2_sendAway_11 : decode cX2_sendAway 11 = .ok (.i2l, 1) := by decide +kernel
theorem dX2_sendAway_12 : decode cX2_sendAway 12 = .ok (.ladd, 1) := by decide +kernel
theorem dX2_sendAway_13 : decode cX2_sendAway 13 = .ok (.putfield 62, 3) := by decide +kernel
theorem dX2_sendAway_16 : decode cX2_sendAway 16 = .ok (.aload_n 0, 1) := by decide +kernel
theorem dX2_sendAway_17 : decode cX2_sendAway 17 = .ok (.dup, 1) := by decide +kernel
theorem dX2_sendAway_18 : decode cX2_sendAway 18 = .ok (.getfield 22, 3) := by decide +kernel
theorem dX2_sendAway_21 : decode cX2_sendAway 21 = .ok (.iconst 1, 1) := by decide +kernel
theorem dX2_sendAway_22 : decode cX2_sendAway 22 = .ok (.isub, 1) := by decide +kernel
theorem dX2_sendAway_23 : decode cX2_sendAway 23 = .ok (.putfield 22, 3) := by decide +kernel
theorem dX2_sendAway_26 : decode cX2_sendAway 26 = .ok (.aload_n 0, 1) := by decide +kernel
theorem dX2_sendAway_27 : decode cX2_sendAway 27 = .ok (.getfield 28, 3) := by decide +kernel
theorem dX2_sendAway_30 : decode cX2_sendAway 30 = .ok (.iload_n 1, 1) := by decide +kernel
theorem dX2_sendAway_31 : decode cX2_sendAway 31 = .ok (.invokestatic 121, 3) := by decide +kernel
theorem dX2_sendAway_34 : decode cX2_sendAway 34 = .ok (.aload_n 0, 1) := by decide +kernel
theorem dX2_sendAway_35 : decode cX2_sendAway 35 = .ok (.getfield 31, 3) := by decide +kernel
theorem dX2_sendAway_38 : decode cX2_sendAway 38 = .ok (.iload_n 1, 1) := by decide +kernel
theorem dX2_sendAway_39 : decode cX2_sendAway 39 = .ok (.invokestatic 121, 3) := by decide +kernel
theorem dX2_sendAway_42 : decode cX2_sendAway 42 = .ok (.aload_n 0, 1) := by decide +kernel
theorem dX2_sendAway_43 : decode cX2_sendAway 43 = .ok (.getfield 34, 3) := by decide +kernel
theorem dX2_sendAway_46 : decode cX2_sendAway 46 = .ok (.iload_n 1, 1) := by decide +kernel
theorem dX2_sendAway_47 : decode cX2_sendAway 47 = .ok (.invokestatic 121, 3) := by decide +kernel
theorem dX2_sendAway_50 : decode cX2_sendAway 50 = .ok (.aload_n 0, 1) := by decide +kernel
theorem dX2_sendAway_51 : decode cX2_sendAway 51 = .ok (.getfield 37, 3) := by decide +kernel
theorem dX2_sendAway_54 : decode cX2_sendAway 54 = .ok (.iload_n 1, 1) := by decide +kernel
theorem dX2_sendAway_55 : decode cX2_sendAway 55 = .ok (.invokestatic 121, 3) := by decide +kernel
theorem dX2_sendAway_58 : decode cX2_sendAway 58 = .ok (.aload_n 0, 1) := by decide +kernel
theorem dX2_sendAway_59 : decode cX2_sendAway 59 = .ok (.getfield 40, 3) := by decide +kernel
theorem dX2_sendAway_62 : decode cX2_sendAway 62 = .ok (.iload_n 1, 1) := by decide +kernel
theorem dX2_sendAway_63 : decode cX2_sendAway 63 = .ok (.invokestatic 121, 3) := by decide +kernel
theorem dX2_sendAway_66 : decode cX2_sendAway 66 = .ok (.aload_n 0, 1) := by decide +kernel
theorem dX2_sendAway_67 : decode cX2_sendAway 67 = .ok (.getfield 43, 3) := by decide +kernel
theorem dX2_sendAway_70 : decode cX2_sendAway 70 = .ok (.iload_n 1, 1) := by decide +kernel
theorem dX2_sendAway_71 : decode cX2_sendAway 71 = .ok (.invokestatic 121, 3) := by decide +kernel
theorem dX2_sendAway_74 : decode cX2_sendAway 74 = .ok (.aload_n 0, 1) := by decide +kernel
theorem dX2_sendAway_75 : decode cX2_sendAway 75 = .ok (.getfield 46, 3) := by decide +kernel
theorem dX2_sendAway_78 : decode cX2_sendAway 78 = .ok (.iload_n 1, 1) := by decide +kernel
theorem dX2_sendAway_79 : decode cX2_sendAway 79 = .ok (.invokestatic 121, 3) := by decide +kernel
theorem dX2_sendAway_82 : decode cX2_sendAway 82 = .ok (.aload_n 0, 1) := by decide +kernel
theorem dX2_sendAway_83 : decode cX2_sendAway 83 = .ok (.getfield 22, 3) := by decide +kernel
theorem dX2_sendAway_86 : decode cX2_sendAway 86 = .ok (.ireturn, 1) := by decide +kernel
theorem dX2_closeGap_0 : decode cX2_closeGap 0 = .ok (.iload_n 1, 1) := by decide +kernel
theorem dX2_closeGap_1 : decode cX2_closeGap 1 = .ok (.iconst 1, 1) := by decide +kernel
theorem dX2_closeGap_2 : decode cX2_closeGap 2 = .ok (.iadd, 1) := by decide +kernel
theorem dX2_closeGap_3 : decode cX2_closeGap 3 = .ok (.istore_n 2, 1) := by decide +kernel
theorem dX2_closeGap_4 : decode cX2_closeGap 4 = .ok (.iload_n 2, 1) := by decide +kernel
theorem dX2_closeGap_5 : decode cX2_closeGap 5 = .ok (.aload_n 0, 1) := by decide +kernel
theorem dX2_closeGap_6 : decode cX2_closeGap 6 = .ok (.arraylength, 1) := by decide +kernel
theorem dX2_closeGap_7 : decode cX2_closeGap 7 = .ok (.if_icmp .ge 17, 3) := by decide +kernel
theorem dX2_closeGap_10 : decode cX2_closeGap 10 = .ok (.aload_n 0, 1) := by decide +kernel
theorem dX2_closeGap_11 : decode cX2_closeGap 11 = .ok (.iload_n 2, 1) := by decide +kernel
theorem dX2_closeGap_12 : decode cX2_closeGap 12 = .ok (.iconst 1, 1) := by decide +kernel
theorem dX2_closeGap_13 : decode cX2_closeGap 13 = .ok (.isub, 1) := by decide +kernel
theorem dX2_closeGap_14 : decode cX2_closeGap 14 = .ok (.aload_n 0, 1) := by decide +kernel
theorem dX2_closeGap_15 : decode cX2_closeGap 15 = .ok (.iload_n 2, 1) := by decide +kernel
theorem dX2_closeGap_16 : decode cX2_closeGap 16 = .ok (.iaload, 1) := by decide +kernel
theorem dX2_closeGap_17 : decode cX2_closeGap 17 = .ok (.iastore, 1) := by decide +kernel
theorem dX2_closeGap_18 : decode cX2_closeGap 18 = .ok (.iinc 2 1, 3) := by decide +kernel
theorem dX2_closeGap_21 : decode cX2_closeGap 21 = .ok (.goto (-17), 3) := by decide +kernel
theorem dX2_closeGap_24 : decode cX2_closeGap 24 = .ok (.return_, 1) := by decide +kernel
theorem dX2_lodge_0 : decode cX2_lodge 0 = .ok (.aload_n 0, 1) := by decide +kernel
theorem dX2_lodge_1 : decode cX2_lodge 1 = .ok (.getfield 46, 3) := by decide +kernel
theorem dX2_lodge_4 : decode cX2_lodge 4 = .ok (.iload_n 1, 1) := by decide +kernel
theorem dX2_lodge_5 : decode cX2_lodge 5 = .ok (.iload_n 2, 1) := by decide +kernel
theorem dX2_lodge_6 : decode cX2_lodge 6 = .ok (.iastore, 1) := by decide +kernel
theorem dX2_lodge_7 : decode cX2_lodge 7 = .ok (.aload_n 0, 1) := by decide +kernel
theorem dX2_lodge_8 : decode cX2_lodge 8 = .ok (.iload_n 1, 1) := by decide +kernel
theorem dX2_lodge_9 : decode cX2_lodge 9 = .ok (.iload_n 2, 1) := by decide +kernel
theorem dX2_lodge_10 : decode cX2_lodge 10 = .ok (.invokevirtual 125, 3) := by decide +kernel
theorem dX2_lodge_13 : decode cX2_lodge 13 = .ok (.ireturn, 1) := by decide +kernel
theorem dX2_changeRent_0 : decode cX2_changeRent 0 = .ok (.aload_n 0, 1) := by decide +kernel
theorem dX2_changeRent_1 : decode cX2_changeRent 1 = .ok (.getfield 19, 3) := by decide +kernel
theorem dX2_changeRent_4 : decode cX2_changeRent 4 = .ok (.iload_n 1, 1) := by decide +kernel
theorem dX2_changeRent_5 : decode cX2_changeRent 5 = .ok (.iaload, 1) := by decide +kernel
theorem dX2_changeRent_6 : decode cX2_changeRent 6 = .ok (.istore_n 3, 1) := by decide +kernel
theorem dX2_changeRent_7 : decode cX2_changeRent 7 = .ok (.aload_n 0, 1) := by decide +kernel
theorem dX2_changeRent_8 : decode cX2_changeRent 8 = .ok (.getfield 19, 3) := by decide +kernel
theorem dX2_changeRent_11 : decode cX2_changeRent 11 = .ok (.iload_n 1, 1) := by decide +kernel
theorem dX2_changeRent_12 : decode cX2_changeRent 12 = .ok (.iload_n 2, 1) := by decide +kernel
theorem dX2_changeRent_13 : decode cX2_changeRent 13 = .ok (.iastore, 1) := by decide +kernel
theorem dX2_changeRent_14 : decode cX2_changeRent 14 = .ok (.iload_n 3, 1) := by decide +kernel
theorem dX2_changeRent_15 : decode cX2_changeRent 15 = .ok (.ireturn, 1) := by decide +kernel
theorem dX2_receive_0 : decode cX2_receive 0 = .ok (.aload_n 0, 1) := by decide +kernel
theorem dX2_receive_1 : decode cX2_receive 1 = .ok (.getfield 40, 3) := by decide +kernel
theorem dX2_receive_4 : decode cX2_receive 4 = .ok (.iload_n 1, 1) := by decide +kernel
theorem dX2_receive_5 : decode cX2_receive 5 = .ok (.dup2, 1) := by decide +kernel
theorem dX2_receive_6 : decode cX2_receive 6 = .ok (.iaload, 1) := by decide +kernel
theorem dX2_receive_7 : decode cX2_receive 7 = .ok (.iload_n 2, 1) := by decide +kernel
theorem dX2_receive_8 : decode cX2_receive 8 = .ok (.iadd, 1) := by decide +kernel
theorem dX2_receive_9 : decode cX2_receive 9 = .ok (.iastore, 1) := by decide +kernel
theorem dX2_receive_10 : decode cX2_receive 10 = .ok (.aload_n 0, 1) := by decide +kernel
theorem dX2_receive_11 : decode cX2_receive 11 = .ok (.dup, 1) := by decide +kernel
theorem dX2_receive_12 : decode cX2_receive 12 = .ok (.getfield 58, 3) := by decide +kernel
theorem dX2_receive_15 : decode cX2_receive 15 = .ok (.iload_n 2, 1) := by decide +kernel
theorem dX2_receive_16 : decode cX2_receive 16 = .ok (.i2l, 1) := by decide +kernel
theorem dX2_receive_17 : decode cX2_receive 17 = .ok (.ladd, 1) := by decide +kernel
theorem dX2_receive_18 : decode cX2_receive 18 = .ok (.putfield 58, 3) := by decide +kernel
theorem dX2_receive_21 : decode cX2_receive 21 = .ok (.aload_n 0, 1) := by decide +kernel
theorem dX2_receive_22 : decode cX2_receive 22 = .ok (.getfield 40, 3) := by decide +kernel
theorem dX2_receive_25 : decode cX2_receive 25 = .ok (.iload_n 1, 1) := by decide +kernel
theorem dX2_receive_26 : decode cX2_receive 26 = .ok (.iaload, 1) := by decide +kernel
theorem dX2_receive_27 : decode cX2_receive 27 = .ok (.ireturn, 1) := by decide +kernel
theorem dX2_liveBy_0 : decode cX2_liveBy 0 = .ok (.iconst 0, 1) := by decide +kernel
theorem dX2_liveBy_1 : decode cX2_liveBy 1 = .ok (.istore_n 2, 1) := by decide +kernel
theorem dX2_liveBy_2 : decode cX2_liveBy 2 = .ok (.iconst 0, 1) := by decide +kernel
theorem dX2_liveBy_3 : decode cX2_liveBy 3 = .ok (.istore_n 3, 1) := by decide +kernel
theorem dX2_liveBy_4 : decode cX2_liveBy 4 = .ok (.iload_n 3, 1) := by decide +kernel
theorem dX2_liveBy_5 : decode cX2_liveBy 5 = .ok (.aload_n 0, 1) := by decide +kernel
theorem dX2_liveBy_6 : decode cX2_liveBy 6 = .ok (.getfield 22, 3) := by decide +kernel
theorem dX2_liveBy_9 : decode cX2_liveBy 9 = .ok (.if_icmp .ge 33, 3) := by decide +kernel
theorem dX2_liveBy_12 : decode cX2_liveBy 12 = .ok (.aload_n 0, 1) := by decide +kernel
theorem dX2_liveBy_13 : decode cX2_liveBy 13 = .ok (.getfield 46, 3) := by decide +kernel
theorem dX2_liveBy_16 : decode cX2_liveBy 16 = .ok (.iload_n 3, 1) := by decide +kernel
theorem dX2_liveBy_17 : decode cX2_liveBy 17 = .ok (.iaload, 1) := by decide +kernel
theorem dX2_liveBy_18 : decode cX2_liveBy 18 = .ok (.aload_n 1, 1) := by decide +kernel
theorem dX2_liveBy_19 : decode cX2_liveBy 19 = .ok (.iload_n 3, 1) := by decide +kernel
theorem dX2_liveBy_20 : decode cX2_liveBy 20 = .ok (.iaload, 1) := by decide +kernel
theorem dX2_liveBy_21 : decode cX2_liveBy 21 = .ok (.if_icmp .eq 15, 3) := by decide +kernel
theorem dX2_liveBy_24 : decode cX2_liveBy 24 = .ok (.aload_n 0, 1) := by decide +kernel
theorem dX2_liveBy_25 : decode cX2_liveBy 25 = .ok (.getfield 46, 3) := by decide +kernel
theorem dX2_liveBy_28 : decode cX2_liveBy 28 = .ok (.iload_n 3, 1) := by decide +kernel
theorem dX2_liveBy_29 : decode cX2_liveBy 29 = .ok (.aload_n 1, 1) := by decide +kernel
theorem dX2_liveBy_30 : decode cX2_liveBy 30 = .ok (.iload_n 3, 1) := by decide +kernel
theorem dX2_liveBy_31 : decode cX2_liveBy 31 = .ok (.iaload, 1) := by decide +kernel
theorem dX2_liveBy_32 : decode cX2_liveBy 32 = .ok (.iastore, 1) := by decide +kernel
theorem dX2_liveBy_33 : decode cX2_liveBy 33 = .ok (.iinc 2 1, 3) := by decide +kernel
theorem dX2_liveBy_36 : decode cX2_liveBy 36 = .ok (.iinc 3 1, 3) := by decide +kernel
theorem dX2_liveBy_39 : decode cX2_liveBy 39 = .ok (.goto (-35), 3) := by decide +kernel
theorem dX2_liveBy_42 : decode cX2_liveBy 42 = .ok (.iload_n 2, 1) := by decide +kernel
theorem dX2_liveBy_43 : decode cX2_liveBy 43 = .ok (.ireturn, 1) := by decide +kernel
theorem dX2_letMonthsPass_0 : decode cX2_letMonthsPass 0 = .ok (.aload_n 0, 1) := by decide +kernel
theorem dX2_letMonthsPass_1 : decode cX2_letMonthsPass 1 = .ok (.getfield 52, 3) := by decide +kernel
theorem dX2_letMonthsPass_4 : decode cX2_letMonthsPass 4 = .ok (.istore_n 2, 1) := by decide +kernel
theorem dX2_letMonthsPass_5 : decode cX2_letMonthsPass 5 = .ok (.iconst 0, 1) := by decide +kernel
theorem dX2_letMonthsPass_6 : decode cX2_letMonthsPass 6 = .ok (.istore_n 3, 1) := by decide +kernel
theorem dX2_letMonthsPass_7 : decode cX2_letMonthsPass 7 = .ok (.iload_n 3, 1) := by decide +kernel
theorem dX2_letMonthsPass_8 : decode cX2_letMonthsPass 8 = .ok (.iload_n 1, 1) := by decide +kernel
theorem dX2_letMonthsPass_9 : decode cX2_letMonthsPass 9 = .ok (.if_icmp .ge 43, 3) := by decide +kernel
theorem dX2_letMonthsPass_12 : decode cX2_letMonthsPass 12 = .ok (.aload_n 0, 1) := by decide +kernel
theorem dX2_letMonthsPass_13 : decode cX2_letMonthsPass 13 = .ok (.dup, 1) := by decide +kernel
theorem dX2_letMonthsPass_14 : decode cX2_letMonthsPass 14 = .ok (.getfield 49, 3) := by decide +kernel
theorem dX2_letMonthsPass_17 : decode cX2_letMonthsPass 17 = .ok (.iconst 1, 1) := by decide +kernel
theorem dX2_letMonthsPass_18 : decode cX2_letMonthsPass 18 = .ok (.iadd, 1) := by decide +kernel
theorem dX2_letMonthsPass_19 : decode cX2_letMonthsPass 19 = .ok (.putfield 49, 3) := by decide +kernel
theorem dX2_letMonthsPass_22 : decode cX2_letMonthsPass 22 = .ok (.iconst 0, 1) := by decide +kernel
theorem dX2_letMonthsPass_23 : decode cX2_letMonthsPass 23 = .ok (.istore 4, 2) := by decide +kernel
theorem dX2_letMonthsPass_25 : decode cX2_letMonthsPass 25 = .ok (.iload 4, 2) := by decide +kernel
theorem dX2_letMonthsPass_27 : decode cX2_letMonthsPass 27 = .ok (.aload_n 0, 1) := by decide +kernel
theorem dX2_letMonthsPass_28 : decode cX2_letMonthsPass 28 = .ok (.getfield 22, 3) := by decide +kernel
theorem dX2_letMonthsPass_31 : decode cX2_letMonthsPass 31 = .ok (.if_icmp .ge 15, 3) := by decide +kernel
theorem dX2_letMonthsPass_34 : decode cX2_letMonthsPass 34 = .ok (.aload_n 0, 1) := by decide +kernel
theorem dX2_letMonthsPass_35 : decode cX2_letMonthsPass 35 = .ok (.iload 4, 2) := by decide +kernel
theorem dX2_letMonthsPass_37 : decode cX2_letMonthsPass 37 = .ok (.invokevirtual 128, 3) := by decide +kernel
theorem dX2_letMonthsPass_40 : decode cX2_letMonthsPass 40 = .ok (.iinc 4 1, 3) := by decide +kernel
theorem dX2_letMonthsPass_43 : decode cX2_letMonthsPass 43 = .ok (.goto (-18), 3) := by decide +kernel
theorem dX2_letMonthsPass_46 : decode cX2_letMonthsPass 46 = .ok (.iinc 3 1, 3) := by decide +kernel
theorem dX2_letMonthsPass_49 : decode cX2_letMonthsPass 49 = .ok (.goto (-42), 3) := by decide +kernel
theorem dX2_letMonthsPass_52 : decode cX2_letMonthsPass 52 = .ok (.aload_n 0, 1) := by decide +kernel
theorem dX2_letMonthsPass_53 : decode cX2_letMonthsPass 53 = .ok (.getfield 52, 3) := by decide +kernel
theorem dX2_letMonthsPass_56 : decode cX2_letMonthsPass 56 = .ok (.iload_n 2, 1) := by decide +kernel
theorem dX2_letMonthsPass_57 : decode cX2_letMonthsPass 57 = .ok (.isub, 1) := by decide +kernel
theorem dX2_letMonthsPass_58 : decode cX2_letMonthsPass 58 = .ok (.ireturn, 1) := by decide +kernel
theorem dX2_takeTurn_0 : decode cX2_takeTurn 0 = .ok (.aload_n 0, 1) := by decide +kernel
theorem dX2_takeTurn_1 : decode cX2_takeTurn 1 = .ok (.iload_n 1, 1) := by decide +kernel
theorem dX2_takeTurn_2 : decode cX2_takeTurn 2 = .ok (.aload_n 0, 1) := by decide +kernel
theorem dX2_takeTurn_3 : decode cX2_takeTurn 3 = .ok (.getfield 37, 3) := by decide +kernel
theorem dX2_takeTurn_6 : decode cX2_takeTurn 6 = .ok (.iload_n 1, 1) := by decide +kernel
theorem dX2_takeTurn_7 : decode cX2_takeTurn 7 = .ok (.iaload, 1) := by decide +kernel
theorem dX2_takeTurn_8 : decode cX2_takeTurn 8 = .ok (.invokevirtual 132, 3) := by decide +kernel
theorem dX2_takeTurn_11 : decode cX2_takeTurn 11 = .ok (.pop, 1) := by decide +kernel
theorem dX2_takeTurn_12 : decode cX2_takeTurn 12 = .ok (.aload_n 0, 1) := by decide +kernel
theorem dX2_takeTurn_13 : decode cX2_takeTurn 13 = .ok (.getfield 46, 3) := by decide +kernel
theorem dX2_takeTurn_16 : decode cX2_takeTurn 16 = .ok (.iload_n 1, 1) := by decide +kernel
theorem dX2_takeTurn_17 : decode cX2_takeTurn 17 = .ok (.iaload, 1) := by decide +kernel
theorem dX2_takeTurn_18 : decode cX2_takeTurn 18 = .ok (.istore_n 2, 1) := by decide +kernel
theorem dX2_takeTurn_19 : decode cX2_takeTurn 19 = .ok (.iload_n 2, 1) := by decide +kernel
theorem dX2_takeTurn_20 : decode cX2_takeTurn 20 = .ok (.iconst (-1), 1) := by decide +kernel
theorem dX2_takeTurn_21 : decode cX2_takeTurn 21 = .ok (.if_icmp .ne 4, 3) := by decide +kernel
theorem dX2_takeTurn_24 : decode cX2_takeTurn 24 = .ok (.return_, 1) := by decide +kernel
theorem dX2_takeTurn_25 : decode cX2_takeTurn 25 = .ok (.aload_n 0, 1) := by decide +kernel
theorem dX2_takeTurn_26 : decode cX2_takeTurn 26 = .ok (.iload_n 1, 1) := by decide +kernel
theorem dX2_takeTurn_27 : decode cX2_takeTurn 27 = .ok (.iload_n 2, 1) := by decide +kernel
theorem dX2_takeTurn_28 : decode cX2_takeTurn 28 = .ok (.invokevirtual 114, 3) := by decide +kernel
theorem dX2_takeTurn_31 : decode cX2_takeTurn 31 = .ok (.ifCond .eq 41, 3) := by decide +kernel
theorem dX2_takeTurn_34 : decode cX2_takeTurn 34 = .ok (.aload_n 0, 1) := by decide +kernel
theorem dX2_takeTurn_35 : decode cX2_takeTurn 35 = .ok (.getfield 40, 3) := by decide +kernel
theorem dX2_takeTurn_38 : decode cX2_takeTurn 38 = .ok (.iload_n 1, 1) := by decide +kernel
theorem dX2_takeTurn_39 : decode cX2_takeTurn 39 = .ok (.dup2, 1) := by decide +kernel
theorem dX2_takeTurn_40 : decode cX2_takeTurn 40 = .ok (.iaload, 1) := by decide +kernel
theorem dX2_takeTurn_41 : decode cX2_takeTurn 41 = .ok (.aload_n 0, 1) := by decide +kernel
theorem dX2_takeTurn_42 : decode cX2_takeTurn 42 = .ok (.getfield 19, 3) := by decide +kernel
theorem dX2_takeTurn_45 : decode cX2_takeTurn 45 = .ok (.iload_n 2, 1) := by decide +kernel
theorem dX2_takeTurn_46 : decode cX2_takeTurn 46 = .ok (.iaload, 1) := by decide +kernel
theorem dX2_takeTurn_47 : decode cX2_takeTurn 47 = .ok (.isub, 1) := by decide +kernel
theorem dX2_takeTurn_48 : decode cX2_takeTurn 48 = .ok (.iastore, 1) := by decide +kernel
theorem dX2_takeTurn_49 : decode cX2_takeTurn 49 = .ok (.aload_n 0, 1) := by decide +kernel
theorem dX2_takeTurn_50 : decode cX2_takeTurn 50 = .ok (.dup, 1) := by decide +kernel
theorem dX2_takeTurn_51 : decode cX2_takeTurn 51 = .ok (.getfield 55, 3) := by decide +kernel
theorem dX2_takeTurn_54 : decode cX2_takeTurn 54 = .ok (.aload_n 0, 1) := by decide +kernel
theorem dX2_takeTurn_55 : decode cX2_takeTurn 55 = .ok (.getfield 19, 3) := by decide +kernel
theorem dX2_takeTurn_58 : decode cX2_takeTurn 58 = .ok (.iload_n 2, 1) := by decide +kernel
theorem dX2_takeTurn_59 : decode cX2_takeTurn 59 = .ok (.iaload, 1) := by decide +kernel
theorem dX2_takeTurn_60 : decode cX2_takeTurn 60 = .ok (.iadd, 1) := by decide +kernel
theorem dX2_takeTurn_61 : decode cX2_takeTurn 61 = .ok (.putfield 55, 3) := by decide +kernel
theorem dX2_takeTurn_64 : decode cX2_takeTurn 64 = .ok (.aload_n 0, 1) := by decide +kernel
theorem dX2_takeTurn_65 : decode cX2_takeTurn 65 = .ok (.getfield 43, 3) := by decide +kernel
theorem dX2_takeTurn_68 : decode cX2_takeTurn 68 = .ok (.iload_n 1, 1) := by decide +kernel
theorem dX2_takeTurn_69 : decode cX2_takeTurn 69 = .ok (.iconst 0, 1) := by decide +kernel
theorem dX2_takeTurn_70 : decode cX2_takeTurn 70 = .ok (.iastore, 1) := by decide +kernel
theorem dX2_takeTurn_71 : decode cX2_takeTurn 71 = .ok (.return_, 1) := by decide +kernel
theorem dX2_takeTurn_72 : decode cX2_takeTurn 72 = .ok (.aload_n 0, 1) := by decide +kernel
theorem dX2_takeTurn_73 : decode cX2_takeTurn 73 = .ok (.getfield 43, 3) := by decide +kernel
theorem dX2_takeTurn_76 : decode cX2_takeTurn 76 = .ok (.iload_n 1, 1) := by decide +kernel
theorem dX2_takeTurn_77 : decode cX2_takeTurn 77 = .ok (.dup2, 1) := by decide +kernel
theorem dX2_takeTurn_78 : decode cX2_takeTurn 78 = .ok (.iaload, 1) := by decide +kernel
theorem dX2_takeTurn_79 : decode cX2_takeTurn 79 = .ok (.iconst 1, 1) := by decide +kernel
theorem dX2_takeTurn_80 : decode cX2_takeTurn 80 = .ok (.iadd, 1) := by decide +kernel
theorem dX2_takeTurn_81 : decode cX2_takeTurn 81 = .ok (.iastore, 1) := by decide +kernel
theorem dX2_takeTurn_82 : decode cX2_takeTurn 82 = .ok (.aload_n 0, 1) := by decide +kernel
theorem dX2_takeTurn_83 : decode cX2_takeTurn 83 = .ok (.getfield 43, 3) := by decide +kernel
theorem dX2_takeTurn_86 : decode cX2_takeTurn 86 = .ok (.iload_n 1, 1) := by decide +kernel
theorem dX2_takeTurn_87 : decode cX2_takeTurn 87 = .ok (.iaload, 1) := by decide +kernel
theorem dX2_takeTurn_88 : decode cX2_takeTurn 88 = .ok (.iconst 2, 1) := by decide +kernel
theorem dX2_takeTurn_89 : decode cX2_takeTurn 89 = .ok (.if_icmp .lt 19, 3) := by decide +kernel
theorem dX2_takeTurn_92 : decode cX2_takeTurn 92 = .ok (.aload_n 0, 1) := by decide +kernel
theorem dX2_takeTurn_93 : decode cX2_takeTurn 93 = .ok (.dup, 1) := by decide +kernel
theorem dX2_takeTurn_94 : decode cX2_takeTurn 94 = .ok (.getfield 52, 3) := by decide +kernel
theorem dX2_takeTurn_97 : decode cX2_takeTurn 97 = .ok (.iconst 1, 1) := by decide +kernel
theorem dX2_takeTurn_98 : decode cX2_takeTurn 98 = .ok (.iadd, 1) := by decide +kernel
theorem dX2_takeTurn_99 : decode cX2_takeTurn 99 = .ok (.putfield 52, 3) := by decide +kernel
theorem dX2_takeTurn_102 : decode cX2_takeTurn 102 = .ok (.aload_n 0, 1) := by decide +kernel
theorem dX2_takeTurn_103 : decode cX2_takeTurn 103 = .ok (.iload_n 1, 1) := by decide +kernel
theorem dX2_takeTurn_104 : decode cX2_takeTurn 104 = .ok (.invokevirtual 135, 3) := by decide +kernel
theorem dX2_takeTurn_107 : decode cX2_takeTurn 107 = .ok (.pop, 1) := by decide +kernel
theorem dX2_takeTurn_108 : decode cX2_takeTurn 108 = .ok (.return_, 1) := by decide +kernel
theorem dX2_leaveHome_0 : decode cX2_leaveHome 0 = .ok (.aload_n 0, 1) := by decide +kernel
theorem dX2_leaveHome_1 : decode cX2_leaveHome 1 = .ok (.getfield 46, 3) := by decide +kernel
theorem dX2_leaveHome_4 : decode cX2_leaveHome 4 = .ok (.iload_n 1, 1) := by decide +kernel
theorem dX2_leaveHome_5 : decode cX2_leaveHome 5 = .ok (.iaload, 1) := by decide +kernel
theorem dX2_leaveHome_6 : decode cX2_leaveHome 6 = .ok (.istore_n 2, 1) := by decide +kernel
theorem dX2_leaveHome_7 : decode cX2_leaveHome 7 = .ok (.aload_n 0, 1) := by decide +kernel
theorem dX2_leaveHome_8 : decode cX2_leaveHome 8 = .ok (.getfield 46, 3) := by decide +kernel
theorem dX2_leaveHome_11 : decode cX2_leaveHome 11 = .ok (.iload_n 1, 1) := by decide +kernel
theorem dX2_leaveHome_12 : decode cX2_leaveHome 12 = .ok (.iconst (-1), 1) := by decide +kernel
theorem dX2_leaveHome_13 : decode cX2_leaveHome 13 = .ok (.iastore, 1) := by decide +kernel
theorem dX2_leaveHome_14 : decode cX2_leaveHome 14 = .ok (.aload_n 0, 1) := by decide +kernel
theorem dX2_leaveHome_15 : decode cX2_leaveHome 15 = .ok (.getfield 43, 3) := by decide +kernel
theorem dX2_leaveHome_18 : decode cX2_leaveHome 18 = .ok (.iload_n 1, 1) := by decide +kernel
theorem dX2_leaveHome_19 : decode cX2_leaveHome 19 = .ok (.iconst 0, 1) := by decide +kernel
theorem dX2_leaveHome_20 : decode cX2_leaveHome 20 = .ok (.iastore, 1) := by decide +kernel
theorem dX2_leaveHome_21 : decode cX2_leaveHome 21 = .ok (.iconst 0, 1) := by decide +kernel
theorem dX2_leaveHome_22 : decode cX2_leaveHome 22 = .ok (.istore_n 3, 1) := by decide +kernel
theorem dX2_leaveHome_23 : decode cX2_leaveHome 23 = .ok (.iload_n 2, 1) := by decide +kernel
theorem dX2_leaveHome_24 : decode cX2_leaveHome 24 = .ok (.iconst (-1), 1) := by decide +kernel
theorem dX2_leaveHome_25 : decode cX2_leaveHome 25 = .ok (.if_icmp .eq 51, 3) := by decide +kernel
theorem dX2_leaveHome_28 : decode cX2_leaveHome 28 = .ok (.iload_n 3, 1) := by decide +kernel
theorem dX2_leaveHome_29 : decode cX2_leaveHome 29 = .ok (.bipush 36, 2) := by decide +kernel
theorem dX2_leaveHome_31 : decode cX2_leaveHome 31 = .ok (.if_icmp .ge 45, 3) := by decide +kernel
theorem dX2_leaveHome_34 : decode cX2_leaveHome 34 = .ok (.aload_n 0, 1) := by decide +kernel
theorem dX2_leaveHome_35 : decode cX2_leaveHome 35 = .ok (.iload_n 2, 1) := by decide +kernel
theorem dX2_leaveHome_36 : decode cX2_leaveHome 36 = .ok (.iload_n 1, 1) := by decide +kernel
theorem dX2_leaveHome_37 : decode cX2_leaveHome 37 = .ok (.invokevirtual 138, 3) := by decide +kernel
theorem dX2_leaveHome_40 : decode cX2_leaveHome 40 = .ok (.istore 4, 2) := by decide +kernel
theorem dX2_leaveHome_42 : decode cX2_leaveHome 42 = .ok (.iload 4, 2) := by decide +kernel
theorem dX2_leaveHome_44 : decode cX2_leaveHome 44 = .ok (.iconst (-1), 1) := by decide +kernel
theorem dX2_leaveHome_45 : decode cX2_leaveHome 45 = .ok (.if_icmp .ne 5, 3) := by decide +kernel
theorem dX2_leaveHome_48 : decode cX2_leaveHome 48 = .ok (.iload_n 3, 1) := by decide +kernel
theorem dX2_leaveHome_49 : decode cX2_leaveHome 49 = .ok (.ireturn, 1) := by decide +kernel
theorem dX2_leaveHome_50 : decode cX2_leaveHome 50 = .ok (.aload_n 0, 1) := by decide +kernel
theorem dX2_leaveHome_51 : decode cX2_leaveHome 51 = .ok (.getfield 46, 3) := by decide +kernel
theorem dX2_leaveHome_54 : decode cX2_leaveHome 54 = .ok (.iload 4, 2) := by decide +kernel
theorem dX2_leaveHome_56 : decode cX2_leaveHome 56 = .ok (.iaload, 1) := by decide +kernel
theorem dX2_leaveHome_57 : decode cX2_leaveHome 57 = .ok (.istore 5, 2) := by decide +kernel
theorem dX2_leaveHome_59 : decode cX2_leaveHome 59 = .ok (.aload_n 0, 1) := by decide +kernel
theorem dX2_leaveHome_60 : decode cX2_leaveHome 60 = .ok (.getfield 46, 3) := by decide +kernel
theorem dX2_leaveHome_63 : decode cX2_leaveHome 63 = .ok (.iload 4, 2) := by decide +kernel
theorem dX2_leaveHome_65 : decode cX2_leaveHome 65 = .ok (.iload_n 2, 1) := by decide +kernel
theorem dX2_leaveHome_66 : decode cX2_leaveHome 66 = .ok (.iastore, 1) := by decide +kernel
theorem dX2_leaveHome_67 : decode cX2_leaveHome 67 = .ok (.iload 5, 2) := by decide +kernel
theorem dX2_leaveHome_69 : decode cX2_leaveHome 69 = .ok (.istore_n 2, 1) := by decide +kernel
theorem dX2_leaveHome_70 : decode cX2_leaveHome 70 = .ok (.iinc 3 1, 3) := by decide +kernel
theorem dX2_leaveHome_73 : decode cX2_leaveHome 73 = .ok (.goto (-50), 3) := by decide +kernel
theorem dX2_leaveHome_76 : decode cX2_leaveHome 76 = .ok (.iload_n 3, 1) := by decide +kernel
theorem dX2_leaveHome_77 : decode cX2_leaveHome 77 = .ok (.ireturn, 1) := by decide +kernel
theorem dX2_candidateFor_0 : decode cX2_candidateFor 0 = .ok (.iconst (-1), 1) := by decide +kernel
theorem dX2_candidateFor_1 : decode cX2_candidateFor 1 = .ok (.istore_n 3, 1) := by decide +kernel
theorem dX2_candidateFor_2 : decode cX2_candidateFor 2 = .ok (.iconst 0, 1) := by decide +kernel
theorem dX2_candidateFor_3 : decode cX2_candidateFor 3 = .ok (.istore 4, 2) := by decide +kernel
theorem dX2_candidateFor_5 : decode cX2_candidateFor 5 = .ok (.iload 4, 2) := by decide +kernel
theorem dX2_candidateFor_7 : decode cX2_candidateFor 7 = .ok (.aload_n 0, 1) := by decide +kernel
theorem dX2_candidateFor_8 : decode cX2_candidateFor 8 = .ok (.getfield 22, 3) := by decide +kernel
theorem dX2_candidateFor_11 : decode cX2_candidateFor 11 = .ok (.if_icmp .ge 83, 3) := by decide +kernel
theorem dX2_candidateFor_14 : decode cX2_candidateFor 14 = .ok (.iload 4, 2) := by decide +kernel
theorem dX2_candidateFor_16 : decode cX2_candidateFor 16 = .ok (.iload_n 2, 1) := by decide +kernel
theorem dX2_candidateFor_17 : decode cX2_candidateFor 17 = .ok (.if_icmp .eq 45, 3) := by decide +kernel
theorem dX2_candidateFor_20 : decode cX2_candidateFor 20 = .ok (.aload_n 0, 1) := by decide +kernel
theorem dX2_candidateFor_21 : decode cX2_candidateFor 21 = .ok (.iload 4, 2) := by decide +kernel
theorem dX2_candidateFor_23 : decode cX2_candidateFor 23 = .ok (.iload_n 1, 1) := by decide +kernel
theorem dX2_candidateFor_24 : decode cX2_candidateFor 24 = .ok (.invokevirtual 114, 3) := by decide +kernel
theorem dX2_candidateFor_27 : decode cX2_candidateFor 27 = .ok (.ifCond .eq 35, 3) := by decide +kernel
theorem dX2_candidateFor_30 : decode cX2_candidateFor 30 = .ok (.aload_n 0, 1) := by decide +kernel
theorem dX2_candidateFor_31 : decode cX2_candidateFor 31 = .ok (.getfield 46, 3) := by decide +kernel
theorem dX2_candidateFor_34 : decode cX2_candidateFor 34 = .ok (.iload 4, 2) := by decide +kernel
theorem dX2_candidateFor_36 : decode cX2_candidateFor 36 = .ok (.iaload, 1) := by decide +kernel
theorem dX2_candidateFor_37 : decode cX2_candidateFor 37 = .ok (.iconst (-1), 1) := by decide +kernel
theorem dX2_candidateFor_38 : decode cX2_candidateFor 38 = .ok (.if_icmp .eq 20, 3) := by decide +kernel
theorem dX2_candidateFor_41 : decode cX2_candidateFor 41 = .ok (.aload_n 0, 1) := by decide +kernel
theorem dX2_candidateFor_42 : decode cX2_candidateFor 42 = .ok (.iload 4, 2) := by decide +kernel
theorem dX2_candidateFor_44 : decode cX2_candidateFor 44 = .ok (.iload_n 1, 1) := by decide +kernel
theorem dX2_candidateFor_45 : decode cX2_candidateFor 45 = .ok (.aload_n 0, 1) := by decide +kernel
theorem dX2_candidateFor_46 : decode cX2_candidateFor 46 = .ok (.getfield 46, 3) := by decide +kernel
theorem dX2_candidateFor_49 : decode cX2_candidateFor 49 = .ok (.iload 4, 2) := by decide +kernel
theorem dX2_candidateFor_51 : decode cX2_candidateFor 51 = .ok (.iaload, 1) := by decide +kernel
theorem dX2_candidateFor_52 : decode cX2_candidateFor 52 = .ok (.invokevirtual 141, 3) := by decide +kernel
theorem dX2_candidateFor_55 : decode cX2_candidateFor 55 = .ok (.ifCond .eq 7, 3) := by decide +kernel
theorem dX2_candidateFor_58 : decode cX2_candidateFor 58 = .ok (.iconst 1, 1) := by decide +kernel
theorem dX2_candidateFor_59 : decode cX2_candidateFor 59 = .ok (.goto 4, 3) := by decide +kernel
theorem dX2_candidateFor_62 : decode cX2_candidateFor 62 = .ok (.iconst 0, 1) := by decide +kernel
theorem dX2_candidateFor_63 : decode cX2_candidateFor 63 = .ok (.istore 5, 2) := by decide +kernel
theorem dX2_candidateFor_65 : decode cX2_candidateFor 65 = .ok (.iload 5, 2) := by decide +kernel
theorem dX2_candidateFor_67 : decode cX2_candidateFor 67 = .ok (.ifCond .eq 21, 3) := by decide +kernel
theorem dX2_candidateFor_70 : decode cX2_candidateFor 70 = .ok (.iload_n 3, 1) := by decide +kernel
theorem dX2_candidateFor_71 : decode cX2_candidateFor 71 = .ok (.iconst (-1), 1) := by decide +kernel
theorem dX2_candidateFor_72 : decode cX2_candidateFor 72 = .ok (.if_icmp .eq 13, 3) := by decide +kernel
theorem dX2_candidateFor_75 : decode cX2_candidateFor 75 = .ok (.aload_n 0, 1) := by decide +kernel
theorem dX2_candidateFor_76 : decode cX2_candidateFor 76 = .ok (.iload 4, 2) := by decide +kernel
theorem dX2_candidateFor_78 : decode cX2_candidateFor 78 = .ok (.iload_n 3, 1) := by decide +kernel
theorem dX2_candidateFor_79 : decode cX2_candidateFor 79 = .ok (.invokevirtual 144, 3) := by decide +kernel
theorem dX2_candidateFor_82 : decode cX2_candidateFor 82 = .ok (.ifCond .eq 6, 3) := by decide +kernel
theorem dX2_candidateFor_85 : decode cX2_candidateFor 85 = .ok (.iload 4, 2) := by decide +kernel
theorem dX2_candidateFor_87 : decode cX2_candidateFor 87 = .ok (.istore_n 3, 1) := by decide +kernel
theorem dX2_candidateFor_88 : decode cX2_candidateFor 88 = .ok (.iinc 4 1, 3) := by decide +kernel
theorem dX2_candidateFor_91 : decode cX2_candidateFor 91 = .ok (.goto (-86), 3) := by decide +kernel
theorem dX2_candidateFor_94 : decode cX2_candidateFor 94 = .ok (.iload_n 3, 1) := by decide +kernel
theorem dX2_candidateFor_95 : decode cX2_candidateFor 95 = .ok (.ireturn, 1) := by decide +kernel
theorem dX2_hasFlat_0 : decode cX2_hasFlat 0 = .ok (.iload_n 1, 1) := by decide +kernel
theorem dX2_hasFlat_1 : decode cX2_hasFlat 1 = .ok (.ifCond .lt 15, 3) := by decide +kernel
theorem dX2_hasFlat_4 : decode cX2_hasFlat 4 = .ok (.iload_n 1, 1) := by decide +kernel
theorem dX2_hasFlat_5 : decode cX2_hasFlat 5 = .ok (.aload_n 0, 1) := by decide +kernel
theorem dX2_hasFlat_6 : decode cX2_hasFlat 6 = .ok (.getfield 9, 3) := by decide +kernel
theorem dX2_hasFlat_9 : decode cX2_hasFlat 9 = .ok (.if_icmp .ge 7, 3) := by decide +kernel
theorem dX2_hasFlat_12 : decode cX2_hasFlat 12 = .ok (.iconst 1, 1) := by decide +kernel
theorem dX2_hasFlat_13 : decode cX2_hasFlat 13 = .ok (.goto 4, 3) := by decide +kernel
theorem dX2_hasFlat_16 : decode cX2_hasFlat 16 = .ok (.iconst 0, 1) := by decide +kernel
theorem dX2_hasFlat_17 : decode cX2_hasFlat 17 = .ok (.ireturn, 1) := by decide +kernel
theorem dX2_slotOf_0 : decode cX2_slotOf 0 = .ok (.iconst 0, 1) := by decide +kernel
theorem dX2_slotOf_1 : decode cX2_slotOf 1 = .ok (.istore_n 2, 1) := by decide +kernel
theorem dX2_slotOf_2 : decode cX2_slotOf 2 = .ok (.iload_n 2, 1) := by decide +kernel
theorem dX2_slotOf_3 : decode cX2_slotOf 3 = .ok (.aload_n 0, 1) := by decide +kernel
theorem dX2_slotOf_4 : decode cX2_slotOf 4 = .ok (.getfield 22, 3) := by decide +kernel
theorem dX2_slotOf_7 : decode cX2_slotOf 7 = .ok (.if_icmp .ge 21, 3) := by decide +kernel
theorem dX2_slotOf_10 : decode cX2_slotOf 10 = .ok (.aload_n 0, 1) := by decide +kernel
theorem dX2_slotOf_11 : decode cX2_slotOf 11 = .ok (.getfield 28, 3) := by decide +kernel
theorem dX2_slotOf_14 : decode cX2_slotOf 14 = .ok (.iload_n 2, 1) := by decide +kernel
theorem dX2_slotOf_15 : decode cX2_slotOf 15 = .ok (.iaload, 1) := by decide +kernel
theorem dX2_slotOf_16 : decode cX2_slotOf 16 = .ok (.iload_n 1, 1) := by decide +kernel
theorem dX2_slotOf_17 : decode cX2_slotOf 17 = .ok (.if_icmp .ne 5, 3) := by decide +kernel
theorem dX2_slotOf_20 : decode cX2_slotOf 20 = .ok (.iload_n 2, 1) := by decide +kernel
theorem dX2_slotOf_21 : decode cX2_slotOf 21 = .ok (.ireturn, 1) := by decide +kernel
theorem dX2_slotOf_22 : decode cX2_slotOf 22 = .ok (.iinc 2 1, 3) := by decide +kernel
theorem dX2_slotOf_25 : decode cX2_slotOf 25 = .ok (.goto (-23), 3) := by decide +kernel
theorem dX2_slotOf_28 : decode cX2_slotOf 28 = .ok (.iconst (-1), 1) := by decide +kernel
theorem dX2_slotOf_29 : decode cX2_slotOf 29 = .ok (.ireturn, 1) := by decide +kernel
theorem dX2_slotIn_0 : decode cX2_slotIn 0 = .ok (.iconst 0, 1) := by decide +kernel
theorem dX2_slotIn_1 : decode cX2_slotIn 1 = .ok (.istore_n 2, 1) := by decide +kernel
theorem dX2_slotIn_2 : decode cX2_slotIn 2 = .ok (.iload_n 2, 1) := by decide +kernel
theorem dX2_slotIn_3 : decode cX2_slotIn 3 = .ok (.aload_n 0, 1) := by decide +kernel
theorem dX2_slotIn_4 : decode cX2_slotIn 4 = .ok (.getfield 22, 3) := by decide +kernel
theorem dX2_slotIn_7 : decode cX2_slotIn 7 = .ok (.if_icmp .ge 21, 3) := by decide +kernel
theorem dX2_slotIn_10 : decode cX2_slotIn 10 = .ok (.aload_n 0, 1) := by decide +kernel
theorem dX2_slotIn_11 : decode cX2_slotIn 11 = .ok (.getfield 46, 3) := by decide +kernel
theorem dX2_slotIn_14 : decode cX2_slotIn 14 = .ok (.iload_n 2, 1) := by decide +kernel
theorem dX2_slotIn_15 : decode cX2_slotIn 15 = .ok (.iaload, 1) := by decide +kernel
theorem dX2_slotIn_16 : decode cX2_slotIn 16 = .ok (.iload_n 1, 1) := by decide +kernel
theorem dX2_slotIn_17 : decode cX2_slotIn 17 = .ok (.if_icmp .ne 5, 3) := by decide +kernel
theorem dX2_slotIn_20 : decode cX2_slotIn 20 = .ok (.iload_n 2, 1) := by decide +kernel
theorem dX2_slotIn_21 : decode cX2_slotIn 21 = .ok (.ireturn, 1) := by decide +kernel
theorem dX2_slotIn_22 : decode cX2_slotIn 22 = .ok (.iinc 2 1, 3) := by decide +kernel
theorem dX2_slotIn_25 : decode cX2_slotIn 25 = .ok (.goto (-23), 3) := by decide +kernel
theorem dX2_slotIn_28 : decode cX2_slotIn 28 = .ok (.iconst (-1), 1) := by decide +kernel
theorem dX2_slotIn_29 : decode cX2_slotIn 29 = .ok (.ireturn, 1) := by decide +kernel
theorem dX2_housedCount_0 : decode cX2_housedCount 0 = .ok (.iconst 0, 1) := by decide +kernel
theorem dX2_housedCount_1 : decode cX2_housedCount 1 = .ok (.istore_n 1, 1) := by decide +kernel
theorem dX2_housedCount_2 : decode cX2_housedCount 2 = .ok (.iconst 0, 1) := by decide +kernel
theorem dX2_housedCount_3 : decode cX2_housedCount 3 = .ok (.istore_n 2, 1) := by decide +kernel
theorem dX2_housedCount_4 : decode cX2_housedCount 4 = .ok (.iload_n 2, 1) := by decide +kernel
theorem dX2_housedCount_5 : decode cX2_housedCount 5 = .ok (.aload_n 0, 1) := by decide +kernel
theorem dX2_housedCount_6 : decode cX2_housedCount 6 = .ok (.getfield 22, 3) := by decide +kernel
theorem dX2_housedCount_9 : decode cX2_housedCount 9 = .ok (.if_icmp .ge 22, 3) := by decide +kernel
theorem dX2_housedCount_12 : decode cX2_housedCount 12 = .ok (.aload_n 0, 1) := by decide +kernel
theorem dX2_housedCount_13 : decode cX2_housedCount 13 = .ok (.getfield 46, 3) := by decide +kernel
theorem dX2_housedCount_16 : decode cX2_housedCount 16 = .ok (.iload_n 2, 1) := by decide +kernel
theorem dX2_housedCount_17 : decode cX2_housedCount 17 = .ok (.iaload, 1) := by decide +kernel
theorem dX2_housedCount_18 : decode cX2_housedCount 18 = .ok (.iconst (-1), 1) := by decide +kernel
theorem dX2_housedCount_19 : decode cX2_housedCount 19 = .ok (.if_icmp .eq 6, 3) := by decide +kernel
theorem dX2_housedCount_22 : decode cX2_housedCount 22 = .ok (.iinc 1 1, 3) := by decide +kernel
theorem dX2_housedCount_25 : decode cX2_housedCount 25 = .ok (.iinc 2 1, 3) := by decide +kernel
theorem dX2_housedCount_28 : decode cX2_housedCount 28 = .ok (.goto (-24), 3) := by decide +kernel
theorem dX2_housedCount_31 : decode cX2_housedCount 31 = .ok (.iload_n 1, 1) := by decide +kernel
theorem dX2_housedCount_32 : decode cX2_housedCount 32 = .ok (.ireturn, 1) := by decide +kernel
theorem dX2_burdenFor_0 : decode cX2_burdenFor 0 = .ok (.aload_n 0, 1) := by decide +kernel
theorem dX2_burdenFor_1 : decode cX2_burdenFor 1 = .ok (.getfield 15, 3) := by decide +kernel
theorem dX2_burdenFor_4 : decode cX2_burdenFor 4 = .ok (.iload_n 2, 1) := by decide +kernel
theorem dX2_burdenFor_5 : decode cX2_burdenFor 5 = .ok (.iaload, 1) := by decide +kernel
theorem dX2_burdenFor_6 : decode cX2_burdenFor 6 = .ok (.aload_n 0, 1) := by decide +kernel
theorem dX2_burdenFor_7 : decode cX2_burdenFor 7 = .ok (.getfield 34, 3) := by decide +kernel
theorem dX2_burdenFor_10 : decode cX2_burdenFor 10 = .ok (.iload_n 1, 1) := by decide +kernel
theorem dX2_burdenFor_11 : decode cX2_burdenFor 11 = .ok (.iaload, 1) := by decide +kernel
theorem dX2_burdenFor_12 : decode cX2_burdenFor 12 = .ok (.isub, 1) := by decide +kernel
theorem dX2_burdenFor_13 : decode cX2_burdenFor 13 = .ok (.istore_n 3, 1) := by decide +kernel
theorem dX2_burdenFor_14 : decode cX2_burdenFor 14 = .ok (.aload_n 0, 1) := by decide +kernel
theorem dX2_burdenFor_15 : decode cX2_burdenFor 15 = .ok (.getfield 19, 3) := by decide +kernel
theorem dX2_burdenFor_18 : decode cX2_burdenFor 18 = .ok (.iload_n 2, 1) := by decide +kernel
theorem dX2_burdenFor_19 : decode cX2_burdenFor 19 = .ok (.iaload, 1) := by decide +kernel
theorem dX2_burdenFor_20 : decode cX2_burdenFor 20 = .ok (.iconst 3, 1) := by decide +kernel
theorem dX2_burdenFor_21 : decode cX2_burdenFor 21 = .ok (.iload_n 3, 1) := by decide +kernel
theorem dX2_burdenFor_22 : decode cX2_burdenFor 22 = .ok (.ifCond .ge 8, 3) := by decide +kernel
theorem dX2_burdenFor_25 : decode cX2_burdenFor 25 = .ok (.iload_n 3, 1) := by decide +kernel
theorem dX2_burdenFor_26 : decode cX2_burdenFor 26 = .ok (.ineg, 1) := by decide +kernel
theorem dX2_burdenFor_27 : decode cX2_burdenFor 27 = .ok (.goto 4, 3) := by decide +kernel
theorem dX2_burdenFor_30 : decode cX2_burdenFor 30 = .ok (.iload_n 3, 1) := by decide +kernel
theorem dX2_burdenFor_31 : decode cX2_burdenFor 31 = .ok (.imul, 1) := by decide +kernel
theorem dX2_burdenFor_32 : decode cX2_burdenFor 32 = .ok (.iadd, 1) := by decide +kernel
theorem dX2_burdenFor_33 : decode cX2_burdenFor 33 = .ok (.ireturn, 1) := by decide +kernel
theorem dX2_canAfford_0 : decode cX2_canAfford 0 = .ok (.aload_n 0, 1) := by decide +kernel
theorem dX2_canAfford_1 : decode cX2_canAfford 1 = .ok (.getfield 19, 3) := by decide +kernel
theorem dX2_canAfford_4 : decode cX2_canAfford 4 = .ok (.iload_n 2, 1) := by decide +kernel
theorem dX2_canAfford_5 : decode cX2_canAfford 5 = .ok (.iaload, 1) := by decide +kernel
theorem dX2_canAfford_6 : decode cX2_canAfford 6 = .ok (.aload_n 0, 1) := by decide +kernel
theorem dX2_canAfford_7 : decode cX2_canAfford 7 = .ok (.getfield 40, 3) := by decide +kernel
theorem dX2_canAfford_10 : decode cX2_canAfford 10 = .ok (.iload_n 1, 1) := by decide +kernel
theorem dX2_canAfford_11 : decode cX2_canAfford 11 = .ok (.iaload, 1) := by decide +kernel
theorem dX2_canAfford_12 : decode cX2_canAfford 12 = .ok (.if_icmp .gt 7, 3) := by decide +kernel
theorem dX2_canAfford_15 : decode cX2_canAfford 15 = .ok (.iconst 1, 1) := by decide +kernel
theorem dX2_canAfford_16 : decode cX2_canAfford 16 = .ok (.goto 4, 3) := by decide +kernel
theorem dX2_canAfford_19 : decode cX2_canAfford 19 = .ok (.iconst 0, 1) := by decide +kernel
theorem dX2_canAfford_20 : decode cX2_canAfford 20 = .ok (.ireturn, 1) := by decide +kernel
theorem dX2_prefersFlat_0 : decode cX2_prefersFlat 0 = .ok (.aload_n 0, 1) := by decide +kernel
theorem dX2_prefersFlat_1 : decode cX2_prefersFlat 1 = .ok (.iload_n 1, 1) := by decide +kernel
theorem dX2_prefersFlat_2 : decode cX2_prefersFlat 2 = .ok (.iload_n 2, 1) := by decide +kernel
theorem dX2_prefersFlat_3 : decode cX2_prefersFlat 3 = .ok (.invokevirtual 125, 3) := by decide +kernel
theorem dX2_prefersFlat_6 : decode cX2_prefersFlat 6 = .ok (.istore 4, 2) := by decide +kernel
theorem dX2_prefersFlat_8 : decode cX2_prefersFlat 8 = .ok (.aload_n 0, 1) := by decide +kernel
theorem dX2_prefersFlat_9 : decode cX2_prefersFlat 9 = .ok (.iload_n 1, 1) := by decide +kernel
theorem dX2_prefersFlat_10 : decode cX2_prefersFlat 10 = .ok (.iload_n 3, 1) := by decide +kernel
theorem dX2_prefersFlat_11 : decode cX2_prefersFlat 11 = .ok (.invokevirtual 125, 3) := by decide +kernel
theorem dX2_prefersFlat_14 : decode cX2_prefersFlat 14 = .ok (.istore 5, 2) := by decide +kernel
theorem dX2_prefersFlat_16 : decode cX2_prefersFlat 16 = .ok (.iload 4, 2) := by decide +kernel
theorem dX2_prefersFlat_18 : decode cX2_prefersFlat 18 = .ok (.iload 5, 2) := by decide +kernel
theorem dX2_prefersFlat_20 : decode cX2_prefersFlat 20 = .ok (.if_icmp .lt 15, 3) := by decide +kernel
theorem dX2_prefersFlat_23 : decode cX2_prefersFlat 23 = .ok (.iload 4, 2) := by decide +kernel
theorem dX2_prefersFlat_25 : decode cX2_prefersFlat 25 = .ok (.iload 5, 2) := by decide +kernel
theorem dX2_prefersFlat_27 : decode cX2_prefersFlat 27 = .ok (.if_icmp .ne 12, 3) := by decide +kernel
theorem dX2_prefersFlat_30 : decode cX2_prefersFlat 30 = .ok (.iload_n 2, 1) := by decide +kernel
theorem dX2_prefersFlat_31 : decode cX2_prefersFlat 31 = .ok (.iload_n 3, 1) := by decide +kernel
theorem dX2_prefersFlat_32 : decode cX2_prefersFlat 32 = .ok (.if_icmp .ge 7, 3) := by decide +kernel
theorem dX2_prefersFlat_35 : decode cX2_prefersFlat 35 = .ok (.iconst 1, 1) := by decide +kernel
theorem dX2_prefersFlat_36 : decode cX2_prefersFlat 36 = .ok (.goto 4, 3) := by decide +kernel
theorem dX2_prefersFlat_39 : decode cX2_prefersFlat 39 = .ok (.iconst 0, 1) := by decide +kernel
theorem dX2_prefersFlat_40 : decode cX2_prefersFlat 40 = .ok (.ireturn, 1) := by decide +kernel
theorem dX2_isPreferredTo_0 : decode cX2_isPreferredTo 0 = .ok (.aload_n 0, 1) := by decide +kernel
theorem dX2_isPreferredTo_1 : decode cX2_isPreferredTo 1 = .ok (.getfield 31, 3) := by decide +kernel
theorem dX2_isPreferredTo_4 : decode cX2_isPreferredTo 4 = .ok (.iload_n 1, 1) := by decide +kernel
theorem dX2_isPreferredTo_5 : decode cX2_isPreferredTo 5 = .ok (.iaload, 1) := by decide +kernel
theorem dX2_isPreferredTo_6 : decode cX2_isPreferredTo 6 = .ok (.aload_n 0, 1) := by decide +kernel
theorem dX2_isPreferredTo_7 : decode cX2_isPreferredTo 7 = .ok (.getfield 31, 3) := by decide +kernel
theorem dX2_isPreferredTo_10 : decode cX2_isPreferredTo 10 = .ok (.iload_n 2, 1) := by decide +kernel
theorem dX2_isPreferredTo_11 : decode cX2_isPreferredTo 11 = .ok (.iaload, 1) := by decide +kernel
theorem dX2_isPreferredTo_12 : decode cX2_isPreferredTo 12 = .ok (.if_icmp .lt 23, 3) := by decide +kernel
theorem dX2_isPreferredTo_15 : decode cX2_isPreferredTo 15 = .ok (.aload_n 0, 1) := by decide +kernel
theorem dX2_isPreferredTo_16 : decode cX2_isPreferredTo 16 = .ok (.getfield 31, 3) := by decide +kernel
theorem dX2_isPreferredTo_19 : decode cX2_isPreferredTo 19 = .ok (.iload_n 1, 1) := by decide +kernel
theorem dX2_isPreferredTo_20 : decode cX2_isPreferredTo 20 = .ok (.iaload, 1) := by decide +kernel
theorem dX2_isPreferredTo_21 : decode cX2_isPreferredTo 21 = .ok (.aload_n 0, 1) := by decide +kernel
theorem dX2_isPreferredTo_22 : decode cX2_isPreferredTo 22 = .ok (.getfield 31, 3) := by decide +kernel
theorem dX2_isPreferredTo_25 : decode cX2_isPreferredTo 25 = .ok (.iload_n 2, 1) := by decide +kernel
theorem dX2_isPreferredTo_26 : decode cX2_isPreferredTo 26 = .ok (.iaload, 1) := by decide +kernel
theorem dX2_isPreferredTo_27 : decode cX2_isPreferredTo 27 = .ok (.if_icmp .ne 12, 3) := by decide +kernel
theorem dX2_isPreferredTo_30 : decode cX2_isPreferredTo 30 = .ok (.iload_n 1, 1) := by decide +kernel
theorem dX2_isPreferredTo_31 : decode cX2_isPreferredTo 31 = .ok (.iload_n 2, 1) := by decide +kernel
theorem dX2_isPreferredTo_32 : decode cX2_isPreferredTo 32 = .ok (.if_icmp .ge 7, 3) := by decide +kernel
theorem dX2_isPreferredTo_35 : decode cX2_isPreferredTo 35 = .ok (.iconst 1, 1) := by decide +kernel
theorem dX2_isPreferredTo_36 : decode cX2_isPreferredTo 36 = .ok (.goto 4, 3) := by decide +kernel
theorem dX2_isPreferredTo_39 : decode cX2_isPreferredTo 39 = .ok (.iconst 0, 1) := by decide +kernel
theorem dX2_isPreferredTo_40 : decode cX2_isPreferredTo 40 = .ok (.ireturn, 1) := by decide +kernel
theorem dX2_rankFor_0 : decode cX2_rankFor 0 = .ok (.iconst 0, 1) := by decide +kernel
theorem dX2_rankFor_1 : decode cX2_rankFor 1 = .ok (.istore_n 3, 1) := by decide +kernel
theorem dX2_rankFor_2 : decode cX2_rankFor 2 = .ok (.iconst 0, 1) := by decide +kernel
theorem dX2_rankFor_3 : decode cX2_rankFor 3 = .ok (.istore 4, 2) := by decide +kernel
theorem dX2_rankFor_5 : decode cX2_rankFor 5 = .ok (.iload 4, 2) := by decide +kernel
theorem dX2_rankFor_7 : decode cX2_rankFor 7 = .ok (.aload_n 0, 1) := by decide +kernel
theorem dX2_rankFor_8 : decode cX2_rankFor 8 = .ok (.getfield 9, 3) := by decide +kernel
theorem dX2_rankFor_11 : decode cX2_rankFor 11 = .ok (.if_icmp .ge 23, 3) := by decide +kernel
theorem dX2_rankFor_14 : decode cX2_rankFor 14 = .ok (.aload_n 0, 1) := by decide +kernel
theorem dX2_rankFor_15 : decode cX2_rankFor 15 = .ok (.iload_n 1, 1) := by decide +kernel
theorem dX2_rankFor_16 : decode cX2_rankFor 16 = .ok (.iload 4, 2) := by decide +kernel
theorem dX2_rankFor_18 : decode cX2_rankFor 18 = .ok (.iload_n 2, 1) := by decide +kernel
theorem dX2_rankFor_19 : decode cX2_rankFor 19 = .ok (.invokevirtual 141, 3) := by decide +kernel
theorem dX2_rankFor_22 : decode cX2_rankFor 22 = .ok (.ifCond .eq 6, 3) := by decide +kernel
theorem dX2_rankFor_25 : decode cX2_rankFor 25 = .ok (.iinc 3 1, 3) := by decide +kernel
theorem dX2_rankFor_28 : decode cX2_rankFor 28 = .ok (.iinc 4 1, 3) := by decide +kernel
theorem dX2_rankFor_31 : decode cX2_rankFor 31 = .ok (.goto (-26), 3) := by decide +kernel
theorem dX2_rankFor_34 : decode cX2_rankFor 34 = .ok (.iload_n 3, 1) := by decide +kernel
theorem dX2_rankFor_35 : decode cX2_rankFor 35 = .ok (.ireturn, 1) := by decide +kernel
theorem dX2_rankByPurse_0 : decode cX2_rankByPurse 0 = .ok (.iconst 0, 1) := by decide +kernel
theorem dX2_rankByPurse_1 : decode cX2_rankByPurse 1 = .ok (.istore_n 2, 1) := by decide +kernel
theorem dX2_rankByPurse_2 : decode cX2_rankByPurse 2 = .ok (.iconst 0, 1) := by decide +kernel
theorem dX2_rankByPurse_3 : decode cX2_rankByPurse 3 = .ok (.istore_n 3, 1) := by decide +kernel
theorem dX2_rankByPurse_4 : decode cX2_rankByPurse 4 = .ok (.iload_n 3, 1) := by decide +kernel
theorem dX2_rankByPurse_5 : decode cX2_rankByPurse 5 = .ok (.aload_n 0, 1) := by decide +kernel
theorem dX2_rankByPurse_6 : decode cX2_rankByPurse 6 = .ok (.getfield 22, 3) := by decide +kernel
theorem dX2_rankByPurse_9 : decode cX2_rankByPurse 9 = .ok (.if_icmp .ge 47, 3) := by decide +kernel
theorem dX2_rankByPurse_12 : decode cX2_rankByPurse 12 = .ok (.aload_n 0, 1) := by decide +kernel
theorem dX2_rankByPurse_13 : decode cX2_rankByPurse 13 = .ok (.getfield 40, 3) := by decide +kernel
theorem dX2_rankByPurse_16 : decode cX2_rankByPurse 16 = .ok (.iload_n 3, 1) := by decide +kernel
theorem dX2_rankByPurse_17 : decode cX2_rankByPurse 17 = .ok (.iaload, 1) := by decide +kernel
theorem dX2_rankByPurse_18 : decode cX2_rankByPurse 18 = .ok (.aload_n 0, 1) := by decide +kernel
theorem dX2_rankByPurse_19 : decode cX2_rankByPurse 19 = .ok (.getfield 40, 3) := by decide +kernel
theorem dX2_rankByPurse_22 : decode cX2_rankByPurse 22 = .ok (.iload_n 1, 1) := by decide +kernel
theorem dX2_rankByPurse_23 : decode cX2_rankByPurse 23 = .ok (.iaload, 1) := by decide +kernel
theorem dX2_rankByPurse_24 : decode cX2_rankByPurse 24 = .ok (.if_icmp .gt 23, 3) := by decide +kernel
theorem dX2_rankByPurse_27 : decode cX2_rankByPurse 27 = .ok (.aload_n 0, 1) := by decide +kernel
theorem dX2_rankByPurse_28 : decode cX2_rankByPurse 28 = .ok (.getfield 40, 3) := by decide +kernel
theorem dX2_rankByPurse_31 : decode cX2_rankByPurse 31 = .ok (.iload_n 3, 1) := by decide +kernel
theorem dX2_rankByPurse_32 : decode cX2_rankByPurse 32 = .ok (.iaload, 1) := by decide +kernel
theorem dX2_rankByPurse_33 : decode cX2_rankByPurse 33 = .ok (.aload_n 0, 1) := by decide +kernel
theorem dX2_rankByPurse_34 : decode cX2_rankByPurse 34 = .ok (.getfield 40, 3) := by decide +kernel
theorem dX2_rankByPurse_37 : decode cX2_rankByPurse 37 = .ok (.iload_n 1, 1) := by decide +kernel
theorem dX2_rankByPurse_38 : decode cX2_rankByPurse 38 = .ok (.iaload, 1) := by decide +kernel
theorem dX2_rankByPurse_39 : decode cX2_rankByPurse 39 = .ok (.if_icmp .ne 11, 3) := by decide +kernel
theorem dX2_rankByPurse_42 : decode cX2_rankByPurse 42 = .ok (.iload_n 3, 1) := by decide +kernel
theorem dX2_rankByPurse_43 : decode cX2_rankByPurse 43 = .ok (.iload_n 1, 1) := by decide +kernel
theorem dX2_rankByPurse_44 : decode cX2_rankByPurse 44 = .ok (.if_icmp .ge 6, 3) := by decide +kernel
theorem dX2_rankByPurse_47 : decode cX2_rankByPurse 47 = .ok (.iinc 2 1, 3) := by decide +kernel
theorem dX2_rankByPurse_50 : decode cX2_rankByPurse 50 = .ok (.iinc 3 1, 3) := by decide +kernel
theorem dX2_rankByPurse_53 : decode cX2_rankByPurse 53 = .ok (.goto (-49), 3) := by decide +kernel
theorem dX2_rankByPurse_56 : decode cX2_rankByPurse 56 = .ok (.iload_n 2, 1) := by decide +kernel
theorem dX2_rankByPurse_57 : decode cX2_rankByPurse 57 = .ok (.ireturn, 1) := by decide +kernel
theorem dX2_creakOn_0 : decode cX2_creakOn 0 = .ok (.iconst 0, 1) := by decide +kernel
theorem dX2_creakOn_1 : decode cX2_creakOn 1 = .ok (.istore_n 2, 1) := by decide +kernel
theorem dX2_creakOn_2 : decode cX2_creakOn 2 = .ok (.iconst 0, 1) := by decide +kernel
theorem dX2_creakOn_3 : decode cX2_creakOn 3 = .ok (.istore_n 3, 1) := by decide +kernel
theorem dX2_creakOn_4 : decode cX2_creakOn 4 = .ok (.iload_n 3, 1) := by decide +kernel
theorem dX2_creakOn_5 : decode cX2_creakOn 5 = .ok (.aload_n 0, 1) := by decide +kernel
theorem dX2_creakOn_6 : decode cX2_creakOn 6 = .ok (.getfield 22, 3) := by decide +kernel
theorem dX2_creakOn_9 : decode cX2_creakOn 9 = .ok (.if_icmp .ge 43, 3) := by decide +kernel
theorem dX2_creakOn_12 : decode cX2_creakOn 12 = .ok (.aload_n 0, 1) := by decide +kernel
theorem dX2_creakOn_13 : decode cX2_creakOn 13 = .ok (.getfield 46, 3) := by decide +kernel
theorem dX2_creakOn_16 : decode cX2_creakOn 16 = .ok (.iload_n 3, 1) := by decide +kernel
theorem dX2_creakOn_17 : decode cX2_creakOn 17 = .ok (.iaload, 1) := by decide +kernel
theorem dX2_creakOn_18 : decode cX2_creakOn 18 = .ok (.istore 4, 2) := by decide +kernel
theorem dX2_creakOn_20 : decode cX2_creakOn 20 = .ok (.iload 4, 2) := by decide +kernel
theorem dX2_creakOn_22 : decode cX2_creakOn 22 = .ok (.iconst (-1), 1) := by decide +kernel
theorem dX2_creakOn_23 : decode cX2_creakOn 23 = .ok (.if_icmp .eq 23, 3) := by decide +kernel
theorem dX2_creakOn_26 : decode cX2_creakOn 26 = .ok (.aload_n 0, 1) := by decide +kernel
theorem dX2_creakOn_27 : decode cX2_creakOn 27 = .ok (.getfield 15, 3) := by decide +kernel
theorem dX2_creakOn_30 : decode cX2_creakOn 30 = .ok (.iload 4, 2) := by decide +kernel
theorem dX2_creakOn_32 : decode cX2_creakOn 32 = .ok (.iaload, 1) := by decide +kernel
theorem dX2_creakOn_33 : decode cX2_creakOn 33 = .ok (.iload_n 1, 1) := by decide +kernel
theorem dX2_creakOn_34 : decode cX2_creakOn 34 = .ok (.if_icmp .ne 12, 3) := by decide +kernel
theorem dX2_creakOn_37 : decode cX2_creakOn 37 = .ok (.iload_n 2, 1) := by decide +kernel
theorem dX2_creakOn_38 : decode cX2_creakOn 38 = .ok (.aload_n 0, 1) := by decide +kernel
theorem dX2_creakOn_39 : decode cX2_creakOn 39 = .ok (.getfield 31, 3) := by decide +kernel
theorem dX2_creakOn_42 : decode cX2_creakOn 42 = .ok (.iload_n 3, 1) := by decide +kernel
theorem dX2_creakOn_43 : decode cX2_creakOn 43 = .ok (.iaload, 1) := by decide +kernel
theorem dX2_creakOn_44 : decode cX2_creakOn 44 = .ok (.iadd, 1) := by decide +kernel
theorem dX2_creakOn_45 : decode cX2_creakOn 45 = .ok (.istore_n 2, 1) := by decide +kernel
theorem dX2_creakOn_46 : decode cX2_creakOn 46 = .ok (.iinc 3 1, 3) := by decide +kernel
theorem dX2_creakOn_49 : decode cX2_creakOn 49 = .ok (.goto (-45), 3) := by decide +kernel
theorem dX2_creakOn_52 : decode cX2_creakOn 52 = .ok (.iload_n 2, 1) := by decide +kernel
theorem dX2_creakOn_53 : decode cX2_creakOn 53 = .ok (.ireturn, 1) := by decide +kernel
theorem dX2_sumOfBurdens_0 : decode cX2_sumOfBurdens 0 = .ok (.iconst 0, 1) := by decide +kernel
theorem dX2_sumOfBurdens_1 : decode cX2_sumOfBurdens 1 = .ok (.istore_n 1, 1) := by decide +kernel
theorem dX2_sumOfBurdens_2 : decode cX2_sumOfBurdens 2 = .ok (.iconst 0, 1) := by decide +kernel
theorem dX2_sumOfBurdens_3 : decode cX2_sumOfBurdens 3 = .ok (.istore_n 2, 1) := by decide +kernel
theorem dX2_sumOfBurdens_4 : decode cX2_sumOfBurdens 4 = .ok (.iload_n 2, 1) := by decide +kernel
theorem dX2_sumOfBurdens_5 : decode cX2_sumOfBurdens 5 = .ok (.aload_n 0, 1) := by decide +kernel
theorem dX2_sumOfBurdens_6 : decode cX2_sumOfBurdens 6 = .ok (.getfield 22, 3) := by decide +kernel
theorem dX2_sumOfBurdens_9 : decode cX2_sumOfBurdens 9 = .ok (.if_icmp .ge 33, 3) := by decide +kernel
theorem dX2_sumOfBurdens_12 : decode cX2_sumOfBurdens 12 = .ok (.aload_n 0, 1) := by decide +kernel
theorem dX2_sumOfBurdens_13 : decode cX2_sumOfBurdens 13 = .ok (.getfield 46, 3) := by decide +kernel
theorem dX2_sumOfBurdens_16 : decode cX2_sumOfBurdens 16 = .ok (.iload_n 2, 1) := by decide +kernel
theorem dX2_sumOfBurdens_17 : decode cX2_sumOfBurdens 17 = .ok (.iaload, 1) := by decide +kernel
theorem dX2_sumOfBurdens_18 : decode cX2_sumOfBurdens 18 = .ok (.iconst (-1), 1) := by decide +kernel
theorem dX2_sumOfBurdens_19 : decode cX2_sumOfBurdens 19 = .ok (.if_icmp .eq 17, 3) := by decide +kernel
theorem dX2_sumOfBurdens_22 : decode cX2_sumOfBurdens 22 = .ok (.iload_n 1, 1) := by decide +kernel
theorem dX2_sumOfBurdens_23 : decode cX2_sumOfBurdens 23 = .ok (.aload_n 0, 1) := by decide +kernel
theorem dX2_sumOfBurdens_24 : decode cX2_sumOfBurdens 24 = .ok (.iload_n 2, 1) := by decide +kernel
theorem dX2_sumOfBurdens_25 : decode cX2_sumOfBurdens 25 = .ok (.aload_n 0, 1) := by decide +kernel
theorem dX2_sumOfBurdens_26 : decode cX2_sumOfBurdens 26 = .ok (.getfield 46, 3) := by decide +kernel
theorem dX2_sumOfBurdens_29 : decode cX2_sumOfBurdens 29 = .ok (.iload_n 2, 1) := by decide +kernel
theorem dX2_sumOfBurdens_30 : decode cX2_sumOfBurdens 30 = .ok (.iaload, 1) := by decide +kernel
theorem dX2_sumOfBurdens_31 : decode cX2_sumOfBurdens 31 = .ok (.invokevirtual 125, 3) := by decide +kernel
theorem dX2_sumOfBurdens_34 : decode cX2_sumOfBurdens 34 = .ok (.iadd, 1) := by decide +kernel
theorem dX2_sumOfBurdens_35 : decode cX2_sumOfBurdens 35 = .ok (.istore_n 1, 1) := by decide +kernel
theorem dX2_sumOfBurdens_36 : decode cX2_sumOfBurdens 36 = .ok (.iinc 2 1, 3) := by decide +kernel
theorem dX2_sumOfBurdens_39 : decode cX2_sumOfBurdens 39 = .ok (.goto (-35), 3) := by decide +kernel
theorem dX2_sumOfBurdens_42 : decode cX2_sumOfBurdens 42 = .ok (.iload_n 1, 1) := by decide +kernel
theorem dX2_sumOfBurdens_43 : decode cX2_sumOfBurdens 43 = .ok (.ireturn, 1) := by decide +kernel
theorem dX2_sumOfParts_0 : decode cX2_sumOfParts 0 = .ok (.aload_n 0, 1) := by decide +kernel
theorem dX2_sumOfParts_1 : decode cX2_sumOfParts 1 = .ok (.getfield 62, 3) := by decide +kernel
theorem dX2_sumOfParts_4 : decode cX2_sumOfParts 4 = .ok (.aload_n 0, 1) := by decide +kernel
theorem dX2_sumOfParts_5 : decode cX2_sumOfParts 5 = .ok (.getfield 55, 3) := by decide +kernel
theorem dX2_sumOfParts_8 : decode cX2_sumOfParts 8 = .ok (.i2l, 1) := by decide +kernel
theorem dX2_sumOfParts_9 : decode cX2_sumOfParts 9 = .ok (.ladd, 1) := by decide +kernel
theorem dX2_sumOfParts_10 : decode cX2_sumOfParts 10 = .ok (.lstore_n 1, 1) := by decide +kernel
theorem dX2_sumOfParts_11 : decode cX2_sumOfParts 11 = .ok (.iconst 0, 1) := by decide +kernel
theorem dX2_sumOfParts_12 : decode cX2_sumOfParts 12 = .ok (.istore_n 3, 1) := by decide +kernel
theorem dX2_sumOfParts_13 : decode cX2_sumOfParts 13 = .ok (.iload_n 3, 1) := by decide +kernel
theorem dX2_sumOfParts_14 : decode cX2_sumOfParts 14 = .ok (.aload_n 0, 1) := by decide +kernel
theorem dX2_sumOfParts_15 : decode cX2_sumOfParts 15 = .ok (.getfield 22, 3) := by decide +kernel
theorem dX2_sumOfParts_18 : decode cX2_sumOfParts 18 = .ok (.if_icmp .ge 19, 3) := by decide +kernel
theorem dX2_sumOfParts_21 : decode cX2_sumOfParts 21 = .ok (.lload_n 1, 1) := by decide +kernel
theorem dX2_sumOfParts_22 : decode cX2_sumOfParts 22 = .ok (.aload_n 0, 1) := by decide +kernel
theorem dX2_sumOfParts_23 : decode cX2_sumOfParts 23 = .ok (.getfield 40, 3) := by decide +kernel
theorem dX2_sumOfParts_26 : decode cX2_sumOfParts 26 = .ok (.iload_n 3, 1) := by decide +kernel
theorem dX2_sumOfParts_27 : decode cX2_sumOfParts 27 = .ok (.iaload, 1) := by decide +kernel
theorem dX2_sumOfParts_28 : decode cX2_sumOfParts 28 = .ok (.i2l, 1) := by decide +kernel
theorem dX2_sumOfParts_29 : decode cX2_sumOfParts 29 = .ok (.ladd, 1) := by decide +kernel
theorem dX2_sumOfParts_30 : decode cX2_sumOfParts 30 = .ok (.lstore_n 1, 1) := by decide +kernel
theorem dX2_sumOfParts_31 : decode cX2_sumOfParts 31 = .ok (.iinc 3 1, 3) := by decide +kernel
theorem dX2_sumOfParts_34 : decode cX2_sumOfParts 34 = .ok (.goto (-21), 3) := by decide +kernel
theorem dX2_sumOfParts_37 : decode cX2_sumOfParts 37 = .ok (.lload_n 1, 1) := by decide +kernel
theorem dX2_sumOfParts_38 : decode cX2_sumOfParts 38 = .ok (.lreturn, 1) := by decide +kernel
theorem dX2_isSound_0 : decode cX2_isSound 0 = .ok (.aload_n 0, 1) := by decide +kernel
theorem dX2_isSound_1 : decode cX2_isSound 1 = .ok (.getfield 9, 3) := by decide +kernel
theorem dX2_isSound_4 : decode cX2_isSound 4 = .ok (.iconst 0, 1) := by decide +kernel
theorem dX2_isSound_5 : decode cX2_isSound 5 = .ok (.bipush 6, 2) := by decide +kernel
theorem dX2_isSound_7 : decode cX2_isSound 7 = .ok (.invokestatic 81, 3) := by decide +kernel
theorem dX2_isSound_10 : decode cX2_isSound 10 = .ok (.ifCond .eq 16, 3) := by decide +kernel
theorem dX2_isSound_13 : decode cX2_isSound 13 = .ok (.aload_n 0, 1) := by decide +kernel
theorem dX2_isSound_14 : decode cX2_isSound 14 = .ok (.getfield 22, 3) := by decide +kernel
theorem dX2_isSound_17 : decode cX2_isSound 17 = .ok (.iconst 0, 1) := by decide +kernel
theorem dX2_isSound_18 : decode cX2_isSound 18 = .ok (.bipush 6, 2) := by decide +kernel
theorem dX2_isSound_20 : decode cX2_isSound 20 = .ok (.invokestatic 81, 3) := by decide +kernel
theorem dX2_isSound_23 : decode cX2_isSound 23 = .ok (.ifCond .ne 5, 3) := by decide +kernel
theorem dX2_isSound_26 : decode cX2_isSound 26 = .ok (.iconst 0, 1) := by decide +kernel
theorem dX2_isSound_27 : decode cX2_isSound 27 = .ok (.ireturn, 1) := by decide +kernel
theorem dX2_isSound_28 : decode cX2_isSound 28 = .ok (.iconst 0, 1) := by decide +kernel
theorem dX2_isSound_29 : decode cX2_isSound 29 = .ok (.istore_n 1, 1) := by decide +kernel
theorem dX2_isSound_30 : decode cX2_isSound 30 = .ok (.iload_n 1, 1) := by decide +kernel
theorem dX2_isSound_31 : decode cX2_isSound 31 = .ok (.aload_n 0, 1) := by decide +kernel
theorem dX2_isSound_32 : decode cX2_isSound 32 = .ok (.getfield 9, 3) := by decide +kernel
theorem dX2_isSound_35 : decode cX2_isSound 35 = .ok (.if_icmp .ge 40, 3) := by decide +kernel
theorem dX2_isSound_38 : decode cX2_isSound 38 = .ok (.aload_n 0, 1) := by decide +kernel
theorem dX2_isSound_39 : decode cX2_isSound 39 = .ok (.getfield 15, 3) := by decide +kernel
theorem dX2_isSound_42 : decode cX2_isSound 42 = .ok (.iload_n 1, 1) := by decide +kernel
theorem dX2_isSound_43 : decode cX2_isSound 43 = .ok (.iaload, 1) := by decide +kernel
theorem dX2_isSound_44 : decode cX2_isSound 44 = .ok (.iconst 0, 1) := by decide +kernel
theorem dX2_isSound_45 : decode cX2_isSound 45 = .ok (.iconst 5, 1) := by decide +kernel
theorem dX2_isSound_46 : decode cX2_isSound 46 = .ok (.invokestatic 81, 3) := by decide +kernel
theorem dX2_isSound_49 : decode cX2_isSound 49 = .ok (.ifCond .eq 18, 3) := by decide +kernel
theorem dX2_isSound_52 : decode cX2_isSound 52 = .ok (.aload_n 0, 1) := by decide +kernel
theorem dX2_isSound_53 : decode cX2_isSound 53 = .ok (.getfield 19, 3) := by decide +kernel
theorem dX2_isSound_56 : decode cX2_isSound 56 = .ok (.iload_n 1, 1) := by decide +kernel
theorem dX2_isSound_57 : decode cX2_isSound 57 = .ok (.iaload, 1) := by decide +kernel
theorem dX2_isSound_58 : decode cX2_isSound 58 = .ok (.iconst 1, 1) := by decide +kernel
theorem dX2_isSound_59 : decode cX2_isSound 59 = .ok (.bipush 99, 2) := by decide +kernel
theorem dX2_isSound_61 : decode cX2_isSound 61 = .ok (.invokestatic 81, 3) := by decide +kernel
theorem dX2_isSound_64 : decode cX2_isSound 64 = .ok (.ifCond .ne 5, 3) := by decide +kernel
theorem dX2_isSound_67 : decode cX2_isSound 67 = .ok (.iconst 0, 1) := by decide +kernel
theorem dX2_isSound_68 : decode cX2_isSound 68 = .ok (.ireturn, 1) := by decide +kernel
theorem dX2_isSound_69 : decode cX2_isSound 69 = .ok (.iinc 1 1, 3) := by decide +kernel
theorem dX2_isSound_72 : decode cX2_isSound 72 = .ok (.goto (-42), 3) := by decide +kernel
theorem dX2_isSound_75 : decode cX2_isSound 75 = .ok (.iconst 0, 1) := by decide +kernel
theorem dX2_isSound_76 : decode cX2_isSound 76 = .ok (.istore_n 1, 1) := by decide +kernel
theorem dX2_isSound_77 : decode cX2_isSound 77 = .ok (.iload_n 1, 1) := by decide +kernel
theorem dX2_isSound_78 : decode cX2_isSound 78 = .ok (.aload_n 0, 1) := by decide +kernel
theorem dX2_isSound_79 : decode cX2_isSound 79 = .ok (.getfield 22, 3) := by decide +kernel
theorem dX2_isSound_82 : decode cX2_isSound 82 = .ok (.if_icmp .ge 27, 3) := by decide +kernel
theorem dX2_isSound_85 : decode cX2_isSound 85 = .ok (.aload_n 0, 1) := by decide +kernel
theorem dX2_isSound_86 : decode cX2_isSound 86 = .ok (.iload_n 1, 1) := by decide +kernel
theorem dX2_isSound_87 : decode cX2_isSound 87 = .ok (.invokevirtual 147, 3) := by decide +kernel
theorem dX2_isSound_90 : decode cX2_isSound 90 = .ok (.ifCond .eq 11, 3) := by decide +kernel
theorem dX2_isSound_93 : decode cX2_isSound 93 = .ok (.aload_n 0, 1) := by decide +kernel
theorem dX2_isSound_94 : decode cX2_isSound 94 = .ok (.iload_n 1, 1) := by decide +kernel
theorem dX2_isSound_95 : decode cX2_isSound 95 = .ok (.invokevirtual 150, 3) := by decide +kernel
theorem dX2_isSound_98 : decode cX2_isSound 98 = .ok (.ifCond .ne 5, 3) := by decide +kernel
theorem dX2_isSound_101 : decode cX2_isSound 101 = .ok (.iconst 0, 1) := by decide +kernel
theorem dX2_isSound_102 : decode cX2_isSound 102 = .ok (.ireturn, 1) := by decide +kernel
theorem dX2_isSound_103 : decode cX2_isSound 103 = .ok (.iinc 1 1, 3) := by decide +kernel
theorem dX2_isSound_106 : decode cX2_isSound 106 = .ok (.goto (-29), 3) := by decide +kernel
theorem dX2_isSound_109 : decode cX2_isSound 109 = .ok (.aload_n 0, 1) := by decide +kernel
theorem dX2_isSound_110 : decode cX2_isSound 110 = .ok (.getfield 58, 3) := by decide +kernel
theorem dX2_isSound_113 : decode cX2_isSound 113 = .ok (.aload_n 0, 1) := by decide +kernel
theorem dX2_isSound_114 : decode cX2_isSound 114 = .ok (.invokevirtual 153, 3) := by decide +kernel
theorem dX2_isSound_117 : decode cX2_isSound 117 = .ok (.lcmp, 1) := by decide +kernel
theorem dX2_isSound_118 : decode cX2_isSound 118 = .ok (.ifCond .ne 7, 3) := by decide +kernel
theorem dX2_isSound_121 : decode cX2_isSound 121 = .ok (.iconst 1, 1) := by decide +kernel
theorem dX2_isSound_122 : decode cX2_isSound 122 = .ok (.goto 4, 3) := by decide +kernel
theorem dX2_isSound_125 : decode cX2_isSound 125 = .ok (.iconst 0, 1) := by decide +kernel
theorem dX2_isSound_126 : decode cX2_isSound 126 = .ok (.ireturn, 1) := by decide +kernel
theorem dX2_isTenantSound_0 : decode cX2_isTenantSound 0 = .ok (.iload_n 1, 1) := by decide +kernel
theorem dX2_isTenantSound_1 : decode cX2_isTenantSound 1 = .ok (.ifCond .ne 7, 3) := by decide +kernel
theorem dX2_isTenantSound_4 : decode cX2_isTenantSound 4 = .ok (.iconst (-1), 1) := by decide +kernel
theorem dX2_isTenantSound_5 : decode cX2_isTenantSound 5 = .ok (.goto 11, 3) := by decide +kernel
theorem dX2_isTenantSound_8 : decode cX2_isTenantSound 8 = .ok (.aload_n 0, 1) := by decide +kernel
theorem dX2_isTenantSound_9 : decode cX2_isTenantSound 9 = .ok (.getfield 28, 3) := by decide +kernel
theorem dX2_isTenantSound_12 : decode cX2_isTenantSound 12 = .ok (.iload_n 1, 1) := by decide +kernel
theorem dX2_isTenantSound_13 : decode cX2_isTenantSound 13 = .ok (.iconst 1, 1) := by decide +kernel
theorem dX2_isTenantSound_14 : decode cX2_isTenantSound 14 = .ok (.isub, 1) := by decide +kernel
theorem dX2_isTenantSound_15 : decode cX2_isTenantSound 15 = .ok (.iaload, 1) := by decide +kernel
theorem dX2_isTenantSound_16 : decode cX2_isTenantSound 16 = .ok (.istore_n 2, 1) := by decide +kernel
theorem dX2_isTenantSound_17 : decode cX2_isTenantSound 17 = .ok (.aload_n 0, 1) := by decide +kernel
theorem dX2_isTenantSound_18 : decode cX2_isTenantSound 18 = .ok (.getfield 28, 3) := by decide +kernel
theorem dX2_isTenantSound_21 : decode cX2_isTenantSound 21 = .ok (.iload_n 1, 1) := by decide +kernel
theorem dX2_isTenantSound_22 : decode cX2_isTenantSound 22 = .ok (.iaload, 1) := by decide +kernel
theorem dX2_isTenantSound_23 : decode cX2_isTenantSound 23 = .ok (.iload_n 2, 1) := by decide +kernel
theorem dX2_isTenantSound_24 : decode cX2_isTenantSound 24 = .ok (.if_icmp .le 87, 3) := by decide +kernel
theorem dX2_isTenantSound_27 : decode cX2_isTenantSound 27 = .ok (.aload_n 0, 1) := by decide +kernel
theorem dX2_isTenantSound_28 : decode cX2_isTenantSound 28 = .ok (.getfield 28, 3) := by decide +kernel
theorem dX2_isTenantSound_31 : decode cX2_isTenantSound 31 = .ok (.iload_n 1, 1) := by decide +kernel
theorem dX2_isTenantSound_32 : decode cX2_isTenantSound 32 = .ok (.iaload, 1) := by decide +kernel
theorem dX2_isTenantSound_33 : decode cX2_isTenantSound 33 = .ok (.aload_n 0, 1) := by decide +kernel
theorem dX2_isTenantSound_34 : decode cX2_isTenantSound 34 = .ok (.getfield 25, 3) := by decide +kernel
theorem dX2_isTenantSound_37 : decode cX2_isTenantSound 37 = .ok (.if_icmp .ge 74, 3) := by decide +kernel
theorem dX2_isTenantSound_40 : decode cX2_isTenantSound 40 = .ok (.aload_n 0, 1) := by decide +kernel
theorem dX2_isTenantSound_41 : decode cX2_isTenantSound 41 = .ok (.getfield 31, 3) := by decide +kernel
theorem dX2_isTenantSound_44 : decode cX2_isTenantSound 44 = .ok (.iload_n 1, 1) := by decide +kernel
theorem dX2_isTenantSound_45 : decode cX2_isTenantSound 45 = .ok (.iaload, 1) := by decide +kernel
theorem dX2_isTenantSound_46 : decode cX2_isTenantSound 46 = .ok (.iconst 1, 1) := by decide +kernel
theorem dX2_isTenantSound_47 : decode cX2_isTenantSound 47 = .ok (.bipush 50, 2) := by decide +kernel
theorem dX2_isTenantSound_49 : decode cX2_isTenantSound 49 = .ok (.invokestatic 81, 3) := by decide +kernel
theorem dX2_isTenantSound_52 : decode cX2_isTenantSound 52 = .ok (.ifCond .eq 59, 3) := by decide +kernel
theorem dX2_isTenantSound_55 : decode cX2_isTenantSound 55 = .ok (.aload_n 0, 1) := by decide +kernel
theorem dX2_isTenantSound_56 : decode cX2_isTenantSound 56 = .ok (.getfield 34, 3) := by decide +kernel
theorem dX2_isTenantSound_59 : decode cX2_isTenantSound 59 = .ok (.iload_n 1, 1) := by decide +kernel
theorem dX2_isTenantSound_60 : decode cX2_isTenantSound 60 = .ok (.iaload, 1) := by decide +kernel
theorem dX2_isTenantSound_61 : decode cX2_isTenantSound 61 = .ok (.iconst 0, 1) := by decide +kernel
theorem dX2_isTenantSound_62 : decode cX2_isTenantSound 62 = .ok (.iconst 5, 1) := by decide +kernel
theorem dX2_isTenantSound_63 : decode cX2_isTenantSound 63 = .ok (.invokestatic 81, 3) := by decide +kernel
theorem dX2_isTenantSound_66 : decode cX2_isTenantSound 66 = .ok (.ifCond .eq 45, 3) := by decide +kernel
theorem dX2_isTenantSound_69 : decode cX2_isTenantSound 69 = .ok (.aload_n 0, 1) := by decide +kernel
theorem dX2_isTenantSound_70 : decode cX2_isTenantSound 70 = .ok (.getfield 37, 3) := by decide +kernel
theorem dX2_isTenantSound_73 : decode cX2_isTenantSound 73 = .ok (.iload_n 1, 1) := by decide +kernel
theorem dX2_isTenantSound_74 : decode cX2_isTenantSound 74 = .ok (.iaload, 1) := by decide +kernel
theorem dX2_isTenantSound_75 : decode cX2_isTenantSound 75 = .ok (.iconst 1, 1) := by decide +kernel
theorem dX2_isTenantSound_76 : decode cX2_isTenantSound 76 = .ok (.bipush 40, 2) := by decide +kernel
theorem dX2_isTenantSound_78 : decode cX2_isTenantSound 78 = .ok (.invokestatic 81, 3) := by decide +kernel
theorem dX2_isTenantSound_81 : decode cX2_isTenantSound 81 = .ok (.ifCond .eq 30, 3) := by decide +kernel
theorem dX2_isTenantSound_84 : decode cX2_isTenantSound 84 = .ok (.aload_n 0, 1) := by decide +kernel
theorem dX2_isTenantSound_85 : decode cX2_isTenantSound 85 = .ok (.getfield 40, 3) := by decide +kernel
theorem dX2_isTenantSound_88 : decode cX2_isTenantSound 88 = .ok (.iload_n 1, 1) := by decide +kernel
theorem dX2_isTenantSound_89 : decode cX2_isTenantSound 89 = .ok (.iaload, 1) := by decide +kernel
theorem dX2_isTenantSound_90 : decode cX2_isTenantSound 90 = .ok (.ifCond .lt 21, 3) := by decide +kernel
theorem dX2_isTenantSound_93 : decode cX2_isTenantSound 93 = .ok (.aload_n 0, 1) := by decide +kernel
theorem dX2_isTenantSound_94 : decode cX2_isTenantSound 94 = .ok (.getfield 43, 3) := by decide +kernel
theorem dX2_isTenantSound_97 : decode cX2_isTenantSound 97 = .ok (.iload_n 1, 1) := by decide +kernel
theorem dX2_isTenantSound_98 : decode cX2_isTenantSound 98 = .ok (.iaload, 1) := by decide +kernel
theorem dX2_isTenantSound_99 : decode cX2_isTenantSound 99 = .ok (.iconst 0, 1) := by decide +kernel
theorem dX2_isTenantSound_100 : decode cX2_isTenantSound 100 = .ok (.iconst 1, 1) := by decide +kernel
theorem dX2_isTenantSound_101 : decode cX2_isTenantSound 101 = .ok (.invokestatic 81, 3) := by decide +kernel
theorem dX2_isTenantSound_104 : decode cX2_isTenantSound 104 = .ok (.ifCond .eq 7, 3) := by decide +kernel
theorem dX2_isTenantSound_107 : decode cX2_isTenantSound 107 = .ok (.iconst 1, 1) := by decide +kernel
theorem dX2_isTenantSound_108 : decode cX2_isTenantSound 108 = .ok (.goto 4, 3) := by decide +kernel
theorem dX2_isTenantSound_111 : decode cX2_isTenantSound 111 = .ok (.iconst 0, 1) := by decide +kernel
theorem dX2_isTenantSound_112 : decode cX2_isTenantSound 112 = .ok (.ireturn, 1) := by decide +kernel
theorem dX2_isHomeSound_0 : decode cX2_isHomeSound 0 = .ok (.aload_n 0, 1) := by decide +kernel
theorem dX2_isHomeSound_1 : decode cX2_isHomeSound 1 = .ok (.getfield 46, 3) := by decide +kernel
theorem dX2_isHomeSound_4 : decode cX2_isHomeSound 4 = .ok (.iload_n 1, 1) := by decide +kernel
theorem dX2_isHomeSound_5 : decode cX2_isHomeSound 5 = .ok (.iaload, 1) := by decide +kernel
theorem dX2_isHomeSound_6 : decode cX2_isHomeSound 6 = .ok (.istore_n 2, 1) := by decide +kernel
theorem dX2_isHomeSound_7 : decode cX2_isHomeSound 7 = .ok (.iload_n 2, 1) := by decide +kernel
theorem dX2_isHomeSound_8 : decode cX2_isHomeSound 8 = .ok (.iconst (-1), 1) := by decide +kernel
theorem dX2_isHomeSound_9 : decode cX2_isHomeSound 9 = .ok (.if_icmp .eq 20, 3) := by decide +kernel
theorem dX2_isHomeSound_12 : decode cX2_isHomeSound 12 = .ok (.aload_n 0, 1) := by decide +kernel
theorem dX2_isHomeSound_13 : decode cX2_isHomeSound 13 = .ok (.iload_n 2, 1) := by decide +kernel
theorem dX2_isHomeSound_14 : decode cX2_isHomeSound 14 = .ok (.invokevirtual 104, 3) := by decide +kernel
theorem dX2_isHomeSound_17 : decode cX2_isHomeSound 17 = .ok (.ifCond .eq 16, 3) := by decide +kernel
theorem dX2_isHomeSound_20 : decode cX2_isHomeSound 20 = .ok (.aload_n 0, 1) := by decide +kernel
theorem dX2_isHomeSound_21 : decode cX2_isHomeSound 21 = .ok (.iload_n 2, 1) := by decide +kernel
theorem dX2_isHomeSound_22 : decode cX2_isHomeSound 22 = .ok (.invokevirtual 111, 3) := by decide +kernel
theorem dX2_isHomeSound_25 : decode cX2_isHomeSound 25 = .ok (.iload_n 1, 1) := by decide +kernel
theorem dX2_isHomeSound_26 : decode cX2_isHomeSound 26 = .ok (.if_icmp .ne 7, 3) := by decide +kernel
theorem dX2_isHomeSound_29 : decode cX2_isHomeSound 29 = .ok (.iconst 1, 1) := by decide +kernel
theorem dX2_isHomeSound_30 : decode cX2_isHomeSound 30 = .ok (.goto 4, 3) := by decide +kernel
theorem dX2_isHomeSound_33 : decode cX2_isHomeSound 33 = .ok (.iconst 0, 1) := by decide +kernel
theorem dX2_isHomeSound_34 : decode cX2_isHomeSound 34 = .ok (.ireturn, 1) := by decide +kernel
theorem dX4_init_0 : decode cX4_init 0 = .ok (.aload_n 0, 1) := by decide +kernel
theorem dX4_init_1 : decode cX4_init 1 = .ok (.invokespecial 3, 3) := by decide +kernel
theorem dX4_init_4 : decode cX4_init 4 = .ok (.aload_n 0, 1) := by decide +kernel
theorem dX4_init_5 : decode cX4_init 5 = .ok (.iconst 0, 1) := by decide +kernel
theorem dX4_init_6 : decode cX4_init 6 = .ok (.putfield 9, 3) := by decide +kernel
theorem dX4_init_9 : decode cX4_init 9 = .ok (.aload_n 0, 1) := by decide +kernel
theorem dX4_init_10 : decode cX4_init 10 = .ok (.getstatic 15, 3) := by decide +kernel
theorem dX4_init_13 : decode cX4_init 13 = .ok (.putfield 21, 3) := by decide +kernel
theorem dX4_init_16 : decode cX4_init 16 = .ok (.aload_n 0, 1) := by decide +kernel
theorem dX4_init_17 : decode cX4_init 17 = .ok (.iconst 4, 1) := by decide +kernel
theorem dX4_init_18 : decode cX4_init 18 = .ok (.newarray .int, 2) := by decide +kernel
theorem dX4_init_20 : decode cX4_init 20 = .ok (.putfield 24, 3) := by decide +kernel
theorem dX4_init_23 : decode cX4_init 23 = .ok (.aload_n 0, 1) := by decide +kernel
theorem dX4_init_24 : decode cX4_init 24 = .ok (.iconst 0, 1) := by decide +kernel
theorem dX4_init_25 : decode cX4_init 25 = .ok (.putfield 28, 3) := by decide +kernel
theorem dX4_init_28 : decode cX4_init 28 = .ok (.aload_n 0, 1) := by decide +kernel
theorem dX4_init_29 : decode cX4_init 29 = .ok (.iconst 0, 1) := by decide +kernel
theorem dX4_init_30 : decode cX4_init 30 = .ok (.putfield 31, 3) := by decide +kernel
theorem dX4_init_33 : decode cX4_init 33 = .ok (.return_, 1) := by decide +kernel
theorem dX4_rewind_0 : decode cX4_rewind 0 = .ok (.aload_n 0, 1) := by decide +kernel
theorem dX4_rewind_1 : decode cX4_rewind 1 = .ok (.iconst 0, 1) := by decide +kernel
theorem dX4_rewind_2 : decode cX4_rewind 2 = .ok (.putfield 9, 3) := by decide +kernel
theorem dX4_rewind_5 : decode cX4_rewind 5 = .ok (.aload_n 0, 1) := by decide +kernel
theorem dX4_rewind_6 : decode cX4_rewind 6 = .ok (.iconst 0, 1) := by decide +kernel
theorem dX4_rewind_7 : decode cX4_rewind 7 = .ok (.putfield 31, 3) := by decide +kernel
theorem dX4_rewind_10 : decode cX4_rewind 10 = .ok (.return_, 1) := by decide +kernel
theorem dX4_countCommands_0 : decode cX4_countCommands 0 = .ok (.aload_n 0, 1) := by decide +kernel
theorem dX4_countCommands_1 : decode cX4_countCommands 1 = .ok (.invokevirtual 35, 3) := by decide +kernel
theorem dX4_countCommands_4 : decode cX4_countCommands 4 = .ok (.iconst 0, 1) := by decide +kernel
theorem dX4_countCommands_5 : decode cX4_countCommands 5 = .ok (.istore_n 2, 1) := by decide +kernel
theorem dX4_countCommands_6 : decode cX4_countCommands 6 = .ok (.aload_n 0, 1) := by decide +kernel
theorem dX4_countCommands_7 : decode cX4_countCommands 7 = .ok (.aload_n 1, 1) := by decide +kernel
theorem dX4_countCommands_8 : decode cX4_countCommands 8 = .ok (.iload_n 2, 1) := by decide +kernel
theorem dX4_countCommands_9 : decode cX4_countCommands 9 = .ok (.invokevirtual 38, 3) := by decide +kernel
theorem dX4_countCommands_12 : decode cX4_countCommands 12 = .ok (.iinc 2 1, 3) := by decide +kernel
theorem dX4_countCommands_15 : decode cX4_countCommands 15 = .ok (.aload_n 0, 1) := by decide +kernel
theorem dX4_countCommands_16 : decode cX4_countCommands 16 = .ok (.getfield 31, 3) := by decide +kernel
theorem dX4_countCommands_19 : decode cX4_countCommands 19 = .ok (.ifCond .ne 21, 3) := by decide +kernel
theorem dX4_countCommands_22 : decode cX4_countCommands 22 = .ok (.aload_n 0, 1) := by decide +kernel
theorem dX4_countCommands_23 : decode cX4_countCommands 23 = .ok (.getfield 9, 3) := by decide +kernel
theorem dX4_countCommands_26 : decode cX4_countCommands 26 = .ok (.aload_n 1, 1) := by decide +kernel
theorem dX4_countCommands_27 : decode cX4_countCommands 27 = .ok (.getfield 42, 3) := by decide +kernel
theorem dX4_countCommands_30 : decode cX4_countCommands 30 = .ok (.if_icmp .ge 10, 3) := by decide +kernel
theorem dX4_countCommands_33 : decode cX4_countCommands 33 = .ok (.iload_n 2, 1) := by decide +kernel
theorem dX4_countCommands_34 : decode cX4_countCommands 34 = .ok (.sipush 128, 3) := by decide +kernel
theorem dX4_countCommands_37 : decode cX4_countCommands 37 = .ok (.if_icmp .le (-31), 3) := by decide +kernel
theorem dX4_countCommands_40 : decode cX4_countCommands 40 = .ok (.aload_n 0, 1) := by decide +kernel
theorem dX4_countCommands_41 : decode cX4_countCommands 41 = .ok (.getfield 31, 3) := by decide +kernel
theorem dX4_countCommands_44 : decode cX4_countCommands 44 = .ok (.ifCond .eq 7, 3) := by decide +kernel
theorem dX4_countCommands_47 : decode cX4_countCommands 47 = .ok (.iconst (-1), 1) := by decide +kernel
theorem dX4_countCommands_48 : decode cX4_countCommands 48 = .ok (.goto 4, 3) := by decide +kernel
theorem dX4_countCommands_51 : decode cX4_countCommands 51 = .ok (.iload_n 2, 1) := by decide +kernel
theorem dX4_countCommands_52 : decode cX4_countCommands 52 = .ok (.ireturn, 1) := by decide +kernel
theorem dX4_readCommand_0 : decode cX4_readCommand 0 = .ok (.iload_n 2, 1) := by decide +kernel
theorem dX4_readCommand_1 : decode cX4_readCommand 1 = .ok (.ifCond .le 10, 3) := by decide +kernel
theorem dX4_readCommand_4 : decode cX4_readCommand 4 = .ok (.aload_n 0, 1) := by decide +kernel
theorem dX4_readCommand_5 : decode cX4_readCommand 5 = .ok (.aload_n 1, 1) := by decide +kernel
theorem dX4_readCommand_6 : decode cX4_readCommand 6 = .ok (.bipush 59, 2) := by decide +kernel
theorem dX4_readCommand_8 : decode cX4_readCommand 8 = .ok (.invokevirtual 47, 3) := by decide +kernel
theorem dX4_readCommand_11 : decode cX4_readCommand 11 = .ok (.aload_n 0, 1) := by decide +kernel
theorem dX4_readCommand_12 : decode cX4_readCommand 12 = .ok (.getfield 31, 3) := by decide +kernel
theorem dX4_readCommand_15 : decode cX4_readCommand 15 = .ok (.ifCond .ne 8, 3) := by decide +kernel
theorem dX4_readCommand_18 : decode cX4_readCommand 18 = .ok (.aload_n 0, 1) := by decide +kernel
theorem dX4_readCommand_19 : decode cX4_readCommand 19 = .ok (.aload_n 1, 1) := by decide +kernel
theorem dX4_readCommand_20 : decode cX4_readCommand 20 = .ok (.invokevirtual 51, 3) := by decide +kernel
theorem dX4_readCommand_23 : decode cX4_readCommand 23 = .ok (.aload_n 0, 1) := by decide +kernel
theorem dX4_readCommand_24 : decode cX4_readCommand 24 = .ok (.iconst 0, 1) := by decide +kernel
theorem dX4_readCommand_25 : decode cX4_readCommand 25 = .ok (.putfield 28, 3) := by decide +kernel
theorem dX4_readCommand_28 : decode cX4_readCommand 28 = .ok (.aload_n 0, 1) := by decide +kernel
theorem dX4_readCommand_29 : decode cX4_readCommand 29 = .ok (.getfield 21, 3) := by decide +kernel
theorem dX4_readCommand_32 : decode cX4_readCommand 32 = .ok (.getfield 55, 3) := by decide +kernel
theorem dX4_readCommand_35 : decode cX4_readCommand 35 = .ok (.astore_n 3, 1) := by decide +kernel
theorem dX4_readCommand_36 : decode cX4_readCommand 36 = .ok (.iconst 0, 1) := by decide +kernel
theorem dX4_readCommand_37 : decode cX4_readCommand 37 = .ok (.istore 4, 2) := by decide +kernel
theorem dX4_readCommand_39 : decode cX4_readCommand 39 = .ok (.iload 4, 2) := by decide +kernel
theorem dX4_readCommand_41 : decode cX4_readCommand 41 = .ok (.aload_n 3, 1) := by decide +kernel
theorem dX4_readCommand_42 : decode cX4_readCommand 42 = .ok (.invokevirtual 59, 3) := by decide +kernel
theorem dX4_readCommand_45 : decode cX4_readCommand 45 = .ok (.if_icmp .ge 27, 3) := by decide +kernel
theorem dX4_readCommand_48 : decode cX4_readCommand 48 = .ok (.aload_n 0, 1) := by decide +kernel
theorem dX4_readCommand_49 : decode cX4_readCommand 49 = .ok (.getfield 31, 3) := by decide +kernel
theorem dX4_readCommand_52 : decode cX4_readCommand 52 = .ok (.ifCond .ne 20, 3) := by decide +kernel
theorem dX4_readCommand_55 : decode cX4_readCommand 55 = .ok (.aload_n 0, 1) := by decide +kernel
theorem dX4_readCommand_56 : decode cX4_readCommand 56 = .ok (.aload_n 1, 1) := by decide +kernel
theorem dX4_readCommand_57 : decode cX4_readCommand 57 = .ok (.aload_n 3, 1) := by decide +kernel
theorem dX4_readCommand_58 : decode cX4_readCommand 58 = .ok (.iload 4, 2) := by decide +kernel
theorem dX4_readCommand_60 : decode cX4_readCommand 60 = .ok (.invokevirtual 64, 3) := by decide +kernel
theorem dX4_readCommand_63 : decode cX4_readCommand 63 = .ok (.invokevirtual 68, 3) := by decide +kernel
theorem dX4_readCommand_66 : decode cX4_readCommand 66 = .ok (.iinc 4 1, 3) := by decide +kernel
theorem dX4_readCommand_69 : decode cX4_readCommand 69 = .ok (.goto (-30), 3) := by decide +kernel
theorem dX4_readCommand_72 : decode cX4_readCommand 72 = .ok (.aload_n 0, 1) := by decide +kernel
theorem dX4_readCommand_73 : decode cX4_readCommand 73 = .ok (.getfield 21, 3) := by decide +kernel
theorem dX4_readCommand_76 : decode cX4_readCommand 76 = .ok (.getstatic 71, 3) := by decide +kernel
theorem dX4_readCommand_79 : decode cX4_readCommand 79 = .ok (.if_acmp .ne 15, 3) := by decide +kernel
theorem dX4_readCommand_82 : decode cX4_readCommand 82 = .ok (.aload_n 0, 1) := by decide +kernel
theorem dX4_readCommand_83 : decode cX4_readCommand 83 = .ok (.getfield 31, 3) := by decide +kernel
theorem dX4_readCommand_86 : decode cX4_readCommand 86 = .ok (.ifCond .ne 8, 3) := by decide +kernel
theorem dX4_readCommand_89 : decode cX4_readCommand 89 = .ok (.aload_n 0, 1) := by decide +kernel
theorem dX4_readCommand_90 : decode cX4_readCommand 90 = .ok (.aload_n 1, 1) := by decide +kernel
theorem dX4_readCommand_91 : decode cX4_readCommand 91 = .ok (.invokevirtual 74, 3) := by decide +kernel
theorem dX4_readCommand_94 : decode cX4_readCommand 94 = .ok (.return_, 1) := by decide +kernel
theorem dX4_chooseKind_0 : decode cX4_chooseKind 0 = .ok (.iconst 0, 1) := by decide +kernel
theorem dX4_chooseKind_1 : decode cX4_chooseKind 1 = .ok (.istore_n 2, 1) := by decide +kernel
theorem dX4_chooseKind_2 : decode cX4_chooseKind 2 = .ok (.iload_n 2, 1) := by decide +kernel
theorem dX4_chooseKind_3 : decode cX4_chooseKind 3 = .ok (.getstatic 77, 3) := by decide +kernel
theorem dX4_chooseKind_6 : decode cX4_chooseKind 6 = .ok (.arraylength, 1) := by decide +kernel
theorem dX4_chooseKind_7 : decode cX4_chooseKind 7 = .ok (.if_icmp .ge 42, 3) := by decide +kernel
theorem dX4_chooseKind_10 : decode cX4_chooseKind 10 = .ok (.aload_n 1, 1) := by decide +kernel
theorem dX4_chooseKind_11 : decode cX4_chooseKind 11 = .ok (.aload_n 0, 1) := by decide +kernel
theorem dX4_chooseKind_12 : decode cX4_chooseKind 12 = .ok (.getfield 9, 3) := by decide +kernel
theorem dX4_chooseKind_15 : decode cX4_chooseKind 15 = .ok (.getstatic 77, 3) := by decide +kernel
theorem dX4_chooseKind_18 : decode cX4_chooseKind 18 = .ok (.iload_n 2, 1) := by decide +kernel
theorem dX4_chooseKind_19 : decode cX4_chooseKind 19 = .ok (.aaload, 1) := by decide +kernel
theorem dX4_chooseKind_20 : decode cX4_chooseKind 20 = .ok (.getfield 55, 3) := by decide +kernel
theorem dX4_chooseKind_23 : decode cX4_chooseKind 23 = .ok (.iconst 0, 1) := by decide +kernel
theorem dX4_chooseKind_24 : decode cX4_chooseKind 24 = .ok (.invokevirtual 64, 3) := by decide +kernel
theorem dX4_chooseKind_27 : decode cX4_chooseKind 27 = .ok (.invokevirtual 81, 3) := by decide +kernel
theorem dX4_chooseKind_30 : decode cX4_chooseKind 30 = .ok (.ifCond .eq 13, 3) := by decide +kernel
theorem dX4_chooseKind_33 : decode cX4_chooseKind 33 = .ok (.aload_n 0, 1) := by decide +kernel
theorem dX4_chooseKind_34 : decode cX4_chooseKind 34 = .ok (.getstatic 77, 3) := by decide +kernel
theorem dX4_chooseKind_37 : decode cX4_chooseKind 37 = .ok (.iload_n 2, 1) := by decide +kernel
theorem dX4_chooseKind_38 : decode cX4_chooseKind 38 = .ok (.aaload, 1) := by decide +kernel
theorem dX4_chooseKind_39 : decode cX4_chooseKind 39 = .ok (.putfield 21, 3) := by decide +kernel
theorem dX4_chooseKind_42 : decode cX4_chooseKind 42 = .ok (.return_, 1) := by decide +kernel
theorem dX4_chooseKind_43 : decode cX4_chooseKind 43 = .ok (.iinc 2 1, 3) := by decide +kernel
theorem dX4_chooseKind_46 : decode cX4_chooseKind 46 = .ok (.goto (-44), 3) := by decide +kernel
theorem dX4_chooseKind_49 : decode cX4_chooseKind 49 = .ok (.aload_n 0, 1) := by decide +kernel
theorem dX4_chooseKind_50 : decode cX4_chooseKind 50 = .ok (.iconst 1, 1) := by decide +kernel
theorem dX4_chooseKind_51 : decode cX4_chooseKind 51 = .ok (.putfield 31, 3) := by decide +kernel
theorem dX4_chooseKind_54 : decode cX4_chooseKind 54 = .ok (.return_, 1) := by decide +kernel
theorem dX4_readPart_0 : decode cX4_readPart 0 = .ok (.iload_n 2, 1) := by decide +kernel
theorem dX4_readPart_1 : decode cX4_readPart 1 = .ok (.bipush 35, 2) := by decide +kernel
theorem dX4_readPart_3 : decode cX4_readPart 3 = .ok (.if_icmp .ne 11, 3) := by decide +kernel
theorem dX4_readPart_6 : decode cX4_readPart 6 = .ok (.aload_n 0, 1) := by decide +kernel
theorem dX4_readPart_7 : decode cX4_readPart 7 = .ok (.aload_n 1, 1) := by decide +kernel
theorem dX4_readPart_8 : decode cX4_readPart 8 = .ok (.invokevirtual 85, 3) := by decide +kernel
theorem dX4_readPart_11 : decode cX4_readPart 11 = .ok (.goto 23, 3) := by decide +kernel
theorem dX4_readPart_14 : decode cX4_readPart 14 = .ok (.iload_n 2, 1) := by decide +kernel
theorem dX4_readPart_15 : decode cX4_readPart 15 = .ok (.bipush 37, 2) := by decide +kernel
theorem dX4_readPart_17 : decode cX4_readPart 17 = .ok (.if_icmp .ne 11, 3) := by decide +kernel
theorem dX4_readPart_20 : decode cX4_readPart 20 = .ok (.aload_n 0, 1) := by decide +kernel
theorem dX4_readPart_21 : decode cX4_readPart 21 = .ok (.aload_n 1, 1) := by decide +kernel
theorem dX4_readPart_22 : decode cX4_readPart 22 = .ok (.invokevirtual 88, 3) := by decide +kernel
theorem dX4_readPart_25 : decode cX4_readPart 25 = .ok (.goto 9, 3) := by decide +kernel
theorem dX4_readPart_28 : decode cX4_readPart 28 = .ok (.aload_n 0, 1) := by decide +kernel
theorem dX4_readPart_29 : decode cX4_readPart 29 = .ok (.aload_n 1, 1) := by decide +kernel
theorem dX4_readPart_30 : decode cX4_readPart 30 = .ok (.iload_n 2, 1) := by decide +kernel
theorem dX4_readPart_31 : decode cX4_readPart 31 = .ok (.invokevirtual 47, 3) := by decide +kernel
theorem dX4_readPart_34 : decode cX4_readPart 34 = .ok (.return_, 1) := by decide +kernel
theorem dX4_readMonths_0 : decode cX4_readMonths 0 = .ok (.aload_n 1, 1) := by decide +kernel
theorem dX4_readMonths_1 : decode cX4_readMonths 1 = .ok (.aload_n 0, 1) := by decide +kernel
theorem dX4_readMonths_2 : decode cX4_readMonths 2 = .ok (.getfield 9, 3) := by decide +kernel
theorem dX4_readMonths_5 : decode cX4_readMonths 5 = .ok (.bipush 32, 2) := by decide +kernel
theorem dX4_readMonths_7 : decode cX4_readMonths 7 = .ok (.invokevirtual 81, 3) := by decide +kernel
theorem dX4_readMonths_10 : decode cX4_readMonths 10 = .ok (.ifCond .eq 21, 3) := by decide +kernel
theorem dX4_readMonths_13 : decode cX4_readMonths 13 = .ok (.aload_n 0, 1) := by decide +kernel
theorem dX4_readMonths_14 : decode cX4_readMonths 14 = .ok (.dup, 1) := by decide +kernel
theorem dX4_readMonths_15 : decode cX4_readMonths 15 = .ok (.getfield 9, 3) := by decide +kernel
theorem dX4_readMonths_18 : decode cX4_readMonths 18 = .ok (.iconst 1, 1) := by decide +kernel
theorem dX4_readMonths_19 : decode cX4_readMonths 19 = .ok (.iadd, 1) := by decide +kernel
theorem dX4_readMonths_20 : decode cX4_readMonths 20 = .ok (.putfield 9, 3) := by decide +kernel
theorem dX4_readMonths_23 : decode cX4_readMonths 23 = .ok (.aload_n 0, 1) := by decide +kernel
theorem dX4_readMonths_24 : decode cX4_readMonths 24 = .ok (.aload_n 1, 1) := by decide +kernel
theorem dX4_readMonths_25 : decode cX4_readMonths 25 = .ok (.invokevirtual 88, 3) := by decide +kernel
theorem dX4_readMonths_28 : decode cX4_readMonths 28 = .ok (.goto 8, 3) := by decide +kernel
theorem dX4_readMonths_31 : decode cX4_readMonths 31 = .ok (.aload_n 0, 1) := by decide +kernel
theorem dX4_readMonths_32 : decode cX4_readMonths 32 = .ok (.iconst 1, 1) := by decide +kernel
theorem dX4_readMonths_33 : decode cX4_readMonths 33 = .ok (.invokevirtual 91, 3) := by decide +kernel
theorem dX4_readMonths_36 : decode cX4_readMonths 36 = .ok (.return_, 1) := by decide +kernel
theorem dX4_readSign_0 : decode cX4_readSign 0 = .ok (.aload_n 1, 1) := by decide +kernel
theorem dX4_readSign_1 : decode cX4_readSign 1 = .ok (.aload_n 0, 1) := by decide +kernel
theorem dX4_readSign_2 : decode cX4_readSign 2 = .ok (.getfield 9, 3) := by decide +kernel
theorem dX4_readSign_5 : decode cX4_readSign 5 = .ok (.iload_n 2, 1) := by decide +kernel
theorem dX4_readSign_6 : decode cX4_readSign 6 = .ok (.invokevirtual 81, 3) := by decide +kernel
theorem dX4_readSign_9 : decode cX4_readSign 9 = .ok (.ifCond .eq 16, 3) := by decide +kernel
theorem dX4_readSign_12 : decode cX4_readSign 12 = .ok (.aload_n 0, 1) := by decide +kernel
theorem dX4_readSign_13 : decode cX4_readSign 13 = .ok (.dup, 1) := by decide +kernel
theorem dX4_readSign_14 : decode cX4_readSign 14 = .ok (.getfield 9, 3) := by decide +kernel
theorem dX4_readSign_17 : decode cX4_readSign 17 = .ok (.iconst 1, 1) := by decide +kernel
theorem dX4_readSign_18 : decode cX4_readSign 18 = .ok (.iadd, 1) := by decide +kernel
theorem dX4_readSign_19 : decode cX4_readSign 19 = .ok (.putfield 9, 3) := by decide +kernel
theorem dX4_readSign_22 : decode cX4_readSign 22 = .ok (.goto 8, 3) := by decide +kernel
theorem dX4_readSign_25 : decode cX4_readSign 25 = .ok (.aload_n 0, 1) := by decide +kernel
theorem dX4_readSign_26 : decode cX4_readSign 26 = .ok (.iconst 1, 1) := by decide +kernel
theorem dX4_readSign_27 : decode cX4_readSign 27 = .ok (.putfield 31, 3) := by decide +kernel
theorem dX4_readSign_30 : decode cX4_readSign 30 = .ok (.return_, 1) := by decide +kernel
theorem dX4_readDigit_0 : decode cX4_readDigit 0 = .ok (.aload_n 1, 1) := by decide +kernel
theorem dX4_readDigit_1 : decode cX4_readDigit 1 = .ok (.aload_n 0, 1) := by decide +kernel
theorem dX4_readDigit_2 : decode cX4_readDigit 2 = .ok (.getfield 9, 3) := by decide +kernel
theorem dX4_readDigit_5 : decode cX4_readDigit 5 = .ok (.invokevirtual 95, 3) := by decide +kernel
theorem dX4_readDigit_8 : decode cX4_readDigit 8 = .ok (.istore_n 2, 1) := by decide +kernel
theorem dX4_readDigit_9 : decode cX4_readDigit 9 = .ok (.iload_n 2, 1) := by decide +kernel
theorem dX4_readDigit_10 : decode cX4_readDigit 10 = .ok (.iconst (-1), 1) := by decide +kernel
theorem dX4_readDigit_11 : decode cX4_readDigit 11 = .ok (.if_icmp .ne 11, 3) := by decide +kernel
theorem dX4_readDigit_14 : decode cX4_readDigit 14 = .ok (.aload_n 0, 1) := by decide +kernel
theorem dX4_readDigit_15 : decode cX4_readDigit 15 = .ok (.iconst 1, 1) := by decide +kernel
theorem dX4_readDigit_16 : decode cX4_readDigit 16 = .ok (.putfield 31, 3) := by decide +kernel
theorem dX4_readDigit_19 : decode cX4_readDigit 19 = .ok (.goto 18, 3) := by decide +kernel
theorem dX4_readDigit_22 : decode cX4_readDigit 22 = .ok (.aload_n 0, 1) := by decide +kernel
theorem dX4_readDigit_23 : decode cX4_readDigit 23 = .ok (.dup, 1) := by decide +kernel
theorem dX4_readDigit_24 : decode cX4_readDigit 24 = .ok (.getfield 9, 3) := by decide +kernel
theorem dX4_readDigit_27 : decode cX4_readDigit 27 = .ok (.iconst 1, 1) := by decide +kernel
theorem dX4_readDigit_28 : decode cX4_readDigit 28 = .ok (.iadd, 1) := by decide +kernel
theorem dX4_readDigit_29 : decode cX4_readDigit 29 = .ok (.putfield 9, 3) := by decide +kernel
theorem dX4_readDigit_32 : decode cX4_readDigit 32 = .ok (.aload_n 0, 1) := by decide +kernel
theorem dX4_readDigit_33 : decode cX4_readDigit 33 = .ok (.iload_n 2, 1) := by decide +kernel
theorem dX4_readDigit_34 : decode cX4_readDigit 34 = .ok (.invokevirtual 91, 3) := by decide +kernel
theorem dX4_readDigit_37 : decode cX4_readDigit 37 = .ok (.return_, 1) := by decide +kernel
theorem dX4_readNumber_0 : decode cX4_readNumber 0 = .ok (.aload_n 1, 1) := by decide +kernel
theorem dX4_readNumber_1 : decode cX4_readNumber 1 = .ok (.aload_n 0, 1) := by decide +kernel
theorem dX4_readNumber_2 : decode cX4_readNumber 2 = .ok (.getfield 9, 3) := by decide +kernel
theorem dX4_readNumber_5 : decode cX4_readNumber 5 = .ok (.invokevirtual 95, 3) := by decide +kernel
theorem dX4_readNumber_8 : decode cX4_readNumber 8 = .ok (.istore_n 2, 1) := by decide +kernel
theorem dX4_readNumber_9 : decode cX4_readNumber 9 = .ok (.aload_n 1, 1) := by decide +kernel
theorem dX4_readNumber_10 : decode cX4_readNumber 10 = .ok (.aload_n 0, 1) := by decide +kernel
theorem dX4_readNumber_11 : decode cX4_readNumber 11 = .ok (.getfield 9, 3) := by decide +kernel
theorem dX4_readNumber_14 : decode cX4_readNumber 14 = .ok (.iconst 1, 1) := by decide +kernel
theorem dX4_readNumber_15 : decode cX4_readNumber 15 = .ok (.iadd, 1) := by decide +kernel
theorem dX4_readNumber_16 : decode cX4_readNumber 16 = .ok (.invokevirtual 95, 3) := by decide +kernel
theorem dX4_readNumber_19 : decode cX4_readNumber 19 = .ok (.istore_n 3, 1) := by decide +kernel
theorem dX4_readNumber_20 : decode cX4_readNumber 20 = .ok (.iload_n 2, 1) := by decide +kernel
theorem dX4_readNumber_21 : decode cX4_readNumber 21 = .ok (.iconst (-1), 1) := by decide +kernel
theorem dX4_readNumber_22 : decode cX4_readNumber 22 = .ok (.if_icmp .eq 8, 3) := by decide +kernel
theorem dX4_readNumber_25 : decode cX4_readNumber 25 = .ok (.iload_n 3, 1) := by decide +kernel
theorem dX4_readNumber_26 : decode cX4_readNumber 26 = .ok (.iconst (-1), 1) := by decide +kernel
theorem dX4_readNumber_27 : decode cX4_readNumber 27 = .ok (.if_icmp .ne 11, 3) := by decide +kernel
theorem dX4_readNumber_30 : decode cX4_readNumber 30 = .ok (.aload_n 0, 1) := by decide +kernel
theorem dX4_readNumber_31 : decode cX4_readNumber 31 = .ok (.aload_n 1, 1) := by decide +kernel
theorem dX4_readNumber_32 : decode cX4_readNumber 32 = .ok (.invokevirtual 85, 3) := by decide +kernel
