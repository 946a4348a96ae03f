theorem dX0_init_0 : decode cX0_init 0 = .ok (.aload_n 0, 1) := by decide +kernel
theorem dX0_init_1 : decode cX0_init 1 = .ok (.invokespecial 3, 3) := by decide +kernel
theorem dX0_init_4 : decode cX0_init 4 = .ok (.aload_n 0, 1) := by decide +kernel
theorem dX0_init_5 : decode cX0_init 5 = .ok (.bipush 8, 2) := by decide +kernel
theorem dX0_init_7 : decode cX0_init 7 = .ok (.newarray .int, 2) := by decide +kernel
theorem dX0_init_9 : decode cX0_init 9 = .ok (.putfield 11, 3) := by decide +kernel
theorem dX0_init_12 : decode cX0_init 12 = .ok (.aload_n 0, 1) := by decide +kernel
theorem dX0_init_13 : decode cX0_init 13 = .ok (.bipush 8, 2) := by decide +kernel
theorem dX0_init_15 : decode cX0_init 15 = .ok (.sipush 256, 3) := by decide +kernel
theorem dX0_init_18 : decode cX0_init 18 = .ok (.multianewarray 15 2, 4) := by decide +kernel
theorem dX0_init_22 : decode cX0_init 22 = .ok (.putfield 17, 3) := by decide +kernel
theorem dX0_init_25 : decode cX0_init 25 = .ok (.aload_n 0, 1) := by decide +kernel
theorem dX0_init_26 : decode cX0_init 26 = .ok (.bipush 8, 2) := by decide +kernel
theorem dX0_init_28 : decode cX0_init 28 = .ok (.newarray .long, 2) := by decide +kernel
theorem dX0_init_30 : decode cX0_init 30 = .ok (.putfield 20, 3) := by decide +kernel
theorem dX0_init_33 : decode cX0_init 33 = .ok (.aload_n 0, 1) := by decide +kernel
theorem dX0_init_34 : decode cX0_init 34 = .ok (.bipush 8, 2) := by decide +kernel
theorem dX0_init_36 : decode cX0_init 36 = .ok (.newarray .int, 2) := by decide +kernel
theorem dX0_init_38 : decode cX0_init 38 = .ok (.putfield 24, 3) := by decide +kernel
theorem dX0_init_41 : decode cX0_init 41 = .ok (.aload_n 0, 1) := by decide +kernel
theorem dX0_init_42 : decode cX0_init 42 = .ok (.bipush 8, 2) := by decide +kernel
theorem dX0_init_44 : decode cX0_init 44 = .ok (.newarray .int, 2) := by decide +kernel
theorem dX0_init_46 : decode cX0_init 46 = .ok (.putfield 27, 3) := by decide +kernel
theorem dX0_init_49 : decode cX0_init 49 = .ok (.return_, 1) := by decide +kernel
theorem dX0_forget_0 : decode cX0_forget 0 = .ok (.aload_n 0, 1) := by decide +kernel
theorem dX0_forget_1 : decode cX0_forget 1 = .ok (.iconst 0, 1) := by decide +kernel
theorem dX0_forget_2 : decode cX0_forget 2 = .ok (.putfield 30, 3) := by decide +kernel
theorem dX0_forget_5 : decode cX0_forget 5 = .ok (.return_, 1) := by decide +kernel
theorem dX0_keepLine_0 : decode cX0_keepLine 0 = .ok (.aload_n 1, 1) := by decide +kernel
theorem dX0_keepLine_1 : decode cX0_keepLine 1 = .ok (.getfield 34, 3) := by decide +kernel
theorem dX0_keepLine_4 : decode cX0_keepLine 4 = .ok (.iload_n 2, 1) := by decide +kernel
theorem dX0_keepLine_5 : decode cX0_keepLine 5 = .ok (.aaload, 1) := by decide +kernel
theorem dX0_keepLine_6 : decode cX0_keepLine 6 = .ok (.iconst 0, 1) := by decide +kernel
theorem dX0_keepLine_7 : decode cX0_keepLine 7 = .ok (.aload_n 0, 1) := by decide +kernel
theorem dX0_keepLine_8 : decode cX0_keepLine 8 = .ok (.getfield 17, 3) := by decide +kernel
theorem dX0_keepLine_11 : decode cX0_keepLine 11 = .ok (.aload_n 0, 1) := by decide +kernel
theorem dX0_keepLine_12 : decode cX0_keepLine 12 = .ok (.getfield 39, 3) := by decide +kernel
theorem dX0_keepLine_15 : decode cX0_keepLine 15 = .ok (.aaload, 1) := by decide +kernel
theorem dX0_keepLine_16 : decode cX0_keepLine 16 = .ok (.iconst 0, 1) := by decide +kernel
theorem dX0_keepLine_17 : decode cX0_keepLine 17 = .ok (.sipush 256, 3) := by decide +kernel
theorem dX0_keepLine_20 : decode cX0_keepLine 20 = .ok (.invokestatic 42, 3) := by decide +kernel
theorem dX0_keepLine_23 : decode cX0_keepLine 23 = .ok (.aload_n 0, 1) := by decide +kernel
theorem dX0_keepLine_24 : decode cX0_keepLine 24 = .ok (.getfield 20, 3) := by decide +kernel
theorem dX0_keepLine_27 : decode cX0_keepLine 27 = .ok (.aload_n 0, 1) := by decide +kernel
theorem dX0_keepLine_28 : decode cX0_keepLine 28 = .ok (.getfield 39, 3) := by decide +kernel
theorem dX0_keepLine_31 : decode cX0_keepLine 31 = .ok (.aload_n 1, 1) := by decide +kernel
theorem dX0_keepLine_32 : decode cX0_keepLine 32 = .ok (.getfield 48, 3) := by decide +kernel
theorem dX0_keepLine_35 : decode cX0_keepLine 35 = .ok (.lastore, 1) := by decide +kernel
theorem dX0_keepLine_36 : decode cX0_keepLine 36 = .ok (.aload_n 0, 1) := by decide +kernel
theorem dX0_keepLine_37 : decode cX0_keepLine 37 = .ok (.iload_n 2, 1) := by decide +kernel
theorem dX0_keepLine_38 : decode cX0_keepLine 38 = .ok (.invokevirtual 52, 3) := by decide +kernel
theorem dX0_keepLine_41 : decode cX0_keepLine 41 = .ok (.return_, 1) := by decide +kernel
theorem dX0_keepNames_0 : decode cX0_keepNames 0 = .ok (.aload_n 0, 1) := by decide +kernel
theorem dX0_keepNames_1 : decode cX0_keepNames 1 = .ok (.getfield 24, 3) := by decide +kernel
theorem dX0_keepNames_4 : decode cX0_keepNames 4 = .ok (.aload_n 0, 1) := by decide +kernel
theorem dX0_keepNames_5 : decode cX0_keepNames 5 = .ok (.getfield 39, 3) := by decide +kernel
theorem dX0_keepNames_8 : decode cX0_keepNames 8 = .ok (.iload_n 1, 1) := by decide +kernel
theorem dX0_keepNames_9 : decode cX0_keepNames 9 = .ok (.iastore, 1) := by decide +kernel
theorem dX0_keepNames_10 : decode cX0_keepNames 10 = .ok (.aload_n 0, 1) := by decide +kernel
theorem dX0_keepNames_11 : decode cX0_keepNames 11 = .ok (.getfield 27, 3) := by decide +kernel
theorem dX0_keepNames_14 : decode cX0_keepNames 14 = .ok (.aload_n 0, 1) := by decide +kernel
theorem dX0_keepNames_15 : decode cX0_keepNames 15 = .ok (.getfield 39, 3) := by decide +kernel
theorem dX0_keepNames_18 : decode cX0_keepNames 18 = .ok (.iload_n 2, 1) := by decide +kernel
theorem dX0_keepNames_19 : decode cX0_keepNames 19 = .ok (.iastore, 1) := by decide +kernel
theorem dX0_keepNames_20 : decode cX0_keepNames 20 = .ok (.aload_n 0, 1) := by decide +kernel
theorem dX0_keepNames_21 : decode cX0_keepNames 21 = .ok (.iconst 5, 1) := by decide +kernel
theorem dX0_keepNames_22 : decode cX0_keepNames 22 = .ok (.invokevirtual 52, 3) := by decide +kernel
theorem dX0_keepNames_25 : decode cX0_keepNames 25 = .ok (.return_, 1) := by decide +kernel
theorem dX0_goOn_0 : decode cX0_goOn 0 = .ok (.aload_n 0, 1) := by decide +kernel
theorem dX0_goOn_1 : decode cX0_goOn 1 = .ok (.getfield 11, 3) := by decide +kernel
theorem dX0_goOn_4 : decode cX0_goOn 4 = .ok (.aload_n 0, 1) := by decide +kernel
theorem dX0_goOn_5 : decode cX0_goOn 5 = .ok (.getfield 39, 3) := by decide +kernel
theorem dX0_goOn_8 : decode cX0_goOn 8 = .ok (.iload_n 1, 1) := by decide +kernel
theorem dX0_goOn_9 : decode cX0_goOn 9 = .ok (.iastore, 1) := by decide +kernel
theorem dX0_goOn_10 : decode cX0_goOn 10 = .ok (.aload_n 0, 1) := by decide +kernel
theorem dX0_goOn_11 : decode cX0_goOn 11 = .ok (.aload_n 0, 1) := by decide +kernel
theorem dX0_goOn_12 : decode cX0_goOn 12 = .ok (.getfield 39, 3) := by decide +kernel
theorem dX0_goOn_15 : decode cX0_goOn 15 = .ok (.iconst 1, 1) := by decide +kernel
theorem dX0_goOn_16 : decode cX0_goOn 16 = .ok (.iadd, 1) := by decide +kernel
theorem dX0_goOn_17 : decode cX0_goOn 17 = .ok (.bipush 8, 2) := by decide +kernel
theorem dX0_goOn_19 : decode cX0_goOn 19 = .ok (.irem, 1) := by decide +kernel
theorem dX0_goOn_20 : decode cX0_goOn 20 = .ok (.putfield 39, 3) := by decide +kernel
theorem dX0_goOn_23 : decode cX0_goOn 23 = .ok (.aload_n 0, 1) := by decide +kernel
theorem dX0_goOn_24 : decode cX0_goOn 24 = .ok (.aload_n 0, 1) := by decide +kernel
theorem dX0_goOn_25 : decode cX0_goOn 25 = .ok (.getfield 30, 3) := by decide +kernel
theorem dX0_goOn_28 : decode cX0_goOn 28 = .ok (.iconst 1, 1) := by decide +kernel
theorem dX0_goOn_29 : decode cX0_goOn 29 = .ok (.iadd, 1) := by decide +kernel
theorem dX0_goOn_30 : decode cX0_goOn 30 = .ok (.bipush 8, 2) := by decide +kernel
theorem dX0_goOn_32 : decode cX0_goOn 32 = .ok (.invokestatic 56, 3) := by decide +kernel
theorem dX0_goOn_35 : decode cX0_goOn 35 = .ok (.putfield 30, 3) := by decide +kernel
theorem dX0_goOn_38 : decode cX0_goOn 38 = .ok (.return_, 1) := by decide +kernel
theorem dX0_takeBack_0 : decode cX0_takeBack 0 = .ok (.aload_n 0, 1) := by decide +kernel
theorem dX0_takeBack_1 : decode cX0_takeBack 1 = .ok (.dup, 1) := by decide +kernel
theorem dX0_takeBack_2 : decode cX0_takeBack 2 = .ok (.getfield 30, 3) := by decide +kernel
theorem dX0_takeBack_5 : decode cX0_takeBack 5 = .ok (.iconst 1, 1) := by decide +kernel
theorem dX0_takeBack_6 : decode cX0_takeBack 6 = .ok (.isub, 1) := by decide +kernel
theorem dX0_takeBack_7 : decode cX0_takeBack 7 = .ok (.putfield 30, 3) := by decide +kernel
theorem dX0_takeBack_10 : decode cX0_takeBack 10 = .ok (.aload_n 0, 1) := by decide +kernel
theorem dX0_takeBack_11 : decode cX0_takeBack 11 = .ok (.aload_n 0, 1) := by decide +kernel
theorem dX0_takeBack_12 : decode cX0_takeBack 12 = .ok (.getfield 39, 3) := by decide +kernel
theorem dX0_takeBack_15 : decode cX0_takeBack 15 = .ok (.bipush 8, 2) := by decide +kernel
theorem dX0_takeBack_17 : decode cX0_takeBack 17 = .ok (.iadd, 1) := by decide +kernel
theorem dX0_takeBack_18 : decode cX0_takeBack 18 = .ok (.iconst 1, 1) := by decide +kernel
theorem dX0_takeBack_19 : decode cX0_takeBack 19 = .ok (.isub, 1) := by decide +kernel
theorem dX0_takeBack_20 : decode cX0_takeBack 20 = .ok (.bipush 8, 2) := by decide +kernel
theorem dX0_takeBack_22 : decode cX0_takeBack 22 = .ok (.irem, 1) := by decide +kernel
theorem dX0_takeBack_23 : decode cX0_takeBack 23 = .ok (.putfield 39, 3) := by decide +kernel
theorem dX0_takeBack_26 : decode cX0_takeBack 26 = .ok (.aload_n 0, 1) := by decide +kernel
theorem dX0_takeBack_27 : decode cX0_takeBack 27 = .ok (.getfield 11, 3) := by decide +kernel
theorem dX0_takeBack_30 : decode cX0_takeBack 30 = .ok (.aload_n 0, 1) := by decide +kernel
theorem dX0_takeBack_31 : decode cX0_takeBack 31 = .ok (.getfield 39, 3) := by decide +kernel
theorem dX0_takeBack_34 : decode cX0_takeBack 34 = .ok (.iaload, 1) := by decide +kernel
theorem dX0_takeBack_35 : decode cX0_takeBack 35 = .ok (.iconst 5, 1) := by decide +kernel
theorem dX0_takeBack_36 : decode cX0_takeBack 36 = .ok (.if_icmp .ne 26, 3) := by decide +kernel
theorem dX0_takeBack_39 : decode cX0_takeBack 39 = .ok (.aload_n 1, 1) := by decide +kernel
theorem dX0_takeBack_40 : decode cX0_takeBack 40 = .ok (.aload_n 0, 1) := by decide +kernel
theorem dX0_takeBack_41 : decode cX0_takeBack 41 = .ok (.getfield 24, 3) := by decide +kernel
theorem dX0_takeBack_44 : decode cX0_takeBack 44 = .ok (.aload_n 0, 1) := by decide +kernel
theorem dX0_takeBack_45 : decode cX0_takeBack 45 = .ok (.getfield 39, 3) := by decide +kernel
theorem dX0_takeBack_48 : decode cX0_takeBack 48 = .ok (.iaload, 1) := by decide +kernel
theorem dX0_takeBack_49 : decode cX0_takeBack 49 = .ok (.aload_n 0, 1) := by decide +kernel
theorem dX0_takeBack_50 : decode cX0_takeBack 50 = .ok (.getfield 27, 3) := by decide +kernel
theorem dX0_takeBack_53 : decode cX0_takeBack 53 = .ok (.aload_n 0, 1) := by decide +kernel
theorem dX0_takeBack_54 : decode cX0_takeBack 54 = .ok (.getfield 39, 3) := by decide +kernel
theorem dX0_takeBack_57 : decode cX0_takeBack 57 = .ok (.iaload, 1) := by decide +kernel
theorem dX0_takeBack_58 : decode cX0_takeBack 58 = .ok (.invokevirtual 62, 3) := by decide +kernel
theorem dX0_takeBack_61 : decode cX0_takeBack 61 = .ok (.return_, 1) := by decide +kernel
theorem dX0_takeBack_62 : decode cX0_takeBack 62 = .ok (.aload_n 0, 1) := by decide +kernel
theorem dX0_takeBack_63 : decode cX0_takeBack 63 = .ok (.getfield 17, 3) := by decide +kernel
theorem dX0_takeBack_66 : decode cX0_takeBack 66 = .ok (.aload_n 0, 1) := by decide +kernel
theorem dX0_takeBack_67 : decode cX0_takeBack 67 = .ok (.getfield 39, 3) := by decide +kernel
theorem dX0_takeBack_70 : decode cX0_takeBack 70 = .ok (.aaload, 1) := by decide +kernel
theorem dX0_takeBack_71 : decode cX0_takeBack 71 = .ok (.iconst 0, 1) := by decide +kernel
theorem dX0_takeBack_72 : decode cX0_takeBack 72 = .ok (.aload_n 1, 1) := by decide +kernel
theorem dX0_takeBack_73 : decode cX0_takeBack 73 = .ok (.getfield 34, 3) := by decide +kernel
theorem dX0_takeBack_76 : decode cX0_takeBack 76 = .ok (.aload_n 0, 1) := by decide +kernel
theorem dX0_takeBack_77 : decode cX0_takeBack 77 = .ok (.getfield 11, 3) := by decide +kernel
theorem dX0_takeBack_80 : decode cX0_takeBack 80 = .ok (.aload_n 0, 1) := by decide +kernel
theorem dX0_takeBack_81 : decode cX0_takeBack 81 = .ok (.getfield 39, 3) := by decide +kernel
theorem dX0_takeBack_84 : decode cX0_takeBack 84 = .ok (.iaload, 1) := by decide +kernel
theorem dX0_takeBack_85 : decode cX0_takeBack 85 = .ok (.aaload, 1) := by decide +kernel
theorem dX0_takeBack_86 : decode cX0_takeBack 86 = .ok (.iconst 0, 1) := by decide +kernel
theorem dX0_takeBack_87 : decode cX0_takeBack 87 = .ok (.sipush 256, 3) := by decide +kernel
theorem dX0_takeBack_90 : decode cX0_takeBack 90 = .ok (.invokestatic 42, 3) := by decide +kernel
theorem dX0_takeBack_93 : decode cX0_takeBack 93 = .ok (.aload_n 1, 1) := by decide +kernel
theorem dX0_takeBack_94 : decode cX0_takeBack 94 = .ok (.aload_n 0, 1) := by decide +kernel
theorem dX0_takeBack_95 : decode cX0_takeBack 95 = .ok (.getfield 20, 3) := by decide +kernel
theorem dX0_takeBack_98 : decode cX0_takeBack 98 = .ok (.aload_n 0, 1) := by decide +kernel
theorem dX0_takeBack_99 : decode cX0_takeBack 99 = .ok (.getfield 39, 3) := by decide +kernel
theorem dX0_takeBack_102 : decode cX0_takeBack 102 = .ok (.laload, 1) := by decide +kernel
theorem dX0_takeBack_103 : decode cX0_takeBack 103 = .ok (.putfield 48, 3) := by decide +kernel
theorem dX0_takeBack_106 : decode cX0_takeBack 106 = .ok (.return_, 1) := by decide +kernel
theorem dX1_init_0 : decode cX1_init 0 = .ok (.aload_n 0, 1) := by decide +kernel
theorem dX1_init_1 : decode cX1_init 1 = .ok (.invokespecial 3, 3) := by decide +kernel
theorem dX1_init_4 : decode cX1_init 4 = .ok (.aload_n 0, 1) := by decide +kernel
theorem dX1_init_5 : decode cX1_init 5 = .ok (.iconst 5, 1) := by decide +kernel
theorem dX1_init_6 : decode cX1_init 6 = .ok (.sipush 256, 3) := by decide +kernel
theorem dX1_init_9 : decode cX1_init 9 = .ok (.multianewarray 9 2, 4) := by decide +kernel
theorem dX1_init_13 : decode cX1_init 13 = .ok (.putfield 11, 3) := by decide +kernel
theorem dX1_init_16 : decode cX1_init 16 = .ok (.return_, 1) := by decide +kernel
theorem dX1_begin_0 : decode cX1_begin 0 = .ok (.aload_n 0, 1) := by decide +kernel
theorem dX1_begin_1 : decode cX1_begin 1 = .ok (.iload_n 1, 1) := by decide +kernel
theorem dX1_begin_2 : decode cX1_begin 2 = .ok (.putfield 16, 3) := by decide +kernel
theorem dX1_begin_5 : decode cX1_begin 5 = .ok (.aload_n 0, 1) := by decide +kernel
theorem dX1_begin_6 : decode cX1_begin 6 = .ok (.lload_n 2, 1) := by decide +kernel
theorem dX1_begin_7 : decode cX1_begin 7 = .ok (.putfield 20, 3) := by decide +kernel
theorem dX1_begin_10 : decode cX1_begin 10 = .ok (.iconst 0, 1) := by decide +kernel
theorem dX1_begin_11 : decode cX1_begin 11 = .ok (.istore 5, 2) := by decide +kernel
theorem dX1_begin_13 : decode cX1_begin 13 = .ok (.iload 5, 2) := by decide +kernel
theorem dX1_begin_15 : decode cX1_begin 15 = .ok (.iconst 4, 1) := by decide +kernel
theorem dX1_begin_16 : decode cX1_begin 16 = .ok (.if_icmp .ge 37, 3) := by decide +kernel
theorem dX1_begin_19 : decode cX1_begin 19 = .ok (.iconst 0, 1) := by decide +kernel
theorem dX1_begin_20 : decode cX1_begin 20 = .ok (.istore 6, 2) := by decide +kernel
theorem dX1_begin_22 : decode cX1_begin 22 = .ok (.iload 6, 2) := by decide +kernel
theorem dX1_begin_24 : decode cX1_begin 24 = .ok (.sipush 256, 3) := by decide +kernel
theorem dX1_begin_27 : decode cX1_begin 27 = .ok (.if_icmp .ge 20, 3) := by decide +kernel
theorem dX1_begin_30 : decode cX1_begin 30 = .ok (.aload_n 0, 1) := by decide +kernel
theorem dX1_begin_31 : decode cX1_begin 31 = .ok (.getfield 11, 3) := by decide +kernel
theorem dX1_begin_34 : decode cX1_begin 34 = .ok (.iload 5, 2) := by decide +kernel
theorem dX1_begin_36 : decode cX1_begin 36 = .ok (.aaload, 1) := by decide +kernel
theorem dX1_begin_37 : decode cX1_begin 37 = .ok (.iload 6, 2) := by decide +kernel
theorem dX1_begin_39 : decode cX1_begin 39 = .ok (.iconst 0, 1) := by decide +kernel
theorem dX1_begin_40 : decode cX1_begin 40 = .ok (.iastore, 1) := by decide +kernel
theorem dX1_begin_41 : decode cX1_begin 41 = .ok (.iinc 6 1, 3) := by decide +kernel
theorem dX1_begin_44 : decode cX1_begin 44 = .ok (.goto (-22), 3) := by decide +kernel
theorem dX1_begin_47 : decode cX1_begin 47 = .ok (.iinc 5 1, 3) := by decide +kernel
theorem dX1_begin_50 : decode cX1_begin 50 = .ok (.goto (-37), 3) := by decide +kernel
theorem dX1_begin_53 : decode cX1_begin 53 = .ok (.aload 4, 2) := by decide +kernel
theorem dX1_begin_55 : decode cX1_begin 55 = .ok (.iconst 0, 1) := by decide +kernel
theorem dX1_begin_56 : decode cX1_begin 56 = .ok (.aload_n 0, 1) := by decide +kernel
theorem dX1_begin_57 : decode cX1_begin 57 = .ok (.getfield 11, 3) := by decide +kernel
theorem dX1_begin_60 : decode cX1_begin 60 = .ok (.iconst 4, 1) := by decide +kernel
theorem dX1_begin_61 : decode cX1_begin 61 = .ok (.aaload, 1) := by decide +kernel
theorem dX1_begin_62 : decode cX1_begin 62 = .ok (.iconst 0, 1) := by decide +kernel
theorem dX1_begin_63 : decode cX1_begin 63 = .ok (.sipush 256, 3) := by decide +kernel
theorem dX1_begin_66 : decode cX1_begin 66 = .ok (.invokestatic 24, 3) := by decide +kernel
theorem dX1_begin_69 : decode cX1_begin 69 = .ok (.return_, 1) := by decide +kernel
theorem dX1_copyFrom_0 : decode cX1_copyFrom 0 = .ok (.aload_n 0, 1) := by decide +kernel
theorem dX1_copyFrom_1 : decode cX1_copyFrom 1 = .ok (.aload_n 1, 1) := by decide +kernel
theorem dX1_copyFrom_2 : decode cX1_copyFrom 2 = .ok (.getfield 16, 3) := by decide +kernel
theorem dX1_copyFrom_5 : decode cX1_copyFrom 5 = .ok (.putfield 16, 3) := by decide +kernel
theorem dX1_copyFrom_8 : decode cX1_copyFrom 8 = .ok (.aload_n 0, 1) := by decide +kernel
theorem dX1_copyFrom_9 : decode cX1_copyFrom 9 = .ok (.aload_n 1, 1) := by decide +kernel
theorem dX1_copyFrom_10 : decode cX1_copyFrom 10 = .ok (.getfield 20, 3) := by decide +kernel
theorem dX1_copyFrom_13 : decode cX1_copyFrom 13 = .ok (.putfield 20, 3) := by decide +kernel
theorem dX1_copyFrom_16 : decode cX1_copyFrom 16 = .ok (.iconst 0, 1) := by decide +kernel
theorem dX1_copyFrom_17 : decode cX1_copyFrom 17 = .ok (.istore_n 2, 1) := by decide +kernel
theorem dX1_copyFrom_18 : decode cX1_copyFrom 18 = .ok (.iload_n 2, 1) := by decide +kernel
theorem dX1_copyFrom_19 : decode cX1_copyFrom 19 = .ok (.iconst 5, 1) := by decide +kernel
theorem dX1_copyFrom_20 : decode cX1_copyFrom 20 = .ok (.if_icmp .ge 29, 3) := by decide +kernel
theorem dX1_copyFrom_23 : decode cX1_copyFrom 23 = .ok (.aload_n 1, 1) := by decide +kernel
theorem dX1_copyFrom_24 : decode cX1_copyFrom 24 = .ok (.getfield 11, 3) := by decide +kernel
theorem dX1_copyFrom_27 : decode cX1_copyFrom 27 = .ok (.iload_n 2, 1) := by decide +kernel
theorem dX1_copyFrom_28 : decode cX1_copyFrom 28 = .ok (.aaload, 1) := by decide +kernel
theorem dX1_copyFrom_29 : decode cX1_copyFrom 29 = .ok (.iconst 0, 1) := by decide +kernel
theorem dX1_copyFrom_30 : decode cX1_copyFrom 30 = .ok (.aload_n 0, 1) := by decide +kernel
theorem dX1_copyFrom_31 : decode cX1_copyFrom 31 = .ok (.getfield 11, 3) := by decide +kernel
theorem dX1_copyFrom_34 : decode cX1_copyFrom 34 = .ok (.iload_n 2, 1) := by decide +kernel
theorem dX1_copyFrom_35 : decode cX1_copyFrom 35 = .ok (.aaload, 1) := by decide +kernel
theorem dX1_copyFrom_36 : decode cX1_copyFrom 36 = .ok (.iconst 0, 1) := by decide +kernel
theorem dX1_copyFrom_37 : decode cX1_copyFrom 37 = .ok (.sipush 256, 3) := by decide +kernel
theorem dX1_copyFrom_40 : decode cX1_copyFrom 40 = .ok (.invokestatic 24, 3) := by decide +kernel
theorem dX1_copyFrom_43 : decode cX1_copyFrom 43 = .ok (.iinc 2 1, 3) := by decide +kernel
theorem dX1_copyFrom_46 : decode cX1_copyFrom 46 = .ok (.goto (-28), 3) := by decide +kernel
theorem dX1_copyFrom_49 : decode cX1_copyFrom 49 = .ok (.return_, 1) := by decide +kernel
theorem dX1_countSets_0 : decode cX1_countSets 0 = .ok (.aload_n 0, 1) := by decide +kernel
theorem dX1_countSets_1 : decode cX1_countSets 1 = .ok (.getfield 16, 3) := by decide +kernel
theorem dX1_countSets_4 : decode cX1_countSets 4 = .ok (.ifCond .ne 7, 3) := by decide +kernel
theorem dX1_countSets_7 : decode cX1_countSets 7 = .ok (.iconst 0, 1) := by decide +kernel
theorem dX1_countSets_8 : decode cX1_countSets 8 = .ok (.goto 9, 3) := by decide +kernel
theorem dX1_countSets_11 : decode cX1_countSets 11 = .ok (.iconst 1, 1) := by decide +kernel
theorem dX1_countSets_12 : decode cX1_countSets 12 = .ok (.aload_n 0, 1) := by decide +kernel
theorem dX1_countSets_13 : decode cX1_countSets 13 = .ok (.getfield 16, 3) := by decide +kernel
theorem dX1_countSets_16 : decode cX1_countSets 16 = .ok (.ishl, 1) := by decide +kernel
theorem dX1_countSets_17 : decode cX1_countSets 17 = .ok (.ireturn, 1) := by decide +kernel
theorem dX1_allThings_0 : decode cX1_allThings 0 = .ok (.iconst 1, 1) := by decide +kernel
theorem dX1_allThings_1 : decode cX1_allThings 1 = .ok (.aload_n 0, 1) := by decide +kernel
theorem dX1_allThings_2 : decode cX1_allThings 2 = .ok (.getfield 16, 3) := by decide +kernel
theorem dX1_allThings_5 : decode cX1_allThings 5 = .ok (.ishl, 1) := by decide +kernel
theorem dX1_allThings_6 : decode cX1_allThings 6 = .ok (.iconst 1, 1) := by decide +kernel
theorem dX1_allThings_7 : decode cX1_allThings 7 = .ok (.isub, 1) := by decide +kernel
theorem dX1_allThings_8 : decode cX1_allThings 8 = .ok (.ireturn, 1) := by decide +kernel
theorem dX1_hasThing_0 : decode cX1_hasThing 0 = .ok (.iload_n 1, 1) := by decide +kernel
theorem dX1_hasThing_1 : decode cX1_hasThing 1 = .ok (.ifCond .lt 15, 3) := by decide +kernel
theorem dX1_hasThing_4 : decode cX1_hasThing 4 = .ok (.iload_n 1, 1) := by decide +kernel
theorem dX1_hasThing_5 : decode cX1_hasThing 5 = .ok (.aload_n 0, 1) := by decide +kernel
theorem dX1_hasThing_6 : decode cX1_hasThing 6 = .ok (.getfield 16, 3) := by decide +kernel
theorem dX1_hasThing_9 : decode cX1_hasThing 9 = .ok (.if_icmp .ge 7, 3) := by decide +kernel
theorem dX1_hasThing_12 : decode cX1_hasThing 12 = .ok (.iconst 1, 1) := by decide +kernel
theorem dX1_hasThing_13 : decode cX1_hasThing 13 = .ok (.goto 4, 3) := by decide +kernel
theorem dX1_hasThing_16 : decode cX1_hasThing 16 = .ok (.iconst 0, 1) := by decide +kernel
theorem dX1_hasThing_17 : decode cX1_hasThing 17 = .ok (.ireturn, 1) := by decide +kernel
theorem dX1_hasSet_0 : decode cX1_hasSet 0 = .ok (.iload_n 1, 1) := by decide +kernel
theorem dX1_hasSet_1 : decode cX1_hasSet 1 = .ok (.ifCond .lt 15, 3) := by decide +kernel
theorem dX1_hasSet_4 : decode cX1_hasSet 4 = .ok (.iload_n 1, 1) := by decide +kernel
theorem dX1_hasSet_5 : decode cX1_hasSet 5 = .ok (.aload_n 0, 1) := by decide +kernel
theorem dX1_hasSet_6 : decode cX1_hasSet 6 = .ok (.invokevirtual 30, 3) := by decide +kernel
theorem dX1_hasSet_9 : decode cX1_hasSet 9 = .ok (.if_icmp .ge 7, 3) := by decide +kernel
theorem dX1_hasSet_12 : decode cX1_hasSet 12 = .ok (.iconst 1, 1) := by decide +kernel
theorem dX1_hasSet_13 : decode cX1_hasSet 13 = .ok (.goto 4, 3) := by decide +kernel
theorem dX1_hasSet_16 : decode cX1_hasSet 16 = .ok (.iconst 0, 1) := by decide +kernel
theorem dX1_hasSet_17 : decode cX1_hasSet 17 = .ok (.ireturn, 1) := by decide +kernel
theorem dX1_hasRow_0 : decode cX1_hasRow 0 = .ok (.iload_n 1, 1) := by decide +kernel
theorem dX1_hasRow_1 : decode cX1_hasRow 1 = .ok (.ifCond .lt 19, 3) := by decide +kernel
theorem dX1_hasRow_4 : decode cX1_hasRow 4 = .ok (.iload_n 1, 1) := by decide +kernel
theorem dX1_hasRow_5 : decode cX1_hasRow 5 = .ok (.iconst 4, 1) := by decide +kernel
theorem dX1_hasRow_6 : decode cX1_hasRow 6 = .ok (.if_icmp .ge 14, 3) := by decide +kernel
theorem dX1_hasRow_9 : decode cX1_hasRow 9 = .ok (.aload_n 0, 1) := by decide +kernel
theorem dX1_hasRow_10 : decode cX1_hasRow 10 = .ok (.getfield 16, 3) := by decide +kernel
theorem dX1_hasRow_13 : decode cX1_hasRow 13 = .ok (.ifCond .le 7, 3) := by decide +kernel
theorem dX1_hasRow_16 : decode cX1_hasRow 16 = .ok (.iconst 1, 1) := by decide +kernel
theorem dX1_hasRow_17 : decode cX1_hasRow 17 = .ok (.goto 4, 3) := by decide +kernel
theorem dX1_hasRow_20 : decode cX1_hasRow 20 = .ok (.iconst 0, 1) := by decide +kernel
theorem dX1_hasRow_21 : decode cX1_hasRow 21 = .ok (.ireturn, 1) := by decide +kernel
theorem dX1_mates_0 : decode cX1_mates 0 = .ok (.aload_n 0, 1) := by decide +kernel
theorem dX1_mates_1 : decode cX1_mates 1 = .ok (.getfield 20, 3) := by decide +kernel
theorem dX1_mates_4 : decode cX1_mates 4 = .ok (.iload_n 1, 1) := by decide +kernel
theorem dX1_mates_5 : decode cX1_mates 5 = .ok (.bipush 8, 2) := by decide +kernel
theorem dX1_mates_7 : decode cX1_mates 7 = .ok (.imul, 1) := by decide +kernel
theorem dX1_mates_8 : decode cX1_mates 8 = .ok (.lushr, 1) := by decide +kernel
theorem dX1_mates_9 : decode cX1_mates 9 = .ok (.l2i, 1) := by decide +kernel
theorem dX1_mates_10 : decode cX1_mates 10 = .ok (.sipush 255, 3) := by decide +kernel
theorem dX1_mates_13 : decode cX1_mates 13 = .ok (.iand, 1) := by decide +kernel
theorem dX1_mates_14 : decode cX1_mates 14 = .ok (.ireturn, 1) := by decide +kernel
theorem dX1_areMates_0 : decode cX1_areMates 0 = .ok (.aload_n 0, 1) := by decide +kernel
theorem dX1_areMates_1 : decode cX1_areMates 1 = .ok (.iload_n 1, 1) := by decide +kernel
theorem dX1_areMates_2 : decode cX1_areMates 2 = .ok (.invokevirtual 34, 3) := by decide +kernel
theorem dX1_areMates_5 : decode cX1_areMates 5 = .ok (.iload_n 2, 1) := by decide +kernel
theorem dX1_areMates_6 : decode cX1_areMates 6 = .ok (.ishr, 1) := by decide +kernel
theorem dX1_areMates_7 : decode cX1_areMates 7 = .ok (.iconst 1, 1) := by decide +kernel
theorem dX1_areMates_8 : decode cX1_areMates 8 = .ok (.iand, 1) := by decide +kernel
theorem dX1_areMates_9 : decode cX1_areMates 9 = .ok (.iconst 1, 1) := by decide +kernel
theorem dX1_areMates_10 : decode cX1_areMates 10 = .ok (.if_icmp .ne 7, 3) := by decide +kernel
theorem dX1_areMates_13 : decode cX1_areMates 13 = .ok (.iconst 1, 1) := by decide +kernel
theorem dX1_areMates_14 : decode cX1_areMates 14 = .ok (.goto 4, 3) := by decide +kernel
theorem dX1_areMates_17 : decode cX1_areMates 17 = .ok (.iconst 0, 1) := by decide +kernel
theorem dX1_areMates_18 : decode cX1_areMates 18 = .ok (.ireturn, 1) := by decide +kernel
theorem dX1_turnPair_0 : decode cX1_turnPair 0 = .ok (.aload_n 0, 1) := by decide +kernel
theorem dX1_turnPair_1 : decode cX1_turnPair 1 = .ok (.dup, 1) := by decide +kernel
theorem dX1_turnPair_2 : decode cX1_turnPair 2 = .ok (.getfield 20, 3) := by decide +kernel
theorem dX1_turnPair_5 : decode cX1_turnPair 5 = .ok (.lconst 1, 1) := by decide +kernel
theorem dX1_turnPair_6 : decode cX1_turnPair 6 = .ok (.iload_n 1, 1) := by decide +kernel
theorem dX1_turnPair_7 : decode cX1_turnPair 7 = .ok (.bipush 8, 2) := by decide +kernel
theorem dX1_turnPair_9 : decode cX1_turnPair 9 = .ok (.imul, 1) := by decide +kernel
theorem dX1_turnPair_10 : decode cX1_turnPair 10 = .ok (.iload_n 2, 1) := by decide +kernel
theorem dX1_turnPair_11 : decode cX1_turnPair 11 = .ok (.iadd, 1) := by decide +kernel
theorem dX1_turnPair_12 : decode cX1_turnPair 12 = .ok (.lshl, 1) := by decide +kernel
theorem dX1_turnPair_13 : decode cX1_turnPair 13 = .ok (.lconst 1, 1) := by decide +kernel
theorem dX1_turnPair_14 : decode cX1_turnPair 14 = .ok (.iload_n 2, 1) := by decide +kernel
theorem dX1_turnPair_15 : decode cX1_turnPair 15 = .ok (.bipush 8, 2) := by decide +kernel
theorem dX1_turnPair_17 : decode cX1_turnPair 17 = .ok (.imul, 1) := by decide +kernel
theorem dX1_turnPair_18 : decode cX1_turnPair 18 = .ok (.iload_n 1, 1) := by decide +kernel
theorem dX1_turnPair_19 : decode cX1_turnPair 19 = .ok (.iadd, 1) := by decide +kernel
theorem dX1_turnPair_20 : decode cX1_turnPair 20 = .ok (.lshl, 1) := by decide +kernel
theorem dX1_turnPair_21 : decode cX1_turnPair 21 = .ok (.lor, 1) := by decide +kernel
theorem dX1_turnPair_22 : decode cX1_turnPair 22 = .ok (.lxor, 1) := by decide +kernel
theorem dX1_turnPair_23 : decode cX1_turnPair 23 = .ok (.putfield 20, 3) := by decide +kernel
theorem dX1_turnPair_26 : decode cX1_turnPair 26 = .ok (.return_, 1) := by decide +kernel
theorem dX1_countPairs_0 : decode cX1_countPairs 0 = .ok (.aload_n 0, 1) := by decide +kernel
theorem dX1_countPairs_1 : decode cX1_countPairs 1 = .ok (.getfield 20, 3) := by decide +kernel
theorem dX1_countPairs_4 : decode cX1_countPairs 4 = .ok (.invokestatic 38, 3) := by decide +kernel
theorem dX1_countPairs_7 : decode cX1_countPairs 7 = .ok (.iconst 1, 1) := by decide +kernel
theorem dX1_countPairs_8 : decode cX1_countPairs 8 = .ok (.ishr, 1) := by decide +kernel
theorem dX1_countPairs_9 : decode cX1_countPairs 9 = .ok (.ireturn, 1) := by decide +kernel
theorem dX1_countTold_0 : decode cX1_countTold 0 = .ok (.iconst 0, 1) := by decide +kernel
theorem dX1_countTold_1 : decode cX1_countTold 1 = .ok (.istore_n 1, 1) := by decide +kernel
theorem dX1_countTold_2 : decode cX1_countTold 2 = .ok (.iconst 0, 1) := by decide +kernel
theorem dX1_countTold_3 : decode cX1_countTold 3 = .ok (.istore_n 2, 1) := by decide +kernel
theorem dX1_countTold_4 : decode cX1_countTold 4 = .ok (.iload_n 2, 1) := by decide +kernel
theorem dX1_countTold_5 : decode cX1_countTold 5 = .ok (.sipush 256, 3) := by decide +kernel
theorem dX1_countTold_8 : decode cX1_countTold 8 = .ok (.if_icmp .ge 28, 3) := by decide +kernel
theorem dX1_countTold_11 : decode cX1_countTold 11 = .ok (.iload_n 1, 1) := by decide +kernel
theorem dX1_countTold_12 : decode cX1_countTold 12 = .ok (.aload_n 0, 1) := by decide +kernel
theorem dX1_countTold_13 : decode cX1_countTold 13 = .ok (.getfield 11, 3) := by decide +kernel
theorem dX1_countTold_16 : decode cX1_countTold 16 = .ok (.iconst 4, 1) := by decide +kernel
theorem dX1_countTold_17 : decode cX1_countTold 17 = .ok (.aaload, 1) := by decide +kernel
theorem dX1_countTold_18 : decode cX1_countTold 18 = .ok (.iload_n 2, 1) := by decide +kernel
theorem dX1_countTold_19 : decode cX1_countTold 19 = .ok (.iaload, 1) := by decide +kernel
theorem dX1_countTold_20 : decode cX1_countTold 20 = .ok (.ifCond .le 7, 3) := by decide +kernel
theorem dX1_countTold_23 : decode cX1_countTold 23 = .ok (.iconst 1, 1) := by decide +kernel
theorem dX1_countTold_24 : decode cX1_countTold 24 = .ok (.goto 4, 3) := by decide +kernel
theorem dX1_countTold_27 : decode cX1_countTold 27 = .ok (.iconst 0, 1) := by decide +kernel
theorem dX1_countTold_28 : decode cX1_countTold 28 = .ok (.iadd, 1) := by decide +kernel
theorem dX1_countTold_29 : decode cX1_countTold 29 = .ok (.istore_n 1, 1) := by decide +kernel
theorem dX1_countTold_30 : decode cX1_countTold 30 = .ok (.iinc 2 1, 3) := by decide +kernel
theorem dX1_countTold_33 : decode cX1_countTold 33 = .ok (.goto (-29), 3) := by decide +kernel
theorem dX1_countTold_36 : decode cX1_countTold 36 = .ok (.iload_n 1, 1) := by decide +kernel
theorem dX1_countTold_37 : decode cX1_countTold 37 = .ok (.ireturn, 1) := by decide +kernel
theorem dX1_countParted_0 : decode cX1_countParted 0 = .ok (.iconst 0, 1) := by decide +kernel
theorem dX1_countParted_1 : decode cX1_countParted 1 = .ok (.istore_n 3, 1) := by decide +kernel
theorem dX1_countParted_2 : decode cX1_countParted 2 = .ok (.iconst 0, 1) := by decide +kernel
theorem dX1_countParted_3 : decode cX1_countParted 3 = .ok (.istore 4, 2) := by decide +kernel
theorem dX1_countParted_5 : decode cX1_countParted 5 = .ok (.iload 4, 2) := by decide +kernel
theorem dX1_countParted_7 : decode cX1_countParted 7 = .ok (.sipush 256, 3) := by decide +kernel
theorem dX1_countParted_10 : decode cX1_countParted 10 = .ok (.if_icmp .ge 56, 3) := by decide +kernel
theorem dX1_countParted_13 : decode cX1_countParted 13 = .ok (.iload 4, 2) := by decide +kernel
theorem dX1_countParted_15 : decode cX1_countParted 15 = .ok (.iload_n 1, 1) := by decide +kernel
theorem dX1_countParted_16 : decode cX1_countParted 16 = .ok (.ishr, 1) := by decide +kernel
theorem dX1_countParted_17 : decode cX1_countParted 17 = .ok (.iconst 1, 1) := by decide +kernel
theorem dX1_countParted_18 : decode cX1_countParted 18 = .ok (.iand, 1) := by decide +kernel
theorem dX1_countParted_19 : decode cX1_countParted 19 = .ok (.iload 4, 2) := by decide +kernel
theorem dX1_countParted_21 : decode cX1_countParted 21 = .ok (.iload_n 2, 1) := by decide +kernel
theorem dX1_countParted_22 : decode cX1_countParted 22 = .ok (.ishr, 1) := by decide +kernel
theorem dX1_countParted_23 : decode cX1_countParted 23 = .ok (.iconst 1, 1) := by decide +kernel
theorem dX1_countParted_24 : decode cX1_countParted 24 = .ok (.iand, 1) := by decide +kernel
theorem dX1_countParted_25 : decode cX1_countParted 25 = .ok (.if_icmp .eq 7, 3) := by decide +kernel
theorem dX1_countParted_28 : decode cX1_countParted 28 = .ok (.iconst 1, 1) := by decide +kernel
theorem dX1_countParted_29 : decode cX1_countParted 29 = .ok (.goto 4, 3) := by decide +kernel
theorem dX1_countParted_32 : decode cX1_countParted 32 = .ok (.iconst 0, 1) := by decide +kernel
theorem dX1_countParted_33 : decode cX1_countParted 33 = .ok (.istore 5, 2) := by decide +kernel
theorem dX1_countParted_35 : decode cX1_countParted 35 = .ok (.iload_n 3, 1) := by decide +kernel
theorem dX1_countParted_36 : decode cX1_countParted 36 = .ok (.iload 5, 2) := by decide +kernel
theorem dX1_countParted_38 : decode cX1_countParted 38 = .ok (.ifCond .eq 19, 3) := by decide +kernel
theorem dX1_countParted_41 : decode cX1_countParted 41 = .ok (.aload_n 0, 1) := by decide +kernel
theorem dX1_countParted_42 : decode cX1_countParted 42 = .ok (.getfield 11, 3) := by decide +kernel
theorem dX1_countParted_45 : decode cX1_countParted 45 = .ok (.iconst 4, 1) := by decide +kernel
theorem dX1_countParted_46 : decode cX1_countParted 46 = .ok (.aaload, 1) := by decide +kernel
theorem dX1_countParted_47 : decode cX1_countParted 47 = .ok (.iload 4, 2) := by decide +kernel
theorem dX1_countParted_49 : decode cX1_countParted 49 = .ok (.iaload, 1) := by decide +kernel
theorem dX1_countParted_50 : decode cX1_countParted 50 = .ok (.ifCond .le 7, 3) := by decide +kernel
theorem dX1_countParted_53 : decode cX1_countParted 53 = .ok (.iconst 1, 1) := by decide +kernel
theorem dX1_countParted_54 : decode cX1_countParted 54 = .ok (.goto 4, 3) := by decide +kernel
theorem dX1_countParted_57 : decode cX1_countParted 57 = .ok (.iconst 0, 1) := by decide +kernel
theorem dX1_countParted_58 : decode cX1_countParted 58 = .ok (.iadd, 1) := by decide +kernel
theorem dX1_countParted_59 : decode cX1_countParted 59 = .ok (.istore_n 3, 1) := by decide +kernel
theorem dX1_countParted_60 : decode cX1_countParted 60 = .ok (.iinc 4 1, 3) := by decide +kernel
theorem dX1_countParted_63 : decode cX1_countParted 63 = .ok (.goto (-58), 3) := by decide +kernel
theorem dX1_countParted_66 : decode cX1_countParted 66 = .ok (.iload_n 3, 1) := by decide +kernel
theorem dX1_countParted_67 : decode cX1_countParted 67 = .ok (.ireturn, 1) := by decide +kernel
theorem dX1_swapNames_0 : decode cX1_swapNames 0 = .ok (.iconst 1, 1) := by decide +kernel
theorem dX1_swapNames_1 : decode cX1_swapNames 1 = .ok (.iload_n 1, 1) := by decide +kernel
theorem dX1_swapNames_2 : decode cX1_swapNames 2 = .ok (.ishl, 1) := by decide +kernel
theorem dX1_swapNames_3 : decode cX1_swapNames 3 = .ok (.iconst 1, 1) := by decide +kernel
theorem dX1_swapNames_4 : decode cX1_swapNames 4 = .ok (.iload_n 2, 1) := by decide +kernel
theorem dX1_swapNames_5 : decode cX1_swapNames 5 = .ok (.ishl, 1) := by decide +kernel
theorem dX1_swapNames_6 : decode cX1_swapNames 6 = .ok (.ior, 1) := by decide +kernel
theorem dX1_swapNames_7 : decode cX1_swapNames 7 = .ok (.istore_n 3, 1) := by decide +kernel
theorem dX1_swapNames_8 : decode cX1_swapNames 8 = .ok (.iconst 0, 1) := by decide +kernel
theorem dX1_swapNames_9 : decode cX1_swapNames 9 = .ok (.istore 4, 2) := by decide +kernel
theorem dX1_swapNames_11 : decode cX1_swapNames 11 = .ok (.iload 4, 2) := by decide +kernel
theorem dX1_swapNames_13 : decode cX1_swapNames 13 = .ok (.iconst 5, 1) := by decide +kernel
theorem dX1_swapNames_14 : decode cX1_swapNames 14 = .ok (.if_icmp .ge 84, 3) := by decide +kernel
theorem dX1_swapNames_17 : decode cX1_swapNames 17 = .ok (.iconst 0, 1) := by decide +kernel
theorem dX1_swapNames_18 : decode cX1_swapNames 18 = .ok (.istore 5, 2) := by decide +kernel
theorem dX1_swapNames_20 : decode cX1_swapNames 20 = .ok (.iload 5, 2) := by decide +kernel
theorem dX1_swapNames_22 : decode cX1_swapNames 22 = .ok (.sipush 256, 3) := by decide +kernel
theorem dX1_swapNames_25 : decode cX1_swapNames 25 = .ok (.if_icmp .ge 67, 3) := by decide +kernel
theorem dX1_swapNames_28 : decode cX1_swapNames 28 = .ok (.iload 5, 2) := by decide +kernel
theorem dX1_swapNames_30 : decode cX1_swapNames 30 = .ok (.iload_n 3, 1) := by decide +kernel
theorem dX1_swapNames_31 : decode cX1_swapNames 31 = .ok (.iand, 1) := by decide +kernel
theorem dX1_swapNames_32 : decode cX1_swapNames 32 = .ok (.iconst 1, 1) := by decide +kernel
theorem dX1_swapNames_33 : decode cX1_swapNames 33 = .ok (.iload_n 1, 1) := by decide +kernel
theorem dX1_swapNames_34 : decode cX1_swapNames 34 = .ok (.ishl, 1) := by decide +kernel
theorem dX1_swapNames_35 : decode cX1_swapNames 35 = .ok (.if_icmp .ne 51, 3) := by decide +kernel
theorem dX1_swapNames_38 : decode cX1_swapNames 38 = .ok (.aload_n 0, 1) := by decide +kernel
theorem dX1_swapNames_39 : decode cX1_swapNames 39 = .ok (.getfield 11, 3) := by decide +kernel
theorem dX1_swapNames_42 : decode cX1_swapNames 42 = .ok (.iload 4, 2) := by decide +kernel
theorem dX1_swapNames_44 : decode cX1_swapNames 44 = .ok (.aaload, 1) := by decide +kernel
theorem dX1_swapNames_45 : decode cX1_swapNames 45 = .ok (.iload 5, 2) := by decide +kernel
theorem dX1_swapNames_47 : decode cX1_swapNames 47 = .ok (.iaload, 1) := by decide +kernel
theorem dX1_swapNames_48 : decode cX1_swapNames 48 = .ok (.istore 6, 2) := by decide +kernel
theorem dX1_swapNames_50 : decode cX1_swapNames 50 = .ok (.aload_n 0, 1) := by decide +kernel
theorem dX1_swapNames_51 : decode cX1_swapNames 51 = .ok (.getfield 11, 3) := by decide +kernel
theorem dX1_swapNames_54 : decode cX1_swapNames 54 = .ok (.iload 4, 2) := by decide +kernel
theorem dX1_swapNames_56 : decode cX1_swapNames 56 = .ok (.aaload, 1) := by decide +kernel
theorem dX1_swapNames_57 : decode cX1_swapNames 57 = .ok (.iload 5, 2) := by decide +kernel
theorem dX1_swapNames_59 : decode cX1_swapNames 59 = .ok (.aload_n 0, 1) := by decide +kernel
theorem dX1_swapNames_60 : decode cX1_swapNames 60 = .ok (.getfield 11, 3) := by decide +kernel
theorem dX1_swapNames_63 : decode cX1_swapNames 63 = .ok (.iload 4, 2) := by decide +kernel
theorem dX1_swapNames_65 : decode cX1_swapNames 65 = .ok (.aaload, 1) := by decide +kernel
theorem dX1_swapNames_66 : decode cX1_swapNames 66 = .ok (.iload 5, 2) := by decide +kernel
theorem dX1_swapNames_68 : decode cX1_swapNames 68 = .ok (.iload_n 3, 1) := by decide +kernel
theorem dX1_swapNames_69 : decode cX1_swapNames 69 = .ok (.ixor, 1) := by decide +kernel
theorem dX1_swapNames_70 : decode cX1_swapNames 70 = .ok (.iaload, 1) := by decide +kernel
theorem dX1_swapNames_71 : decode cX1_swapNames 71 = .ok (.iastore, 1) := by decide +kernel
theorem dX1_swapNames_72 : decode cX1_swapNames 72 = .ok (.aload_n 0, 1) := by decide +kernel
theorem dX1_swapNames_73 : decode cX1_swapNames 73 = .ok (.getfield 11, 3) := by decide +kernel
theorem dX1_swapNames_76 : decode cX1_swapNames 76 = .ok (.iload 4, 2) := by decide +kernel
theorem dX1_swapNames_78 : decode cX1_swapNames 78 = .ok (.aaload, 1) := by decide +kernel
theorem dX1_swapNames_79 : decode cX1_swapNames 79 = .ok (.iload 5, 2) := by decide +kernel
theorem dX1_swapNames_81 : decode cX1_swapNames 81 = .ok (.iload_n 3, 1) := by decide +kernel
theorem dX1_swapNames_82 : decode cX1_swapNames 82 = .ok (.ixor, 1) := by decide +kernel
theorem dX1_swapNames_83 : decode cX1_swapNames 83 = .ok (.iload 6, 2) := by decide +kernel
theorem dX1_swapNames_85 : decode cX1_swapNames 85 = .ok (.iastore, 1) := by decide +kernel
theorem dX1_swapNames_86 : decode cX1_swapNames 86 = .ok (.iinc 5 1, 3) := by decide +kernel
theorem dX1_swapNames_89 : decode cX1_swapNames 89 = .ok (.goto (-69), 3) := by decide +kernel
theorem dX1_swapNames_92 : decode cX1_swapNames 92 = .ok (.iinc 4 1, 3) := by decide +kernel
theorem dX1_swapNames_95 : decode cX1_swapNames 95 = .ok (.goto (-84), 3) := by decide +kernel
theorem dX1_swapNames_98 : decode cX1_swapNames 98 = .ok (.iconst 0, 1) := by decide +kernel
theorem dX1_swapNames_99 : decode cX1_swapNames 99 = .ok (.istore 4, 2) := by decide +kernel
theorem dX1_swapNames_101 : decode cX1_swapNames 101 = .ok (.iload 4, 2) := by decide +kernel
theorem dX1_swapNames_103 : decode cX1_swapNames 103 = .ok (.aload_n 0, 1) := by decide +kernel
theorem dX1_swapNames_104 : decode cX1_swapNames 104 = .ok (.getfield 16, 3) := by decide +kernel
theorem dX1_swapNames_107 : decode cX1_swapNames 107 = .ok (.if_icmp .ge 52, 3) := by decide +kernel
theorem dX1_swapNames_110 : decode cX1_swapNames 110 = .ok (.iload 4, 2) := by decide +kernel
theorem dX1_swapNames_112 : decode cX1_swapNames 112 = .ok (.iload_n 1, 1) := by decide +kernel
theorem dX1_swapNames_113 : decode cX1_swapNames 113 = .ok (.if_icmp .eq 40, 3) := by decide +kernel
theorem dX1_swapNames_116 : decode cX1_swapNames 116 = .ok (.iload 4, 2) := by decide +kernel
theorem dX1_swapNames_118 : decode cX1_swapNames 118 = .ok (.iload_n 2, 1) := by decide +kernel
theorem dX1_swapNames_119 : decode cX1_swapNames 119 = .ok (.if_icmp .eq 34, 3) := by decide +kernel
theorem dX1_swapNames_122 : decode cX1_swapNames 122 = .ok (.aload_n 0, 1) := by decide +kernel
theorem dX1_swapNames_123 : decode cX1_swapNames 123 = .ok (.iload_n 1, 1) := by decide +kernel
theorem dX1_swapNames_124 : decode cX1_swapNames 124 = .ok (.iload 4, 2) := by decide +kernel
theorem dX1_swapNames_126 : decode cX1_swapNames 126 = .ok (.invokevirtual 44, 3) := by decide +kernel
theorem dX1_swapNames_129 : decode cX1_swapNames 129 = .ok (.aload_n 0, 1) := by decide +kernel
theorem dX1_swapNames_130 : decode cX1_swapNames 130 = .ok (.iload_n 2, 1) := by decide +kernel
theorem dX1_swapNames_131 : decode cX1_swapNames 131 = .ok (.iload 4, 2) := by decide +kernel
theorem dX1_swapNames_133 : decode cX1_swapNames 133 = .ok (.invokevirtual 44, 3) := by decide +kernel
theorem dX1_swapNames_136 : decode cX1_swapNames 136 = .ok (.if_icmp .eq 17, 3) := by decide +kernel
theorem dX1_swapNames_139 : decode cX1_swapNames 139 = .ok (.aload_n 0, 1) := by decide +kernel
theorem dX1_swapNames_140 : decode cX1_swapNames 140 = .ok (.iload_n 1, 1) := by decide +kernel
theorem dX1_swapNames_141 : decode cX1_swapNames 141 = .ok (.iload 4, 2) := by decide +kernel
theorem dX1_swapNames_143 : decode cX1_swapNames 143 = .ok (.invokevirtual 48, 3) := by decide +kernel
theorem dX1_swapNames_146 : decode cX1_swapNames 146 = .ok (.aload_n 0, 1) := by decide +kernel
theorem dX1_swapNames_147 : decode cX1_swapNames 147 = .ok (.iload_n 2, 1) := by decide +kernel
theorem dX1_swapNames_148 : decode cX1_swapNames 148 = .ok (.iload 4, 2) := by decide +kernel
theorem dX1_swapNames_150 : decode cX1_swapNames 150 = .ok (.invokevirtual 48, 3) := by decide +kernel
theorem dX1_swapNames_153 : decode cX1_swapNames 153 = .ok (.iinc 4 1, 3) := by decide +kernel
theorem dX1_swapNames_156 : decode cX1_swapNames 156 = .ok (.goto (-55), 3) := by decide +kernel
theorem dX1_swapNames_159 : decode cX1_swapNames 159 = .ok (.return_, 1) := by decide +kernel
theorem dX2_init_0 : decode cX2_init 0 = .ok (.aload_n 0, 1) := by decide +kernel
theorem dX2_init_1 : decode cX2_init 1 = .ok (.invokespecial 3, 3) := by decide +kernel
theorem dX2_init_4 : decode cX2_init 4 = .ok (.aload_n 0, 1) := by decide +kernel
theorem dX2_init_5 : decode cX2_init 5 = .ok (.sipush 540, 3) := by decide +kernel
theorem dX2_init_8 : decode cX2_init 8 = .ok (.newarray .byte, 2) := by decide +kernel
theorem dX2_init_10 : decode cX2_init 10 = .ok (.putfield 11, 3) := by decide +kernel
theorem dX2_init_13 : decode cX2_init 13 = .ok (.aload_n 0, 1) := by decide +kernel
theorem dX2_init_14 : decode cX2_init 14 = .ok (.sipush 256, 3) := by decide +kernel
theorem dX2_init_17 : decode cX2_init 17 = .ok (.newarray .int, 2) := by decide +kernel
theorem dX2_init_19 : decode cX2_init 19 = .ok (.putfield 15, 3) := by decide +kernel
theorem dX2_init_22 : decode cX2_init 22 = .ok (.return_, 1) := by decide +kernel
theorem dX2_hasRoom_0 : decode cX2_hasRoom 0 = .ok (.aload_n 0, 1) := by decide +kernel
theorem dX2_hasRoom_1 : decode cX2_hasRoom 1 = .ok (.getfield 19, 3) := by decide +kernel
theorem dX2_hasRoom_4 : decode cX2_hasRoom 4 = .ok (.bipush 20, 2) := by decide +kernel
theorem dX2_hasRoom_6 : decode cX2_hasRoom 6 = .ok (.iadd, 1) := by decide +kernel
theorem dX2_hasRoom_7 : decode cX2_hasRoom 7 = .ok (.sipush 540, 3) := by decide +kernel
theorem dX2_hasRoom_10 : decode cX2_hasRoom 10 = .ok (.if_icmp .gt 7, 3) := by decide +kernel
theorem dX2_hasRoom_13 : decode cX2_hasRoom 13 = .ok (.iconst 1, 1) := by decide +kernel
theorem dX2_hasRoom_14 : decode cX2_hasRoom 14 = .ok (.goto 4, 3) := by decide +kernel
theorem dX2_hasRoom_17 : decode cX2_hasRoom 17 = .ok (.iconst 0, 1) := by decide +kernel
theorem dX2_hasRoom_18 : decode cX2_hasRoom 18 = .ok (.ireturn, 1) := by decide +kernel
theorem dX2_take_0 : decode cX2_take 0 = .ok (.bipush 24, 2) := by decide +kernel
theorem dX2_take_2 : decode cX2_take 2 = .ok (.istore_n 2, 1) := by decide +kernel
theorem dX2_take_3 : decode cX2_take 3 = .ok (.iload_n 2, 1) := by decide +kernel
theorem dX2_take_4 : decode cX2_take 4 = .ok (.ifCond .lt 42, 3) := by decide +kernel
theorem dX2_take_7 : decode cX2_take 7 = .ok (.aload_n 0, 1) := by decide +kernel
theorem dX2_take_8 : decode cX2_take 8 = .ok (.getfield 19, 3) := by decide +kernel
theorem dX2_take_11 : decode cX2_take 11 = .ok (.sipush 540, 3) := by decide +kernel
theorem dX2_take_14 : decode cX2_take 14 = .ok (.if_icmp .ge 32, 3) := by decide +kernel
theorem dX2_take_17 : decode cX2_take 17 = .ok (.aload_n 0, 1) := by decide +kernel
theorem dX2_take_18 : decode cX2_take 18 = .ok (.getfield 11, 3) := by decide +kernel
theorem dX2_take_21 : decode cX2_take 21 = .ok (.aload_n 0, 1) := by decide +kernel
theorem dX2_take_22 : decode cX2_take 22 = .ok (.getfield 19, 3) := by decide +kernel
theorem dX2_take_25 : decode cX2_take 25 = .ok (.iload_n 1, 1) := by decide +kernel
theorem dX2_take_26 : decode cX2_take 26 = .ok (.iload_n 2, 1) := by decide +kernel
theorem dX2_take_27 : decode cX2_take 27 = .ok (.iushr, 1) := by decide +kernel
theorem dX2_take_28 : decode cX2_take 28 = .ok (.i2b, 1) := by decide +kernel
theorem dX2_take_29 : decode cX2_take 29 = .ok (.bastore, 1) := by decide +kernel
theorem dX2_take_30 : decode cX2_take 30 = .ok (.aload_n 0, 1) := by decide +kernel
theorem dX2_take_31 : decode cX2_take 31 = .ok (.dup, 1) := by decide +kernel
theorem dX2_take_32 : decode cX2_take 32 = .ok (.getfield 19, 3) := by decide +kernel
theorem dX2_take_35 : decode cX2_take 35 = .ok (.iconst 1, 1) := by decide +kernel
theorem dX2_take_36 : decode cX2_take 36 = .ok (.iadd, 1) := by decide +kernel
theorem dX2_take_37 : decode cX2_take 37 = .ok (.putfield 19, 3) := by decide +kernel
theorem dX2_take_40 : decode cX2_take 40 = .ok (.iinc 2 (-8), 3) := by decide +kernel
theorem dX2_take_43 : decode cX2_take 43 = .ok (.goto (-40), 3) := by decide +kernel
theorem dX2_take_46 : decode cX2_take 46 = .ok (.return_, 1) := by decide +kernel
theorem dX2_readAll_0 : decode cX2_readAll 0 = .ok (.aload_n 0, 1) := by decide +kernel
theorem dX2_readAll_1 : decode cX2_readAll 1 = .ok (.iconst 0, 1) := by decide +kernel
theorem dX2_readAll_2 : decode cX2_readAll 2 = .ok (.putfield 23, 3) := by decide +kernel
theorem dX2_readAll_5 : decode cX2_readAll 5 = .ok (.aload_n 0, 1) := by decide +kernel
theorem dX2_readAll_6 : decode cX2_readAll 6 = .ok (.iconst 0, 1) := by decide +kernel
theorem dX2_readAll_7 : decode cX2_readAll 7 = .ok (.putfield 26, 3) := by decide +kernel
theorem dX2_readAll_10 : decode cX2_readAll 10 = .ok (.aload_n 0, 1) := by decide +kernel
theorem dX2_readAll_11 : decode cX2_readAll 11 = .ok (.lconst 0, 1) := by decide +kernel
theorem dX2_readAll_12 : decode cX2_readAll 12 = .ok (.putfield 29, 3) := by decide +kernel
theorem dX2_readAll_15 : decode cX2_readAll 15 = .ok (.iconst 0, 1) := by decide +kernel
theorem dX2_readAll_16 : decode cX2_readAll 16 = .ok (.istore_n 1, 1) := by decide +kernel
theorem dX2_readAll_17 : decode cX2_readAll 17 = .ok (.iload_n 1, 1) := by decide +kernel
theorem dX2_readAll_18 : decode cX2_readAll 18 = .ok (.sipush 256, 3) := by decide +kernel
theorem dX2_readAll_21 : decode cX2_readAll 21 = .ok (.if_icmp .ge 16, 3) := by decide +kernel
theorem dX2_readAll_24 : decode cX2_readAll 24 = .ok (.aload_n 0, 1) := by decide +kernel
theorem dX2_readAll_25 : decode cX2_readAll 25 = .ok (.getfield 15, 3) := by decide +kernel
theorem dX2_readAll_28 : decode cX2_readAll 28 = .ok (.iload_n 1, 1) := by decide +kernel
theorem dX2_readAll_29 : decode cX2_readAll 29 = .ok (.iconst 0, 1) := by decide +kernel
theorem dX2_readAll_30 : decode cX2_readAll 30 = .ok (.iastore, 1) := by decide +kernel
theorem dX2_readAll_31 : decode cX2_readAll 31 = .ok (.iinc 1 1, 3) := by decide +kernel
theorem dX2_readAll_34 : decode cX2_readAll 34 = .ok (.goto (-17), 3) := by decide +kernel
theorem dX2_readAll_37 : decode cX2_readAll 37 = .ok (.aload_n 0, 1) := by decide +kernel
theorem dX2_readAll_38 : decode cX2_readAll 38 = .ok (.iconst 0, 1) := by decide +kernel
theorem dX2_readAll_39 : decode cX2_readAll 39 = .ok (.putfield 33, 3) := by decide +kernel
theorem dX2_readAll_42 : decode cX2_readAll 42 = .ok (.iconst 0, 1) := by decide +kernel
theorem dX2_readAll_43 : decode cX2_readAll 43 = .ok (.istore_n 1, 1) := by decide +kernel
theorem dX2_readAll_44 : decode cX2_readAll 44 = .ok (.iload_n 1, 1) := by decide +kernel
theorem dX2_readAll_45 : decode cX2_readAll 45 = .ok (.sipush 540, 3) := by decide +kernel
theorem dX2_readAll_48 : decode cX2_readAll 48 = .ok (.if_icmp .ge 25, 3) := by decide +kernel
theorem dX2_readAll_51 : decode cX2_readAll 51 = .ok (.aload_n 0, 1) := by decide +kernel
theorem dX2_readAll_52 : decode cX2_readAll 52 = .ok (.iload_n 1, 1) := by decide +kernel
theorem dX2_readAll_53 : decode cX2_readAll 53 = .ok (.ifCond .ne 7, 3) := by decide +kernel
theorem dX2_readAll_56 : decode cX2_readAll 56 = .ok (.iconst 1, 1) := by decide +kernel
theorem dX2_readAll_57 : decode cX2_readAll 57 = .ok (.goto 4, 3) := by decide +kernel
theorem dX2_readAll_60 : decode cX2_readAll 60 = .ok (.iconst 0, 1) := by decide +kernel
theorem dX2_readAll_61 : decode cX2_readAll 61 = .ok (.invokevirtual 36, 3) := by decide +kernel
theorem dX2_readAll_64 : decode cX2_readAll 64 = .ok (.ifCond .eq 9, 3) := by decide +kernel
theorem dX2_readAll_67 : decode cX2_readAll 67 = .ok (.iinc 1 1, 3) := by decide +kernel
theorem dX2_readAll_70 : decode cX2_readAll 70 = .ok (.goto (-26), 3) := by decide +kernel
theorem dX2_readAll_73 : decode cX2_readAll 73 = .ok (.iload_n 1, 1) := by decide +kernel
theorem dX2_readAll_74 : decode cX2_readAll 74 = .ok (.ireturn, 1) := by decide +kernel
theorem dX2_readLine_0 : decode cX2_readLine 0 = .ok (.aload_n 0, 1) := by decide +kernel
theorem dX2_readLine_1 : decode cX2_readLine 1 = .ok (.invokevirtual 40, 3) := by decide +kernel
theorem dX2_readLine_4 : decode cX2_readLine 4 = .ok (.aload_n 0, 1) := by decide +kernel
theorem dX2_readLine_5 : decode cX2_readLine 5 = .ok (.getfield 43, 3) := by decide +kernel
theorem dX2_readLine_8 : decode cX2_readLine 8 = .ok (.ifCond .ne 15, 3) := by decide +kernel
theorem dX2_readLine_11 : decode cX2_readLine 11 = .ok (.aload_n 0, 1) := by decide +kernel
theorem dX2_readLine_12 : decode cX2_readLine 12 = .ok (.getfield 19, 3) := by decide +kernel
theorem dX2_readLine_15 : decode cX2_readLine 15 = .ok (.sipush 500, 3) := by decide +kernel
theorem dX2_readLine_18 : decode cX2_readLine 18 = .ok (.if_icmp .gt 5, 3) := by decide +kernel
theorem dX2_readLine_21 : decode cX2_readLine 21 = .ok (.iconst 0, 1) := by decide +kernel
theorem dX2_readLine_22 : decode cX2_readLine 22 = .ok (.ireturn, 1) := by decide +kernel
theorem dX2_readLine_23 : decode cX2_readLine 23 = .ok (.iload_n 1, 1) := by decide +kernel
theorem dX2_readLine_24 : decode cX2_readLine 24 = .ok (.ifCond .eq 25, 3) := by decide +kernel
theorem dX2_readLine_27 : decode cX2_readLine 27 = .ok (.aload_n 0, 1) := by decide +kernel
theorem dX2_readLine_28 : decode cX2_readLine 28 = .ok (.ldc 46, 2) := by decide +kernel
theorem dX2_readLine_30 : decode cX2_readLine 30 = .ok (.invokevirtual 47, 3) := by decide +kernel
theorem dX2_readLine_33 : decode cX2_readLine 33 = .ok (.ifCond .eq 10, 3) := by decide +kernel
theorem dX2_readLine_36 : decode cX2_readLine 36 = .ok (.aload_n 0, 1) := by decide +kernel
theorem dX2_readLine_37 : decode cX2_readLine 37 = .ok (.invokevirtual 51, 3) := by decide +kernel
theorem dX2_readLine_40 : decode cX2_readLine 40 = .ok (.goto 8, 3) := by decide +kernel
theorem dX2_readLine_43 : decode cX2_readLine 43 = .ok (.aload_n 0, 1) := by decide +kernel
theorem dX2_readLine_44 : decode cX2_readLine 44 = .ok (.iconst 1, 1) := by decide +kernel
theorem dX2_readLine_45 : decode cX2_readLine 45 = .ok (.invokevirtual 55, 3) := by decide +kernel
theorem dX2_readLine_48 : decode cX2_readLine 48 = .ok (.ireturn, 1) := by decide +kernel
theorem dX2_readLine_49 : decode cX2_readLine 49 = .ok (.aload_n 0, 1) := by decide +kernel
theorem dX2_readLine_50 : decode cX2_readLine 50 = .ok (.ldc 59, 2) := by decide +kernel
theorem dX2_readLine_52 : decode cX2_readLine 52 = .ok (.invokevirtual 47, 3) := by decide +kernel
theorem dX2_readLine_55 : decode cX2_readLine 55 = .ok (.ifCond .eq 8, 3) := by decide +kernel
theorem dX2_readLine_58 : decode cX2_readLine 58 = .ok (.aload_n 0, 1) := by decide +kernel
theorem dX2_readLine_59 : decode cX2_readLine 59 = .ok (.invokevirtual 61, 3) := by decide +kernel
theorem dX2_readLine_62 : decode cX2_readLine 62 = .ok (.ireturn, 1) := by decide +kernel
theorem dX2_readLine_63 : decode cX2_readLine 63 = .ok (.aload_n 0, 1) := by decide +kernel
theorem dX2_readLine_64 : decode cX2_readLine 64 = .ok (.ldc 64, 2) := by decide +kernel
theorem dX2_readLine_66 : decode cX2_readLine 66 = .ok (.invokevirtual 47, 3) := by decide +kernel
theorem dX2_readLine_69 : decode cX2_readLine 69 = .ok (.ifCond .eq 10, 3) := by decide +kernel
theorem dX2_readLine_72 : decode cX2_readLine 72 = .ok (.aload_n 0, 1) := by decide +kernel
theorem dX2_readLine_73 : decode cX2_readLine 73 = .ok (.invokevirtual 66, 3) := by decide +kernel
theorem dX2_readLine_76 : decode cX2_readLine 76 = .ok (.goto 8, 3) := by decide +kernel
theorem dX2_readLine_79 : decode cX2_readLine 79 = .ok (.aload_n 0, 1) := by decide +kernel
theorem dX2_readLine_80 : decode cX2_readLine 80 = .ok (.iconst 1, 1) := by decide +kernel
theorem dX2_readLine_81 : decode cX2_readLine 81 = .ok (.invokevirtual 55, 3) := by decide +kernel
theorem dX2_readLine_84 : decode cX2_readLine 84 = .ok (.ireturn, 1) := by decide +kernel
theorem dX2_readThings_0 : decode cX2_readThings 0 = .ok (.aload_n 0, 1) := by decide +kernel
theorem dX2_readThings_1 : decode cX2_readThings 1 = .ok (.invokevirtual 40, 3) := by decide +kernel
theorem dX2_readThings_4 : decode cX2_readThings 4 = .ok (.aload_n 0, 1) := by decide +kernel
theorem dX2_readThings_5 : decode cX2_readThings 5 = .ok (.getfield 43, 3) := by decide +kernel
theorem dX2_readThings_8 : decode cX2_readThings 8 = .ok (.iconst 2, 1) := by decide +kernel
theorem dX2_readThings_9 : decode cX2_readThings 9 = .ok (.if_icmp .eq 9, 3) := by decide +kernel
theorem dX2_readThings_12 : decode cX2_readThings 12 = .ok (.aload_n 0, 1) := by decide +kernel
theorem dX2_readThings_13 : decode cX2_readThings 13 = .ok (.iconst 1, 1) := by decide +kernel
theorem dX2_readThings_14 : decode cX2_readThings 14 = .ok (.invokevirtual 55, 3) := by decide +kernel
theorem dX2_readThings_17 : decode cX2_readThings 17 = .ok (.ireturn, 1) := by decide +kernel
theorem dX2_readThings_18 : decode cX2_readThings 18 = .ok (.aload_n 0, 1) := by decide +kernel
theorem dX2_readThings_19 : decode cX2_readThings 19 = .ok (.invokevirtual 69, 3) := by decide +kernel
theorem dX2_readThings_22 : decode cX2_readThings 22 = .ok (.istore_n 1, 1) := by decide +kernel
theorem dX2_readThings_23 : decode cX2_readThings 23 = .ok (.iload_n 1, 1) := by decide +kernel
theorem dX2_readThings_24 : decode cX2_readThings 24 = .ok (.iconst 1, 1) := by decide +kernel
theorem dX2_readThings_25 : decode cX2_readThings 25 = .ok (.if_icmp .lt 9, 3) := by decide +kernel
theorem dX2_readThings_28 : decode cX2_readThings 28 = .ok (.iload_n 1, 1) := by decide +kernel
theorem dX2_readThings_29 : decode cX2_readThings 29 = .ok (.bipush 8, 2) := by decide +kernel
theorem dX2_readThings_31 : decode cX2_readThings 31 = .ok (.if_icmp .le 9, 3) := by decide +kernel
theorem dX2_readThings_34 : decode cX2_readThings 34 = .ok (.aload_n 0, 1) := by decide +kernel
theorem dX2_readThings_35 : decode cX2_readThings 35 = .ok (.iconst 2, 1) := by decide +kernel
theorem dX2_readThings_36 : decode cX2_readThings 36 = .ok (.invokevirtual 55, 3) := by decide +kernel
theorem dX2_readThings_39 : decode cX2_readThings 39 = .ok (.ireturn, 1) := by decide +kernel
theorem dX2_readThings_40 : decode cX2_readThings 40 = .ok (.aload_n 0, 1) := by decide +kernel
theorem dX2_readThings_41 : decode cX2_readThings 41 = .ok (.iload_n 1, 1) := by decide +kernel
theorem dX2_readThings_42 : decode cX2_readThings 42 = .ok (.putfield 26, 3) := by decide +kernel
theorem dX2_readThings_45 : decode cX2_readThings 45 = .ok (.aload_n 0, 1) := by decide +kernel
theorem dX2_readThings_46 : decode cX2_readThings 46 = .ok (.invokevirtual 40, 3) := by decide +kernel
theorem dX2_readThings_49 : decode cX2_readThings 49 = .ok (.aload_n 0, 1) := by decide +kernel
theorem dX2_readThings_50 : decode cX2_readThings 50 = .ok (.getfield 43, 3) := by decide +kernel
theorem dX2_readThings_53 : decode cX2_readThings 53 = .ok (.iconst 3, 1) := by decide +kernel
theorem dX2_readThings_54 : decode cX2_readThings 54 = .ok (.if_icmp .eq 11, 3) := by decide +kernel
theorem dX2_readThings_57 : decode cX2_readThings 57 = .ok (.aload_n 0, 1) := by decide +kernel
theorem dX2_readThings_58 : decode cX2_readThings 58 = .ok (.iconst 1, 1) := by decide +kernel
theorem dX2_readThings_59 : decode cX2_readThings 59 = .ok (.invokevirtual 55, 3) := by decide +kernel
theorem dX2_readThings_62 : decode cX2_readThings 62 = .ok (.ifCond .eq 7, 3) := by decide +kernel
theorem dX2_readThings_65 : decode cX2_readThings 65 = .ok (.iconst 1, 1) := by decide +kernel
theorem dX2_readThings_66 : decode cX2_readThings 66 = .ok (.goto 4, 3) := by decide +kernel
theorem dX2_readThings_69 : decode cX2_readThings 69 = .ok (.iconst 0, 1) := by decide +kernel
theorem dX2_readThings_70 : decode cX2_readThings 70 = .ok (.ireturn, 1) := by decide +kernel
theorem dX2_readSet_0 : decode cX2_readSet 0 = .ok (.aload_n 0, 1) := by decide +kernel
theorem dX2_readSet_1 : decode cX2_readSet 1 = .ok (.invokevirtual 40, 3) := by decide +kernel
theorem dX2_readSet_4 : decode cX2_readSet 4 = .ok (.aload_n 0, 1) := by decide +kernel
theorem dX2_readSet_5 : decode cX2_readSet 5 = .ok (.getfield 43, 3) := by decide +kernel
theorem dX2_readSet_8 : decode cX2_readSet 8 = .ok (.iconst 1, 1) := by decide +kernel
theorem dX2_readSet_9 : decode cX2_readSet 9 = .ok (.if_icmp .eq 9, 3) := by decide +kernel
theorem dX2_readSet_12 : decode cX2_readSet 12 = .ok (.aload_n 0, 1) := by decide +kernel
theorem dX2_readSet_13 : decode cX2_readSet 13 = .ok (.iconst 1, 1) := by decide +kernel
theorem dX2_readSet_14 : decode cX2_readSet 14 = .ok (.invokevirtual 55, 3) := by decide +kernel
theorem dX2_readSet_17 : decode cX2_readSet 17 = .ok (.ireturn, 1) := by decide +kernel
theorem dX2_readSet_18 : decode cX2_readSet 18 = .ok (.aload_n 0, 1) := by decide +kernel
theorem dX2_readSet_19 : decode cX2_readSet 19 = .ok (.invokevirtual 73, 3) := by decide +kernel
theorem dX2_readSet_22 : decode cX2_readSet 22 = .ok (.istore_n 1, 1) := by decide +kernel
theorem dX2_readSet_23 : decode cX2_readSet 23 = .ok (.iload_n 1, 1) := by decide +kernel
theorem dX2_readSet_24 : decode cX2_readSet 24 = .ok (.iconst (-1), 1) := by decide +kernel
theorem dX2_readSet_25 : decode cX2_readSet 25 = .ok (.if_icmp .ne 9, 3) := by decide +kernel
theorem dX2_readSet_28 : decode cX2_readSet 28 = .ok (.aload_n 0, 1) := by decide +kernel
theorem dX2_readSet_29 : decode cX2_readSet 29 = .ok (.iconst 3, 1) := by decide +kernel
theorem dX2_readSet_30 : decode cX2_readSet 30 = .ok (.invokevirtual 55, 3) := by decide +kernel
theorem dX2_readSet_33 : decode cX2_readSet 33 = .ok (.ireturn, 1) := by decide +kernel
theorem dX2_readSet_34 : decode cX2_readSet 34 = .ok (.aload_n 0, 1) := by decide +kernel
theorem dX2_readSet_35 : decode cX2_readSet 35 = .ok (.getfield 15, 3) := by decide +kernel
theorem dX2_readSet_38 : decode cX2_readSet 38 = .ok (.iload_n 1, 1) := by decide +kernel
theorem dX2_readSet_39 : decode cX2_readSet 39 = .ok (.iaload, 1) := by decide +kernel
theorem dX2_readSet_40 : decode cX2_readSet 40 = .ok (.ifCond .eq 9, 3) := by decide +kernel
theorem dX2_readSet_43 : decode cX2_readSet 43 = .ok (.aload_n 0, 1) := by decide +kernel
theorem dX2_readSet_44 : decode cX2_readSet 44 = .ok (.iconst 4, 1) := by decide +kernel
theorem dX2_readSet_45 : decode cX2_readSet 45 = .ok (.invokevirtual 55, 3) := by decide +kernel
theorem dX2_readSet_48 : decode cX2_readSet 48 = .ok (.ireturn, 1) := by decide +kernel
theorem dX2_readSet_49 : decode cX2_readSet 49 = .ok (.aload_n 0, 1) := by decide +kernel
theorem dX2_readSet_50 : decode cX2_readSet 50 = .ok (.getfield 15, 3) := by decide +kernel
theorem dX2_readSet_53 : decode cX2_readSet 53 = .ok (.iload_n 1, 1) := by decide +kernel
theorem dX2_readSet_54 : decode cX2_readSet 54 = .ok (.iconst 1, 1) := by decide +kernel
theorem dX2_readSet_55 : decode cX2_readSet 55 = .ok (.iastore, 1) := by decide +kernel
theorem dX2_readSet_56 : decode cX2_readSet 56 = .ok (.aload_n 0, 1) := by decide +kernel
theorem dX2_readSet_57 : decode cX2_readSet 57 = .ok (.invokevirtual 40, 3) := by decide +kernel
theorem dX2_readSet_60 : decode cX2_readSet 60 = .ok (.aload_n 0, 1) := by decide +kernel
theorem dX2_readSet_61 : decode cX2_readSet 61 = .ok (.getfield 43, 3) := by decide +kernel
theorem dX2_readSet_64 : decode cX2_readSet 64 = .ok (.iconst 2, 1) := by decide +kernel
theorem dX2_readSet_65 : decode cX2_readSet 65 = .ok (.if_icmp .ne 33, 3) := by decide +kernel
theorem dX2_readSet_68 : decode cX2_readSet 68 = .ok (.aload_n 0, 1) := by decide +kernel
theorem dX2_readSet_69 : decode cX2_readSet 69 = .ok (.getfield 15, 3) := by decide +kernel
theorem dX2_readSet_72 : decode cX2_readSet 72 = .ok (.iload_n 1, 1) := by decide +kernel
theorem dX2_readSet_73 : decode cX2_readSet 73 = .ok (.aload_n 0, 1) := by decide +kernel
theorem dX2_readSet_74 : decode cX2_readSet 74 = .ok (.invokevirtual 69, 3) := by decide +kernel
theorem dX2_readSet_77 : decode cX2_readSet 77 = .ok (.iastore, 1) := by decide +kernel
theorem dX2_readSet_78 : decode cX2_readSet 78 = .ok (.aload_n 0, 1) := by decide +kernel
theorem dX2_readSet_79 : decode cX2_readSet 79 = .ok (.getfield 15, 3) := by decide +kernel
theorem dX2_readSet_82 : decode cX2_readSet 82 = .ok (.iload_n 1, 1) := by decide +kernel
theorem dX2_readSet_83 : decode cX2_readSet 83 = .ok (.iaload, 1) := by decide +kernel
theorem dX2_readSet_84 : decode cX2_readSet 84 = .ok (.iconst 1, 1) := by decide +kernel
theorem dX2_readSet_85 : decode cX2_readSet 85 = .ok (.if_icmp .ge 9, 3) := by decide +kernel
theorem dX2_readSet_88 : decode cX2_readSet 88 = .ok (.aload_n 0, 1) := by decide +kernel
theorem dX2_readSet_89 : decode cX2_readSet 89 = .ok (.iconst 2, 1) := by decide +kernel
theorem dX2_readSet_90 : decode cX2_readSet 90 = .ok (.invokevirtual 55, 3) := by decide +kernel
theorem dX2_readSet_93 : decode cX2_readSet 93 = .ok (.ireturn, 1) := by decide +kernel
theorem dX2_readSet_94 : decode cX2_readSet 94 = .ok (.aload_n 0, 1) := by decide +kernel
theorem dX2_readSet_95 : decode cX2_readSet 95 = .ok (.invokevirtual 40, 3) := by decide +kernel
theorem dX2_readSet_98 : decode cX2_readSet 98 = .ok (.aload_n 0, 1) := by decide +kernel
theorem dX2_readSet_99 : decode cX2_readSet 99 = .ok (.getfield 43, 3) := by decide +kernel
theorem dX2_readSet_102 : decode cX2_readSet 102 = .ok (.iconst 3, 1) := by decide +kernel
theorem dX2_readSet_103 : decode cX2_readSet 103 = .ok (.if_icmp .eq 11, 3) := by decide +kernel
theorem dX2_readSet_106 : decode cX2_readSet 106 = .ok (.aload_n 0, 1) := by decide +kernel
theorem dX2_readSet_107 : decode cX2_readSet 107 = .ok (.iconst 1, 1) := by decide +kernel
theorem dX2_readSet_108 : decode cX2_readSet 108 = .ok (.invokevirtual 55, 3) := by decide +kernel
theorem dX2_readSet_111 : decode cX2_readSet 111 = .ok (.ifCond .eq 7, 3) := by decide +kernel
theorem dX2_readSet_114 : decode cX2_readSet 114 = .ok (.iconst 1, 1) := by decide +kernel
theorem dX2_readSet_115 : decode cX2_readSet 115 = .ok (.goto 4, 3) := by decide +kernel
theorem dX2_readSet_118 : decode cX2_readSet 118 = .ok (.iconst 0, 1) := by decide +kernel
theorem dX2_readSet_119 : decode cX2_readSet 119 = .ok (.ireturn, 1) := by decide +kernel
theorem dX2_readPair_0 : decode cX2_readPair 0 = .ok (.aload_n 0, 1) := by decide +kernel
theorem dX2_readPair_1 : decode cX2_readPair 1 = .ok (.invokevirtual 40, 3) := by decide +kernel
theorem dX2_readPair_4 : decode cX2_readPair 4 = .ok (.aload_n 0, 1) := by decide +kernel
theorem dX2_readPair_5 : decode cX2_readPair 5 = .ok (.getfield 43, 3) := by decide +kernel
theorem dX2_readPair_8 : decode cX2_readPair 8 = .ok (.iconst 1, 1) := by decide +kernel
theorem dX2_readPair_9 : decode cX2_readPair 9 = .ok (.if_icmp .eq 9, 3) := by decide +kernel
theorem dX2_readPair_12 : decode cX2_readPair 12 = .ok (.aload_n 0, 1) := by decide +kernel
theorem dX2_readPair_13 : decode cX2_readPair 13 = .ok (.iconst 1, 1) := by decide +kernel
theorem dX2_readPair_14 : decode cX2_readPair 14 = .ok (.invokevirtual 55, 3) := by decide +kernel
theorem dX2_readPair_17 : decode cX2_readPair 17 = .ok (.ireturn, 1) := by decide +kernel
theorem dX2_readPair_18 : decode cX2_readPair 18 = .ok (.aload_n 0, 1) := by decide +kernel
theorem dX2_readPair_19 : decode cX2_readPair 19 = .ok (.invokevirtual 73, 3) := by decide +kernel
theorem dX2_readPair_22 : decode cX2_readPair 22 = .ok (.istore_n 1, 1) := by decide +kernel
theorem dX2_readPair_23 : decode cX2_readPair 23 = .ok (.iload_n 1, 1) := by decide +kernel
theorem dX2_readPair_24 : decode cX2_readPair 24 = .ok (.iconst (-1), 1) := by decide +kernel
theorem dX2_readPair_25 : decode cX2_readPair 25 = .ok (.if_icmp .eq 11, 3) := by decide +kernel
theorem dX2_readPair_28 : decode cX2_readPair 28 = .ok (.iload_n 1, 1) := by decide +kernel
theorem dX2_readPair_29 : decode cX2_readPair 29 = .ok (.invokestatic 76, 3) := by decide +kernel
theorem dX2_readPair_32 : decode cX2_readPair 32 = .ok (.iconst 2, 1) := by decide +kernel
theorem dX2_readPair_33 : decode cX2_readPair 33 = .ok (.if_icmp .eq 9, 3) := by decide +kernel
theorem dX2_readPair_36 : decode cX2_readPair 36 = .ok (.aload_n 0, 1) := by decide +kernel
theorem dX2_readPair_37 : decode cX2_readPair 37 = .ok (.iconst 3, 1) := by decide +kernel
theorem dX2_readPair_38 : decode cX2_readPair 38 = .ok (.invokevirtual 55, 3) := by decide +kernel
theorem dX2_readPair_41 : decode cX2_readPair 41 = .ok (.ireturn, 1) := by decide +kernel
theorem dX2_readPair_42 : decode cX2_readPair 42 = .ok (.iload_n 1, 1) := by decide +kernel
theorem dX2_readPair_43 : decode cX2_readPair 43 = .ok (.invokestatic 82, 3) := by decide +kernel
theorem dX2_readPair_46 : decode cX2_readPair 46 = .ok (.istore_n 2, 1) := by decide +kernel
theorem dX2_readPair_47 : decode cX2_readPair 47 = .ok (.iload_n 1, 1) := by decide +kernel
theorem dX2_readPair_48 : decode cX2_readPair 48 = .ok (.iload_n 1, 1) := by decide +kernel
theorem dX2_readPair_49 : decode cX2_readPair 49 = .ok (.iconst 1, 1) := by decide +kernel
theorem dX2_readPair_50 : decode cX2_readPair 50 = .ok (.isub, 1) := by decide +kernel
theorem dX2_readPair_51 : decode cX2_readPair 51 = .ok (.iand, 1) := by decide +kernel
theorem dX2_readPair_52 : decode cX2_readPair 52 = .ok (.invokestatic 82, 3) := by decide +kernel
theorem dX2_readPair_55 : decode cX2_readPair 55 = .ok (.istore_n 3, 1) := by decide +kernel
theorem dX2_readPair_56 : decode cX2_readPair 56 = .ok (.lconst 1, 1) := by decide +kernel
theorem dX2_readPair_57 : decode cX2_readPair 57 = .ok (.iload_n 2, 1) := by decide +kernel
theorem dX2_readPair_58 : decode cX2_readPair 58 = .ok (.bipush 8, 2) := by decide +kernel
theorem dX2_readPair_60 : decode cX2_readPair 60 = .ok (.imul, 1) := by decide +kernel
theorem dX2_readPair_61 : decode cX2_readPair 61 = .ok (.iload_n 3, 1) := by decide +kernel
theorem dX2_readPair_62 : decode cX2_readPair 62 = .ok (.iadd, 1) := by decide +kernel
theorem dX2_readPair_63 : decode cX2_readPair 63 = .ok (.lshl, 1) := by decide +kernel
theorem dX2_readPair_64 : decode cX2_readPair 64 = .ok (.lconst 1, 1) := by decide +kernel
theorem dX2_readPair_65 : decode cX2_readPair 65 = .ok (.iload_n 3, 1) := by decide +kernel
theorem dX2_readPair_66 : decode cX2_readPair 66 = .ok (.bipush 8, 2) := by decide +kernel
theorem dX2_readPair_68 : decode cX2_readPair 68 = .ok (.imul, 1) := by decide +kernel
theorem dX2_readPair_69 : decode cX2_readPair 69 = .ok (.iload_n 2, 1) := by decide +kernel
theorem dX2_readPair_70 : decode cX2_readPair 70 = .ok (.iadd, 1) := by decide +kernel
theorem dX2_readPair_71 : decode cX2_readPair 71 = .ok (.lshl, 1) := by decide +kernel
theorem dX2_readPair_72 : decode cX2_readPair 72 = .ok (.lor, 1) := by decide +kernel
theorem dX2_readPair_73 : decode cX2_readPair 73 = .ok (.lstore 4, 2) := by decide +kernel
theorem dX2_readPair_75 : decode cX2_readPair 75 = .ok (.aload_n 0, 1) := by decide +kernel
theorem dX2_readPair_76 : decode cX2_readPair 76 = .ok (.getfield 29, 3) := by decide +kernel
theorem dX2_readPair_79 : decode cX2_readPair 79 = .ok (.lload 4, 2) := by decide +kernel
theorem dX2_readPair_81 : decode cX2_readPair 81 = .ok (.land, 1) := by decide +kernel
theorem dX2_readPair_82 : decode cX2_readPair 82 = .ok (.lconst 0, 1) := by decide +kernel
theorem dX2_readPair_83 : decode cX2_readPair 83 = .ok (.lcmp, 1) := by decide +kernel
theorem dX2_readPair_84 : decode cX2_readPair 84 = .ok (.ifCond .eq 9, 3) := by decide +kernel
theorem dX2_readPair_87 : decode cX2_readPair 87 = .ok (.aload_n 0, 1) := by decide +kernel
theorem dX2_readPair_88 : decode cX2_readPair 88 = .ok (.iconst 4, 1) := by decide +kernel
theorem dX2_readPair_89 : decode cX2_readPair 89 = .ok (.invokevirtual 55, 3) := by decide +kernel
theorem dX2_readPair_92 : decode cX2_readPair 92 = .ok (.ireturn, 1) := by decide +kernel
theorem dX2_readPair_93 : decode cX2_readPair 93 = .ok (.aload_n 0, 1) := by decide +kernel
theorem dX2_readPair_94 : decode cX2_readPair 94 = .ok (.dup, 1) := by decide +kernel
theorem dX2_readPair_95 : decode cX2_readPair 95 = .ok (.getfield 29, 3) := by decide +kernel
theorem dX2_readPair_98 : decode cX2_readPair 98 = .ok (.lload 4, 2) := by decide +kernel
theorem dX2_readPair_100 : decode cX2_readPair 100 = .ok (.lor, 1) := by decide +kernel
theorem dX2_readPair_101 : decode cX2_readPair 101 = .ok (.putfield 29, 3) := by decide +kernel
theorem dX2_readPair_104 : decode cX2_readPair 104 = .ok (.aload_n 0, 1) := by decide +kernel
theorem dX2_readPair_105 : decode cX2_readPair 105 = .ok (.invokevirtual 40, 3) := by decide +kernel
theorem dX2_readPair_108 : decode cX2_readPair 108 = .ok (.aload_n 0, 1) := by decide +kernel
theorem dX2_readPair_109 : decode cX2_readPair 109 = .ok (.getfield 43, 3) := by decide +kernel
theorem dX2_readPair_112 : decode cX2_readPair 112 = .ok (.iconst 3, 1) := by decide +kernel
theorem dX2_readPair_113 : decode cX2_readPair 113 = .ok (.if_icmp .eq 11, 3) := by decide +kernel
theorem dX2_readPair_116 : decode cX2_readPair 116 = .ok (.aload_n 0, 1) := by decide +kernel
theorem dX2_readPair_117 : decode cX2_readPair 117 = .ok (.iconst 1, 1) := by decide +kernel
theorem dX2_readPair_118 : decode cX2_readPair 118 = .ok (.invokevirtual 55, 3) := by decide +kernel
theorem dX2_readPair_121 : decode cX2_readPair 121 = .ok (.ifCond .eq 7, 3) := by decide +kernel
theorem dX2_readPair_124 : decode cX2_readPair 124 = .ok (.iconst 1, 1) := by decide +kernel
theorem dX2_readPair_125 : decode cX2_readPair 125 = .ok (.goto 4, 3) := by decide +kernel
theorem dX2_readPair_128 : decode cX2_readPair 128 = .ok (.iconst 0, 1) := by decide +kernel
theorem dX2_readPair_129 : decode cX2_readPair 129 = .ok (.ireturn, 1) := by decide +kernel
theorem dX2_blame_0 : decode cX2_blame 0 = .ok (.aload_n 0, 1) := by decide +kernel
theorem dX2_blame_1 : decode cX2_blame 1 = .ok (.iload_n 1, 1) := by decide +kernel
theorem dX2_blame_2 : decode cX2_blame 2 = .ok (.putfield 23, 3) := by decide +kernel
theorem dX2_blame_5 : decode cX2_blame 5 = .ok (.aload_n 0, 1) := by decide +kernel
theorem dX2_blame_6 : decode cX2_blame 6 = .ok (.aload_n 0, 1) := by decide +kernel
theorem dX2_blame_7 : decode cX2_blame 7 = .ok (.getfield 85, 3) := by decide +kernel
theorem dX2_blame_10 : decode cX2_blame 10 = .ok (.putfield 88, 3) := by decide +kernel
theorem dX2_blame_13 : decode cX2_blame 13 = .ok (.iconst 0, 1) := by decide +kernel
theorem dX2_blame_14 : decode cX2_blame 14 = .ok (.ireturn, 1) := by decide +kernel
theorem dX2_nextToken_0 : decode cX2_nextToken 0 = .ok (.aload_n 0, 1) := by decide +kernel
theorem dX2_nextToken_1 : decode cX2_nextToken 1 = .ok (.getfield 19, 3) := by decide +kernel
theorem dX2_nextToken_4 : decode cX2_nextToken 4 = .ok (.sipush 500, 3) := by decide +kernel
theorem dX2_nextToken_7 : decode cX2_nextToken 7 = .ok (.invokestatic 91, 3) := by decide +kernel
theorem dX2_nextToken_10 : decode cX2_nextToken 10 = .ok (.istore_n 1, 1) := by decide +kernel
theorem dX2_nextToken_11 : decode cX2_nextToken 11 = .ok (.aload_n 0, 1) := by decide +kernel
theorem dX2_nextToken_12 : decode cX2_nextToken 12 = .ok (.aload_n 0, 1) := by decide +kernel
theorem dX2_nextToken_13 : decode cX2_nextToken 13 = .ok (.getfield 33, 3) := by decide +kernel
theorem dX2_nextToken_16 : decode cX2_nextToken 16 = .ok (.putfield 85, 3) := by decide +kernel
theorem dX2_nextToken_19 : decode cX2_nextToken 19 = .ok (.aload_n 0, 1) := by decide +kernel
theorem dX2_nextToken_20 : decode cX2_nextToken 20 = .ok (.getfield 85, 3) := by decide +kernel
theorem dX2_nextToken_23 : decode cX2_nextToken 23 = .ok (.iload_n 1, 1) := by decide +kernel
theorem dX2_nextToken_24 : decode cX2_nextToken 24 = .ok (.if_icmp .ge 44, 3) := by decide +kernel
theorem dX2_nextToken_27 : decode cX2_nextToken 27 = .ok (.aload_n 0, 1) := by decide +kernel
theorem dX2_nextToken_28 : decode cX2_nextToken 28 = .ok (.getfield 11, 3) := by decide +kernel
theorem dX2_nextToken_31 : decode cX2_nextToken 31 = .ok (.aload_n 0, 1) := by decide +kernel
theorem dX2_nextToken_32 : decode cX2_nextToken 32 = .ok (.getfield 85, 3) := by decide +kernel
theorem dX2_nextToken_35 : decode cX2_nextToken 35 = .ok (.baload, 1) := by decide +kernel
theorem dX2_nextToken_36 : decode cX2_nextToken 36 = .ok (.bipush 32, 2) := by decide +kernel
theorem dX2_nextToken_38 : decode cX2_nextToken 38 = .ok (.if_icmp .eq 17, 3) := by decide +kernel
theorem dX2_nextToken_41 : decode cX2_nextToken 41 = .ok (.aload_n 0, 1) := by decide +kernel
theorem dX2_nextToken_42 : decode cX2_nextToken 42 = .ok (.getfield 11, 3) := by decide +kernel
theorem dX2_nextToken_45 : decode cX2_nextToken 45 = .ok (.aload_n 0, 1) := by decide +kernel
theorem dX2_nextToken_46 : decode cX2_nextToken 46 = .ok (.getfield 85, 3) := by decide +kernel
theorem dX2_nextToken_49 : decode cX2_nextToken 49 = .ok (.baload, 1) := by decide +kernel
theorem dX2_nextToken_50 : decode cX2_nextToken 50 = .ok (.bipush 10, 2) := by decide +kernel
theorem dX2_nextToken_52 : decode cX2_nextToken 52 = .ok (.if_icmp .ne 16, 3) := by decide +kernel
theorem dX2_nextToken_55 : decode cX2_nextToken 55 = .ok (.aload_n 0, 1) := by decide +kernel
theorem dX2_nextToken_56 : decode cX2_nextToken 56 = .ok (.dup, 1) := by decide +kernel
theorem dX2_nextToken_57 : decode cX2_nextToken 57 = .ok (.getfield 85, 3) := by decide +kernel
theorem dX2_nextToken_60 : decode cX2_nextToken 60 = .ok (.iconst 1, 1) := by decide +kernel
theorem dX2_nextToken_61 : decode cX2_nextToken 61 = .ok (.iadd, 1) := by decide +kernel
theorem dX2_nextToken_62 : decode cX2_nextToken 62 = .ok (.putfield 85, 3) := by decide +kernel
theorem dX2_nextToken_65 : decode cX2_nextToken 65 = .ok (.goto (-46), 3) := by decide +kernel
theorem dX2_nextToken_68 : decode cX2_nextToken 68 = .ok (.aload_n 0, 1) := by decide +kernel
theorem dX2_nextToken_69 : decode cX2_nextToken 69 = .ok (.getfield 85, 3) := by decide +kernel
theorem dX2_nextToken_72 : decode cX2_nextToken 72 = .ok (.iload_n 1, 1) := by decide +kernel
theorem dX2_nextToken_73 : decode cX2_nextToken 73 = .ok (.if_icmp .lt 19, 3) := by decide +kernel
theorem dX2_nextToken_76 : decode cX2_nextToken 76 = .ok (.aload_n 0, 1) := by decide +kernel
theorem dX2_nextToken_77 : decode cX2_nextToken 77 = .ok (.iload_n 1, 1) := by decide +kernel
theorem dX2_nextToken_78 : decode cX2_nextToken 78 = .ok (.putfield 85, 3) := by decide +kernel
theorem dX2_nextToken_81 : decode cX2_nextToken 81 = .ok (.aload_n 0, 1) := by decide +kernel
theorem dX2_nextToken_82 : decode cX2_nextToken 82 = .ok (.iload_n 1, 1) := by decide +kernel
theorem dX2_nextToken_83 : decode cX2_nextToken 83 = .ok (.putfield 33, 3) := by decide +kernel
theorem dX2_nextToken_86 : decode cX2_nextToken 86 = .ok (.aload_n 0, 1) := by decide +kernel
theorem dX2_nextToken_87 : decode cX2_nextToken 87 = .ok (.iconst 0, 1) := by decide +kernel
theorem dX2_nextToken_88 : decode cX2_nextToken 88 = .ok (.putfield 43, 3) := by decide +kernel
theorem dX2_nextToken_91 : decode cX2_nextToken 91 = .ok (.return_, 1) := by decide +kernel
theorem dX2_nextToken_92 : decode cX2_nextToken 92 = .ok (.aload_n 0, 1) := by decide +kernel
theorem dX2_nextToken_93 : decode cX2_nextToken 93 = .ok (.invokevirtual 97, 3) := by decide +kernel
theorem dX2_nextToken_96 : decode cX2_nextToken 96 = .ok (.aload_n 0, 1) := by decide +kernel
theorem dX2_nextToken_97 : decode cX2_nextToken 97 = .ok (.getfield 33, 3) := by decide +kernel
theorem dX2_nextToken_100 : decode cX2_nextToken 100 = .ok (.aload_n 0, 1) := by decide +kernel
theorem dX2_nextToken_101 : decode cX2_nextToken 101 = .ok (.getfield 85, 3) := by decide +kernel
theorem dX2_nextToken_104 : decode cX2_nextToken 104 = .ok (.if_icmp .ne 36, 3) := by decide +kernel
theorem dX2_nextToken_107 : decode cX2_nextToken 107 = .ok (.aload_n 0, 1) := by decide +kernel
theorem dX2_nextToken_108 : decode cX2_nextToken 108 = .ok (.aload_n 0, 1) := by decide +kernel
theorem dX2_nextToken_109 : decode cX2_nextToken 109 = .ok (.getfield 11, 3) := by decide +kernel
theorem dX2_nextToken_112 : decode cX2_nextToken 112 = .ok (.aload_n 0, 1) := by decide +kernel
theorem dX2_nextToken_113 : decode cX2_nextToken 113 = .ok (.getfield 85, 3) := by decide +kernel
theorem dX2_nextToken_116 : decode cX2_nextToken 116 = .ok (.baload, 1) := by decide +kernel
theorem dX2_nextToken_117 : decode cX2_nextToken 117 = .ok (.bipush 59, 2) := by decide +kernel
theorem dX2_nextToken_119 : decode cX2_nextToken 119 = .ok (.if_icmp .ne 7, 3) := by decide +kernel
theorem dX2_nextToken_122 : decode cX2_nextToken 122 = .ok (.iconst 3, 1) := by decide +kernel
theorem dX2_nextToken_123 : decode cX2_nextToken 123 = .ok (.goto 4, 3) := by decide +kernel
theorem dX2_nextToken_126 : decode cX2_nextToken 126 = .ok (.iconst 4, 1) := by decide +kernel
theorem dX2_nextToken_127 : decode cX2_nextToken 127 = .ok (.putfield 43, 3) := by decide +kernel
theorem dX2_nextToken_130 : decode cX2_nextToken 130 = .ok (.aload_n 0, 1) := by decide +kernel
theorem dX2_nextToken_131 : decode cX2_nextToken 131 = .ok (.dup, 1) := by decide +kernel
theorem dX2_nextToken_132 : decode cX2_nextToken 132 = .ok (.getfield 33, 3) := by decide +kernel
theorem dX2_nextToken_135 : decode cX2_nextToken 135 = .ok (.iconst 1, 1) := by decide +kernel
theorem dX2_nextToken_136 : decode cX2_nextToken 136 = .ok (.iadd, 1) := by decide +kernel
theorem dX2_nextToken_137 : decode cX2_nextToken 137 = .ok (.putfield 33, 3) := by decide +kernel
theorem dX2_nextToken_140 : decode cX2_nextToken 140 = .ok (.return_, 1) := by decide +kernel
theorem dX2_readRun_0 : decode cX2_readRun 0 = .ok (.iconst 0, 1) := by decide +kernel
theorem dX2_readRun_1 : decode cX2_readRun 1 = .ok (.istore_n 1, 1) := by decide +kernel
theorem dX2_readRun_2 : decode cX2_readRun 2 = .ok (.aload_n 0, 1) := by decide +kernel
theorem dX2_readRun_3 : decode cX2_readRun 3 = .ok (.aload_n 0, 1) := by decide +kernel
theorem dX2_readRun_4 : decode cX2_readRun 4 = .ok (.getfield 85, 3) := by decide +kernel
theorem dX2_readRun_7 : decode cX2_readRun 7 = .ok (.putfield 33, 3) := by decide +kernel
theorem dX2_readRun_10 : decode cX2_readRun 10 = .ok (.aload_n 0, 1) := by decide +kernel
theorem dX2_readRun_11 : decode cX2_readRun 11 = .ok (.getfield 33, 3) := by decide +kernel
theorem dX2_readRun_14 : decode cX2_readRun 14 = .ok (.aload_n 0, 1) := by decide +kernel
theorem dX2_readRun_15 : decode cX2_readRun 15 = .ok (.getfield 19, 3) := by decide +kernel
theorem dX2_readRun_18 : decode cX2_readRun 18 = .ok (.if_icmp .ge 69, 3) := by decide +kernel
theorem dX2_readRun_21 : decode cX2_readRun 21 = .ok (.aload_n 0, 1) := by decide +kernel
theorem dX2_readRun_22 : decode cX2_readRun 22 = .ok (.getfield 11, 3) := by decide +kernel
theorem dX2_readRun_25 : decode cX2_readRun 25 = .ok (.aload_n 0, 1) := by decide +kernel
theorem dX2_readRun_26 : decode cX2_readRun 26 = .ok (.getfield 33, 3) := by decide +kernel
theorem dX2_readRun_29 : decode cX2_readRun 29 = .ok (.baload, 1) := by decide +kernel
theorem dX2_readRun_30 : decode cX2_readRun 30 = .ok (.invokestatic 100, 3) := by decide +kernel
theorem dX2_readRun_33 : decode cX2_readRun 33 = .ok (.ifCond .ne 18, 3) := by decide +kernel
theorem dX2_readRun_36 : decode cX2_readRun 36 = .ok (.aload_n 0, 1) := by decide +kernel
theorem dX2_readRun_37 : decode cX2_readRun 37 = .ok (.getfield 11, 3) := by decide +kernel
theorem dX2_readRun_40 : decode cX2_readRun 40 = .ok (.aload_n 0, 1) := by decide +kernel
theorem dX2_readRun_41 : decode cX2_readRun 41 = .ok (.getfield 33, 3) := by decide +kernel
theorem dX2_readRun_44 : decode cX2_readRun 44 = .ok (.baload, 1) := by decide +kernel
theorem dX2_readRun_45 : decode cX2_readRun 45 = .ok (.invokestatic 104, 3) := by decide +kernel
theorem dX2_readRun_48 : decode cX2_readRun 48 = .ok (.ifCond .eq 39, 3) := by decide +kernel
theorem dX2_readRun_51 : decode cX2_readRun 51 = .ok (.iload_n 1, 1) := by decide +kernel
theorem dX2_readRun_52 : decode cX2_readRun 52 = .ok (.aload_n 0, 1) := by decide +kernel
theorem dX2_readRun_53 : decode cX2_readRun 53 = .ok (.getfield 11, 3) := by decide +kernel
theorem dX2_readRun_56 : decode cX2_readRun 56 = .ok (.aload_n 0, 1) := by decide +kernel
theorem dX2_readRun_57 : decode cX2_readRun 57 = .ok (.getfield 33, 3) := by decide +kernel
theorem dX2_readRun_60 : decode cX2_readRun 60 = .ok (.baload, 1) := by decide +kernel
theorem dX2_readRun_61 : decode cX2_readRun 61 = .ok (.invokestatic 104, 3) := by decide +kernel
theorem dX2_readRun_64 : decode cX2_readRun 64 = .ok (.ifCond .eq 7, 3) := by decide +kernel
theorem dX2_readRun_67 : decode cX2_readRun 67 = .ok (.iconst 1, 1) := by decide +kernel
theorem dX2_readRun_68 : decode cX2_readRun 68 = .ok (.goto 4, 3) := by decide +kernel
theorem dX2_readRun_71 : decode cX2_readRun 71 = .ok (.iconst 0, 1) := by decide +kernel
theorem dX2_readRun_72 : decode cX2_readRun 72 = .ok (.iadd, 1) := by decide +kernel
theorem dX2_readRun_73 : decode cX2_readRun 73 = .ok (.istore_n 1, 1) := by decide +kernel
theorem dX2_readRun_74 : decode cX2_readRun 74 = .ok (.aload_n 0, 1) := by decide +kernel
theorem dX2_readRun_75 : decode cX2_readRun 75 = .ok (.dup, 1) := by decide +kernel
theorem dX2_readRun_76 : decode cX2_readRun 76 = .ok (.getfield 33, 3) := by decide +kernel
theorem dX2_readRun_79 : decode cX2_readRun 79 = .ok (.iconst 1, 1) := by decide +kernel
theorem dX2_readRun_80 : decode cX2_readRun 80 = .ok (.iadd, 1) := by decide +kernel
theorem dX2_readRun_81 : decode cX2_readRun 81 = .ok (.putfield 33, 3) := by decide +kernel
theorem dX2_readRun_84 : decode cX2_readRun 84 = .ok (.goto (-74), 3) := by decide +kernel
theorem dX2_readRun_87 : decode cX2_readRun 87 = .ok (.iload_n 1, 1) := by decide +kernel
theorem dX2_readRun_88 : decode cX2_readRun 88 = .ok (.ifCond .ne 11, 3) := by decide +kernel
theorem dX2_readRun_91 : decode cX2_readRun 91 = .ok (.aload_n 0, 1) := by decide +kernel
theorem dX2_readRun_92 : decode cX2_readRun 92 = .ok (.iconst 1, 1) := by decide +kernel
theorem dX2_readRun_93 : decode cX2_readRun 93 = .ok (.putfield 43, 3) := by decide +kernel
theorem dX2_readRun_96 : decode cX2_readRun 96 = .ok (.goto 30, 3) := by decide +kernel
theorem dX2_readRun_99 : decode cX2_readRun 99 = .ok (.aload_n 0, 1) := by decide +kernel
theorem dX2_readRun_100 : decode cX2_readRun 100 = .ok (.iload_n 1, 1) := by decide +kernel
theorem dX2_readRun_101 : decode cX2_readRun 101 = .ok (.aload_n 0, 1) := by decide +kernel
theorem dX2_readRun_102 : decode cX2_readRun 102 = .ok (.getfield 33, 3) := by decide +kernel
theorem dX2_readRun_105 : decode cX2_readRun 105 = .ok (.aload_n 0, 1) := by decide +kernel
theorem dX2_readRun_106 : decode cX2_readRun 106 = .ok (.getfield 85, 3) := by decide +kernel
theorem dX2_readRun_109 : decode cX2_readRun 109 = .ok (.isub, 1) := by decide +kernel
theorem dX2_readRun_110 : decode cX2_readRun 110 = .ok (.if_icmp .ne 12, 3) := by decide +kernel
theorem dX2_readRun_113 : decode cX2_readRun 113 = .ok (.iload_n 1, 1) := by decide +kernel
theorem dX2_readRun_114 : decode cX2_readRun 114 = .ok (.iconst 3, 1) := by decide +kernel
theorem dX2_readRun_115 : decode cX2_readRun 115 = .ok (.if_icmp .gt 7, 3) := by decide +kernel
theorem dX2_readRun_118 : decode cX2_readRun 118 = .ok (.iconst 2, 1) := by decide +kernel
theorem dX2_readRun_119 : decode cX2_readRun 119 = .ok (.goto 4, 3) := by decide +kernel
theorem dX2_readRun_122 : decode cX2_readRun 122 = .ok (.iconst 4, 1) := by decide +kernel
theorem dX2_readRun_123 : decode cX2_readRun 123 = .ok (.putfield 43, 3) := by decide +kernel
theorem dX2_readRun_126 : decode cX2_readRun 126 = .ok (.return_, 1) := by decide +kernel
theorem dX2_isLetter_0 : decode cX2_isLetter 0 = .ok (.iload_n 0, 1) := by decide +kernel
theorem dX2_isLetter_1 : decode cX2_isLetter 1 = .ok (.bipush 97, 2) := by decide +kernel
theorem dX2_isLetter_3 : decode cX2_isLetter 3 = .ok (.if_icmp .lt 13, 3) := by decide +kernel
theorem dX2_isLetter_6 : decode cX2_isLetter 6 = .ok (.iload_n 0, 1) := by decide +kernel
theorem dX2_isLetter_7 : decode cX2_isLetter 7 = .ok (.bipush 122, 2) := by decide +kernel
theorem dX2_isLetter_9 : decode cX2_isLetter 9 = .ok (.if_icmp .gt 7, 3) := by decide +kernel
theorem dX2_isLetter_12 : decode cX2_isLetter 12 = .ok (.iconst 1, 1) := by decide +kernel
theorem dX2_isLetter_13 : decode cX2_isLetter 13 = .ok (.goto 4, 3) := by decide +kernel
theorem dX2_isLetter_16 : decode cX2_isLetter 16 = .ok (.iconst 0, 1) := by decide +kernel
theorem dX2_isLetter_17 : decode cX2_isLetter 17 = .ok (.ireturn, 1) := by decide +kernel
theorem dX2_isDigit_0 : decode cX2_isDigit 0 = .ok (.iload_n 0, 1) := by decide +kernel
theorem dX2_isDigit_1 : decode cX2_isDigit 1 = .ok (.bipush 48, 2) := by decide +kernel
theorem dX2_isDigit_3 : decode cX2_isDigit 3 = .ok (.if_icmp .lt 13, 3) := by decide +kernel
theorem dX2_isDigit_6 : decode cX2_isDigit 6 = .ok (.iload_n 0, 1) := by decide +kernel
theorem dX2_isDigit_7 : decode cX2_isDigit 7 = .ok (.bipush 57, 2) := by decide +kernel
theorem dX2_isDigit_9 : decode cX2_isDigit 9 = .ok (.if_icmp .gt 7, 3) := by decide +kernel
theorem dX2_isDigit_12 : decode cX2_isDigit 12 = .ok (.iconst 1, 1) := by decide +kernel
theorem dX2_isDigit_13 : decode cX2_isDigit 13 = .ok (.goto 4, 3) := by decide +kernel
theorem dX2_isDigit_16 : decode cX2_isDigit 16 = .ok (.iconst 0, 1) := by decide +kernel
theorem dX2_isDigit_17 : decode cX2_isDigit 17 = .ok (.ireturn, 1) := by decide +kernel
theorem dX2_isWord_0 : decode cX2_isWord 0 = .ok (.aload_n 0, 1) := by decide +kernel
theorem dX2_isWord_1 : decode cX2_isWord 1 = .ok (.getfield 43, 3) := by decide +kernel
theorem dX2_isWord_4 : decode cX2_isWord 4 = .ok (.iconst 1, 1) := by decide +kernel
theorem dX2_isWord_5 : decode cX2_isWord 5 = .ok (.if_icmp .ne 19, 3) := by decide +kernel
theorem dX2_isWord_8 : decode cX2_isWord 8 = .ok (.aload_n 0, 1) := by decide +kernel
theorem dX2_isWord_9 : decode cX2_isWord 9 = .ok (.getfield 33, 3) := by decide +kernel
theorem dX2_isWord_12 : decode cX2_isWord 12 = .ok (.aload_n 0, 1) := by decide +kernel
theorem dX2_isWord_13 : decode cX2_isWord 13 = .ok (.getfield 85, 3) := by decide +kernel
theorem dX2_isWord_16 : decode cX2_isWord 16 = .ok (.isub, 1) := by decide +kernel
theorem dX2_isWord_17 : decode cX2_isWord 17 = .ok (.aload_n 1, 1) := by decide +kernel
theorem dX2_isWord_18 : decode cX2_isWord 18 = .ok (.invokevirtual 107, 3) := by decide +kernel
theorem dX2_isWord_21 : decode cX2_isWord 21 = .ok (.if_icmp .eq 5, 3) := by decide +kernel
theorem dX2_isWord_24 : decode cX2_isWord 24 = .ok (.iconst 0, 1) := by decide +kernel
theorem dX2_isWord_25 : decode cX2_isWord 25 = .ok (.ireturn, 1) := by decide +kernel
theorem dX2_isWord_26 : decode cX2_isWord 26 = .ok (.iconst 0, 1) := by decide +kernel
theorem dX2_isWord_27 : decode cX2_isWord 27 = .ok (.istore_n 2, 1) := by decide +kernel
theorem dX2_isWord_28 : decode cX2_isWord 28 = .ok (.iload_n 2, 1) := by decide +kernel
theorem dX2_isWord_29 : decode cX2_isWord 29 = .ok (.aload_n 1, 1) := by decide +kernel
theorem dX2_isWord_30 : decode cX2_isWord 30 = .ok (.invokevirtual 107, 3) := by decide +kernel
theorem dX2_isWord_33 : decode cX2_isWord 33 = .ok (.if_icmp .ge 30, 3) := by decide +kernel
theorem dX2_isWord_36 : decode cX2_isWord 36 = .ok (.aload_n 0, 1) := by decide +kernel
theorem dX2_isWord_37 : decode cX2_isWord 37 = .ok (.getfield 11, 3) := by decide +kernel
theorem dX2_isWord_40 : decode cX2_isWord 40 = .ok (.aload_n 0, 1) := by decide +kernel
theorem dX2_isWord_41 : decode cX2_isWord 41 = .ok (.getfield 85, 3) := by decide +kernel
theorem dX2_isWord_44 : decode cX2_isWord 44 = .ok (.iload_n 2, 1) := by decide +kernel
theorem dX2_isWord_45 : decode cX2_isWord 45 = .ok (.iadd, 1) := by decide +kernel
theorem dX2_isWord_46 : decode cX2_isWord 46 = .ok (.baload, 1) := by decide +kernel
theorem dX2_isWord_47 : decode cX2_isWord 47 = .ok (.aload_n 1, 1) := by decide +kernel
theorem dX2_isWord_48 : decode cX2_isWord 48 = .ok (.iload_n 2, 1) := by decide +kernel
theorem dX2_isWord_49 : decode cX2_isWord 49 = .ok (.invokevirtual 111, 3) := by decide +kernel
theorem dX2_isWord_52 : decode cX2_isWord 52 = .ok (.if_icmp .eq 5, 3) := by decide +kernel
theorem dX2_isWord_55 : decode cX2_isWord 55 = .ok (.iconst 0, 1) := by decide +kernel
theorem dX2_isWord_56 : decode cX2_isWord 56 = .ok (.ireturn, 1) := by decide +kernel
theorem dX2_isWord_57 : decode cX2_isWord 57 = .ok (.iinc 2 1, 3) := by decide +kernel
theorem dX2_isWord_60 : decode cX2_isWord 60 = .ok (.goto (-32), 3) := by decide +kernel
theorem dX2_isWord_63 : decode cX2_isWord 63 = .ok (.iconst 1, 1) := by decide +kernel
theorem dX2_isWord_64 : decode cX2_isWord 64 = .ok (.ireturn, 1) := by decide +kernel
theorem dX2_numberRead_0 : decode cX2_numberRead 0 = .ok (.iconst 0, 1) := by decide +kernel
theorem dX2_numberRead_1 : decode cX2_numberRead 1 = .ok (.istore_n 1, 1) := by decide +kernel
theorem dX2_numberRead_2 : decode cX2_numberRead 2 = .ok (.aload_n 0, 1) := by decide +kernel
theorem dX2_numberRead_3 : decode cX2_numberRead 3 = .ok (.getfield 85, 3) := by decide +kernel
theorem dX2_numberRead_6 : decode cX2_numberRead 6 = .ok (.istore_n 2, 1) := by decide +kernel
theorem dX2_numberRead_7 : decode cX2_numberRead 7 = .ok (.iload_n 2, 1) := by decide +kernel
theorem dX2_numberRead_8 : decode cX2_numberRead 8 = .ok (.aload_n 0, 1) := by decide +kernel
theorem dX2_numberRead_9 : decode cX2_numberRead 9 = .ok (.getfield 33, 3) := by decide +kernel
theorem dX2_numberRead_12 : decode cX2_numberRead 12 = .ok (.if_icmp .ge 24, 3) := by decide +kernel
theorem dX2_numberRead_15 : decode cX2_numberRead 15 = .ok (.iload_n 1, 1) := by decide +kernel
theorem dX2_numberRead_16 : decode cX2_numberRead 16 = .ok (.bipush 10, 2) := by decide +kernel
theorem dX2_numberRead_18 : decode cX2_numberRead 18 = .ok (.imul, 1) := by decide +kernel
theorem dX2_numberRead_19 : decode cX2_numberRead 19 = .ok (.aload_n 0, 1) := by decide +kernel
theorem dX2_numberRead_20 : decode cX2_numberRead 20 = .ok (.getfield 11, 3) := by decide +kernel
theorem dX2_numberRead_23 : decode cX2_numberRead 23 = .ok (.iload_n 2, 1) := by decide +kernel
theorem dX2_numberRead_24 : decode cX2_numberRead 24 = .ok (.baload, 1) := by decide +kernel
theorem dX2_numberRead_25 : decode cX2_numberRead 25 = .ok (.bipush 48, 2) := by decide +kernel
theorem dX2_numberRead_27 : decode cX2_numberRead 27 = .ok (.isub, 1) := by decide +kernel
theorem dX2_numberRead_28 : decode cX2_numberRead 28 = .ok (.iadd, 1) := by decide +kernel
theorem dX2_numberRead_29 : decode cX2_numberRead 29 = .ok (.istore_n 1, 1) := by decide +kernel
theorem dX2_numberRead_30 : decode cX2_numberRead 30 = .ok (.iinc 2 1, 3) := by decide +kernel
theorem dX2_numberRead_33 : decode cX2_numberRead 33 = .ok (.goto (-26), 3) := by decide +kernel
theorem dX2_numberRead_36 : decode cX2_numberRead 36 = .ok (.iload_n 1, 1) := by decide +kernel
theorem dX2_numberRead_37 : decode cX2_numberRead 37 = .ok (.ireturn, 1) := by decide +kernel
theorem dX2_lettersRead_0 : decode cX2_lettersRead 0 = .ok (.iconst 0, 1) := by decide +kernel
theorem dX2_lettersRead_1 : decode cX2_lettersRead 1 = .ok (.istore_n 1, 1) := by decide +kernel
theorem dX2_lettersRead_2 : decode cX2_lettersRead 2 = .ok (.aload_n 0, 1) := by decide +kernel
theorem dX2_lettersRead_3 : decode cX2_lettersRead 3 = .ok (.getfield 85, 3) := by decide +kernel
theorem dX2_lettersRead_6 : decode cX2_lettersRead 6 = .ok (.istore_n 2, 1) := by decide +kernel
theorem dX2_lettersRead_7 : decode cX2_lettersRead 7 = .ok (.iload_n 2, 1) := by decide +kernel
theorem dX2_lettersRead_8 : decode cX2_lettersRead 8 = .ok (.aload_n 0, 1) := by decide +kernel
theorem dX2_lettersRead_9 : decode cX2_lettersRead 9 = .ok (.getfield 33, 3) := by decide +kernel
theorem dX2_lettersRead_12 : decode cX2_lettersRead 12 = .ok (.if_icmp .ge 48, 3) := by decide +kernel
theorem dX2_lettersRead_15 : decode cX2_lettersRead 15 = .ok (.aload_n 0, 1) := by decide +kernel
theorem dX2_lettersRead_16 : decode cX2_lettersRead 16 = .ok (.getfield 11, 3) := by decide +kernel
theorem dX2_lettersRead_19 : decode cX2_lettersRead 19 = .ok (.iload_n 2, 1) := by decide +kernel
theorem dX2_lettersRead_20 : decode cX2_lettersRead 20 = .ok (.baload, 1) := by decide +kernel
theorem dX2_lettersRead_21 : decode cX2_lettersRead 21 = .ok (.bipush 97, 2) := by decide +kernel
theorem dX2_lettersRead_23 : decode cX2_lettersRead 23 = .ok (.isub, 1) := by decide +kernel
theorem dX2_lettersRead_24 : decode cX2_lettersRead 24 = .ok (.istore_n 3, 1) := by decide +kernel
theorem dX2_lettersRead_25 : decode cX2_lettersRead 25 = .ok (.iload_n 3, 1) := by decide +kernel
theorem dX2_lettersRead_26 : decode cX2_lettersRead 26 = .ok (.ifCond .lt 20, 3) := by decide +kernel
theorem dX2_lettersRead_29 : decode cX2_lettersRead 29 = .ok (.iload_n 3, 1) := by decide +kernel
theorem dX2_lettersRead_30 : decode cX2_lettersRead 30 = .ok (.aload_n 0, 1) := by decide +kernel
theorem dX2_lettersRead_31 : decode cX2_lettersRead 31 = .ok (.getfield 26, 3) := by decide +kernel
theorem dX2_lettersRead_34 : decode cX2_lettersRead 34 = .ok (.if_icmp .ge 12, 3) := by decide +kernel
theorem dX2_lettersRead_37 : decode cX2_lettersRead 37 = .ok (.iload_n 1, 1) := by decide +kernel
theorem dX2_lettersRead_38 : decode cX2_lettersRead 38 = .ok (.iload_n 3, 1) := by decide +kernel
theorem dX2_lettersRead_39 : decode cX2_lettersRead 39 = .ok (.ishr, 1) := by decide +kernel
theorem dX2_lettersRead_40 : decode cX2_lettersRead 40 = .ok (.iconst 1, 1) := by decide +kernel
theorem dX2_lettersRead_41 : decode cX2_lettersRead 41 = .ok (.iand, 1) := by decide +kernel
theorem dX2_lettersRead_42 : decode cX2_lettersRead 42 = .ok (.iconst 1, 1) := by decide +kernel
theorem dX2_lettersRead_43 : decode cX2_lettersRead 43 = .ok (.if_icmp .ne 5, 3) := by decide +kernel
theorem dX2_lettersRead_46 : decode cX2_lettersRead 46 = .ok (.iconst (-1), 1) := by decide +kernel
theorem dX2_lettersRead_47 : decode cX2_lettersRead 47 = .ok (.ireturn, 1) := by decide +kernel
theorem dX2_lettersRead_48 : decode cX2_lettersRead 48 = .ok (.iload_n 1, 1) := by decide +kernel
theorem dX2_lettersRead_49 : decode cX2_lettersRead 49 = .ok (.iconst 1, 1) := by decide +kernel
theorem dX2_lettersRead_50 : decode cX2_lettersRead 50 = .ok (.iload_n 3, 1) := by decide +kernel
theorem dX2_lettersRead_51 : decode cX2_lettersRead 51 = .ok (.ishl, 1) := by decide +kernel
theorem dX2_lettersRead_52 : decode cX2_lettersRead 52 = .ok (.ior, 1) := by decide +kernel
theorem dX2_lettersRead_53 : decode cX2_lettersRead 53 = .ok (.istore_n 1, 1) := by decide +kernel
theorem dX2_lettersRead_54 : decode cX2_lettersRead 54 = .ok (.iinc 2 1, 3) := by decide +kernel
theorem dX2_lettersRead_57 : decode cX2_lettersRead 57 = .ok (.goto (-50), 3) := by decide +kernel
theorem dX2_lettersRead_60 : decode cX2_lettersRead 60 = .ok (.iload_n 1, 1) := by decide +kernel
theorem dX2_lettersRead_61 : decode cX2_lettersRead 61 = .ok (.ireturn, 1) := by decide +kernel
theorem dX3_init_0 : decode cX3_init 0 = .ok (.aload_n 0, 1) := by decide +kernel
theorem dX3_init_1 : decode cX3_init 1 = .ok (.invokespecial 3, 3) := by decide +kernel
theorem dX3_init_4 : decode cX3_init 4 = .ok (.aload_n 0, 1) := by decide +kernel
theorem dX3_init_5 : decode cX3_init 5 = .ok (.sipush 256, 3) := by decide +kernel
theorem dX3_init_8 : decode cX3_init 8 = .ok (.newarray .long, 2) := by decide +kernel
theorem dX3_init_10 : decode cX3_init 10 = .ok (.putfield 9, 3) := by decide +kernel
theorem dX3_init_13 : decode cX3_init 13 = .ok (.aload_n 0, 1) := by decide +kernel
theorem dX3_init_14 : decode cX3_init 14 = .ok (.bipush 9, 2) := by decide +kernel
theorem dX3_init_16 : decode cX3_init 16 = .ok (.newarray .long, 2) := by decide +kernel
theorem dX3_init_18 : decode cX3_init 18 = .ok (.putfield 15, 3) := by decide +kernel
theorem dX3_init_21 : decode cX3_init 21 = .ok (.return_, 1) := by decide +kernel
theorem dX3_slopesOfPower_0 : decode cX3_slopesOfPower 0 = .ok (.aload_n 0, 1) := by decide +kernel
theorem dX3_slopesOfPower_1 : decode cX3_slopesOfPower 1 = .ok (.iload_n 2, 1) := by decide +kernel
theorem dX3_slopesOfPower_2 : decode cX3_slopesOfPower 2 = .ok (.invokevirtual 18, 3) := by decide +kernel
theorem dX3_slopesOfPower_5 : decode cX3_slopesOfPower 5 = .ok (.iconst 0, 1) := by decide +kernel
theorem dX3_slopesOfPower_6 : decode cX3_slopesOfPower 6 = .ok (.istore_n 3, 1) := by decide +kernel
theorem dX3_slopesOfPower_7 : decode cX3_slopesOfPower 7 = .ok (.iload_n 3, 1) := by decide +kernel
theorem dX3_slopesOfPower_8 : decode cX3_slopesOfPower 8 = .ok (.bipush 8, 2) := by decide +kernel
theorem dX3_slopesOfPower_10 : decode cX3_slopesOfPower 10 = .ok (.if_icmp .gt 47, 3) := by decide +kernel
theorem dX3_slopesOfPower_13 : decode cX3_slopesOfPower 13 = .ok (.aload_n 0, 1) := by decide +kernel
theorem dX3_slopesOfPower_14 : decode cX3_slopesOfPower 14 = .ok (.getfield 15, 3) := by decide +kernel
theorem dX3_slopesOfPower_17 : decode cX3_slopesOfPower 17 = .ok (.iload_n 3, 1) := by decide +kernel
theorem dX3_slopesOfPower_18 : decode cX3_slopesOfPower 18 = .ok (.iload_n 3, 1) := by decide +kernel
theorem dX3_slopesOfPower_19 : decode cX3_slopesOfPower 19 = .ok (.iload_n 2, 1) := by decide +kernel
theorem dX3_slopesOfPower_20 : decode cX3_slopesOfPower 20 = .ok (.if_icmp .gt 29, 3) := by decide +kernel
theorem dX3_slopesOfPower_23 : decode cX3_slopesOfPower 23 = .ok (.aload_n 0, 1) := by decide +kernel
theorem dX3_slopesOfPower_24 : decode cX3_slopesOfPower 24 = .ok (.getfield 15, 3) := by decide +kernel
theorem dX3_slopesOfPower_27 : decode cX3_slopesOfPower 27 = .ok (.iload_n 3, 1) := by decide +kernel
theorem dX3_slopesOfPower_28 : decode cX3_slopesOfPower 28 = .ok (.laload, 1) := by decide +kernel
theorem dX3_slopesOfPower_29 : decode cX3_slopesOfPower 29 = .ok (.ldc2_w 22, 3) := by decide +kernel
theorem dX3_slopesOfPower_32 : decode cX3_slopesOfPower 32 = .ok (.lrem, 1) := by decide +kernel
theorem dX3_slopesOfPower_33 : decode cX3_slopesOfPower 33 = .ok (.iload_n 1, 1) := by decide +kernel
theorem dX3_slopesOfPower_34 : decode cX3_slopesOfPower 34 = .ok (.iload_n 2, 1) := by decide +kernel
theorem dX3_slopesOfPower_35 : decode cX3_slopesOfPower 35 = .ok (.iload_n 3, 1) := by decide +kernel
theorem dX3_slopesOfPower_36 : decode cX3_slopesOfPower 36 = .ok (.isub, 1) := by decide +kernel
theorem dX3_slopesOfPower_37 : decode cX3_slopesOfPower 37 = .ok (.invokestatic 24, 3) := by decide +kernel
theorem dX3_slopesOfPower_40 : decode cX3_slopesOfPower 40 = .ok (.i2l, 1) := by decide +kernel
theorem dX3_slopesOfPower_41 : decode cX3_slopesOfPower 41 = .ok (.lmul, 1) := by decide +kernel
theorem dX3_slopesOfPower_42 : decode cX3_slopesOfPower 42 = .ok (.ldc2_w 22, 3) := by decide +kernel
theorem dX3_slopesOfPower_45 : decode cX3_slopesOfPower 45 = .ok (.lrem, 1) := by decide +kernel
theorem dX3_slopesOfPower_46 : decode cX3_slopesOfPower 46 = .ok (.goto 4, 3) := by decide +kernel
theorem dX3_slopesOfPower_49 : decode cX3_slopesOfPower 49 = .ok (.lconst 0, 1) := by decide +kernel
theorem dX3_slopesOfPower_50 : decode cX3_slopesOfPower 50 = .ok (.lastore, 1) := by decide +kernel
theorem dX3_slopesOfPower_51 : decode cX3_slopesOfPower 51 = .ok (.iinc 3 1, 3) := by decide +kernel
theorem dX3_slopesOfPower_54 : decode cX3_slopesOfPower 54 = .ok (.goto (-47), 3) := by decide +kernel
theorem dX3_slopesOfPower_57 : decode cX3_slopesOfPower 57 = .ok (.return_, 1) := by decide +kernel
theorem dX3_slopesOfInverse_0 : decode cX3_slopesOfInverse 0 = .ok (.iload_n 1, 1) := by decide +kernel
theorem dX3_slopesOfInverse_1 : decode cX3_slopesOfInverse 1 = .ok (.ldc 28, 2) := by decide +kernel
theorem dX3_slopesOfInverse_3 : decode cX3_slopesOfInverse 3 = .ok (.invokestatic 24, 3) := by decide +kernel
theorem dX3_slopesOfInverse_6 : decode cX3_slopesOfInverse 6 = .ok (.i2l, 1) := by decide +kernel
theorem dX3_slopesOfInverse_7 : decode cX3_slopesOfInverse 7 = .ok (.lstore_n 2, 1) := by decide +kernel
theorem dX3_slopesOfInverse_8 : decode cX3_slopesOfInverse 8 = .ok (.aload_n 0, 1) := by decide +kernel
theorem dX3_slopesOfInverse_9 : decode cX3_slopesOfInverse 9 = .ok (.getfield 15, 3) := by decide +kernel
theorem dX3_slopesOfInverse_12 : decode cX3_slopesOfInverse 12 = .ok (.iconst 0, 1) := by decide +kernel
theorem dX3_slopesOfInverse_13 : decode cX3_slopesOfInverse 13 = .ok (.lload_n 2, 1) := by decide +kernel
theorem dX3_slopesOfInverse_14 : decode cX3_slopesOfInverse 14 = .ok (.lastore, 1) := by decide +kernel
theorem dX3_slopesOfInverse_15 : decode cX3_slopesOfInverse 15 = .ok (.iconst 1, 1) := by decide +kernel
theorem dX3_slopesOfInverse_16 : decode cX3_slopesOfInverse 16 = .ok (.istore 4, 2) := by decide +kernel
theorem dX3_slopesOfInverse_18 : decode cX3_slopesOfInverse 18 = .ok (.iload 4, 2) := by decide +kernel
theorem dX3_slopesOfInverse_20 : decode cX3_slopesOfInverse 20 = .ok (.bipush 8, 2) := by decide +kernel
theorem dX3_slopesOfInverse_22 : decode cX3_slopesOfInverse 22 = .ok (.if_icmp .gt 40, 3) := by decide +kernel
theorem dX3_slopesOfInverse_25 : decode cX3_slopesOfInverse 25 = .ok (.aload_n 0, 1) := by decide +kernel
theorem dX3_slopesOfInverse_26 : decode cX3_slopesOfInverse 26 = .ok (.getfield 15, 3) := by decide +kernel
theorem dX3_slopesOfInverse_29 : decode cX3_slopesOfInverse 29 = .ok (.iload 4, 2) := by decide +kernel
theorem dX3_slopesOfInverse_31 : decode cX3_slopesOfInverse 31 = .ok (.aload_n 0, 1) := by decide +kernel
theorem dX3_slopesOfInverse_32 : decode cX3_slopesOfInverse 32 = .ok (.getfield 15, 3) := by decide +kernel
theorem dX3_slopesOfInverse_35 : decode cX3_slopesOfInverse 35 = .ok (.iload 4, 2) := by decide +kernel
theorem dX3_slopesOfInverse_37 : decode cX3_slopesOfInverse 37 = .ok (.iconst 1, 1) := by decide +kernel
theorem dX3_slopesOfInverse_38 : decode cX3_slopesOfInverse 38 = .ok (.isub, 1) := by decide +kernel
theorem dX3_slopesOfInverse_39 : decode cX3_slopesOfInverse 39 = .ok (.laload, 1) := by decide +kernel
theorem dX3_slopesOfInverse_40 : decode cX3_slopesOfInverse 40 = .ok (.lneg, 1) := by decide +kernel
theorem dX3_slopesOfInverse_41 : decode cX3_slopesOfInverse 41 = .ok (.iload 4, 2) := by decide +kernel
theorem dX3_slopesOfInverse_43 : decode cX3_slopesOfInverse 43 = .ok (.i2l, 1) := by decide +kernel
theorem dX3_slopesOfInverse_44 : decode cX3_slopesOfInverse 44 = .ok (.lmul, 1) := by decide +kernel
theorem dX3_slopesOfInverse_45 : decode cX3_slopesOfInverse 45 = .ok (.ldc2_w 22, 3) := by decide +kernel
theorem dX3_slopesOfInverse_48 : decode cX3_slopesOfInverse 48 = .ok (.lrem, 1) := by decide +kernel
theorem dX3_slopesOfInverse_49 : decode cX3_slopesOfInverse 49 = .ok (.lload_n 2, 1) := by decide +kernel
theorem dX3_slopesOfInverse_50 : decode cX3_slopesOfInverse 50 = .ok (.lmul, 1) := by decide +kernel
theorem dX3_slopesOfInverse_51 : decode cX3_slopesOfInverse 51 = .ok (.invokestatic 29, 3) := by decide +kernel
theorem dX3_slopesOfInverse_54 : decode cX3_slopesOfInverse 54 = .ok (.i2l, 1) := by decide +kernel
theorem dX3_slopesOfInverse_55 : decode cX3_slopesOfInverse 55 = .ok (.lastore, 1) := by decide +kernel
theorem dX3_slopesOfInverse_56 : decode cX3_slopesOfInverse 56 = .ok (.iinc 4 1, 3) := by decide +kernel
theorem dX3_slopesOfInverse_59 : decode cX3_slopesOfInverse 59 = .ok (.goto (-41), 3) := by decide +kernel
theorem dX3_slopesOfInverse_62 : decode cX3_slopesOfInverse 62 = .ok (.return_, 1) := by decide +kernel
theorem dX3_slopesOfAllWays_0 : decode cX3_slopesOfAllWays 0 = .ok (.iconst 0, 1) := by decide +kernel
theorem dX3_slopesOfAllWays_1 : decode cX3_slopesOfAllWays 1 = .ok (.istore_n 1, 1) := by decide +kernel
theorem dX3_slopesOfAllWays_2 : decode cX3_slopesOfAllWays 2 = .ok (.iload_n 1, 1) := by decide +kernel
theorem dX3_slopesOfAllWays_3 : decode cX3_slopesOfAllWays 3 = .ok (.bipush 8, 2) := by decide +kernel
theorem dX3_slopesOfAllWays_5 : decode cX3_slopesOfAllWays 5 = .ok (.if_icmp .gt 16, 3) := by decide +kernel
theorem dX3_slopesOfAllWays_8 : decode cX3_slopesOfAllWays 8 = .ok (.aload_n 0, 1) := by decide +kernel
theorem dX3_slopesOfAllWays_9 : decode cX3_slopesOfAllWays 9 = .ok (.getfield 15, 3) := by decide +kernel
theorem dX3_slopesOfAllWays_12 : decode cX3_slopesOfAllWays 12 = .ok (.iload_n 1, 1) := by decide +kernel
theorem dX3_slopesOfAllWays_13 : decode cX3_slopesOfAllWays 13 = .ok (.lconst 1, 1) := by decide +kernel
theorem dX3_slopesOfAllWays_14 : decode cX3_slopesOfAllWays 14 = .ok (.lastore, 1) := by decide +kernel
theorem dX3_slopesOfAllWays_15 : decode cX3_slopesOfAllWays 15 = .ok (.iinc 1 1, 3) := by decide +kernel
theorem dX3_slopesOfAllWays_18 : decode cX3_slopesOfAllWays 18 = .ok (.goto (-16), 3) := by decide +kernel
theorem dX3_slopesOfAllWays_21 : decode cX3_slopesOfAllWays 21 = .ok (.return_, 1) := by decide +kernel
theorem dX3_slopesOfRoots_0 : decode cX3_slopesOfRoots 0 = .ok (.aload_n 0, 1) := by decide +kernel
theorem dX3_slopesOfRoots_1 : decode cX3_slopesOfRoots 1 = .ok (.getfield 15, 3) := by decide +kernel
theorem dX3_slopesOfRoots_4 : decode cX3_slopesOfRoots 4 = .ok (.iconst 0, 1) := by decide +kernel
theorem dX3_slopesOfRoots_5 : decode cX3_slopesOfRoots 5 = .ok (.lconst 0, 1) := by decide +kernel
theorem dX3_slopesOfRoots_6 : decode cX3_slopesOfRoots 6 = .ok (.lastore, 1) := by decide +kernel
theorem dX3_slopesOfRoots_7 : decode cX3_slopesOfRoots 7 = .ok (.aload_n 0, 1) := by decide +kernel
theorem dX3_slopesOfRoots_8 : decode cX3_slopesOfRoots 8 = .ok (.getfield 15, 3) := by decide +kernel
theorem dX3_slopesOfRoots_11 : decode cX3_slopesOfRoots 11 = .ok (.iconst 1, 1) := by decide +kernel
theorem dX3_slopesOfRoots_12 : decode cX3_slopesOfRoots 12 = .ok (.lconst 1, 1) := by decide +kernel
theorem dX3_slopesOfRoots_13 : decode cX3_slopesOfRoots 13 = .ok (.lastore, 1) := by decide +kernel
theorem dX3_slopesOfRoots_14 : decode cX3_slopesOfRoots 14 = .ok (.iconst 2, 1) := by decide +kernel
theorem dX3_slopesOfRoots_15 : decode cX3_slopesOfRoots 15 = .ok (.istore_n 1, 1) := by decide +kernel
theorem dX3_slopesOfRoots_16 : decode cX3_slopesOfRoots 16 = .ok (.iload_n 1, 1) := by decide +kernel
theorem dX3_slopesOfRoots_17 : decode cX3_slopesOfRoots 17 = .ok (.bipush 8, 2) := by decide +kernel
theorem dX3_slopesOfRoots_19 : decode cX3_slopesOfRoots 19 = .ok (.if_icmp .gt 29, 3) := by decide +kernel
theorem dX3_slopesOfRoots_22 : decode cX3_slopesOfRoots 22 = .ok (.aload_n 0, 1) := by decide +kernel
theorem dX3_slopesOfRoots_23 : decode cX3_slopesOfRoots 23 = .ok (.getfield 15, 3) := by decide +kernel
theorem dX3_slopesOfRoots_26 : decode cX3_slopesOfRoots 26 = .ok (.iload_n 1, 1) := by decide +kernel
theorem dX3_slopesOfRoots_27 : decode cX3_slopesOfRoots 27 = .ok (.aload_n 0, 1) := by decide +kernel
theorem dX3_slopesOfRoots_28 : decode cX3_slopesOfRoots 28 = .ok (.getfield 15, 3) := by decide +kernel
theorem dX3_slopesOfRoots_31 : decode cX3_slopesOfRoots 31 = .ok (.iload_n 1, 1) := by decide +kernel
theorem dX3_slopesOfRoots_32 : decode cX3_slopesOfRoots 32 = .ok (.iconst 1, 1) := by decide +kernel
theorem dX3_slopesOfRoots_33 : decode cX3_slopesOfRoots 33 = .ok (.isub, 1) := by decide +kernel
theorem dX3_slopesOfRoots_34 : decode cX3_slopesOfRoots 34 = .ok (.laload, 1) := by decide +kernel
theorem dX3_slopesOfRoots_35 : decode cX3_slopesOfRoots 35 = .ok (.lneg, 1) := by decide +kernel
theorem dX3_slopesOfRoots_36 : decode cX3_slopesOfRoots 36 = .ok (.iload_n 1, 1) := by decide +kernel
theorem dX3_slopesOfRoots_37 : decode cX3_slopesOfRoots 37 = .ok (.iconst 1, 1) := by decide +kernel
theorem dX3_slopesOfRoots_38 : decode cX3_slopesOfRoots 38 = .ok (.isub, 1) := by decide +kernel
theorem dX3_slopesOfRoots_39 : decode cX3_slopesOfRoots 39 = .ok (.i2l, 1) := by decide +kernel
theorem dX3_slopesOfRoots_40 : decode cX3_slopesOfRoots 40 = .ok (.lmul, 1) := by decide +kernel
theorem dX3_slopesOfRoots_41 : decode cX3_slopesOfRoots 41 = .ok (.lastore, 1) := by decide +kernel
theorem dX3_slopesOfRoots_42 : decode cX3_slopesOfRoots 42 = .ok (.iinc 1 1, 3) := by decide +kernel
theorem dX3_slopesOfRoots_45 : decode cX3_slopesOfRoots 45 = .ok (.goto (-29), 3) := by decide +kernel
theorem dX3_slopesOfRoots_48 : decode cX3_slopesOfRoots 48 = .ok (.return_, 1) := by decide +kernel
theorem dX3_slopesOfCount_0 : decode cX3_slopesOfCount 0 = .ok (.iconst 0, 1) := by decide +kernel
theorem dX3_slopesOfCount_1 : decode cX3_slopesOfCount 1 = .ok (.istore_n 2, 1) := by decide +kernel
theorem dX3_slopesOfCount_2 : decode cX3_slopesOfCount 2 = .ok (.iload_n 2, 1) := by decide +kernel
theorem dX3_slopesOfCount_3 : decode cX3_slopesOfCount 3 = .ok (.bipush 8, 2) := by decide +kernel
theorem dX3_slopesOfCount_5 : decode cX3_slopesOfCount 5 = .ok (.if_icmp .gt 25, 3) := by decide +kernel
theorem dX3_slopesOfCount_8 : decode cX3_slopesOfCount 8 = .ok (.aload_n 0, 1) := by decide +kernel
theorem dX3_slopesOfCount_9 : decode cX3_slopesOfCount 9 = .ok (.getfield 15, 3) := by decide +kernel
theorem dX3_slopesOfCount_12 : decode cX3_slopesOfCount 12 = .ok (.iload_n 2, 1) := by decide +kernel
theorem dX3_slopesOfCount_13 : decode cX3_slopesOfCount 13 = .ok (.iload_n 2, 1) := by decide +kernel
theorem dX3_slopesOfCount_14 : decode cX3_slopesOfCount 14 = .ok (.iload_n 1, 1) := by decide +kernel
theorem dX3_slopesOfCount_15 : decode cX3_slopesOfCount 15 = .ok (.if_icmp .ne 7, 3) := by decide +kernel
theorem dX3_slopesOfCount_18 : decode cX3_slopesOfCount 18 = .ok (.lconst 1, 1) := by decide +kernel
theorem dX3_slopesOfCount_19 : decode cX3_slopesOfCount 19 = .ok (.goto 4, 3) := by decide +kernel
theorem dX3_slopesOfCount_22 : decode cX3_slopesOfCount 22 = .ok (.lconst 0, 1) := by decide +kernel
theorem dX3_slopesOfCount_23 : decode cX3_slopesOfCount 23 = .ok (.lastore, 1) := by decide +kernel
theorem dX3_slopesOfCount_24 : decode cX3_slopesOfCount 24 = .ok (.iinc 2 1, 3) := by decide +kernel
theorem dX3_slopesOfCount_27 : decode cX3_slopesOfCount 27 = .ok (.goto (-25), 3) := by decide +kernel
theorem dX3_slopesOfCount_30 : decode cX3_slopesOfCount 30 = .ok (.return_, 1) := by decide +kernel
theorem dX3_slopesOfChoices_0 : decode cX3_slopesOfChoices 0 = .ok (.aload_n 0, 1) := by decide +kernel
theorem dX3_slopesOfChoices_1 : decode cX3_slopesOfChoices 1 = .ok (.getfield 15, 3) := by decide +kernel
theorem dX3_slopesOfChoices_4 : decode cX3_slopesOfChoices 4 = .ok (.iconst 0, 1) := by decide +kernel
theorem dX3_slopesOfChoices_5 : decode cX3_slopesOfChoices 5 = .ok (.lconst 1, 1) := by decide +kernel
theorem dX3_slopesOfChoices_6 : decode cX3_slopesOfChoices 6 = .ok (.lastore, 1) := by decide +kernel
theorem dX3_slopesOfChoices_7 : decode cX3_slopesOfChoices 7 = .ok (.iconst 1, 1) := by decide +kernel
theorem dX3_slopesOfChoices_8 : decode cX3_slopesOfChoices 8 = .ok (.istore_n 2, 1) := by decide +kernel
theorem dX3_slopesOfChoices_9 : decode cX3_slopesOfChoices 9 = .ok (.iload_n 2, 1) := by decide +kernel
theorem dX3_slopesOfChoices_10 : decode cX3_slopesOfChoices 10 = .ok (.bipush 8, 2) := by decide +kernel
theorem dX3_slopesOfChoices_12 : decode cX3_slopesOfChoices 12 = .ok (.if_icmp .gt 30, 3) := by decide +kernel
theorem dX3_slopesOfChoices_15 : decode cX3_slopesOfChoices 15 = .ok (.aload_n 0, 1) := by decide +kernel
theorem dX3_slopesOfChoices_16 : decode cX3_slopesOfChoices 16 = .ok (.getfield 15, 3) := by decide +kernel
theorem dX3_slopesOfChoices_19 : decode cX3_slopesOfChoices 19 = .ok (.iload_n 2, 1) := by decide +kernel
theorem dX3_slopesOfChoices_20 : decode cX3_slopesOfChoices 20 = .ok (.aload_n 0, 1) := by decide +kernel
theorem dX3_slopesOfChoices_21 : decode cX3_slopesOfChoices 21 = .ok (.getfield 15, 3) := by decide +kernel
theorem dX3_slopesOfChoices_24 : decode cX3_slopesOfChoices 24 = .ok (.iload_n 2, 1) := by decide +kernel
theorem dX3_slopesOfChoices_25 : decode cX3_slopesOfChoices 25 = .ok (.iconst 1, 1) := by decide +kernel
theorem dX3_slopesOfChoices_26 : decode cX3_slopesOfChoices 26 = .ok (.isub, 1) := by decide +kernel
theorem dX3_slopesOfChoices_27 : decode cX3_slopesOfChoices 27 = .ok (.laload, 1) := by decide +kernel
theorem dX3_slopesOfChoices_28 : decode cX3_slopesOfChoices 28 = .ok (.iload_n 1, 1) := by decide +kernel
theorem dX3_slopesOfChoices_29 : decode cX3_slopesOfChoices 29 = .ok (.iload_n 2, 1) := by decide +kernel
theorem dX3_slopesOfChoices_30 : decode cX3_slopesOfChoices 30 = .ok (.isub, 1) := by decide +kernel
theorem dX3_slopesOfChoices_31 : decode cX3_slopesOfChoices 31 = .ok (.iconst 1, 1) := by decide +kernel
theorem dX3_slopesOfChoices_32 : decode cX3_slopesOfChoices 32 = .ok (.iadd, 1) := by decide +kernel
theorem dX3_slopesOfChoices_33 : decode cX3_slopesOfChoices 33 = .ok (.i2l, 1) := by decide +kernel
theorem dX3_slopesOfChoices_34 : decode cX3_slopesOfChoices 34 = .ok (.lmul, 1) := by decide +kernel
theorem dX3_slopesOfChoices_35 : decode cX3_slopesOfChoices 35 = .ok (.lastore, 1) := by decide +kernel
theorem dX3_slopesOfChoices_36 : decode cX3_slopesOfChoices 36 = .ok (.iinc 2 1, 3) := by decide +kernel
theorem dX3_slopesOfChoices_39 : decode cX3_slopesOfChoices 39 = .ok (.goto (-30), 3) := by decide +kernel
theorem dX3_slopesOfChoices_42 : decode cX3_slopesOfChoices 42 = .ok (.return_, 1) := by decide +kernel
theorem dX3_compose_0 : decode cX3_compose 0 = .ok (.iconst 1, 1) := by decide +kernel
theorem dX3_compose_1 : decode cX3_compose 1 = .ok (.iload_n 2, 1) := by decide +kernel
theorem dX3_compose_2 : decode cX3_compose 2 = .ok (.ishl, 1) := by decide +kernel
theorem dX3_compose_3 : decode cX3_compose 3 = .ok (.istore 4, 2) := by decide +kernel
theorem dX3_compose_5 : decode cX3_compose 5 = .ok (.aload_n 0, 1) := by decide +kernel
theorem dX3_compose_6 : decode cX3_compose 6 = .ok (.getfield 9, 3) := by decide +kernel
theorem dX3_compose_9 : decode cX3_compose 9 = .ok (.iconst 0, 1) := by decide +kernel
theorem dX3_compose_10 : decode cX3_compose 10 = .ok (.aload_n 0, 1) := by decide +kernel
theorem dX3_compose_11 : decode cX3_compose 11 = .ok (.getfield 15, 3) := by decide +kernel
theorem dX3_compose_14 : decode cX3_compose 14 = .ok (.iload_n 2, 1) := by decide +kernel
theorem dX3_compose_15 : decode cX3_compose 15 = .ok (.laload, 1) := by decide +kernel
theorem dX3_compose_16 : decode cX3_compose 16 = .ok (.lastore, 1) := by decide +kernel
theorem dX3_compose_17 : decode cX3_compose 17 = .ok (.iload_n 2, 1) := by decide +kernel
theorem dX3_compose_18 : decode cX3_compose 18 = .ok (.iconst 1, 1) := by decide +kernel
theorem dX3_compose_19 : decode cX3_compose 19 = .ok (.isub, 1) := by decide +kernel
theorem dX3_compose_20 : decode cX3_compose 20 = .ok (.istore 5, 2) := by decide +kernel
theorem dX3_compose_22 : decode cX3_compose 22 = .ok (.iload 5, 2) := by decide +kernel
theorem dX3_compose_24 : decode cX3_compose 24 = .ok (.ifCond .lt 81, 3) := by decide +kernel
theorem dX3_compose_27 : decode cX3_compose 27 = .ok (.iconst 1, 1) := by decide +kernel
theorem dX3_compose_28 : decode cX3_compose 28 = .ok (.iload 5, 2) := by decide +kernel
theorem dX3_compose_30 : decode cX3_compose 30 = .ok (.ishl, 1) := by decide +kernel
theorem dX3_compose_31 : decode cX3_compose 31 = .ok (.istore 6, 2) := by decide +kernel
theorem dX3_compose_33 : decode cX3_compose 33 = .ok (.iload 4, 2) := by decide +kernel
theorem dX3_compose_35 : decode cX3_compose 35 = .ok (.iload 6, 2) := by decide +kernel
theorem dX3_compose_37 : decode cX3_compose 37 = .ok (.isub, 1) := by decide +kernel
theorem dX3_compose_38 : decode cX3_compose 38 = .ok (.istore 7, 2) := by decide +kernel
theorem dX3_compose_40 : decode cX3_compose 40 = .ok (.iload 7, 2) := by decide +kernel
theorem dX3_compose_42 : decode cX3_compose 42 = .ok (.ifCond .le 44, 3) := by decide +kernel
theorem dX3_compose_45 : decode cX3_compose 45 = .ok (.aload_n 0, 1) := by decide +kernel
theorem dX3_compose_46 : decode cX3_compose 46 = .ok (.aload_n 1, 1) := by decide +kernel
theorem dX3_compose_47 : decode cX3_compose 47 = .ok (.iload 7, 2) := by decide +kernel
theorem dX3_compose_49 : decode cX3_compose 49 = .ok (.invokevirtual 33, 3) := by decide +kernel
theorem dX3_compose_52 : decode cX3_compose 52 = .ok (.lstore 8, 2) := by decide +kernel
theorem dX3_compose_54 : decode cX3_compose 54 = .ok (.aload_n 0, 1) := by decide +kernel
theorem dX3_compose_55 : decode cX3_compose 55 = .ok (.getfield 9, 3) := by decide +kernel
theorem dX3_compose_58 : decode cX3_compose 58 = .ok (.iload 7, 2) := by decide +kernel
theorem dX3_compose_60 : decode cX3_compose 60 = .ok (.iload_n 3, 1) := by decide +kernel
theorem dX3_compose_61 : decode cX3_compose 61 = .ok (.ifCond .eq 8, 3) := by decide +kernel
theorem dX3_compose_64 : decode cX3_compose 64 = .ok (.lload 8, 2) := by decide +kernel
theorem dX3_compose_66 : decode cX3_compose 66 = .ok (.goto 9, 3) := by decide +kernel
theorem dX3_compose_69 : decode cX3_compose 69 = .ok (.lload 8, 2) := by decide +kernel
theorem dX3_compose_71 : decode cX3_compose 71 = .ok (.invokestatic 29, 3) := by decide +kernel
theorem dX3_compose_74 : decode cX3_compose 74 = .ok (.i2l, 1) := by decide +kernel
theorem dX3_compose_75 : decode cX3_compose 75 = .ok (.lastore, 1) := by decide +kernel
theorem dX3_compose_76 : decode cX3_compose 76 = .ok (.iload 7, 2) := by decide +kernel
theorem dX3_compose_78 : decode cX3_compose 78 = .ok (.iload 6, 2) := by decide +kernel
theorem dX3_compose_80 : decode cX3_compose 80 = .ok (.isub, 1) := by decide +kernel
theorem dX3_compose_81 : decode cX3_compose 81 = .ok (.istore 7, 2) := by decide +kernel
