theorem dX4_lay_59 : decode cX4_lay 59 = .ok (.i2l, 1) := by decide +kernel
theorem dX4_lay_60 : decode cX4_lay 60 = .ok (.invokestatic 124, 3) := by decide +kernel
theorem dX4_lay_63 : decode cX4_lay 63 = .ok (.iastore, 1) := by decide +kernel
theorem dX4_lay_64 : decode cX4_lay 64 = .ok (.iinc 3 1, 3) := by decide +kernel
theorem dX4_lay_67 : decode cX4_lay 67 = .ok (.goto (-30), 3) := by decide +kernel
theorem dX4_lay_70 : decode cX4_lay 70 = .ok (.aload_n 0, 1) := by decide +kernel
theorem dX4_lay_71 : decode cX4_lay 71 = .ok (.aload_n 0, 1) := by decide +kernel
theorem dX4_lay_72 : decode cX4_lay 72 = .ok (.getfield 43, 3) := by decide +kernel
theorem dX4_lay_75 : decode cX4_lay 75 = .ok (.iload_n 1, 1) := by decide +kernel
theorem dX4_lay_76 : decode cX4_lay 76 = .ok (.invokevirtual 135, 3) := by decide +kernel
theorem dX4_lay_79 : decode cX4_lay 79 = .ok (.ireturn, 1) := by decide +kernel
set_option maxRecDepth 20000 in
theorem ggX4_sum_X4_transformRow : GoodIn wsX4_sum wsX4_transformRow := goodIn_r _ [5, 6, 7, 8, 9, 10, 11, 12, 13, 14, 15, 16, 17, 18, 19, 20, 21, 22, 23, 24, 25, 26, 27, 28, 29, 30, 31, 32, 33, 34, 35, 36, 37, 38, 39, 40, 41, 4, 42, 43, 44, 45, 46, 47, 48, 49, 50, 51, 52, 53, 54, 55, 56, 57, 58, 59, 60, 61, 62, 63, 64, 65, 66, 67, 68, 69, 70, 71, 72, 73, 74] (by decide +kernel) (by decide +kernel)
set_option maxRecDepth 20000 in
theorem gX4_sum_X4_transformRow : GoodIn wsX4_sum (wsV RX4 139 RX4 yX4_transformRow wsX4_transformRow) := goodIn_app (goodIn_of _ (by decide +kernel)) ggX4_sum_X4_transformRow
theorem dX4_sum_0 : decode cX4_sum 0 = .ok (.aload_n 0, 1) := by decide +kernel
theorem dX4_sum_1 : decode cX4_sum 1 = .ok (.iload_n 1, 1) := by decide +kernel
theorem dX4_sum_2 : decode cX4_sum 2 = .ok (.iload_n 2, 1) := by decide +kernel
theorem dX4_sum_3 : decode cX4_sum 3 = .ok (.iconst 0, 1) := by decide +kernel
theorem dX4_sum_4 : decode cX4_sum 4 = .ok (.invokevirtual 139, 3) := by decide +kernel
theorem dX4_sum_7 : decode cX4_sum 7 = .ok (.ireturn, 1) := by decide +kernel
set_option maxRecDepth 20000 in
theorem ggX4_back_X4_transformRow : GoodIn wsX4_back wsX4_transformRow := goodIn_r _ [5, 6, 7, 8, 9, 10, 11, 12, 13, 14, 15, 16, 17, 18, 19, 20, 21, 22, 23, 24, 25, 26, 27, 28, 29, 30, 31, 32, 33, 34, 35, 36, 37, 38, 39, 40, 41, 4, 42, 43, 44, 45, 46, 47, 48, 49, 50, 51, 52, 53, 54, 55, 56, 57, 58, 59, 60, 61, 62, 63, 64, 65, 66, 67, 68, 69, 70, 71, 72, 73, 74] (by decide +kernel) (by decide +kernel)
set_option maxRecDepth 20000 in
theorem gX4_back_X4_transformRow : GoodIn wsX4_back (wsV RX4 139 RX4 yX4_transformRow wsX4_transformRow) := goodIn_app (goodIn_of _ (by decide +kernel)) ggX4_back_X4_transformRow
theorem dX4_back_0 : decode cX4_back 0 = .ok (.aload_n 0, 1) := by decide +kernel
theorem dX4_back_1 : decode cX4_back 1 = .ok (.iload_n 1, 1) := by decide +kernel
theorem dX4_back_2 : decode cX4_back 2 = .ok (.iload_n 2, 1) := by decide +kernel
theorem dX4_back_3 : decode cX4_back 3 = .ok (.iconst 1, 1) := by decide +kernel
theorem dX4_back_4 : decode cX4_back 4 = .ok (.invokevirtual 139, 3) := by decide +kernel
theorem dX4_back_7 : decode cX4_back 7 = .ok (.ireturn, 1) := by decide +kernel
set_option maxRecDepth 20000 in
theorem ggX4_times_X1_hasRow : GoodIn wsX4_times wsX1_hasRow := goodIn_r _ [8, 9, 82, 83, 84, 85] (by decide +kernel) (by decide +kernel)
set_option maxRecDepth 20000 in
theorem gX4_times_X1_hasRow : GoodIn wsX4_times (wsV RX4 117 RX1 yX1_hasRow wsX1_hasRow) := goodIn_app (goodIn_of _ (by decide +kernel)) ggX4_times_X1_hasRow
set_option maxRecDepth 20000 in
theorem ggX4_times_X4_multiplyApart : GoodIn wsX4_times wsX4_multiplyApart := goodIn_r _ [14, 1, 3, 15, 16, 17, 7, 18, 9, 19, 20, 13, 21, 22, 73, 74, 75, 76, 77, 78, 79, 80, 81, 82, 83, 84, 85] (by decide +kernel) (by decide +kernel)
set_option maxRecDepth 20000 in
theorem gX4_times_X4_multiplyApart : GoodIn wsX4_times (wsV RX4 143 RX4 yX4_multiplyApart wsX4_multiplyApart) := goodIn_app (goodIn_of _ (by decide +kernel)) ggX4_times_X4_multiplyApart
set_option maxRecDepth 20000 in
theorem ggX4_times_X4_multiplyTransformed : GoodIn wsX4_times wsX4_multiplyTransformed := goodIn_r _ [26, 3, 27, 28, 29, 30, 31, 1, 32, 33, 34, 13, 35, 36, 37, 38, 39, 19, 20, 21, 22, 15, 16, 17, 7, 18, 9, 40, 41, 42, 73, 74, 75, 76, 77, 78, 79, 80, 81, 82, 83, 84, 85] (by decide +kernel) (by decide +kernel)
set_option maxRecDepth 20000 in
theorem gX4_times_X4_multiplyTransformed : GoodIn wsX4_times (wsV RX4 147 RX4 yX4_multiplyTransformed wsX4_multiplyTransformed) := goodIn_app (goodIn_of _ (by decide +kernel)) ggX4_times_X4_multiplyTransformed
set_option maxRecDepth 20000 in
theorem ggX4_times_X4_settle : GoodIn wsX4_times wsX4_settle := goodIn_r _ [46, 47, 1, 2, 27, 28, 29, 30, 48, 49, 50, 51, 52, 53, 54, 55, 56, 57, 58, 59, 60, 61, 62, 63, 64, 65, 66, 67, 68, 15, 16, 17, 7, 18, 9, 69, 70, 71, 72, 73, 74, 75, 76, 77, 78, 79, 80, 81, 82, 83, 84, 85, 86, 87, 88, 89, 90, 91, 92] (by decide +kernel) (by decide +kernel)
set_option maxRecDepth 20000 in
theorem gX4_times_X4_settle : GoodIn wsX4_times (wsV RX4 135 RX4 yX4_settle wsX4_settle) := goodIn_app (goodIn_of _ (by decide +kernel)) ggX4_times_X4_settle
theorem dX4_times_0 : decode cX4_times 0 = .ok (.aload_n 0, 1) := by decide +kernel
theorem dX4_times_1 : decode cX4_times 1 = .ok (.getfield 10, 3) := by decide +kernel
theorem dX4_times_4 : decode cX4_times 4 = .ok (.iload_n 1, 1) := by decide +kernel
theorem dX4_times_5 : decode cX4_times 5 = .ok (.invokevirtual 117, 3) := by decide +kernel
theorem dX4_times_8 : decode cX4_times 8 = .ok (.ifCond .eq 36, 3) := by decide +kernel
theorem dX4_times_11 : decode cX4_times 11 = .ok (.aload_n 0, 1) := by decide +kernel
theorem dX4_times_12 : decode cX4_times 12 = .ok (.getfield 10, 3) := by decide +kernel
theorem dX4_times_15 : decode cX4_times 15 = .ok (.iload_n 2, 1) := by decide +kernel
theorem dX4_times_16 : decode cX4_times 16 = .ok (.invokevirtual 117, 3) := by decide +kernel
theorem dX4_times_19 : decode cX4_times 19 = .ok (.ifCond .eq 25, 3) := by decide +kernel
theorem dX4_times_22 : decode cX4_times 22 = .ok (.aload_n 0, 1) := by decide +kernel
theorem dX4_times_23 : decode cX4_times 23 = .ok (.getfield 10, 3) := by decide +kernel
theorem dX4_times_26 : decode cX4_times 26 = .ok (.iload 4, 2) := by decide +kernel
theorem dX4_times_28 : decode cX4_times 28 = .ok (.invokevirtual 117, 3) := by decide +kernel
theorem dX4_times_31 : decode cX4_times 31 = .ok (.ifCond .eq 13, 3) := by decide +kernel
theorem dX4_times_34 : decode cX4_times 34 = .ok (.iload_n 3, 1) := by decide +kernel
theorem dX4_times_35 : decode cX4_times 35 = .ok (.ifCond .lt 9, 3) := by decide +kernel
theorem dX4_times_38 : decode cX4_times 38 = .ok (.iload_n 3, 1) := by decide +kernel
theorem dX4_times_39 : decode cX4_times 39 = .ok (.bipush 6, 2) := by decide +kernel
theorem dX4_times_41 : decode cX4_times 41 = .ok (.if_icmp .le 5, 3) := by decide +kernel
theorem dX4_times_44 : decode cX4_times 44 = .ok (.iconst (-1), 1) := by decide +kernel
theorem dX4_times_45 : decode cX4_times 45 = .ok (.ireturn, 1) := by decide +kernel
theorem dX4_times_46 : decode cX4_times 46 = .ok (.iload_n 3, 1) := by decide +kernel
theorem dX4_times_47 : decode cX4_times 47 = .ok (.ifCond .ne 28, 3) := by decide +kernel
theorem dX4_times_50 : decode cX4_times 50 = .ok (.aload_n 0, 1) := by decide +kernel
theorem dX4_times_51 : decode cX4_times 51 = .ok (.aload_n 0, 1) := by decide +kernel
theorem dX4_times_52 : decode cX4_times 52 = .ok (.getfield 10, 3) := by decide +kernel
theorem dX4_times_55 : decode cX4_times 55 = .ok (.getfield 106, 3) := by decide +kernel
theorem dX4_times_58 : decode cX4_times 58 = .ok (.iload_n 1, 1) := by decide +kernel
theorem dX4_times_59 : decode cX4_times 59 = .ok (.aaload, 1) := by decide +kernel
theorem dX4_times_60 : decode cX4_times 60 = .ok (.aload_n 0, 1) := by decide +kernel
theorem dX4_times_61 : decode cX4_times 61 = .ok (.getfield 10, 3) := by decide +kernel
theorem dX4_times_64 : decode cX4_times 64 = .ok (.getfield 106, 3) := by decide +kernel
theorem dX4_times_67 : decode cX4_times 67 = .ok (.iload_n 2, 1) := by decide +kernel
theorem dX4_times_68 : decode cX4_times 68 = .ok (.aaload, 1) := by decide +kernel
theorem dX4_times_69 : decode cX4_times 69 = .ok (.invokevirtual 143, 3) := by decide +kernel
theorem dX4_times_72 : decode cX4_times 72 = .ok (.goto 26, 3) := by decide +kernel
theorem dX4_times_75 : decode cX4_times 75 = .ok (.aload_n 0, 1) := by decide +kernel
theorem dX4_times_76 : decode cX4_times 76 = .ok (.aload_n 0, 1) := by decide +kernel
theorem dX4_times_77 : decode cX4_times 77 = .ok (.getfield 10, 3) := by decide +kernel
theorem dX4_times_80 : decode cX4_times 80 = .ok (.getfield 106, 3) := by decide +kernel
theorem dX4_times_83 : decode cX4_times 83 = .ok (.iload_n 1, 1) := by decide +kernel
theorem dX4_times_84 : decode cX4_times 84 = .ok (.aaload, 1) := by decide +kernel
theorem dX4_times_85 : decode cX4_times 85 = .ok (.aload_n 0, 1) := by decide +kernel
theorem dX4_times_86 : decode cX4_times 86 = .ok (.getfield 10, 3) := by decide +kernel
theorem dX4_times_89 : decode cX4_times 89 = .ok (.getfield 106, 3) := by decide +kernel
theorem dX4_times_92 : decode cX4_times 92 = .ok (.iload_n 2, 1) := by decide +kernel
theorem dX4_times_93 : decode cX4_times 93 = .ok (.aaload, 1) := by decide +kernel
theorem dX4_times_94 : decode cX4_times 94 = .ok (.iload_n 3, 1) := by decide +kernel
theorem dX4_times_95 : decode cX4_times 95 = .ok (.invokevirtual 147, 3) := by decide +kernel
theorem dX4_times_98 : decode cX4_times 98 = .ok (.aload_n 0, 1) := by decide +kernel
theorem dX4_times_99 : decode cX4_times 99 = .ok (.aload_n 0, 1) := by decide +kernel
theorem dX4_times_100 : decode cX4_times 100 = .ok (.getfield 43, 3) := by decide +kernel
theorem dX4_times_103 : decode cX4_times 103 = .ok (.iload 4, 2) := by decide +kernel
theorem dX4_times_105 : decode cX4_times 105 = .ok (.invokevirtual 135, 3) := by decide +kernel
theorem dX4_times_108 : decode cX4_times 108 = .ok (.ireturn, 1) := by decide +kernel
set_option maxRecDepth 20000 in
theorem ggX4_power_X1_hasRow : GoodIn wsX4_power wsX1_hasRow := goodIn_r _ [8, 9, 90, 91, 92, 93] (by decide +kernel) (by decide +kernel)
set_option maxRecDepth 20000 in
theorem gX4_power_X1_hasRow : GoodIn wsX4_power (wsV RX4 117 RX1 yX1_hasRow wsX1_hasRow) := goodIn_app (goodIn_of _ (by decide +kernel)) ggX4_power_X1_hasRow
set_option maxRecDepth 20000 in
theorem ggX4_power_X3_slopesOfPower : GoodIn wsX4_power wsX3_slopesOfPower := goodIn_r _ [14, 15, 16, 17, 18, 19, 13, 20, 21, 22, 23, 24, 94, 95] (by decide +kernel) (by decide +kernel)
set_option maxRecDepth 20000 in
theorem gX4_power_X3_slopesOfPower : GoodIn wsX4_power (wsV RX4 151 RX3 yX3_slopesOfPower wsX3_slopesOfPower) := goodIn_app (goodIn_of _ (by decide +kernel)) ggX4_power_X3_slopesOfPower
set_option maxRecDepth 20000 in
theorem ggX4_power_X4_composeRow : GoodIn wsX4_power wsX4_composeRow := goodIn_r _ [28, 2, 1, 3, 29, 30, 31, 32, 33, 34, 13, 35, 36, 15, 37, 38, 39, 40, 41, 22, 42, 24, 43, 44, 45, 7, 46, 9, 47, 48, 49, 50, 51, 52, 53, 54, 55, 56, 57, 58, 59, 60, 61, 62, 63, 64, 65, 66, 67, 68, 69, 70, 71, 72, 73, 74, 75, 76, 77, 78, 79, 80, 81, 82, 83, 84, 85, 86, 87, 88, 89, 90, 91, 92, 93, 94, 95, 96, 97, 98, 99, 100, 101, 102] (by decide +kernel) (by decide +kernel)
set_option maxRecDepth 20000 in
theorem gX4_power_X4_composeRow : GoodIn wsX4_power (wsV RX4 155 RX4 yX4_composeRow wsX4_composeRow) := goodIn_app (goodIn_of _ (by decide +kernel)) ggX4_power_X4_composeRow
theorem dX4_power_0 : decode cX4_power 0 = .ok (.aload_n 0, 1) := by decide +kernel
theorem dX4_power_1 : decode cX4_power 1 = .ok (.getfield 10, 3) := by decide +kernel
theorem dX4_power_4 : decode cX4_power 4 = .ok (.iload_n 1, 1) := by decide +kernel
theorem dX4_power_5 : decode cX4_power 5 = .ok (.invokevirtual 117, 3) := by decide +kernel
theorem dX4_power_8 : decode cX4_power 8 = .ok (.ifCond .eq 24, 3) := by decide +kernel
theorem dX4_power_11 : decode cX4_power 11 = .ok (.aload_n 0, 1) := by decide +kernel
theorem dX4_power_12 : decode cX4_power 12 = .ok (.getfield 10, 3) := by decide +kernel
theorem dX4_power_15 : decode cX4_power 15 = .ok (.iload_n 3, 1) := by decide +kernel
theorem dX4_power_16 : decode cX4_power 16 = .ok (.invokevirtual 117, 3) := by decide +kernel
theorem dX4_power_19 : decode cX4_power 19 = .ok (.ifCond .eq 13, 3) := by decide +kernel
theorem dX4_power_22 : decode cX4_power 22 = .ok (.iload_n 2, 1) := by decide +kernel
theorem dX4_power_23 : decode cX4_power 23 = .ok (.ifCond .lt 9, 3) := by decide +kernel
theorem dX4_power_26 : decode cX4_power 26 = .ok (.iload_n 2, 1) := by decide +kernel
theorem dX4_power_27 : decode cX4_power 27 = .ok (.bipush 99, 2) := by decide +kernel
theorem dX4_power_29 : decode cX4_power 29 = .ok (.if_icmp .le 5, 3) := by decide +kernel
theorem dX4_power_32 : decode cX4_power 32 = .ok (.iconst (-1), 1) := by decide +kernel
theorem dX4_power_33 : decode cX4_power 33 = .ok (.ireturn, 1) := by decide +kernel
theorem dX4_power_34 : decode cX4_power 34 = .ok (.aload_n 0, 1) := by decide +kernel
theorem dX4_power_35 : decode cX4_power 35 = .ok (.getfield 39, 3) := by decide +kernel
theorem dX4_power_38 : decode cX4_power 38 = .ok (.aload_n 0, 1) := by decide +kernel
theorem dX4_power_39 : decode cX4_power 39 = .ok (.getfield 10, 3) := by decide +kernel
theorem dX4_power_42 : decode cX4_power 42 = .ok (.getfield 106, 3) := by decide +kernel
theorem dX4_power_45 : decode cX4_power 45 = .ok (.iload_n 1, 1) := by decide +kernel
theorem dX4_power_46 : decode cX4_power 46 = .ok (.aaload, 1) := by decide +kernel
theorem dX4_power_47 : decode cX4_power 47 = .ok (.iconst 0, 1) := by decide +kernel
theorem dX4_power_48 : decode cX4_power 48 = .ok (.iaload, 1) := by decide +kernel
theorem dX4_power_49 : decode cX4_power 49 = .ok (.iload_n 2, 1) := by decide +kernel
theorem dX4_power_50 : decode cX4_power 50 = .ok (.invokevirtual 151, 3) := by decide +kernel
theorem dX4_power_53 : decode cX4_power 53 = .ok (.aload_n 0, 1) := by decide +kernel
theorem dX4_power_54 : decode cX4_power 54 = .ok (.iload_n 1, 1) := by decide +kernel
theorem dX4_power_55 : decode cX4_power 55 = .ok (.iload_n 3, 1) := by decide +kernel
theorem dX4_power_56 : decode cX4_power 56 = .ok (.invokevirtual 155, 3) := by decide +kernel
theorem dX4_power_59 : decode cX4_power 59 = .ok (.ireturn, 1) := by decide +kernel
set_option maxRecDepth 20000 in
theorem ggX4_inverse_X1_hasRow : GoodIn wsX4_inverse wsX1_hasRow := goodIn_r _ [8, 9, 87, 88, 89, 90] (by decide +kernel) (by decide +kernel)
set_option maxRecDepth 20000 in
theorem gX4_inverse_X1_hasRow : GoodIn wsX4_inverse (wsV RX4 117 RX1 yX1_hasRow wsX1_hasRow) := goodIn_app (goodIn_of _ (by decide +kernel)) ggX4_inverse_X1_hasRow
set_option maxRecDepth 20000 in
theorem ggX4_inverse_X3_slopesOfInverse : GoodIn wsX4_inverse wsX3_slopesOfInverse := goodIn_r _ [14, 15, 16, 17, 18, 19, 20, 21, 22, 23, 91, 92] (by decide +kernel) (by decide +kernel)
set_option maxRecDepth 20000 in
theorem gX4_inverse_X3_slopesOfInverse : GoodIn wsX4_inverse (wsV RX4 159 RX3 yX3_slopesOfInverse wsX3_slopesOfInverse) := goodIn_app (goodIn_of _ (by decide +kernel)) ggX4_inverse_X3_slopesOfInverse
set_option maxRecDepth 20000 in
theorem ggX4_inverse_X4_composeRow : GoodIn wsX4_inverse wsX4_composeRow := goodIn_r _ [27, 3, 1, 2, 28, 29, 30, 31, 32, 33, 13, 34, 35, 16, 36, 37, 38, 39, 22, 19, 23, 21, 40, 41, 42, 7, 43, 9, 44, 45, 46, 47, 48, 49, 50, 51, 52, 53, 54, 55, 56, 57, 58, 59, 60, 61, 62, 63, 64, 65, 66, 67, 68, 69, 70, 71, 72, 73, 74, 75, 76, 77, 78, 79, 80, 81, 82, 83, 84, 85, 86, 87, 88, 89, 90, 91, 92, 93, 94, 95, 96, 97, 98, 99] (by decide +kernel) (by decide +kernel)
set_option maxRecDepth 20000 in
theorem gX4_inverse_X4_composeRow : GoodIn wsX4_inverse (wsV RX4 155 RX4 yX4_composeRow wsX4_composeRow) := goodIn_app (goodIn_of _ (by decide +kernel)) ggX4_inverse_X4_composeRow
theorem dX4_inverse_0 : decode cX4_inverse 0 = .ok (.aload_n 0, 1) := by decide +kernel
theorem dX4_inverse_1 : decode cX4_inverse 1 = .ok (.getfield 10, 3) := by decide +kernel
theorem dX4_inverse_4 : decode cX4_inverse 4 = .ok (.iload_n 1, 1) := by decide +kernel
theorem dX4_inverse_5 : decode cX4_inverse 5 = .ok (.invokevirtual 117, 3) := by decide +kernel
theorem dX4_inverse_8 : decode cX4_inverse 8 = .ok (.ifCond .eq 28, 3) := by decide +kernel
theorem dX4_inverse_11 : decode cX4_inverse 11 = .ok (.aload_n 0, 1) := by decide +kernel
theorem dX4_inverse_12 : decode cX4_inverse 12 = .ok (.getfield 10, 3) := by decide +kernel
theorem dX4_inverse_15 : decode cX4_inverse 15 = .ok (.iload_n 2, 1) := by decide +kernel
theorem dX4_inverse_16 : decode cX4_inverse 16 = .ok (.invokevirtual 117, 3) := by decide +kernel
theorem dX4_inverse_19 : decode cX4_inverse 19 = .ok (.ifCond .eq 17, 3) := by decide +kernel
theorem dX4_inverse_22 : decode cX4_inverse 22 = .ok (.aload_n 0, 1) := by decide +kernel
theorem dX4_inverse_23 : decode cX4_inverse 23 = .ok (.getfield 10, 3) := by decide +kernel
theorem dX4_inverse_26 : decode cX4_inverse 26 = .ok (.getfield 106, 3) := by decide +kernel
theorem dX4_inverse_29 : decode cX4_inverse 29 = .ok (.iload_n 1, 1) := by decide +kernel
theorem dX4_inverse_30 : decode cX4_inverse 30 = .ok (.aaload, 1) := by decide +kernel
theorem dX4_inverse_31 : decode cX4_inverse 31 = .ok (.iconst 0, 1) := by decide +kernel
theorem dX4_inverse_32 : decode cX4_inverse 32 = .ok (.iaload, 1) := by decide +kernel
theorem dX4_inverse_33 : decode cX4_inverse 33 = .ok (.ifCond .ne 5, 3) := by decide +kernel
theorem dX4_inverse_36 : decode cX4_inverse 36 = .ok (.iconst (-1), 1) := by decide +kernel
theorem dX4_inverse_37 : decode cX4_inverse 37 = .ok (.ireturn, 1) := by decide +kernel
theorem dX4_inverse_38 : decode cX4_inverse 38 = .ok (.aload_n 0, 1) := by decide +kernel
theorem dX4_inverse_39 : decode cX4_inverse 39 = .ok (.getfield 39, 3) := by decide +kernel
theorem dX4_inverse_42 : decode cX4_inverse 42 = .ok (.aload_n 0, 1) := by decide +kernel
theorem dX4_inverse_43 : decode cX4_inverse 43 = .ok (.getfield 10, 3) := by decide +kernel
theorem dX4_inverse_46 : decode cX4_inverse 46 = .ok (.getfield 106, 3) := by decide +kernel
theorem dX4_inverse_49 : decode cX4_inverse 49 = .ok (.iload_n 1, 1) := by decide +kernel
theorem dX4_inverse_50 : decode cX4_inverse 50 = .ok (.aaload, 1) := by decide +kernel
theorem dX4_inverse_51 : decode cX4_inverse 51 = .ok (.iconst 0, 1) := by decide +kernel
theorem dX4_inverse_52 : decode cX4_inverse 52 = .ok (.iaload, 1) := by decide +kernel
theorem dX4_inverse_53 : decode cX4_inverse 53 = .ok (.invokevirtual 159, 3) := by decide +kernel
theorem dX4_inverse_56 : decode cX4_inverse 56 = .ok (.aload_n 0, 1) := by decide +kernel
theorem dX4_inverse_57 : decode cX4_inverse 57 = .ok (.iload_n 1, 1) := by decide +kernel
theorem dX4_inverse_58 : decode cX4_inverse 58 = .ok (.iload_n 2, 1) := by decide +kernel
theorem dX4_inverse_59 : decode cX4_inverse 59 = .ok (.invokevirtual 155, 3) := by decide +kernel
theorem dX4_inverse_62 : decode cX4_inverse 62 = .ok (.ireturn, 1) := by decide +kernel
set_option maxRecDepth 20000 in
theorem ggX4_allWays_X1_hasRow : GoodIn wsX4_allWays wsX1_hasRow := goodIn_r _ [8, 9, 83, 84, 85, 86] (by decide +kernel) (by decide +kernel)
set_option maxRecDepth 20000 in
theorem gX4_allWays_X1_hasRow : GoodIn wsX4_allWays (wsV RX4 117 RX1 yX1_hasRow wsX1_hasRow) := goodIn_app (goodIn_of _ (by decide +kernel)) ggX4_allWays_X1_hasRow
set_option maxRecDepth 20000 in
theorem ggX4_allWays_X3_slopesOfAllWays : GoodIn wsX4_allWays wsX3_slopesOfAllWays := goodIn_r _ [14, 15, 87, 88] (by decide +kernel) (by decide +kernel)
set_option maxRecDepth 20000 in
theorem gX4_allWays_X3_slopesOfAllWays : GoodIn wsX4_allWays (wsV RX4 162 RX3 yX3_slopesOfAllWays wsX3_slopesOfAllWays) := goodIn_app (goodIn_of _ (by decide +kernel)) ggX4_allWays_X3_slopesOfAllWays
set_option maxRecDepth 20000 in
theorem ggX4_allWays_X4_composeRow : GoodIn wsX4_allWays wsX4_composeRow := goodIn_r _ [20, 3, 1, 2, 21, 22, 23, 24, 25, 26, 13, 27, 28, 15, 29, 30, 31, 32, 33, 19, 34, 35, 36, 37, 38, 7, 39, 9, 40, 41, 42, 43, 44, 45, 46, 47, 48, 49, 50, 51, 52, 53, 54, 55, 56, 57, 58, 59, 60, 61, 62, 63, 64, 65, 66, 67, 68, 69, 70, 71, 72, 73, 74, 75, 76, 77, 78, 79, 80, 81, 82, 83, 84, 85, 86, 87, 88, 89, 90, 91, 92, 93, 94, 95] (by decide +kernel) (by decide +kernel)
set_option maxRecDepth 20000 in
theorem gX4_allWays_X4_composeRow : GoodIn wsX4_allWays (wsV RX4 155 RX4 yX4_composeRow wsX4_composeRow) := goodIn_app (goodIn_of _ (by decide +kernel)) ggX4_allWays_X4_composeRow
theorem dX4_allWays_0 : decode cX4_allWays 0 = .ok (.aload_n 0, 1) := by decide +kernel
theorem dX4_allWays_1 : decode cX4_allWays 1 = .ok (.getfield 10, 3) := by decide +kernel
theorem dX4_allWays_4 : decode cX4_allWays 4 = .ok (.iload_n 1, 1) := by decide +kernel
theorem dX4_allWays_5 : decode cX4_allWays 5 = .ok (.invokevirtual 117, 3) := by decide +kernel
theorem dX4_allWays_8 : decode cX4_allWays 8 = .ok (.ifCond .eq 28, 3) := by decide +kernel
theorem dX4_allWays_11 : decode cX4_allWays 11 = .ok (.aload_n 0, 1) := by decide +kernel
theorem dX4_allWays_12 : decode cX4_allWays 12 = .ok (.getfield 10, 3) := by decide +kernel
theorem dX4_allWays_15 : decode cX4_allWays 15 = .ok (.iload_n 2, 1) := by decide +kernel
theorem dX4_allWays_16 : decode cX4_allWays 16 = .ok (.invokevirtual 117, 3) := by decide +kernel
theorem dX4_allWays_19 : decode cX4_allWays 19 = .ok (.ifCond .eq 17, 3) := by decide +kernel
theorem dX4_allWays_22 : decode cX4_allWays 22 = .ok (.aload_n 0, 1) := by decide +kernel
theorem dX4_allWays_23 : decode cX4_allWays 23 = .ok (.getfield 10, 3) := by decide +kernel
theorem dX4_allWays_26 : decode cX4_allWays 26 = .ok (.getfield 106, 3) := by decide +kernel
theorem dX4_allWays_29 : decode cX4_allWays 29 = .ok (.iload_n 1, 1) := by decide +kernel
theorem dX4_allWays_30 : decode cX4_allWays 30 = .ok (.aaload, 1) := by decide +kernel
theorem dX4_allWays_31 : decode cX4_allWays 31 = .ok (.iconst 0, 1) := by decide +kernel
theorem dX4_allWays_32 : decode cX4_allWays 32 = .ok (.iaload, 1) := by decide +kernel
theorem dX4_allWays_33 : decode cX4_allWays 33 = .ok (.ifCond .eq 5, 3) := by decide +kernel
theorem dX4_allWays_36 : decode cX4_allWays 36 = .ok (.iconst (-1), 1) := by decide +kernel
theorem dX4_allWays_37 : decode cX4_allWays 37 = .ok (.ireturn, 1) := by decide +kernel
theorem dX4_allWays_38 : decode cX4_allWays 38 = .ok (.aload_n 0, 1) := by decide +kernel
theorem dX4_allWays_39 : decode cX4_allWays 39 = .ok (.getfield 39, 3) := by decide +kernel
theorem dX4_allWays_42 : decode cX4_allWays 42 = .ok (.invokevirtual 162, 3) := by decide +kernel
theorem dX4_allWays_45 : decode cX4_allWays 45 = .ok (.aload_n 0, 1) := by decide +kernel
theorem dX4_allWays_46 : decode cX4_allWays 46 = .ok (.iload_n 1, 1) := by decide +kernel
theorem dX4_allWays_47 : decode cX4_allWays 47 = .ok (.iload_n 2, 1) := by decide +kernel
theorem dX4_allWays_48 : decode cX4_allWays 48 = .ok (.invokevirtual 155, 3) := by decide +kernel
theorem dX4_allWays_51 : decode cX4_allWays 51 = .ok (.ireturn, 1) := by decide +kernel
set_option maxRecDepth 20000 in
theorem ggX4_roots_X1_hasRow : GoodIn wsX4_roots wsX1_hasRow := goodIn_r _ [8, 9, 83, 84, 85, 86] (by decide +kernel) (by decide +kernel)
set_option maxRecDepth 20000 in
theorem gX4_roots_X1_hasRow : GoodIn wsX4_roots (wsV RX4 117 RX1 yX1_hasRow wsX1_hasRow) := goodIn_app (goodIn_of _ (by decide +kernel)) ggX4_roots_X1_hasRow
set_option maxRecDepth 20000 in
theorem ggX4_roots_X3_slopesOfRoots : GoodIn wsX4_roots wsX3_slopesOfRoots := goodIn_r _ [14, 15, 87, 88] (by decide +kernel) (by decide +kernel)
set_option maxRecDepth 20000 in
theorem gX4_roots_X3_slopesOfRoots : GoodIn wsX4_roots (wsV RX4 165 RX3 yX3_slopesOfRoots wsX3_slopesOfRoots) := goodIn_app (goodIn_of _ (by decide +kernel)) ggX4_roots_X3_slopesOfRoots
set_option maxRecDepth 20000 in
theorem ggX4_roots_X4_composeRow : GoodIn wsX4_roots wsX4_composeRow := goodIn_r _ [20, 3, 1, 2, 21, 22, 23, 24, 25, 26, 13, 27, 28, 15, 29, 30, 31, 32, 33, 19, 34, 35, 36, 37, 38, 7, 39, 9, 40, 41, 42, 43, 44, 45, 46, 47, 48, 49, 50, 51, 52, 53, 54, 55, 56, 57, 58, 59, 60, 61, 62, 63, 64, 65, 66, 67, 68, 69, 70, 71, 72, 73, 74, 75, 76, 77, 78, 79, 80, 81, 82, 83, 84, 85, 86, 87, 88, 89, 90, 91, 92, 93, 94, 95] (by decide +kernel) (by decide +kernel)
set_option maxRecDepth 20000 in
theorem gX4_roots_X4_composeRow : GoodIn wsX4_roots (wsV RX4 155 RX4 yX4_composeRow wsX4_composeRow) := goodIn_app (goodIn_of _ (by decide +kernel)) ggX4_roots_X4_composeRow
theorem dX4_roots_0 : decode cX4_roots 0 = .ok (.aload_n 0, 1) := by decide +kernel
theorem dX4_roots_1 : decode cX4_roots 1 = .ok (.getfield 10, 3) := by decide +kernel
theorem dX4_roots_4 : decode cX4_roots 4 = .ok (.iload_n 1, 1) := by decide +kernel
theorem dX4_roots_5 : decode cX4_roots 5 = .ok (.invokevirtual 117, 3) := by decide +kernel
theorem dX4_roots_8 : decode cX4_roots 8 = .ok (.ifCond .eq 29, 3) := by decide +kernel
theorem dX4_roots_11 : decode cX4_roots 11 = .ok (.aload_n 0, 1) := by decide +kernel
theorem dX4_roots_12 : decode cX4_roots 12 = .ok (.getfield 10, 3) := by decide +kernel
theorem dX4_roots_15 : decode cX4_roots 15 = .ok (.iload_n 2, 1) := by decide +kernel
theorem dX4_roots_16 : decode cX4_roots 16 = .ok (.invokevirtual 117, 3) := by decide +kernel
theorem dX4_roots_19 : decode cX4_roots 19 = .ok (.ifCond .eq 18, 3) := by decide +kernel
theorem dX4_roots_22 : decode cX4_roots 22 = .ok (.aload_n 0, 1) := by decide +kernel
theorem dX4_roots_23 : decode cX4_roots 23 = .ok (.getfield 10, 3) := by decide +kernel
theorem dX4_roots_26 : decode cX4_roots 26 = .ok (.getfield 106, 3) := by decide +kernel
theorem dX4_roots_29 : decode cX4_roots 29 = .ok (.iload_n 1, 1) := by decide +kernel
theorem dX4_roots_30 : decode cX4_roots 30 = .ok (.aaload, 1) := by decide +kernel
theorem dX4_roots_31 : decode cX4_roots 31 = .ok (.iconst 0, 1) := by decide +kernel
theorem dX4_roots_32 : decode cX4_roots 32 = .ok (.iaload, 1) := by decide +kernel
theorem dX4_roots_33 : decode cX4_roots 33 = .ok (.iconst 1, 1) := by decide +kernel
theorem dX4_roots_34 : decode cX4_roots 34 = .ok (.if_icmp .eq 5, 3) := by decide +kernel
theorem dX4_roots_37 : decode cX4_roots 37 = .ok (.iconst (-1), 1) := by decide +kernel
theorem dX4_roots_38 : decode cX4_roots 38 = .ok (.ireturn, 1) := by decide +kernel
theorem dX4_roots_39 : decode cX4_roots 39 = .ok (.aload_n 0, 1) := by decide +kernel
theorem dX4_roots_40 : decode cX4_roots 40 = .ok (.getfield 39, 3) := by decide +kernel
theorem dX4_roots_43 : decode cX4_roots 43 = .ok (.invokevirtual 165, 3) := by decide +kernel
theorem dX4_roots_46 : decode cX4_roots 46 = .ok (.aload_n 0, 1) := by decide +kernel
theorem dX4_roots_47 : decode cX4_roots 47 = .ok (.iload_n 1, 1) := by decide +kernel
theorem dX4_roots_48 : decode cX4_roots 48 = .ok (.iload_n 2, 1) := by decide +kernel
theorem dX4_roots_49 : decode cX4_roots 49 = .ok (.invokevirtual 155, 3) := by decide +kernel
theorem dX4_roots_52 : decode cX4_roots 52 = .ok (.ireturn, 1) := by decide +kernel
set_option maxRecDepth 20000 in
theorem ggX4_covers_X1_hasSet : GoodIn wsX4_covers wsX1_hasSet := goodIn_r _ [8, 9, 10, 11, 7, 12, 13, 67, 68, 69, 70] (by decide +kernel) (by decide +kernel)
set_option maxRecDepth 20000 in
theorem gX4_covers_X1_hasSet : GoodIn wsX4_covers (wsV RX4 102 RX1 yX1_hasSet wsX1_hasSet) := goodIn_app (goodIn_of _ (by decide +kernel)) ggX4_covers_X1_hasSet
set_option maxRecDepth 20000 in
theorem ggX4_covers_X4_measureAll : GoodIn wsX4_covers wsX4_measureAll := goodIn_r _ [17, 18, 10, 11, 7, 12, 13, 19, 20, 16, 21, 22, 23, 24, 25, 26, 27, 28, 29, 30, 31, 32, 33, 34, 35, 36, 37, 38, 39, 40, 41, 42, 43, 3, 67, 68, 69, 70] (by decide +kernel) (by decide +kernel)
set_option maxRecDepth 20000 in
theorem gX4_covers_X4_measureAll : GoodIn wsX4_covers (va_wsS RX4 128 yX4_measureAll wsX4_measureAll) := goodIn_app (goodIn_of _ (by decide +kernel)) ggX4_covers_X4_measureAll
set_option maxRecDepth 20000 in
theorem ggX4_covers_X4_transform : GoodIn wsX4_covers wsX4_transform := goodIn_r _ [46, 47, 48, 16, 49, 50, 51, 52, 53, 54] (by decide +kernel) (by decide +kernel)
set_option maxRecDepth 20000 in
theorem gX4_covers_X4_transform : GoodIn wsX4_covers (va_wsS RX4 168 yX4_transform wsX4_transform) := goodIn_app (goodIn_of _ (by decide +kernel)) ggX4_covers_X4_transform
set_option maxRecDepth 20000 in
theorem ggX4_covers_X1_countSets : GoodIn wsX4_covers wsX1_countSets := goodIn_r _ [12, 13, 67, 68, 69, 70] (by decide +kernel) (by decide +kernel)
set_option maxRecDepth 20000 in
theorem gX4_covers_X1_countSets : GoodIn wsX4_covers (wsV RX4 132 RX1 yX1_countSets wsX1_countSets) := goodIn_app (goodIn_of _ (by decide +kernel)) ggX4_covers_X1_countSets
set_option maxRecDepth 20000 in
theorem ggX4_covers_X4_raise : GoodIn wsX4_covers wsX4_raise := goodIn_r _ [57, 54] (by decide +kernel) (by decide +kernel)
set_option maxRecDepth 20000 in
theorem gX4_covers_X4_raise : GoodIn wsX4_covers (va_wsS RX4 172 yX4_raise wsX4_raise) := goodIn_app (goodIn_of _ (by decide +kernel)) ggX4_covers_X4_raise
theorem dX4_covers_0 : decode cX4_covers 0 = .ok (.aload_n 0, 1) := by decide +kernel
theorem dX4_covers_1 : decode cX4_covers 1 = .ok (.getfield 10, 3) := by decide +kernel
theorem dX4_covers_4 : decode cX4_covers 4 = .ok (.iload_n 1, 1) := by decide +kernel
theorem dX4_covers_5 : decode cX4_covers 5 = .ok (.invokevirtual 102, 3) := by decide +kernel
theorem dX4_covers_8 : decode cX4_covers 8 = .ok (.ifCond .eq 13, 3) := by decide +kernel
theorem dX4_covers_11 : decode cX4_covers 11 = .ok (.iload_n 2, 1) := by decide +kernel
theorem dX4_covers_12 : decode cX4_covers 12 = .ok (.ifCond .lt 9, 3) := by decide +kernel
theorem dX4_covers_15 : decode cX4_covers 15 = .ok (.iload_n 2, 1) := by decide +kernel
theorem dX4_covers_16 : decode cX4_covers 16 = .ok (.bipush 8, 2) := by decide +kernel
theorem dX4_covers_18 : decode cX4_covers 18 = .ok (.if_icmp .le 5, 3) := by decide +kernel
theorem dX4_covers_21 : decode cX4_covers 21 = .ok (.iconst (-1), 1) := by decide +kernel
theorem dX4_covers_22 : decode cX4_covers 22 = .ok (.ireturn, 1) := by decide +kernel
theorem dX4_covers_23 : decode cX4_covers 23 = .ok (.aload_n 0, 1) := by decide +kernel
theorem dX4_covers_24 : decode cX4_covers 24 = .ok (.getfield 10, 3) := by decide +kernel
theorem dX4_covers_27 : decode cX4_covers 27 = .ok (.iconst 1, 1) := by decide +kernel
theorem dX4_covers_28 : decode cX4_covers 28 = .ok (.aload_n 0, 1) := by decide +kernel
theorem dX4_covers_29 : decode cX4_covers 29 = .ok (.getfield 43, 3) := by decide +kernel
theorem dX4_covers_32 : decode cX4_covers 32 = .ok (.invokestatic 128, 3) := by decide +kernel
theorem dX4_covers_35 : decode cX4_covers 35 = .ok (.aload_n 0, 1) := by decide +kernel
theorem dX4_covers_36 : decode cX4_covers 36 = .ok (.getfield 43, 3) := by decide +kernel
theorem dX4_covers_39 : decode cX4_covers 39 = .ok (.aload_n 0, 1) := by decide +kernel
theorem dX4_covers_40 : decode cX4_covers 40 = .ok (.getfield 10, 3) := by decide +kernel
theorem dX4_covers_43 : decode cX4_covers 43 = .ok (.getfield 92, 3) := by decide +kernel
theorem dX4_covers_46 : decode cX4_covers 46 = .ok (.iconst 1, 1) := by decide +kernel
theorem dX4_covers_47 : decode cX4_covers 47 = .ok (.iconst 0, 1) := by decide +kernel
theorem dX4_covers_48 : decode cX4_covers 48 = .ok (.invokestatic 168, 3) := by decide +kernel
theorem dX4_covers_51 : decode cX4_covers 51 = .ok (.iconst 0, 1) := by decide +kernel
theorem dX4_covers_52 : decode cX4_covers 52 = .ok (.istore_n 3, 1) := by decide +kernel
theorem dX4_covers_53 : decode cX4_covers 53 = .ok (.iload_n 3, 1) := by decide +kernel
theorem dX4_covers_54 : decode cX4_covers 54 = .ok (.aload_n 0, 1) := by decide +kernel
theorem dX4_covers_55 : decode cX4_covers 55 = .ok (.getfield 10, 3) := by decide +kernel
theorem dX4_covers_58 : decode cX4_covers 58 = .ok (.invokevirtual 132, 3) := by decide +kernel
theorem dX4_covers_61 : decode cX4_covers 61 = .ok (.if_icmp .ge 25, 3) := by decide +kernel
theorem dX4_covers_64 : decode cX4_covers 64 = .ok (.aload_n 0, 1) := by decide +kernel
theorem dX4_covers_65 : decode cX4_covers 65 = .ok (.getfield 43, 3) := by decide +kernel
theorem dX4_covers_68 : decode cX4_covers 68 = .ok (.iload_n 3, 1) := by decide +kernel
theorem dX4_covers_69 : decode cX4_covers 69 = .ok (.aload_n 0, 1) := by decide +kernel
theorem dX4_covers_70 : decode cX4_covers 70 = .ok (.getfield 43, 3) := by decide +kernel
theorem dX4_covers_73 : decode cX4_covers 73 = .ok (.iload_n 3, 1) := by decide +kernel
theorem dX4_covers_74 : decode cX4_covers 74 = .ok (.iaload, 1) := by decide +kernel
theorem dX4_covers_75 : decode cX4_covers 75 = .ok (.iload_n 2, 1) := by decide +kernel
theorem dX4_covers_76 : decode cX4_covers 76 = .ok (.invokestatic 172, 3) := by decide +kernel
theorem dX4_covers_79 : decode cX4_covers 79 = .ok (.iastore, 1) := by decide +kernel
theorem dX4_covers_80 : decode cX4_covers 80 = .ok (.iinc 3 1, 3) := by decide +kernel
theorem dX4_covers_83 : decode cX4_covers 83 = .ok (.goto (-30), 3) := by decide +kernel
theorem dX4_covers_86 : decode cX4_covers 86 = .ok (.aload_n 0, 1) := by decide +kernel
theorem dX4_covers_87 : decode cX4_covers 87 = .ok (.getfield 43, 3) := by decide +kernel
theorem dX4_covers_90 : decode cX4_covers 90 = .ok (.aload_n 0, 1) := by decide +kernel
theorem dX4_covers_91 : decode cX4_covers 91 = .ok (.getfield 10, 3) := by decide +kernel
theorem dX4_covers_94 : decode cX4_covers 94 = .ok (.getfield 92, 3) := by decide +kernel
theorem dX4_covers_97 : decode cX4_covers 97 = .ok (.iconst 1, 1) := by decide +kernel
theorem dX4_covers_98 : decode cX4_covers 98 = .ok (.iconst 1, 1) := by decide +kernel
theorem dX4_covers_99 : decode cX4_covers 99 = .ok (.invokestatic 168, 3) := by decide +kernel
theorem dX4_covers_102 : decode cX4_covers 102 = .ok (.aload_n 0, 1) := by decide +kernel
theorem dX4_covers_103 : decode cX4_covers 103 = .ok (.getfield 43, 3) := by decide +kernel
theorem dX4_covers_106 : decode cX4_covers 106 = .ok (.iload_n 1, 1) := by decide +kernel
theorem dX4_covers_107 : decode cX4_covers 107 = .ok (.iaload, 1) := by decide +kernel
theorem dX4_covers_108 : decode cX4_covers 108 = .ok (.ireturn, 1) := by decide +kernel
set_option maxRecDepth 20000 in
theorem ggX4_partings_X1_hasSet : GoodIn wsX4_partings wsX1_hasSet := goodIn_r _ [10, 11, 12, 13, 9, 14, 15, 73, 74, 75, 76] (by decide +kernel) (by decide +kernel)
set_option maxRecDepth 20000 in
theorem gX4_partings_X1_hasSet : GoodIn wsX4_partings (wsV RX4 102 RX1 yX1_hasSet wsX1_hasSet) := goodIn_app (goodIn_of _ (by decide +kernel)) ggX4_partings_X1_hasSet
set_option maxRecDepth 20000 in
theorem ggX4_partings_X4_measureAll : GoodIn wsX4_partings wsX4_measureAll := goodIn_r _ [19, 20, 12, 13, 9, 14, 15, 21, 22, 18, 23, 24, 25, 26, 27, 28, 29, 30, 31, 32, 33, 34, 35, 36, 37, 38, 39, 40, 41, 42, 43, 44, 45, 4, 73, 74, 75, 76] (by decide +kernel) (by decide +kernel)
set_option maxRecDepth 20000 in
theorem gX4_partings_X4_measureAll : GoodIn wsX4_partings (va_wsS RX4 128 yX4_measureAll wsX4_measureAll) := goodIn_app (goodIn_of _ (by decide +kernel)) ggX4_partings_X4_measureAll
set_option maxRecDepth 20000 in
theorem ggX4_partings_X3_slopesOfCount : GoodIn wsX4_partings wsX3_slopesOfCount := goodIn_r _ [50, 51, 77, 78] (by decide +kernel) (by decide +kernel)
set_option maxRecDepth 20000 in
theorem gX4_partings_X3_slopesOfCount : GoodIn wsX4_partings (wsV RX4 175 RX3 yX3_slopesOfCount wsX3_slopesOfCount) := goodIn_app (goodIn_of _ (by decide +kernel)) ggX4_partings_X3_slopesOfCount
set_option maxRecDepth 20000 in
theorem ggX4_partings_X3_compose : GoodIn wsX4_partings wsX3_compose := goodIn_r _ [55, 56, 51, 57, 58, 59, 49, 60, 61, 18, 62, 63, 77, 78] (by decide +kernel) (by decide +kernel)
set_option maxRecDepth 20000 in
theorem gX4_partings_X3_compose : GoodIn wsX4_partings (wsV RX4 178 RX3 yX3_compose wsX3_compose) := goodIn_app (goodIn_of _ (by decide +kernel)) ggX4_partings_X3_compose
theorem dX4_partings_0 : decode cX4_partings 0 = .ok (.aload_n 0, 1) := by decide +kernel
theorem dX4_partings_1 : decode cX4_partings 1 = .ok (.getfield 10, 3) := by decide +kernel
theorem dX4_partings_4 : decode cX4_partings 4 = .ok (.iload_n 1, 1) := by decide +kernel
theorem dX4_partings_5 : decode cX4_partings 5 = .ok (.invokevirtual 102, 3) := by decide +kernel
theorem dX4_partings_8 : decode cX4_partings 8 = .ok (.ifCond .eq 13, 3) := by decide +kernel
theorem dX4_partings_11 : decode cX4_partings 11 = .ok (.iload_n 2, 1) := by decide +kernel
theorem dX4_partings_12 : decode cX4_partings 12 = .ok (.ifCond .lt 9, 3) := by decide +kernel
theorem dX4_partings_15 : decode cX4_partings 15 = .ok (.iload_n 2, 1) := by decide +kernel
theorem dX4_partings_16 : decode cX4_partings 16 = .ok (.bipush 8, 2) := by decide +kernel
theorem dX4_partings_18 : decode cX4_partings 18 = .ok (.if_icmp .le 5, 3) := by decide +kernel
theorem dX4_partings_21 : decode cX4_partings 21 = .ok (.iconst (-1), 1) := by decide +kernel
theorem dX4_partings_22 : decode cX4_partings 22 = .ok (.ireturn, 1) := by decide +kernel
theorem dX4_partings_23 : decode cX4_partings 23 = .ok (.aload_n 0, 1) := by decide +kernel
theorem dX4_partings_24 : decode cX4_partings 24 = .ok (.getfield 10, 3) := by decide +kernel
theorem dX4_partings_27 : decode cX4_partings 27 = .ok (.iconst 1, 1) := by decide +kernel
theorem dX4_partings_28 : decode cX4_partings 28 = .ok (.aload_n 0, 1) := by decide +kernel
theorem dX4_partings_29 : decode cX4_partings 29 = .ok (.getfield 43, 3) := by decide +kernel
theorem dX4_partings_32 : decode cX4_partings 32 = .ok (.invokestatic 128, 3) := by decide +kernel
theorem dX4_partings_35 : decode cX4_partings 35 = .ok (.aload_n 0, 1) := by decide +kernel
theorem dX4_partings_36 : decode cX4_partings 36 = .ok (.getfield 39, 3) := by decide +kernel
theorem dX4_partings_39 : decode cX4_partings 39 = .ok (.iload_n 2, 1) := by decide +kernel
theorem dX4_partings_40 : decode cX4_partings 40 = .ok (.invokevirtual 175, 3) := by decide +kernel
theorem dX4_partings_43 : decode cX4_partings 43 = .ok (.aload_n 0, 1) := by decide +kernel
theorem dX4_partings_44 : decode cX4_partings 44 = .ok (.getfield 39, 3) := by decide +kernel
theorem dX4_partings_47 : decode cX4_partings 47 = .ok (.aload_n 0, 1) := by decide +kernel
theorem dX4_partings_48 : decode cX4_partings 48 = .ok (.getfield 43, 3) := by decide +kernel
theorem dX4_partings_51 : decode cX4_partings 51 = .ok (.aload_n 0, 1) := by decide +kernel
theorem dX4_partings_52 : decode cX4_partings 52 = .ok (.getfield 10, 3) := by decide +kernel
theorem dX4_partings_55 : decode cX4_partings 55 = .ok (.getfield 92, 3) := by decide +kernel
theorem dX4_partings_58 : decode cX4_partings 58 = .ok (.iconst 1, 1) := by decide +kernel
theorem dX4_partings_59 : decode cX4_partings 59 = .ok (.invokevirtual 178, 3) := by decide +kernel
theorem dX4_partings_62 : decode cX4_partings 62 = .ok (.aload_n 0, 1) := by decide +kernel
theorem dX4_partings_63 : decode cX4_partings 63 = .ok (.getfield 39, 3) := by decide +kernel
theorem dX4_partings_66 : decode cX4_partings 66 = .ok (.getfield 182, 3) := by decide +kernel
theorem dX4_partings_69 : decode cX4_partings 69 = .ok (.iload_n 1, 1) := by decide +kernel
theorem dX4_partings_70 : decode cX4_partings 70 = .ok (.laload, 1) := by decide +kernel
theorem dX4_partings_71 : decode cX4_partings 71 = .ok (.l2i, 1) := by decide +kernel
theorem dX4_partings_72 : decode cX4_partings 72 = .ok (.ireturn, 1) := by decide +kernel
set_option maxRecDepth 20000 in
theorem ggX4_cheapest_X1_hasSet : GoodIn wsX4_cheapest wsX1_hasSet := goodIn_r _ [8, 9, 10, 11, 7, 12, 13, 41, 42, 43, 44] (by decide +kernel) (by decide +kernel)
set_option maxRecDepth 20000 in
theorem gX4_cheapest_X1_hasSet : GoodIn wsX4_cheapest (wsV RX4 102 RX1 yX1_hasSet wsX1_hasSet) := goodIn_app (goodIn_of _ (by decide +kernel)) ggX4_cheapest_X1_hasSet
set_option maxRecDepth 20000 in
theorem ggX4_cheapest_X4_priceParts : GoodIn wsX4_cheapest wsX4_priceParts := goodIn_r _ [18, 2, 19, 20, 21, 17, 22, 23, 24, 25, 26, 27, 28, 29, 30, 1, 31, 3, 32, 33, 34, 35, 36, 37, 38, 39, 40, 41, 42, 43, 44] (by decide +kernel) (by decide +kernel)
set_option maxRecDepth 20000 in
theorem gX4_cheapest_X4_priceParts : GoodIn wsX4_cheapest (wsV RX4 186 RX4 yX4_priceParts wsX4_priceParts) := goodIn_app (goodIn_of _ (by decide +kernel)) ggX4_cheapest_X4_priceParts
theorem dX4_cheapest_0 : decode cX4_cheapest 0 = .ok (.aload_n 0, 1) := by decide +kernel
theorem dX4_cheapest_1 : decode cX4_cheapest 1 = .ok (.getfield 10, 3) := by decide +kernel
theorem dX4_cheapest_4 : decode cX4_cheapest 4 = .ok (.iload_n 1, 1) := by decide +kernel
theorem dX4_cheapest_5 : decode cX4_cheapest 5 = .ok (.invokevirtual 102, 3) := by decide +kernel
theorem dX4_cheapest_8 : decode cX4_cheapest 8 = .ok (.ifCond .ne 5, 3) := by decide +kernel
theorem dX4_cheapest_11 : decode cX4_cheapest 11 = .ok (.iconst (-1), 1) := by decide +kernel
theorem dX4_cheapest_12 : decode cX4_cheapest 12 = .ok (.ireturn, 1) := by decide +kernel
theorem dX4_cheapest_13 : decode cX4_cheapest 13 = .ok (.aload_n 0, 1) := by decide +kernel
theorem dX4_cheapest_14 : decode cX4_cheapest 14 = .ok (.iload_n 1, 1) := by decide +kernel
theorem dX4_cheapest_15 : decode cX4_cheapest 15 = .ok (.invokevirtual 186, 3) := by decide +kernel
theorem dX4_cheapest_18 : decode cX4_cheapest 18 = .ok (.aload_n 0, 1) := by decide +kernel
theorem dX4_cheapest_19 : decode cX4_cheapest 19 = .ok (.getfield 43, 3) := by decide +kernel
theorem dX4_cheapest_22 : decode cX4_cheapest 22 = .ok (.iload_n 1, 1) := by decide +kernel
theorem dX4_cheapest_23 : decode cX4_cheapest 23 = .ok (.iaload, 1) := by decide +kernel
theorem dX4_cheapest_24 : decode cX4_cheapest 24 = .ok (.ldc 189, 2) := by decide +kernel
theorem dX4_cheapest_26 : decode cX4_cheapest 26 = .ok (.if_icmp .ge 12, 3) := by decide +kernel
theorem dX4_cheapest_29 : decode cX4_cheapest 29 = .ok (.aload_n 0, 1) := by decide +kernel
theorem dX4_cheapest_30 : decode cX4_cheapest 30 = .ok (.getfield 43, 3) := by decide +kernel
theorem dX4_cheapest_33 : decode cX4_cheapest 33 = .ok (.iload_n 1, 1) := by decide +kernel
theorem dX4_cheapest_34 : decode cX4_cheapest 34 = .ok (.iaload, 1) := by decide +kernel
theorem dX4_cheapest_35 : decode cX4_cheapest 35 = .ok (.goto 4, 3) := by decide +kernel
theorem dX4_cheapest_38 : decode cX4_cheapest 38 = .ok (.iconst (-1), 1) := by decide +kernel
theorem dX4_cheapest_39 : decode cX4_cheapest 39 = .ok (.ireturn, 1) := by decide +kernel
set_option maxRecDepth 20000 in
theorem ggX4_part_X4_partOrNone : GoodIn wsX4_part wsX4_partOrNone := goodIn_r _ [7, 8, 9, 10, 11, 12, 13, 14, 15, 16, 17, 18, 19, 20, 21, 22, 23, 6, 24, 25, 26, 27, 28, 29, 30, 31, 32, 33, 34, 35, 36, 37, 38, 39, 40, 41, 42, 43, 44, 45, 46, 47, 48, 49, 50, 51, 52, 53, 54] (by decide +kernel) (by decide +kernel)
set_option maxRecDepth 20000 in
theorem gX4_part_X4_partOrNone : GoodIn wsX4_part (wsV RX4 190 RX4 yX4_partOrNone wsX4_partOrNone) := goodIn_app (goodIn_of _ (by decide +kernel)) ggX4_part_X4_partOrNone
theorem dX4_part_0 : decode cX4_part 0 = .ok (.aload_n 0, 1) := by decide +kernel
theorem dX4_part_1 : decode cX4_part 1 = .ok (.iload_n 1, 1) := by decide +kernel
theorem dX4_part_2 : decode cX4_part 2 = .ok (.iload_n 2, 1) := by decide +kernel
theorem dX4_part_3 : decode cX4_part 3 = .ok (.invokevirtual 190, 3) := by decide +kernel
theorem dX4_part_6 : decode cX4_part 6 = .ok (.istore_n 3, 1) := by decide +kernel
theorem dX4_part_7 : decode cX4_part 7 = .ok (.iload_n 3, 1) := by decide +kernel
theorem dX4_part_8 : decode cX4_part 8 = .ok (.iconst (-1), 1) := by decide +kernel
theorem dX4_part_9 : decode cX4_part 9 = .ok (.if_icmp .ne 13, 3) := by decide +kernel
theorem dX4_part_12 : decode cX4_part 12 = .ok (.new 193, 3) := by decide +kernel
theorem dX4_part_15 : decode cX4_part 15 = .ok (.dup, 1) := by decide +kernel
theorem dX4_part_16 : decode cX4_part 16 = .ok (.ldc 195, 2) := by decide +kernel
theorem dX4_part_18 : decode cX4_part 18 = .ok (.invokespecial 197, 3) := by decide +kernel
theorem dX4_part_21 : decode cX4_part 21 = .ok (.athrow, 1) := by decide +kernel
theorem dX4_part_22 : decode cX4_part 22 = .ok (.iload_n 3, 1) := by decide +kernel
theorem dX4_part_23 : decode cX4_part 23 = .ok (.ireturn, 1) := by decide +kernel
set_option maxRecDepth 20000 in
theorem ggX4_colours_X1_hasSet : GoodIn wsX4_colours wsX1_hasSet := goodIn_r _ [6, 7, 8, 9, 5, 10, 11, 36, 37, 38, 39] (by decide +kernel) (by decide +kernel)
set_option maxRecDepth 20000 in
theorem gX4_colours_X1_hasSet : GoodIn wsX4_colours (wsV RX4 102 RX1 yX1_hasSet wsX1_hasSet) := goodIn_app (goodIn_of _ (by decide +kernel)) ggX4_colours_X1_hasSet
set_option maxRecDepth 20000 in
theorem ggX4_colours_X4_paintFewest : GoodIn wsX4_colours wsX4_paintFewest := goodIn_r _ [16, 17, 1, 18, 19, 15, 20, 21, 22, 23, 24, 5, 25, 26, 27, 28, 29, 30, 31, 32, 33, 34, 35, 36, 37, 38, 39] (by decide +kernel) (by decide +kernel)
set_option maxRecDepth 20000 in
theorem gX4_colours_X4_paintFewest : GoodIn wsX4_colours (wsV RX4 200 RX4 yX4_paintFewest wsX4_paintFewest) := goodIn_app (goodIn_of _ (by decide +kernel)) ggX4_colours_X4_paintFewest
theorem dX4_colours_0 : decode cX4_colours 0 = .ok (.aload_n 0, 1) := by decide +kernel
theorem dX4_colours_1 : decode cX4_colours 1 = .ok (.getfield 10, 3) := by decide +kernel
theorem dX4_colours_4 : decode cX4_colours 4 = .ok (.iload_n 1, 1) := by decide +kernel
theorem dX4_colours_5 : decode cX4_colours 5 = .ok (.invokevirtual 102, 3) := by decide +kernel
theorem dX4_colours_8 : decode cX4_colours 8 = .ok (.ifCond .eq 11, 3) := by decide +kernel
theorem dX4_colours_11 : decode cX4_colours 11 = .ok (.aload_n 0, 1) := by decide +kernel
theorem dX4_colours_12 : decode cX4_colours 12 = .ok (.iload_n 1, 1) := by decide +kernel
theorem dX4_colours_13 : decode cX4_colours 13 = .ok (.invokevirtual 200, 3) := by decide +kernel
theorem dX4_colours_16 : decode cX4_colours 16 = .ok (.goto 4, 3) := by decide +kernel
theorem dX4_colours_19 : decode cX4_colours 19 = .ok (.iconst (-1), 1) := by decide +kernel
theorem dX4_colours_20 : decode cX4_colours 20 = .ok (.ireturn, 1) := by decide +kernel
set_option maxRecDepth 20000 in
theorem ggX4_colour_X1_hasSet : GoodIn wsX4_colour wsX1_hasSet := goodIn_r _ [7, 8, 9, 10, 6, 11, 12, 40, 41, 42, 43] (by decide +kernel) (by decide +kernel)
set_option maxRecDepth 20000 in
theorem gX4_colour_X1_hasSet : GoodIn wsX4_colour (wsV RX4 102 RX1 yX1_hasSet wsX1_hasSet) := goodIn_app (goodIn_of _ (by decide +kernel)) ggX4_colour_X1_hasSet
set_option maxRecDepth 20000 in
theorem ggX4_colour_X1_hasThing : GoodIn wsX4_colour wsX1_hasThing := goodIn_r _ [16, 12, 40, 41, 42, 43] (by decide +kernel) (by decide +kernel)
set_option maxRecDepth 20000 in
theorem gX4_colour_X1_hasThing : GoodIn wsX4_colour (wsV RX4 110 RX1 yX1_hasThing wsX1_hasThing) := goodIn_app (goodIn_of _ (by decide +kernel)) ggX4_colour_X1_hasThing
set_option maxRecDepth 20000 in
theorem ggX4_colour_X4_paintFewest : GoodIn wsX4_colour wsX4_paintFewest := goodIn_r _ [21, 2, 1, 22, 23, 20, 24, 25, 26, 27, 28, 6, 29, 30, 31, 32, 33, 34, 35, 36, 37, 38, 39, 40, 41, 42, 43] (by decide +kernel) (by decide +kernel)
set_option maxRecDepth 20000 in
theorem gX4_colour_X4_paintFewest : GoodIn wsX4_colour (wsV RX4 200 RX4 yX4_paintFewest wsX4_paintFewest) := goodIn_app (goodIn_of _ (by decide +kernel)) ggX4_colour_X4_paintFewest
theorem dX4_colour_0 : decode cX4_colour 0 = .ok (.aload_n 0, 1) := by decide +kernel
theorem dX4_colour_1 : decode cX4_colour 1 = .ok (.getfield 10, 3) := by decide +kernel
theorem dX4_colour_4 : decode cX4_colour 4 = .ok (.iload_n 1, 1) := by decide +kernel
theorem dX4_colour_5 : decode cX4_colour 5 = .ok (.invokevirtual 102, 3) := by decide +kernel
theorem dX4_colour_8 : decode cX4_colour 8 = .ok (.ifCond .eq 22, 3) := by decide +kernel
theorem dX4_colour_11 : decode cX4_colour 11 = .ok (.aload_n 0, 1) := by decide +kernel
theorem dX4_colour_12 : decode cX4_colour 12 = .ok (.getfield 10, 3) := by decide +kernel
theorem dX4_colour_15 : decode cX4_colour 15 = .ok (.iload_n 2, 1) := by decide +kernel
theorem dX4_colour_16 : decode cX4_colour 16 = .ok (.invokevirtual 110, 3) := by decide +kernel
theorem dX4_colour_19 : decode cX4_colour 19 = .ok (.ifCond .eq 11, 3) := by decide +kernel
theorem dX4_colour_22 : decode cX4_colour 22 = .ok (.iload_n 1, 1) := by decide +kernel
theorem dX4_colour_23 : decode cX4_colour 23 = .ok (.iload_n 2, 1) := by decide +kernel
theorem dX4_colour_24 : decode cX4_colour 24 = .ok (.ishr, 1) := by decide +kernel
theorem dX4_colour_25 : decode cX4_colour 25 = .ok (.iconst 1, 1) := by decide +kernel
theorem dX4_colour_26 : decode cX4_colour 26 = .ok (.iand, 1) := by decide +kernel
theorem dX4_colour_27 : decode cX4_colour 27 = .ok (.ifCond .ne 5, 3) := by decide +kernel
theorem dX4_colour_30 : decode cX4_colour 30 = .ok (.iconst (-1), 1) := by decide +kernel
theorem dX4_colour_31 : decode cX4_colour 31 = .ok (.ireturn, 1) := by decide +kernel
theorem dX4_colour_32 : decode cX4_colour 32 = .ok (.aload_n 0, 1) := by decide +kernel
theorem dX4_colour_33 : decode cX4_colour 33 = .ok (.iload_n 1, 1) := by decide +kernel
theorem dX4_colour_34 : decode cX4_colour 34 = .ok (.invokevirtual 200, 3) := by decide +kernel
theorem dX4_colour_37 : decode cX4_colour 37 = .ok (.istore_n 3, 1) := by decide +kernel
theorem dX4_colour_38 : decode cX4_colour 38 = .ok (.iconst 0, 1) := by decide +kernel
theorem dX4_colour_39 : decode cX4_colour 39 = .ok (.istore 4, 2) := by decide +kernel
theorem dX4_colour_41 : decode cX4_colour 41 = .ok (.iload 4, 2) := by decide +kernel
theorem dX4_colour_43 : decode cX4_colour 43 = .ok (.iload_n 3, 1) := by decide +kernel
theorem dX4_colour_44 : decode cX4_colour 44 = .ok (.if_icmp .ge 34, 3) := by decide +kernel
theorem dX4_colour_47 : decode cX4_colour 47 = .ok (.iload 4, 2) := by decide +kernel
theorem dX4_colour_49 : decode cX4_colour 49 = .ok (.bipush 8, 2) := by decide +kernel
theorem dX4_colour_51 : decode cX4_colour 51 = .ok (.if_icmp .ge 27, 3) := by decide +kernel
theorem dX4_colour_54 : decode cX4_colour 54 = .ok (.aload_n 0, 1) := by decide +kernel
theorem dX4_colour_55 : decode cX4_colour 55 = .ok (.getfield 50, 3) := by decide +kernel
theorem dX4_colour_58 : decode cX4_colour 58 = .ok (.iload 4, 2) := by decide +kernel
theorem dX4_colour_60 : decode cX4_colour 60 = .ok (.iaload, 1) := by decide +kernel
theorem dX4_colour_61 : decode cX4_colour 61 = .ok (.iload_n 2, 1) := by decide +kernel
theorem dX4_colour_62 : decode cX4_colour 62 = .ok (.ishr, 1) := by decide +kernel
theorem dX4_colour_63 : decode cX4_colour 63 = .ok (.iconst 1, 1) := by decide +kernel
theorem dX4_colour_64 : decode cX4_colour 64 = .ok (.iand, 1) := by decide +kernel
theorem dX4_colour_65 : decode cX4_colour 65 = .ok (.iconst 1, 1) := by decide +kernel
theorem dX4_colour_66 : decode cX4_colour 66 = .ok (.if_icmp .ne 6, 3) := by decide +kernel
theorem dX4_colour_69 : decode cX4_colour 69 = .ok (.iload 4, 2) := by decide +kernel
theorem dX4_colour_71 : decode cX4_colour 71 = .ok (.ireturn, 1) := by decide +kernel
theorem dX4_colour_72 : decode cX4_colour 72 = .ok (.iinc 4 1, 3) := by decide +kernel
theorem dX4_colour_75 : decode cX4_colour 75 = .ok (.goto (-34), 3) := by decide +kernel
theorem dX4_colour_78 : decode cX4_colour 78 = .ok (.iconst (-1), 1) := by decide +kernel
theorem dX4_colour_79 : decode cX4_colour 79 = .ok (.ireturn, 1) := by decide +kernel
set_option maxRecDepth 20000 in
theorem ggX4_colourings_X1_hasSet : GoodIn wsX4_colourings wsX1_hasSet := goodIn_r _ [11, 12, 13, 14, 10, 15, 16, 74, 75, 76, 77] (by decide +kernel) (by decide +kernel)
set_option maxRecDepth 20000 in
theorem gX4_colourings_X1_hasSet : GoodIn wsX4_colourings (wsV RX4 102 RX1 yX1_hasSet wsX1_hasSet) := goodIn_app (goodIn_of _ (by decide +kernel)) ggX4_colourings_X1_hasSet
set_option maxRecDepth 20000 in
theorem ggX4_colourings_X4_measureAll : GoodIn wsX4_colourings wsX4_measureAll := goodIn_r _ [20, 21, 13, 14, 10, 15, 16, 22, 23, 19, 24, 25, 26, 27, 28, 29, 30, 31, 32, 33, 34, 35, 36, 37, 38, 39, 40, 41, 42, 43, 44, 45, 46, 5, 74, 75, 76, 77] (by decide +kernel) (by decide +kernel)
set_option maxRecDepth 20000 in
theorem gX4_colourings_X4_measureAll : GoodIn wsX4_colourings (va_wsS RX4 128 yX4_measureAll wsX4_measureAll) := goodIn_app (goodIn_of _ (by decide +kernel)) ggX4_colourings_X4_measureAll
set_option maxRecDepth 20000 in
theorem ggX4_colourings_X3_slopesOfChoices : GoodIn wsX4_colourings wsX3_slopesOfChoices := goodIn_r _ [51, 52, 78, 79] (by decide +kernel) (by decide +kernel)
set_option maxRecDepth 20000 in
theorem gX4_colourings_X3_slopesOfChoices : GoodIn wsX4_colourings (wsV RX4 205 RX3 yX3_slopesOfChoices wsX3_slopesOfChoices) := goodIn_app (goodIn_of _ (by decide +kernel)) ggX4_colourings_X3_slopesOfChoices
set_option maxRecDepth 20000 in
theorem ggX4_colourings_X3_compose : GoodIn wsX4_colourings wsX3_compose := goodIn_r _ [56, 57, 52, 58, 59, 60, 50, 61, 62, 19, 63, 64, 78, 79] (by decide +kernel) (by decide +kernel)
set_option maxRecDepth 20000 in
theorem gX4_colourings_X3_compose : GoodIn wsX4_colourings (wsV RX4 178 RX3 yX3_compose wsX3_compose) := goodIn_app (goodIn_of _ (by decide +kernel)) ggX4_colourings_X3_compose
theorem dX4_colourings_0 : decode cX4_colourings 0 = .ok (.aload_n 0, 1) := by decide +kernel
theorem dX4_colourings_1 : decode cX4_colourings 1 = .ok (.getfield 10, 3) := by decide +kernel
theorem dX4_colourings_4 : decode cX4_colourings 4 = .ok (.iload_n 1, 1) := by decide +kernel
theorem dX4_colourings_5 : decode cX4_colourings 5 = .ok (.invokevirtual 102, 3) := by decide +kernel
theorem dX4_colourings_8 : decode cX4_colourings 8 = .ok (.ifCond .eq 13, 3) := by decide +kernel
theorem dX4_colourings_11 : decode cX4_colourings 11 = .ok (.iload_n 2, 1) := by decide +kernel
theorem dX4_colourings_12 : decode cX4_colourings 12 = .ok (.ifCond .lt 9, 3) := by decide +kernel
theorem dX4_colourings_15 : decode cX4_colourings 15 = .ok (.iload_n 2, 1) := by decide +kernel
theorem dX4_colourings_16 : decode cX4_colourings 16 = .ok (.bipush 99, 2) := by decide +kernel
theorem dX4_colourings_18 : decode cX4_colourings 18 = .ok (.if_icmp .le 7, 3) := by decide +kernel
theorem dX4_colourings_21 : decode cX4_colourings 21 = .ok (.ldc2_w 203, 3) := by decide +kernel
theorem dX4_colourings_24 : decode cX4_colourings 24 = .ok (.lreturn, 1) := by decide +kernel
theorem dX4_colourings_25 : decode cX4_colourings 25 = .ok (.aload_n 0, 1) := by decide +kernel
theorem dX4_colourings_26 : decode cX4_colourings 26 = .ok (.getfield 10, 3) := by decide +kernel
theorem dX4_colourings_29 : decode cX4_colourings 29 = .ok (.iconst 2, 1) := by decide +kernel
theorem dX4_colourings_30 : decode cX4_colourings 30 = .ok (.aload_n 0, 1) := by decide +kernel
theorem dX4_colourings_31 : decode cX4_colourings 31 = .ok (.getfield 43, 3) := by decide +kernel
theorem dX4_colourings_34 : decode cX4_colourings 34 = .ok (.invokestatic 128, 3) := by decide +kernel
theorem dX4_colourings_37 : decode cX4_colourings 37 = .ok (.aload_n 0, 1) := by decide +kernel
theorem dX4_colourings_38 : decode cX4_colourings 38 = .ok (.getfield 39, 3) := by decide +kernel
theorem dX4_colourings_41 : decode cX4_colourings 41 = .ok (.iload_n 2, 1) := by decide +kernel
theorem dX4_colourings_42 : decode cX4_colourings 42 = .ok (.invokevirtual 205, 3) := by decide +kernel
theorem dX4_colourings_45 : decode cX4_colourings 45 = .ok (.aload_n 0, 1) := by decide +kernel
theorem dX4_colourings_46 : decode cX4_colourings 46 = .ok (.getfield 39, 3) := by decide +kernel
theorem dX4_colourings_49 : decode cX4_colourings 49 = .ok (.aload_n 0, 1) := by decide +kernel
theorem dX4_colourings_50 : decode cX4_colourings 50 = .ok (.getfield 43, 3) := by decide +kernel
theorem dX4_colourings_53 : decode cX4_colourings 53 = .ok (.aload_n 0, 1) := by decide +kernel
theorem dX4_colourings_54 : decode cX4_colourings 54 = .ok (.getfield 10, 3) := by decide +kernel
theorem dX4_colourings_57 : decode cX4_colourings 57 = .ok (.getfield 92, 3) := by decide +kernel
theorem dX4_colourings_60 : decode cX4_colourings 60 = .ok (.iconst 1, 1) := by decide +kernel
theorem dX4_colourings_61 : decode cX4_colourings 61 = .ok (.invokevirtual 178, 3) := by decide +kernel
theorem dX4_colourings_64 : decode cX4_colourings 64 = .ok (.aload_n 0, 1) := by decide +kernel
theorem dX4_colourings_65 : decode cX4_colourings 65 = .ok (.getfield 39, 3) := by decide +kernel
theorem dX4_colourings_68 : decode cX4_colourings 68 = .ok (.getfield 182, 3) := by decide +kernel
theorem dX4_colourings_71 : decode cX4_colourings 71 = .ok (.iload_n 1, 1) := by decide +kernel
theorem dX4_colourings_72 : decode cX4_colourings 72 = .ok (.laload, 1) := by decide +kernel
theorem dX4_colourings_73 : decode cX4_colourings 73 = .ok (.lreturn, 1) := by decide +kernel
set_option maxRecDepth 20000 in
theorem ggX4_hangs_X1_hasSet : GoodIn wsX4_hangs wsX1_hasSet := goodIn_r _ [10, 11, 12, 13, 9, 14, 15, 73, 74, 75, 76] (by decide +kernel) (by decide +kernel)
set_option maxRecDepth 20000 in
theorem gX4_hangs_X1_hasSet : GoodIn wsX4_hangs (wsV RX4 102 RX1 yX1_hasSet wsX1_hasSet) := goodIn_app (goodIn_of _ (by decide +kernel)) ggX4_hangs_X1_hasSet
set_option maxRecDepth 20000 in
theorem ggX4_hangs_X4_measureAll : GoodIn wsX4_hangs wsX4_measureAll := goodIn_r _ [19, 20, 12, 13, 9, 14, 15, 21, 22, 18, 23, 24, 25, 26, 27, 28, 29, 30, 31, 32, 33, 34, 35, 36, 37, 38, 39, 40, 41, 42, 43, 44, 45, 4, 73, 74, 75, 76] (by decide +kernel) (by decide +kernel)
set_option maxRecDepth 20000 in
theorem gX4_hangs_X4_measureAll : GoodIn wsX4_hangs (va_wsS RX4 128 yX4_measureAll wsX4_measureAll) := goodIn_app (goodIn_of _ (by decide +kernel)) ggX4_hangs_X4_measureAll
set_option maxRecDepth 20000 in
theorem ggX4_hangs_X3_slopesOfRoots : GoodIn wsX4_hangs wsX3_slopesOfRoots := goodIn_r _ [50, 51, 77, 78] (by decide +kernel) (by decide +kernel)
set_option maxRecDepth 20000 in
theorem gX4_hangs_X3_slopesOfRoots : GoodIn wsX4_hangs (wsV RX4 165 RX3 yX3_slopesOfRoots wsX3_slopesOfRoots) := goodIn_app (goodIn_of _ (by decide +kernel)) ggX4_hangs_X3_slopesOfRoots
set_option maxRecDepth 20000 in
theorem ggX4_hangs_X3_compose : GoodIn wsX4_hangs wsX3_compose := goodIn_r _ [55, 56, 51, 57, 58, 59, 49, 60, 61, 18, 62, 63, 77, 78] (by decide +kernel) (by decide +kernel)
set_option maxRecDepth 20000 in
theorem gX4_hangs_X3_compose : GoodIn wsX4_hangs (wsV RX4 178 RX3 yX3_compose wsX3_compose) := goodIn_app (goodIn_of _ (by decide +kernel)) ggX4_hangs_X3_compose
theorem dX4_hangs_0 : decode cX4_hangs 0 = .ok (.aload_n 0, 1) := by decide +kernel
theorem dX4_hangs_1 : decode cX4_hangs 1 = .ok (.getfield 10, 3) := by decide +kernel
theorem dX4_hangs_4 : decode cX4_hangs 4 = .ok (.iload_n 1, 1) := by decide +kernel
theorem dX4_hangs_5 : decode cX4_hangs 5 = .ok (.invokevirtual 102, 3) := by decide +kernel
theorem dX4_hangs_8 : decode cX4_hangs 8 = .ok (.ifCond .ne 5, 3) := by decide +kernel
theorem dX4_hangs_11 : decode cX4_hangs 11 = .ok (.iconst (-1), 1) := by decide +kernel
theorem dX4_hangs_12 : decode cX4_hangs 12 = .ok (.ireturn, 1) := by decide +kernel
theorem dX4_hangs_13 : decode cX4_hangs 13 = .ok (.aload_n 0, 1) := by decide +kernel
theorem dX4_hangs_14 : decode cX4_hangs 14 = .ok (.getfield 10, 3) := by decide +kernel
theorem dX4_hangs_17 : decode cX4_hangs 17 = .ok (.iconst 4, 1) := by decide +kernel
theorem dX4_hangs_18 : decode cX4_hangs 18 = .ok (.aload_n 0, 1) := by decide +kernel
theorem dX4_hangs_19 : decode cX4_hangs 19 = .ok (.getfield 43, 3) := by decide +kernel
theorem dX4_hangs_22 : decode cX4_hangs 22 = .ok (.invokestatic 128, 3) := by decide +kernel
theorem dX4_hangs_25 : decode cX4_hangs 25 = .ok (.aload_n 0, 1) := by decide +kernel
theorem dX4_hangs_26 : decode cX4_hangs 26 = .ok (.getfield 39, 3) := by decide +kernel
theorem dX4_hangs_29 : decode cX4_hangs 29 = .ok (.invokevirtual 165, 3) := by decide +kernel
theorem dX4_hangs_32 : decode cX4_hangs 32 = .ok (.aload_n 0, 1) := by decide +kernel
theorem dX4_hangs_33 : decode cX4_hangs 33 = .ok (.getfield 39, 3) := by decide +kernel
theorem dX4_hangs_36 : decode cX4_hangs 36 = .ok (.aload_n 0, 1) := by decide +kernel
theorem dX4_hangs_37 : decode cX4_hangs 37 = .ok (.getfield 43, 3) := by decide +kernel
theorem dX4_hangs_40 : decode cX4_hangs 40 = .ok (.aload_n 0, 1) := by decide +kernel
theorem dX4_hangs_41 : decode cX4_hangs 41 = .ok (.getfield 10, 3) := by decide +kernel
theorem dX4_hangs_44 : decode cX4_hangs 44 = .ok (.getfield 92, 3) := by decide +kernel
theorem dX4_hangs_47 : decode cX4_hangs 47 = .ok (.iconst 1, 1) := by decide +kernel
theorem dX4_hangs_48 : decode cX4_hangs 48 = .ok (.invokevirtual 178, 3) := by decide +kernel
theorem dX4_hangs_51 : decode cX4_hangs 51 = .ok (.aload_n 0, 1) := by decide +kernel
theorem dX4_hangs_52 : decode cX4_hangs 52 = .ok (.getfield 39, 3) := by decide +kernel
theorem dX4_hangs_55 : decode cX4_hangs 55 = .ok (.getfield 182, 3) := by decide +kernel
theorem dX4_hangs_58 : decode cX4_hangs 58 = .ok (.iload_n 1, 1) := by decide +kernel
theorem dX4_hangs_59 : decode cX4_hangs 59 = .ok (.laload, 1) := by decide +kernel
theorem dX4_hangs_60 : decode cX4_hangs 60 = .ok (.l2i, 1) := by decide +kernel
theorem dX4_hangs_61 : decode cX4_hangs 61 = .ok (.ireturn, 1) := by decide +kernel
set_option maxRecDepth 20000 in
theorem ggX4_weigh_X1_hasSet : GoodIn wsX4_weigh wsX1_hasSet := goodIn_r _ [8, 9, 10, 11, 7, 12, 13, 47, 48, 49, 50] (by decide +kernel) (by decide +kernel)
set_option maxRecDepth 20000 in
theorem gX4_weigh_X1_hasSet : GoodIn wsX4_weigh (wsV RX4 102 RX1 yX1_hasSet wsX1_hasSet) := goodIn_app (goodIn_of _ (by decide +kernel)) ggX4_weigh_X1_hasSet
set_option maxRecDepth 20000 in
theorem ggX4_weigh_X0_keepLine : GoodIn wsX4_weigh wsX0_keepLine := goodIn_r _ [18, 19, 20, 21, 22, 23, 24, 25, 26, 27, 28, 29, 30, 17, 31, 32, 33, 34, 35, 36, 37, 47, 48, 49, 50, 51, 52, 53, 54, 55, 56, 57] (by decide +kernel) (by decide +kernel)
set_option maxRecDepth 20000 in
theorem gX4_weigh_X0_keepLine : GoodIn wsX4_weigh (wsV RX4 120 RX0 yX0_keepLine wsX0_keepLine) := goodIn_app (goodIn_of _ (by decide +kernel)) ggX4_weigh_X0_keepLine
theorem dX4_weigh_0 : decode cX4_weigh 0 = .ok (.aload_n 0, 1) := by decide +kernel
theorem dX4_weigh_1 : decode cX4_weigh 1 = .ok (.getfield 10, 3) := by decide +kernel
theorem dX4_weigh_4 : decode cX4_weigh 4 = .ok (.iload_n 1, 1) := by decide +kernel
theorem dX4_weigh_5 : decode cX4_weigh 5 = .ok (.invokevirtual 102, 3) := by decide +kernel
theorem dX4_weigh_8 : decode cX4_weigh 8 = .ok (.ifCond .eq 29, 3) := by decide +kernel
theorem dX4_weigh_11 : decode cX4_weigh 11 = .ok (.iload_n 2, 1) := by decide +kernel
theorem dX4_weigh_12 : decode cX4_weigh 12 = .ok (.ifCond .lt 25, 3) := by decide +kernel
theorem dX4_weigh_15 : decode cX4_weigh 15 = .ok (.iload_n 2, 1) := by decide +kernel
theorem dX4_weigh_16 : decode cX4_weigh 16 = .ok (.sipush 999, 3) := by decide +kernel
theorem dX4_weigh_19 : decode cX4_weigh 19 = .ok (.if_icmp .gt 18, 3) := by decide +kernel
theorem dX4_weigh_22 : decode cX4_weigh 22 = .ok (.aload_n 0, 1) := by decide +kernel
theorem dX4_weigh_23 : decode cX4_weigh 23 = .ok (.getfield 10, 3) := by decide +kernel
theorem dX4_weigh_26 : decode cX4_weigh 26 = .ok (.getfield 106, 3) := by decide +kernel
theorem dX4_weigh_29 : decode cX4_weigh 29 = .ok (.iconst 4, 1) := by decide +kernel
theorem dX4_weigh_30 : decode cX4_weigh 30 = .ok (.aaload, 1) := by decide +kernel
theorem dX4_weigh_31 : decode cX4_weigh 31 = .ok (.iload_n 1, 1) := by decide +kernel
theorem dX4_weigh_32 : decode cX4_weigh 32 = .ok (.iaload, 1) := by decide +kernel
theorem dX4_weigh_33 : decode cX4_weigh 33 = .ok (.iload_n 2, 1) := by decide +kernel
theorem dX4_weigh_34 : decode cX4_weigh 34 = .ok (.if_icmp .ne 5, 3) := by decide +kernel
theorem dX4_weigh_37 : decode cX4_weigh 37 = .ok (.iconst (-1), 1) := by decide +kernel
theorem dX4_weigh_38 : decode cX4_weigh 38 = .ok (.ireturn, 1) := by decide +kernel
theorem dX4_weigh_39 : decode cX4_weigh 39 = .ok (.aload_n 0, 1) := by decide +kernel
theorem dX4_weigh_40 : decode cX4_weigh 40 = .ok (.getfield 10, 3) := by decide +kernel
theorem dX4_weigh_43 : decode cX4_weigh 43 = .ok (.getfield 106, 3) := by decide +kernel
theorem dX4_weigh_46 : decode cX4_weigh 46 = .ok (.iconst 4, 1) := by decide +kernel
theorem dX4_weigh_47 : decode cX4_weigh 47 = .ok (.aaload, 1) := by decide +kernel
theorem dX4_weigh_48 : decode cX4_weigh 48 = .ok (.iload_n 1, 1) := by decide +kernel
theorem dX4_weigh_49 : decode cX4_weigh 49 = .ok (.iaload, 1) := by decide +kernel
theorem dX4_weigh_50 : decode cX4_weigh 50 = .ok (.istore_n 3, 1) := by decide +kernel
theorem dX4_weigh_51 : decode cX4_weigh 51 = .ok (.aload_n 0, 1) := by decide +kernel
theorem dX4_weigh_52 : decode cX4_weigh 52 = .ok (.getfield 25, 3) := by decide +kernel
theorem dX4_weigh_55 : decode cX4_weigh 55 = .ok (.aload_n 0, 1) := by decide +kernel
theorem dX4_weigh_56 : decode cX4_weigh 56 = .ok (.getfield 10, 3) := by decide +kernel
theorem dX4_weigh_59 : decode cX4_weigh 59 = .ok (.iconst 4, 1) := by decide +kernel
theorem dX4_weigh_60 : decode cX4_weigh 60 = .ok (.invokevirtual 120, 3) := by decide +kernel
theorem dX4_weigh_63 : decode cX4_weigh 63 = .ok (.aload_n 0, 1) := by decide +kernel
theorem dX4_weigh_64 : decode cX4_weigh 64 = .ok (.getfield 10, 3) := by decide +kernel
theorem dX4_weigh_67 : decode cX4_weigh 67 = .ok (.getfield 106, 3) := by decide +kernel
theorem dX4_weigh_70 : decode cX4_weigh 70 = .ok (.iconst 4, 1) := by decide +kernel
theorem dX4_weigh_71 : decode cX4_weigh 71 = .ok (.aaload, 1) := by decide +kernel
theorem dX4_weigh_72 : decode cX4_weigh 72 = .ok (.iload_n 1, 1) := by decide +kernel
theorem dX4_weigh_73 : decode cX4_weigh 73 = .ok (.iload_n 2, 1) := by decide +kernel
theorem dX4_weigh_74 : decode cX4_weigh 74 = .ok (.iastore, 1) := by decide +kernel
theorem dX4_weigh_75 : decode cX4_weigh 75 = .ok (.iload_n 3, 1) := by decide +kernel
theorem dX4_weigh_76 : decode cX4_weigh 76 = .ok (.ireturn, 1) := by decide +kernel
set_option maxRecDepth 20000 in
theorem ggX4_join_X1_hasThing : GoodIn wsX4_join wsX1_hasThing := goodIn_r _ [7, 8, 66, 67, 68, 69] (by decide +kernel) (by decide +kernel)
set_option maxRecDepth 20000 in
theorem gX4_join_X1_hasThing : GoodIn wsX4_join (wsV RX4 110 RX1 yX1_hasThing wsX1_hasThing) := goodIn_app (goodIn_of _ (by decide +kernel)) ggX4_join_X1_hasThing
set_option maxRecDepth 20000 in
theorem ggX4_join_X1_areMates : GoodIn wsX4_join wsX1_areMates := goodIn_r _ [12, 13, 14, 15, 6, 16, 17, 66, 67, 68, 69] (by decide +kernel) (by decide +kernel)
set_option maxRecDepth 20000 in
theorem gX4_join_X1_areMates : GoodIn wsX4_join (wsV RX4 208 RX1 yX1_areMates wsX1_areMates) := goodIn_app (goodIn_of _ (by decide +kernel)) ggX4_join_X1_areMates
set_option maxRecDepth 20000 in
theorem ggX4_join_X0_keepLine : GoodIn wsX4_join wsX0_keepLine := goodIn_r _ [22, 23, 24, 25, 26, 27, 28, 29, 30, 31, 32, 33, 34, 21, 35, 36, 37, 38, 39, 40, 41, 66, 67, 68, 69, 70, 71, 72, 73, 74, 75, 76] (by decide +kernel) (by decide +kernel)
set_option maxRecDepth 20000 in
theorem gX4_join_X0_keepLine : GoodIn wsX4_join (wsV RX4 120 RX0 yX0_keepLine wsX0_keepLine) := goodIn_app (goodIn_of _ (by decide +kernel)) ggX4_join_X0_keepLine
set_option maxRecDepth 20000 in
theorem ggX4_join_X1_turnPair : GoodIn wsX4_join wsX1_turnPair := goodIn_r _ [45, 17, 66, 67, 68, 69] (by decide +kernel) (by decide +kernel)
set_option maxRecDepth 20000 in
theorem gX4_join_X1_turnPair : GoodIn wsX4_join (wsV RX4 212 RX1 yX1_turnPair wsX1_turnPair) := goodIn_app (goodIn_of _ (by decide +kernel)) ggX4_join_X1_turnPair
set_option maxRecDepth 20000 in
theorem ggX4_join_X1_countPairs : GoodIn wsX4_join wsX1_countPairs := goodIn_r _ [49, 17, 50, 51, 52, 53, 54, 55, 56, 66, 67, 68, 69] (by decide +kernel) (by decide +kernel)
set_option maxRecDepth 20000 in
theorem gX4_join_X1_countPairs : GoodIn wsX4_join (wsV RX4 96 RX1 yX1_countPairs wsX1_countPairs) := goodIn_app (goodIn_of _ (by decide +kernel)) ggX4_join_X1_countPairs
theorem dX4_join_0 : decode cX4_join 0 = .ok (.aload_n 0, 1) := by decide +kernel
theorem dX4_join_1 : decode cX4_join 1 = .ok (.getfield 10, 3) := by decide +kernel
theorem dX4_join_4 : decode cX4_join 4 = .ok (.iload_n 1, 1) := by decide +kernel
theorem dX4_join_5 : decode cX4_join 5 = .ok (.invokevirtual 110, 3) := by decide +kernel
theorem dX4_join_8 : decode cX4_join 8 = .ok (.ifCond .eq 32, 3) := by decide +kernel
theorem dX4_join_11 : decode cX4_join 11 = .ok (.aload_n 0, 1) := by decide +kernel
theorem dX4_join_12 : decode cX4_join 12 = .ok (.getfield 10, 3) := by decide +kernel
theorem dX4_join_15 : decode cX4_join 15 = .ok (.iload_n 2, 1) := by decide +kernel
theorem dX4_join_16 : decode cX4_join 16 = .ok (.invokevirtual 110, 3) := by decide +kernel
theorem dX4_join_19 : decode cX4_join 19 = .ok (.ifCond .eq 21, 3) := by decide +kernel
theorem dX4_join_22 : decode cX4_join 22 = .ok (.iload_n 1, 1) := by decide +kernel
theorem dX4_join_23 : decode cX4_join 23 = .ok (.iload_n 2, 1) := by decide +kernel
theorem dX4_join_24 : decode cX4_join 24 = .ok (.if_icmp .eq 16, 3) := by decide +kernel
theorem dX4_join_27 : decode cX4_join 27 = .ok (.aload_n 0, 1) := by decide +kernel
theorem dX4_join_28 : decode cX4_join 28 = .ok (.getfield 10, 3) := by decide +kernel
theorem dX4_join_31 : decode cX4_join 31 = .ok (.iload_n 1, 1) := by decide +kernel
theorem dX4_join_32 : decode cX4_join 32 = .ok (.iload_n 2, 1) := by decide +kernel
theorem dX4_join_33 : decode cX4_join 33 = .ok (.invokevirtual 208, 3) := by decide +kernel
theorem dX4_join_36 : decode cX4_join 36 = .ok (.iload_n 3, 1) := by decide +kernel
theorem dX4_join_37 : decode cX4_join 37 = .ok (.if_icmp .ne 5, 3) := by decide +kernel
theorem dX4_join_40 : decode cX4_join 40 = .ok (.iconst (-1), 1) := by decide +kernel
theorem dX4_join_41 : decode cX4_join 41 = .ok (.ireturn, 1) := by decide +kernel
theorem dX4_join_42 : decode cX4_join 42 = .ok (.aload_n 0, 1) := by decide +kernel
theorem dX4_join_43 : decode cX4_join 43 = .ok (.getfield 25, 3) := by decide +kernel
theorem dX4_join_46 : decode cX4_join 46 = .ok (.aload_n 0, 1) := by decide +kernel
theorem dX4_join_47 : decode cX4_join 47 = .ok (.getfield 10, 3) := by decide +kernel
theorem dX4_join_50 : decode cX4_join 50 = .ok (.iconst 4, 1) := by decide +kernel
theorem dX4_join_51 : decode cX4_join 51 = .ok (.invokevirtual 120, 3) := by decide +kernel
theorem dX4_join_54 : decode cX4_join 54 = .ok (.aload_n 0, 1) := by decide +kernel
theorem dX4_join_55 : decode cX4_join 55 = .ok (.getfield 10, 3) := by decide +kernel
theorem dX4_join_58 : decode cX4_join 58 = .ok (.iload_n 1, 1) := by decide +kernel
theorem dX4_join_59 : decode cX4_join 59 = .ok (.iload_n 2, 1) := by decide +kernel
theorem dX4_join_60 : decode cX4_join 60 = .ok (.invokevirtual 212, 3) := by decide +kernel
theorem dX4_join_63 : decode cX4_join 63 = .ok (.aload_n 0, 1) := by decide +kernel
theorem dX4_join_64 : decode cX4_join 64 = .ok (.getfield 10, 3) := by decide +kernel
theorem dX4_join_67 : decode cX4_join 67 = .ok (.invokevirtual 96, 3) := by decide +kernel
theorem dX4_join_70 : decode cX4_join 70 = .ok (.ireturn, 1) := by decide +kernel
set_option maxRecDepth 20000 in
theorem ggX4_name_X1_hasThing : GoodIn wsX4_name wsX1_hasThing := goodIn_r _ [7, 8, 58, 59, 60, 61] (by decide +kernel) (by decide +kernel)
set_option maxRecDepth 20000 in
theorem gX4_name_X1_hasThing : GoodIn wsX4_name (wsV RX4 110 RX1 yX1_hasThing wsX1_hasThing) := goodIn_app (goodIn_of _ (by decide +kernel)) ggX4_name_X1_hasThing
set_option maxRecDepth 20000 in
theorem ggX4_name_X0_keepNames : GoodIn wsX4_name wsX0_keepNames := goodIn_r _ [13, 14, 15, 16, 17, 18, 19, 12, 20, 21, 22, 23, 24, 25, 26, 62, 63, 64, 65, 66, 67, 68] (by decide +kernel) (by decide +kernel)
set_option maxRecDepth 20000 in
theorem gX4_name_X0_keepNames : GoodIn wsX4_name (wsV RX4 215 RX0 yX0_keepNames wsX0_keepNames) := goodIn_app (goodIn_of _ (by decide +kernel)) ggX4_name_X0_keepNames
set_option maxRecDepth 20000 in
theorem ggX4_name_X1_swapNames : GoodIn wsX4_name wsX1_swapNames := goodIn_r _ [30, 31, 8, 32, 33, 34, 6, 35, 36, 37, 38, 39, 40, 41, 42, 43, 44, 58, 59, 60, 61] (by decide +kernel) (by decide +kernel)
set_option maxRecDepth 20000 in
theorem gX4_name_X1_swapNames : GoodIn wsX4_name (wsV RX4 218 RX1 yX1_swapNames wsX1_swapNames) := goodIn_app (goodIn_of _ (by decide +kernel)) ggX4_name_X1_swapNames
set_option maxRecDepth 20000 in
theorem ggX4_name_X1_countParted : GoodIn wsX4_name wsX1_countParted := goodIn_r _ [48, 31, 58, 59, 60, 61] (by decide +kernel) (by decide +kernel)
set_option maxRecDepth 20000 in
theorem gX4_name_X1_countParted : GoodIn wsX4_name (wsV RX4 221 RX1 yX1_countParted wsX1_countParted) := goodIn_app (goodIn_of _ (by decide +kernel)) ggX4_name_X1_countParted
theorem dX4_name_0 : decode cX4_name 0 = .ok (.aload_n 0, 1) := by decide +kernel
theorem dX4_name_1 : decode cX4_name 1 = .ok (.getfield 10, 3) := by decide +kernel
theorem dX4_name_4 : decode cX4_name 4 = .ok (.iload_n 1, 1) := by decide +kernel
theorem dX4_name_5 : decode cX4_name 5 = .ok (.invokevirtual 110, 3) := by decide +kernel
theorem dX4_name_8 : decode cX4_name 8 = .ok (.ifCond .eq 19, 3) := by decide +kernel
theorem dX4_name_11 : decode cX4_name 11 = .ok (.aload_n 0, 1) := by decide +kernel
theorem dX4_name_12 : decode cX4_name 12 = .ok (.getfield 10, 3) := by decide +kernel
theorem dX4_name_15 : decode cX4_name 15 = .ok (.iload_n 2, 1) := by decide +kernel
theorem dX4_name_16 : decode cX4_name 16 = .ok (.invokevirtual 110, 3) := by decide +kernel
theorem dX4_name_19 : decode cX4_name 19 = .ok (.ifCond .eq 8, 3) := by decide +kernel
theorem dX4_name_22 : decode cX4_name 22 = .ok (.iload_n 1, 1) := by decide +kernel
theorem dX4_name_23 : decode cX4_name 23 = .ok (.iload_n 2, 1) := by decide +kernel
theorem dX4_name_24 : decode cX4_name 24 = .ok (.if_icmp .ne 5, 3) := by decide +kernel
theorem dX4_name_27 : decode cX4_name 27 = .ok (.iconst (-1), 1) := by decide +kernel
theorem dX4_name_28 : decode cX4_name 28 = .ok (.ireturn, 1) := by decide +kernel
theorem dX4_name_29 : decode cX4_name 29 = .ok (.aload_n 0, 1) := by decide +kernel
theorem dX4_name_30 : decode cX4_name 30 = .ok (.getfield 25, 3) := by decide +kernel
theorem dX4_name_33 : decode cX4_name 33 = .ok (.iload_n 1, 1) := by decide +kernel
theorem dX4_name_34 : decode cX4_name 34 = .ok (.iload_n 2, 1) := by decide +kernel
theorem dX4_name_35 : decode cX4_name 35 = .ok (.invokevirtual 215, 3) := by decide +kernel
theorem dX4_name_38 : decode cX4_name 38 = .ok (.aload_n 0, 1) := by decide +kernel
theorem dX4_name_39 : decode cX4_name 39 = .ok (.getfield 10, 3) := by decide +kernel
theorem dX4_name_42 : decode cX4_name 42 = .ok (.iload_n 1, 1) := by decide +kernel
theorem dX4_name_43 : decode cX4_name 43 = .ok (.iload_n 2, 1) := by decide +kernel
theorem dX4_name_44 : decode cX4_name 44 = .ok (.invokevirtual 218, 3) := by decide +kernel
theorem dX4_name_47 : decode cX4_name 47 = .ok (.aload_n 0, 1) := by decide +kernel
theorem dX4_name_48 : decode cX4_name 48 = .ok (.getfield 10, 3) := by decide +kernel
theorem dX4_name_51 : decode cX4_name 51 = .ok (.iload_n 1, 1) := by decide +kernel
theorem dX4_name_52 : decode cX4_name 52 = .ok (.iload_n 2, 1) := by decide +kernel
theorem dX4_name_53 : decode cX4_name 53 = .ok (.invokevirtual 221, 3) := by decide +kernel
theorem dX4_name_56 : decode cX4_name 56 = .ok (.ireturn, 1) := by decide +kernel
set_option maxRecDepth 20000 in
theorem ggX4_drawn_X0_keepLine : GoodIn wsX4_drawn wsX0_keepLine := goodIn_r _ [8, 9, 10, 11, 12, 13, 14, 15, 16, 17, 18, 19, 20, 7, 21, 22, 23, 24, 25, 26, 27, 66, 67, 68, 69, 70, 71, 72, 73, 74, 75, 76] (by decide +kernel) (by decide +kernel)
set_option maxRecDepth 20000 in
theorem gX4_drawn_X0_keepLine : GoodIn wsX4_drawn (wsV RX4 120 RX0 yX0_keepLine wsX0_keepLine) := goodIn_app (goodIn_of _ (by decide +kernel)) ggX4_drawn_X0_keepLine
set_option maxRecDepth 20000 in
theorem ggX4_drawn_X4_doDeed : GoodIn wsX4_drawn wsX4_doDeed := goodIn_r _ [32, 1, 2, 33, 34, 35, 31, 36, 37, 38, 39, 40, 41, 42, 43, 44, 45, 46, 47, 48, 49, 50, 51, 57, 58, 59, 60, 61, 62, 63, 64, 65, 66, 67, 68, 69] (by decide +kernel) (by decide +kernel)
set_option maxRecDepth 20000 in
theorem gX4_drawn_X4_doDeed : GoodIn wsX4_drawn (wsV RX4 224 RX4 yX4_doDeed wsX4_doDeed) := goodIn_app (goodIn_of _ (by decide +kernel)) ggX4_drawn_X4_doDeed
set_option maxRecDepth 20000 in
theorem ggX4_drawn_X1_countTold : GoodIn wsX4_drawn wsX1_countTold := goodIn_r _ [55, 56, 66, 67, 68, 69] (by decide +kernel) (by decide +kernel)
set_option maxRecDepth 20000 in
theorem gX4_drawn_X1_countTold : GoodIn wsX4_drawn (wsV RX4 93 RX1 yX1_countTold wsX1_countTold) := goodIn_app (goodIn_of _ (by decide +kernel)) ggX4_drawn_X1_countTold
theorem dX4_drawn_0 : decode cX4_drawn 0 = .ok (.iload_n 1, 1) := by decide +kernel
theorem dX4_drawn_1 : decode cX4_drawn 1 = .ok (.iconst 1, 1) := by decide +kernel
theorem dX4_drawn_2 : decode cX4_drawn 2 = .ok (.if_icmp .lt 9, 3) := by decide +kernel
theorem dX4_drawn_5 : decode cX4_drawn 5 = .ok (.iload_n 1, 1) := by decide +kernel
theorem dX4_drawn_6 : decode cX4_drawn 6 = .ok (.bipush 60, 2) := by decide +kernel
theorem dX4_drawn_8 : decode cX4_drawn 8 = .ok (.if_icmp .le 5, 3) := by decide +kernel
theorem dX4_drawn_11 : decode cX4_drawn 11 = .ok (.iconst (-1), 1) := by decide +kernel
theorem dX4_drawn_12 : decode cX4_drawn 12 = .ok (.ireturn, 1) := by decide +kernel
theorem dX4_drawn_13 : decode cX4_drawn 13 = .ok (.aload_n 0, 1) := by decide +kernel
theorem dX4_drawn_14 : decode cX4_drawn 14 = .ok (.getfield 10, 3) := by decide +kernel
theorem dX4_drawn_17 : decode cX4_drawn 17 = .ok (.getfield 92, 3) := by decide +kernel
theorem dX4_drawn_20 : decode cX4_drawn 20 = .ok (.ifCond .ne 5, 3) := by decide +kernel
theorem dX4_drawn_23 : decode cX4_drawn 23 = .ok (.iconst 0, 1) := by decide +kernel
theorem dX4_drawn_24 : decode cX4_drawn 24 = .ok (.ireturn, 1) := by decide +kernel
theorem dX4_drawn_25 : decode cX4_drawn 25 = .ok (.aload_n 0, 1) := by decide +kernel
theorem dX4_drawn_26 : decode cX4_drawn 26 = .ok (.getfield 25, 3) := by decide +kernel
theorem dX4_drawn_29 : decode cX4_drawn 29 = .ok (.aload_n 0, 1) := by decide +kernel
theorem dX4_drawn_30 : decode cX4_drawn 30 = .ok (.getfield 10, 3) := by decide +kernel
theorem dX4_drawn_33 : decode cX4_drawn 33 = .ok (.iconst 4, 1) := by decide +kernel
theorem dX4_drawn_34 : decode cX4_drawn 34 = .ok (.invokevirtual 120, 3) := by decide +kernel
theorem dX4_drawn_37 : decode cX4_drawn 37 = .ok (.iload_n 2, 1) := by decide +kernel
theorem dX4_drawn_38 : decode cX4_drawn 38 = .ok (.istore_n 3, 1) := by decide +kernel
theorem dX4_drawn_39 : decode cX4_drawn 39 = .ok (.iconst 0, 1) := by decide +kernel
theorem dX4_drawn_40 : decode cX4_drawn 40 = .ok (.istore 4, 2) := by decide +kernel
theorem dX4_drawn_42 : decode cX4_drawn 42 = .ok (.iload 4, 2) := by decide +kernel
theorem dX4_drawn_44 : decode cX4_drawn 44 = .ok (.iload_n 1, 1) := by decide +kernel
theorem dX4_drawn_45 : decode cX4_drawn 45 = .ok (.if_icmp .ge 15, 3) := by decide +kernel
theorem dX4_drawn_48 : decode cX4_drawn 48 = .ok (.aload_n 0, 1) := by decide +kernel
theorem dX4_drawn_49 : decode cX4_drawn 49 = .ok (.iload_n 3, 1) := by decide +kernel
theorem dX4_drawn_50 : decode cX4_drawn 50 = .ok (.invokevirtual 224, 3) := by decide +kernel
theorem dX4_drawn_53 : decode cX4_drawn 53 = .ok (.istore_n 3, 1) := by decide +kernel
theorem dX4_drawn_54 : decode cX4_drawn 54 = .ok (.iinc 4 1, 3) := by decide +kernel
theorem dX4_drawn_57 : decode cX4_drawn 57 = .ok (.goto (-15), 3) := by decide +kernel
theorem dX4_drawn_60 : decode cX4_drawn 60 = .ok (.aload_n 0, 1) := by decide +kernel
theorem dX4_drawn_61 : decode cX4_drawn 61 = .ok (.getfield 10, 3) := by decide +kernel
theorem dX4_drawn_64 : decode cX4_drawn 64 = .ok (.invokevirtual 93, 3) := by decide +kernel
theorem dX4_drawn_67 : decode cX4_drawn 67 = .ok (.ireturn, 1) := by decide +kernel
set_option maxRecDepth 20000 in
theorem ggX4_undo_X0_takeBack : GoodIn wsX4_undo wsX0_takeBack := goodIn_r _ [8, 9, 10, 11, 12, 13, 14, 15, 16, 17, 18, 19, 20, 21, 22, 23, 24, 25, 26, 27, 28, 29, 30, 31, 32, 33, 34, 35, 36, 37, 38, 39, 40, 41, 51, 52, 53, 54, 55, 56, 57, 58, 59, 60, 61] (by decide +kernel) (by decide +kernel)
set_option maxRecDepth 20000 in
theorem gX4_undo_X0_takeBack : GoodIn wsX4_undo (wsV RX4 227 RX0 yX0_takeBack wsX0_takeBack) := goodIn_app (goodIn_of _ (by decide +kernel)) ggX4_undo_X0_takeBack
theorem dX4_undo_0 : decode cX4_undo 0 = .ok (.aload_n 0, 1) := by decide +kernel
theorem dX4_undo_1 : decode cX4_undo 1 = .ok (.getfield 25, 3) := by decide +kernel
theorem dX4_undo_4 : decode cX4_undo 4 = .ok (.getfield 99, 3) := by decide +kernel
theorem dX4_undo_7 : decode cX4_undo 7 = .ok (.ifCond .ne 5, 3) := by decide +kernel
theorem dX4_undo_10 : decode cX4_undo 10 = .ok (.iconst (-1), 1) := by decide +kernel
theorem dX4_undo_11 : decode cX4_undo 11 = .ok (.ireturn, 1) := by decide +kernel
theorem dX4_undo_12 : decode cX4_undo 12 = .ok (.aload_n 0, 1) := by decide +kernel
theorem dX4_undo_13 : decode cX4_undo 13 = .ok (.getfield 25, 3) := by decide +kernel
theorem dX4_undo_16 : decode cX4_undo 16 = .ok (.aload_n 0, 1) := by decide +kernel
theorem dX4_undo_17 : decode cX4_undo 17 = .ok (.getfield 10, 3) := by decide +kernel
theorem dX4_undo_20 : decode cX4_undo 20 = .ok (.invokevirtual 227, 3) := by decide +kernel
theorem dX4_undo_23 : decode cX4_undo 23 = .ok (.aload_n 0, 1) := by decide +kernel
theorem dX4_undo_24 : decode cX4_undo 24 = .ok (.getfield 25, 3) := by decide +kernel
theorem dX4_undo_27 : decode cX4_undo 27 = .ok (.getfield 99, 3) := by decide +kernel
theorem dX4_undo_30 : decode cX4_undo 30 = .ok (.ireturn, 1) := by decide +kernel
set_option maxRecDepth 20000 in
theorem ggX4_image_X1_copyFrom : GoodIn wsX4_image wsX1_copyFrom := goodIn_r _ [9, 10, 11, 12, 13, 14, 15, 16, 26, 27, 28, 29] (by decide +kernel) (by decide +kernel)
set_option maxRecDepth 20000 in
theorem gX4_image_X1_copyFrom : GoodIn wsX4_image (wsV RX4 231 RX1 yX1_copyFrom wsX1_copyFrom) := goodIn_app (goodIn_of _ (by decide +kernel)) ggX4_image_X1_copyFrom
theorem dX4_image_0 : decode cX4_image 0 = .ok (.iload_n 1, 1) := by decide +kernel
theorem dX4_image_1 : decode cX4_image 1 = .ok (.ifCond .lt 8, 3) := by decide +kernel
theorem dX4_image_4 : decode cX4_image 4 = .ok (.iload_n 1, 1) := by decide +kernel
theorem dX4_image_5 : decode cX4_image 5 = .ok (.iconst 1, 1) := by decide +kernel
theorem dX4_image_6 : decode cX4_image 6 = .ok (.if_icmp .le 5, 3) := by decide +kernel
theorem dX4_image_9 : decode cX4_image 9 = .ok (.iconst 0, 1) := by decide +kernel
theorem dX4_image_10 : decode cX4_image 10 = .ok (.ireturn, 1) := by decide +kernel
theorem dX4_image_11 : decode cX4_image 11 = .ok (.iload_n 1, 1) := by decide +kernel
theorem dX4_image_12 : decode cX4_image 12 = .ok (.ifCond .ne 10, 3) := by decide +kernel
theorem dX4_image_15 : decode cX4_image 15 = .ok (.aload_n 0, 1) := by decide +kernel
theorem dX4_image_16 : decode cX4_image 16 = .ok (.getfield 16, 3) := by decide +kernel
theorem dX4_image_19 : decode cX4_image 19 = .ok (.goto 7, 3) := by decide +kernel
theorem dX4_image_22 : decode cX4_image 22 = .ok (.aload_n 0, 1) := by decide +kernel
theorem dX4_image_23 : decode cX4_image 23 = .ok (.getfield 19, 3) := by decide +kernel
theorem dX4_image_26 : decode cX4_image 26 = .ok (.astore_n 2, 1) := by decide +kernel
theorem dX4_image_27 : decode cX4_image 27 = .ok (.aload_n 2, 1) := by decide +kernel
theorem dX4_image_28 : decode cX4_image 28 = .ok (.aload_n 0, 1) := by decide +kernel
theorem dX4_image_29 : decode cX4_image 29 = .ok (.getfield 10, 3) := by decide +kernel
theorem dX4_image_32 : decode cX4_image 32 = .ok (.invokevirtual 231, 3) := by decide +kernel
theorem dX4_image_35 : decode cX4_image 35 = .ok (.aload_n 2, 1) := by decide +kernel
theorem dX4_image_36 : decode cX4_image 36 = .ok (.iconst 1, 1) := by decide +kernel
theorem dX4_image_37 : decode cX4_image 37 = .ok (.putfield 234, 3) := by decide +kernel
theorem dX4_image_40 : decode cX4_image 40 = .ok (.iconst 1, 1) := by decide +kernel
theorem dX4_image_41 : decode cX4_image 41 = .ok (.ireturn, 1) := by decide +kernel
set_option maxRecDepth 20000 in
theorem ggX4_restore_X1_copyFrom : GoodIn wsX4_restore wsX1_copyFrom := goodIn_r _ [10, 11, 12, 13, 14, 15, 16, 17, 33, 34, 35, 36] (by decide +kernel) (by decide +kernel)
set_option maxRecDepth 20000 in
theorem gX4_restore_X1_copyFrom : GoodIn wsX4_restore (wsV RX4 231 RX1 yX1_copyFrom wsX1_copyFrom) := goodIn_app (goodIn_of _ (by decide +kernel)) ggX4_restore_X1_copyFrom
set_option maxRecDepth 20000 in
theorem ggX4_restore_X0_forget : GoodIn wsX4_restore wsX0_forget := goodIn_r _ [22, 23, 37, 38, 39, 40, 41, 42, 43] (by decide +kernel) (by decide +kernel)
set_option maxRecDepth 20000 in
theorem gX4_restore_X0_forget : GoodIn wsX4_restore (wsV RX4 89 RX0 yX0_forget wsX0_forget) := goodIn_app (goodIn_of _ (by decide +kernel)) ggX4_restore_X0_forget
theorem dX4_restore_0 : decode cX4_restore 0 = .ok (.iload_n 1, 1) := by decide +kernel
theorem dX4_restore_1 : decode cX4_restore 1 = .ok (.ifCond .lt 8, 3) := by decide +kernel
theorem dX4_restore_4 : decode cX4_restore 4 = .ok (.iload_n 1, 1) := by decide +kernel
theorem dX4_restore_5 : decode cX4_restore 5 = .ok (.iconst 1, 1) := by decide +kernel
theorem dX4_restore_6 : decode cX4_restore 6 = .ok (.if_icmp .le 5, 3) := by decide +kernel
theorem dX4_restore_9 : decode cX4_restore 9 = .ok (.iconst 0, 1) := by decide +kernel
theorem dX4_restore_10 : decode cX4_restore 10 = .ok (.ireturn, 1) := by decide +kernel
theorem dX4_restore_11 : decode cX4_restore 11 = .ok (.iload_n 1, 1) := by decide +kernel
theorem dX4_restore_12 : decode cX4_restore 12 = .ok (.ifCond .ne 10, 3) := by decide +kernel
theorem dX4_restore_15 : decode cX4_restore 15 = .ok (.aload_n 0, 1) := by decide +kernel
theorem dX4_restore_16 : decode cX4_restore 16 = .ok (.getfield 16, 3) := by decide +kernel
theorem dX4_restore_19 : decode cX4_restore 19 = .ok (.goto 7, 3) := by decide +kernel
theorem dX4_restore_22 : decode cX4_restore 22 = .ok (.aload_n 0, 1) := by decide +kernel
theorem dX4_restore_23 : decode cX4_restore 23 = .ok (.getfield 19, 3) := by decide +kernel
theorem dX4_restore_26 : decode cX4_restore 26 = .ok (.astore_n 2, 1) := by decide +kernel
theorem dX4_restore_27 : decode cX4_restore 27 = .ok (.aload_n 2, 1) := by decide +kernel
theorem dX4_restore_28 : decode cX4_restore 28 = .ok (.getfield 234, 3) := by decide +kernel
theorem dX4_restore_31 : decode cX4_restore 31 = .ok (.ifCond .ne 5, 3) := by decide +kernel
theorem dX4_restore_34 : decode cX4_restore 34 = .ok (.iconst 0, 1) := by decide +kernel
theorem dX4_restore_35 : decode cX4_restore 35 = .ok (.ireturn, 1) := by decide +kernel
theorem dX4_restore_36 : decode cX4_restore 36 = .ok (.aload_n 0, 1) := by decide +kernel
theorem dX4_restore_37 : decode cX4_restore 37 = .ok (.getfield 10, 3) := by decide +kernel
theorem dX4_restore_40 : decode cX4_restore 40 = .ok (.aload_n 2, 1) := by decide +kernel
theorem dX4_restore_41 : decode cX4_restore 41 = .ok (.invokevirtual 231, 3) := by decide +kernel
theorem dX4_restore_44 : decode cX4_restore 44 = .ok (.aload_n 0, 1) := by decide +kernel
theorem dX4_restore_45 : decode cX4_restore 45 = .ok (.getfield 25, 3) := by decide +kernel
theorem dX4_restore_48 : decode cX4_restore 48 = .ok (.invokevirtual 89, 3) := by decide +kernel
theorem dX4_restore_51 : decode cX4_restore 51 = .ok (.iconst 1, 1) := by decide +kernel
theorem dX4_restore_52 : decode cX4_restore 52 = .ok (.ireturn, 1) := by decide +kernel
set_option maxRecDepth 20000 in
theorem ggX4_settle_X0_keepLine : GoodIn wsX4_settle wsX0_keepLine := goodIn_r _ [12, 13, 14, 15, 16, 5, 6, 7, 17, 18, 19, 20, 21, 11, 22, 23, 24, 25, 26, 27, 28, 48, 49, 50, 51, 52, 53, 54, 55, 56, 57, 58] (by decide +kernel) (by decide +kernel)
set_option maxRecDepth 20000 in
theorem gX4_settle_X0_keepLine : GoodIn wsX4_settle (wsV RX4 120 RX0 yX0_keepLine wsX0_keepLine) := goodIn_app (goodIn_of _ (by decide +kernel)) ggX4_settle_X0_keepLine
set_option maxRecDepth 20000 in
theorem ggX4_settle_X1_countSets : GoodIn wsX4_settle wsX1_countSets := goodIn_r _ [33, 34, 48, 49, 50, 51] (by decide +kernel) (by decide +kernel)
set_option maxRecDepth 20000 in
theorem gX4_settle_X1_countSets : GoodIn wsX4_settle (wsV RX4 132 RX1 yX1_countSets wsX1_countSets) := goodIn_app (goodIn_of _ (by decide +kernel)) ggX4_settle_X1_countSets
set_option maxRecDepth 20000 in
theorem ggX4_settle_X1_allThings : GoodIn wsX4_settle wsX1_allThings := goodIn_r _ [38, 34, 48, 49, 50, 51] (by decide +kernel) (by decide +kernel)
set_option maxRecDepth 20000 in
theorem gX4_settle_X1_allThings : GoodIn wsX4_settle (wsV RX4 244 RX1 yX1_allThings wsX1_allThings) := goodIn_app (goodIn_of _ (by decide +kernel)) ggX4_settle_X1_allThings
theorem dX4_settle_0 : decode cX4_settle 0 = .ok (.aload_n 0, 1) := by decide +kernel
theorem dX4_settle_1 : decode cX4_settle 1 = .ok (.getfield 25, 3) := by decide +kernel
theorem dX4_settle_4 : decode cX4_settle 4 = .ok (.aload_n 0, 1) := by decide +kernel
theorem dX4_settle_5 : decode cX4_settle 5 = .ok (.getfield 10, 3) := by decide +kernel
theorem dX4_settle_8 : decode cX4_settle 8 = .ok (.iload_n 2, 1) := by decide +kernel
theorem dX4_settle_9 : decode cX4_settle 9 = .ok (.invokevirtual 120, 3) := by decide +kernel
theorem dX4_settle_12 : decode cX4_settle 12 = .ok (.aload_n 1, 1) := by decide +kernel
theorem dX4_settle_13 : decode cX4_settle 13 = .ok (.iconst 0, 1) := by decide +kernel
theorem dX4_settle_14 : decode cX4_settle 14 = .ok (.aload_n 0, 1) := by decide +kernel
theorem dX4_settle_15 : decode cX4_settle 15 = .ok (.getfield 10, 3) := by decide +kernel
theorem dX4_settle_18 : decode cX4_settle 18 = .ok (.getfield 106, 3) := by decide +kernel
theorem dX4_settle_21 : decode cX4_settle 21 = .ok (.iload_n 2, 1) := by decide +kernel
theorem dX4_settle_22 : decode cX4_settle 22 = .ok (.aaload, 1) := by decide +kernel
theorem dX4_settle_23 : decode cX4_settle 23 = .ok (.iconst 0, 1) := by decide +kernel
theorem dX4_settle_24 : decode cX4_settle 24 = .ok (.aload_n 0, 1) := by decide +kernel
theorem dX4_settle_25 : decode cX4_settle 25 = .ok (.getfield 10, 3) := by decide +kernel
theorem dX4_settle_28 : decode cX4_settle 28 = .ok (.invokevirtual 132, 3) := by decide +kernel
theorem dX4_settle_31 : decode cX4_settle 31 = .ok (.invokestatic 238, 3) := by decide +kernel
theorem dX4_settle_34 : decode cX4_settle 34 = .ok (.aload_n 0, 1) := by decide +kernel
theorem dX4_settle_35 : decode cX4_settle 35 = .ok (.getfield 10, 3) := by decide +kernel
theorem dX4_settle_38 : decode cX4_settle 38 = .ok (.getfield 106, 3) := by decide +kernel
theorem dX4_settle_41 : decode cX4_settle 41 = .ok (.iload_n 2, 1) := by decide +kernel
theorem dX4_settle_42 : decode cX4_settle 42 = .ok (.aaload, 1) := by decide +kernel
theorem dX4_settle_43 : decode cX4_settle 43 = .ok (.aload_n 0, 1) := by decide +kernel
theorem dX4_settle_44 : decode cX4_settle 44 = .ok (.getfield 10, 3) := by decide +kernel
theorem dX4_settle_47 : decode cX4_settle 47 = .ok (.invokevirtual 244, 3) := by decide +kernel
theorem dX4_settle_50 : decode cX4_settle 50 = .ok (.iaload, 1) := by decide +kernel
theorem dX4_settle_51 : decode cX4_settle 51 = .ok (.ireturn, 1) := by decide +kernel
set_option maxRecDepth 20000 in
theorem ggX4_composeRow_X3_compose : GoodIn wsX4_composeRow wsX3_compose := goodIn_r _ [11, 12, 13, 14, 15, 16, 10, 17, 18, 19, 20, 21, 75, 76] (by decide +kernel) (by decide +kernel)
set_option maxRecDepth 20000 in
theorem gX4_composeRow_X3_compose : GoodIn wsX4_composeRow (wsV RX4 178 RX3 yX3_compose wsX3_compose) := goodIn_app (goodIn_of _ (by decide +kernel)) ggX4_composeRow_X3_compose
set_option maxRecDepth 20000 in
theorem ggX4_composeRow_X1_countSets : GoodIn wsX4_composeRow wsX1_countSets := goodIn_r _ [26, 27, 71, 72, 73, 74] (by decide +kernel) (by decide +kernel)
set_option maxRecDepth 20000 in
theorem gX4_composeRow_X1_countSets : GoodIn wsX4_composeRow (wsV RX4 132 RX1 yX1_countSets wsX1_countSets) := goodIn_app (goodIn_of _ (by decide +kernel)) ggX4_composeRow_X1_countSets
set_option maxRecDepth 20000 in
theorem ggX4_composeRow_X4_settle : GoodIn wsX4_composeRow wsX4_settle := goodIn_r _ [31, 32, 2, 3, 33, 34, 35, 36, 37, 38, 39, 40, 41, 42, 43, 44, 45, 46, 47, 48, 49, 50, 51, 52, 53, 54, 55, 56, 57, 22, 23, 24, 25, 26, 27, 58, 59, 60, 61, 62, 63, 64, 65, 66, 67, 68, 69, 70, 71, 72, 73, 74, 77, 78, 79, 80, 81, 82, 83] (by decide +kernel) (by decide +kernel)
set_option maxRecDepth 20000 in
theorem gX4_composeRow_X4_settle : GoodIn wsX4_composeRow (wsV RX4 135 RX4 yX4_settle wsX4_settle) := goodIn_app (goodIn_of _ (by decide +kernel)) ggX4_composeRow_X4_settle
theorem dX4_composeRow_0 : decode cX4_composeRow 0 = .ok (.aload_n 0, 1) := by decide +kernel
theorem dX4_composeRow_1 : decode cX4_composeRow 1 = .ok (.getfield 39, 3) := by decide +kernel
theorem dX4_composeRow_4 : decode cX4_composeRow 4 = .ok (.aload_n 0, 1) := by decide +kernel
theorem dX4_composeRow_5 : decode cX4_composeRow 5 = .ok (.getfield 10, 3) := by decide +kernel
theorem dX4_composeRow_8 : decode cX4_composeRow 8 = .ok (.getfield 106, 3) := by decide +kernel
theorem dX4_composeRow_11 : decode cX4_composeRow 11 = .ok (.iload_n 1, 1) := by decide +kernel
theorem dX4_composeRow_12 : decode cX4_composeRow 12 = .ok (.aaload, 1) := by decide +kernel
theorem dX4_composeRow_13 : decode cX4_composeRow 13 = .ok (.aload_n 0, 1) := by decide +kernel
theorem dX4_composeRow_14 : decode cX4_composeRow 14 = .ok (.getfield 10, 3) := by decide +kernel
theorem dX4_composeRow_17 : decode cX4_composeRow 17 = .ok (.getfield 92, 3) := by decide +kernel
theorem dX4_composeRow_20 : decode cX4_composeRow 20 = .ok (.iconst 0, 1) := by decide +kernel
theorem dX4_composeRow_21 : decode cX4_composeRow 21 = .ok (.invokevirtual 178, 3) := by decide +kernel
theorem dX4_composeRow_24 : decode cX4_composeRow 24 = .ok (.iconst 0, 1) := by decide +kernel
theorem dX4_composeRow_25 : decode cX4_composeRow 25 = .ok (.istore_n 3, 1) := by decide +kernel
theorem dX4_composeRow_26 : decode cX4_composeRow 26 = .ok (.iload_n 3, 1) := by decide +kernel
theorem dX4_composeRow_27 : decode cX4_composeRow 27 = .ok (.aload_n 0, 1) := by decide +kernel
theorem dX4_composeRow_28 : decode cX4_composeRow 28 = .ok (.getfield 10, 3) := by decide +kernel
theorem dX4_composeRow_31 : decode cX4_composeRow 31 = .ok (.invokevirtual 132, 3) := by decide +kernel
theorem dX4_composeRow_34 : decode cX4_composeRow 34 = .ok (.if_icmp .ge 25, 3) := by decide +kernel
theorem dX4_composeRow_37 : decode cX4_composeRow 37 = .ok (.aload_n 0, 1) := by decide +kernel
theorem dX4_composeRow_38 : decode cX4_composeRow 38 = .ok (.getfield 43, 3) := by decide +kernel
theorem dX4_composeRow_41 : decode cX4_composeRow 41 = .ok (.iload_n 3, 1) := by decide +kernel
theorem dX4_composeRow_42 : decode cX4_composeRow 42 = .ok (.aload_n 0, 1) := by decide +kernel
