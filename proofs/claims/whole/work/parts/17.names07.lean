theorem dX5_apart_103 : decode cX5_apart 103 = .ok (.goto (-73), 3) := by decide +kernel
theorem dX5_apart_106 : decode cX5_apart 106 = .ok (.return_, 1) := by decide +kernel
set_option maxRecDepth 20000 in
theorem ggX5_laysOne_X5_all : GoodIn wsX5_laysOne wsX5_all := goodIn_r _ [6, 7, 8, 9, 5, 10, 11, 12, 13, 14, 15, 16, 17, 18, 19, 20, 21, 22, 23, 24, 25, 26, 27, 28, 29, 30, 31, 32, 33, 34, 35] (by decide +kernel) (by decide +kernel)
set_option maxRecDepth 20000 in
theorem gX5_laysOne_X5_all : GoodIn wsX5_laysOne (wsV RX5 151 RX5 yX5_all wsX5_all) := goodIn_app (goodIn_of _ (by decide +kernel)) ggX5_laysOne_X5_all
theorem dX5_laysOne_0 : decode cX5_laysOne 0 = .ok (.iconst 0, 1) := by decide +kernel
theorem dX5_laysOne_1 : decode cX5_laysOne 1 = .ok (.istore_n 1, 1) := by decide +kernel
theorem dX5_laysOne_2 : decode cX5_laysOne 2 = .ok (.iload_n 1, 1) := by decide +kernel
theorem dX5_laysOne_3 : decode cX5_laysOne 3 = .ok (.aload_n 0, 1) := by decide +kernel
theorem dX5_laysOne_4 : decode cX5_laysOne 4 = .ok (.invokevirtual 151, 3) := by decide +kernel
theorem dX5_laysOne_7 : decode cX5_laysOne 7 = .ok (.if_icmp .gt 24, 3) := by decide +kernel
theorem dX5_laysOne_10 : decode cX5_laysOne 10 = .ok (.aload_n 0, 1) := by decide +kernel
theorem dX5_laysOne_11 : decode cX5_laysOne 11 = .ok (.getfield 72, 3) := by decide +kernel
theorem dX5_laysOne_14 : decode cX5_laysOne 14 = .ok (.iload_n 1, 1) := by decide +kernel
theorem dX5_laysOne_15 : decode cX5_laysOne 15 = .ok (.iload_n 1, 1) := by decide +kernel
theorem dX5_laysOne_16 : decode cX5_laysOne 16 = .ok (.ifCond .ne 7, 3) := by decide +kernel
theorem dX5_laysOne_19 : decode cX5_laysOne 19 = .ok (.iconst 1, 1) := by decide +kernel
theorem dX5_laysOne_20 : decode cX5_laysOne 20 = .ok (.goto 4, 3) := by decide +kernel
theorem dX5_laysOne_23 : decode cX5_laysOne 23 = .ok (.iconst 0, 1) := by decide +kernel
theorem dX5_laysOne_24 : decode cX5_laysOne 24 = .ok (.iastore, 1) := by decide +kernel
theorem dX5_laysOne_25 : decode cX5_laysOne 25 = .ok (.iinc 1 1, 3) := by decide +kernel
theorem dX5_laysOne_28 : decode cX5_laysOne 28 = .ok (.goto (-26), 3) := by decide +kernel
theorem dX5_laysOne_31 : decode cX5_laysOne 31 = .ok (.return_, 1) := by decide +kernel
set_option maxRecDepth 20000 in
theorem ggX5_power_X5_isRow : GoodIn wsX5_power wsX5_isRow := goodIn_r _ [6, 7, 8, 9, 5, 10, 11, 12, 13, 14, 50, 51, 52, 53, 54, 55, 56, 57, 58, 59, 60, 61, 62, 63, 64, 65, 66, 67, 68, 69, 70, 71, 72, 73] (by decide +kernel) (by decide +kernel)
set_option maxRecDepth 20000 in
theorem gX5_power_X5_isRow : GoodIn wsX5_power (wsV RX5 171 RX5 yX5_isRow wsX5_isRow) := goodIn_app (goodIn_of _ (by decide +kernel)) ggX5_power_X5_isRow
set_option maxRecDepth 20000 in
theorem ggX5_power_X5_isIn : GoodIn wsX5_power wsX5_isIn := goodIn_r _ [14] (by decide +kernel) (by decide +kernel)
set_option maxRecDepth 20000 in
theorem gX5_power_X5_isIn : GoodIn wsX5_power (va_wsS RX5 99 yX5_isIn wsX5_isIn) := goodIn_app (goodIn_of _ (by decide +kernel)) ggX5_power_X5_isIn
set_option maxRecDepth 20000 in
theorem ggX5_power_X5_laysOne : GoodIn wsX5_power wsX5_laysOne := goodIn_r _ [18, 19, 20, 21, 22, 5, 23, 7, 8, 9, 10, 11, 50, 51, 52, 53, 54, 55, 56, 57, 58, 59, 60, 61, 62, 63, 64, 65, 66, 67, 68, 69, 70, 71, 72, 73] (by decide +kernel) (by decide +kernel)
set_option maxRecDepth 20000 in
theorem gX5_power_X5_laysOne : GoodIn wsX5_power (wsV RX5 209 RX5 yX5_laysOne wsX5_laysOne) := goodIn_app (goodIn_of _ (by decide +kernel)) ggX5_power_X5_laysOne
set_option maxRecDepth 20000 in
theorem ggX5_power_X5_apart : GoodIn wsX5_power wsX5_apart := goodIn_r _ [27, 28, 19, 29, 20, 21, 22, 5, 23, 7, 8, 9, 10, 11, 30, 31, 32, 33, 34, 35, 36, 50, 51, 52, 53, 54, 55, 56, 57, 58, 59, 60, 61, 62, 63, 64, 65, 66, 67, 68, 69, 70, 71, 72, 73] (by decide +kernel) (by decide +kernel)
set_option maxRecDepth 20000 in
theorem gX5_power_X5_apart : GoodIn wsX5_power (wsV RX5 212 RX5 yX5_apart wsX5_apart) := goodIn_app (goodIn_of _ (by decide +kernel)) ggX5_power_X5_apart
set_option maxRecDepth 20000 in
theorem ggX5_power_X5_all : GoodIn wsX5_power wsX5_all := goodIn_r _ [23, 7, 8, 9, 5, 10, 11, 50, 51, 52, 53, 54, 55, 56, 57, 58, 59, 60, 61, 62, 63, 64, 65, 66, 67, 68, 69, 70, 71, 72, 73] (by decide +kernel) (by decide +kernel)
set_option maxRecDepth 20000 in
theorem gX5_power_X5_all : GoodIn wsX5_power (wsV RX5 151 RX5 yX5_all wsX5_all) := goodIn_app (goodIn_of _ (by decide +kernel)) ggX5_power_X5_all
set_option maxRecDepth 20000 in
theorem ggX5_power_X5_becomes : GoodIn wsX5_power wsX5_becomes := goodIn_r _ [40, 11, 19, 41, 42, 43, 5, 44, 45, 46, 47, 48, 49, 20, 21, 22, 23, 7, 8, 9, 10, 50, 51, 52, 53, 54, 55, 56, 57, 58, 59, 60, 61, 62, 63, 64, 65, 66, 67, 68, 69, 70, 71, 72, 73] (by decide +kernel) (by decide +kernel)
set_option maxRecDepth 20000 in
theorem gX5_power_X5_becomes : GoodIn wsX5_power (wsV RX5 191 RX5 yX5_becomes wsX5_becomes) := goodIn_app (goodIn_of _ (by decide +kernel)) ggX5_power_X5_becomes
theorem dX5_power_0 : decode cX5_power 0 = .ok (.aload_n 0, 1) := by decide +kernel
theorem dX5_power_1 : decode cX5_power 1 = .ok (.iconst 0, 1) := by decide +kernel
theorem dX5_power_2 : decode cX5_power 2 = .ok (.putfield 1, 3) := by decide +kernel
theorem dX5_power_5 : decode cX5_power 5 = .ok (.aload_n 0, 1) := by decide +kernel
theorem dX5_power_6 : decode cX5_power 6 = .ok (.iload_n 1, 1) := by decide +kernel
theorem dX5_power_7 : decode cX5_power 7 = .ok (.invokevirtual 171, 3) := by decide +kernel
theorem dX5_power_10 : decode cX5_power 10 = .ok (.ifCond .eq 21, 3) := by decide +kernel
theorem dX5_power_13 : decode cX5_power 13 = .ok (.aload_n 0, 1) := by decide +kernel
theorem dX5_power_14 : decode cX5_power 14 = .ok (.iload_n 3, 1) := by decide +kernel
theorem dX5_power_15 : decode cX5_power 15 = .ok (.invokevirtual 171, 3) := by decide +kernel
theorem dX5_power_18 : decode cX5_power 18 = .ok (.ifCond .eq 13, 3) := by decide +kernel
theorem dX5_power_21 : decode cX5_power 21 = .ok (.iload_n 2, 1) := by decide +kernel
theorem dX5_power_22 : decode cX5_power 22 = .ok (.iconst 0, 1) := by decide +kernel
theorem dX5_power_23 : decode cX5_power 23 = .ok (.bipush 99, 2) := by decide +kernel
theorem dX5_power_25 : decode cX5_power 25 = .ok (.invokestatic 99, 3) := by decide +kernel
theorem dX5_power_28 : decode cX5_power 28 = .ok (.ifCond .ne 5, 3) := by decide +kernel
theorem dX5_power_31 : decode cX5_power 31 = .ok (.iconst (-1), 1) := by decide +kernel
theorem dX5_power_32 : decode cX5_power 32 = .ok (.ireturn, 1) := by decide +kernel
theorem dX5_power_33 : decode cX5_power 33 = .ok (.aload_n 0, 1) := by decide +kernel
theorem dX5_power_34 : decode cX5_power 34 = .ok (.invokevirtual 209, 3) := by decide +kernel
theorem dX5_power_37 : decode cX5_power 37 = .ok (.iconst 0, 1) := by decide +kernel
theorem dX5_power_38 : decode cX5_power 38 = .ok (.istore 4, 2) := by decide +kernel
theorem dX5_power_40 : decode cX5_power 40 = .ok (.iload 4, 2) := by decide +kernel
theorem dX5_power_42 : decode cX5_power 42 = .ok (.iload_n 2, 1) := by decide +kernel
theorem dX5_power_43 : decode cX5_power 43 = .ok (.if_icmp .ge 14, 3) := by decide +kernel
theorem dX5_power_46 : decode cX5_power 46 = .ok (.aload_n 0, 1) := by decide +kernel
theorem dX5_power_47 : decode cX5_power 47 = .ok (.iload_n 1, 1) := by decide +kernel
theorem dX5_power_48 : decode cX5_power 48 = .ok (.invokevirtual 212, 3) := by decide +kernel
theorem dX5_power_51 : decode cX5_power 51 = .ok (.iinc 4 1, 3) := by decide +kernel
theorem dX5_power_54 : decode cX5_power 54 = .ok (.goto (-14), 3) := by decide +kernel
theorem dX5_power_57 : decode cX5_power 57 = .ok (.aload_n 0, 1) := by decide +kernel
theorem dX5_power_58 : decode cX5_power 58 = .ok (.iload_n 3, 1) := by decide +kernel
theorem dX5_power_59 : decode cX5_power 59 = .ok (.aload_n 0, 1) := by decide +kernel
theorem dX5_power_60 : decode cX5_power 60 = .ok (.invokevirtual 151, 3) := by decide +kernel
theorem dX5_power_63 : decode cX5_power 63 = .ok (.invokevirtual 191, 3) := by decide +kernel
theorem dX5_power_66 : decode cX5_power 66 = .ok (.ireturn, 1) := by decide +kernel
theorem dX5_turned_0 : decode cX5_turned 0 = .ok (.lload_n 0, 1) := by decide +kernel
theorem dX5_turned_1 : decode cX5_turned 1 = .ok (.lstore_n 2, 1) := by decide +kernel
theorem dX5_turned_2 : decode cX5_turned 2 = .ok (.lconst 1, 1) := by decide +kernel
theorem dX5_turned_3 : decode cX5_turned 3 = .ok (.lstore 4, 2) := by decide +kernel
theorem dX5_turned_5 : decode cX5_turned 5 = .ok (.ldc 215, 2) := by decide +kernel
theorem dX5_turned_7 : decode cX5_turned 7 = .ok (.istore 6, 2) := by decide +kernel
theorem dX5_turned_9 : decode cX5_turned 9 = .ok (.iload 6, 2) := by decide +kernel
theorem dX5_turned_11 : decode cX5_turned 11 = .ok (.ifCond .le 38, 3) := by decide +kernel
theorem dX5_turned_14 : decode cX5_turned 14 = .ok (.iload 6, 2) := by decide +kernel
theorem dX5_turned_16 : decode cX5_turned 16 = .ok (.iconst 1, 1) := by decide +kernel
theorem dX5_turned_17 : decode cX5_turned 17 = .ok (.iand, 1) := by decide +kernel
theorem dX5_turned_18 : decode cX5_turned 18 = .ok (.iconst 1, 1) := by decide +kernel
theorem dX5_turned_19 : decode cX5_turned 19 = .ok (.if_icmp .ne 13, 3) := by decide +kernel
theorem dX5_turned_22 : decode cX5_turned 22 = .ok (.lload 4, 2) := by decide +kernel
theorem dX5_turned_24 : decode cX5_turned 24 = .ok (.lload_n 2, 1) := by decide +kernel
theorem dX5_turned_25 : decode cX5_turned 25 = .ok (.lmul, 1) := by decide +kernel
theorem dX5_turned_26 : decode cX5_turned 26 = .ok (.ldc2_w 166, 3) := by decide +kernel
theorem dX5_turned_29 : decode cX5_turned 29 = .ok (.lrem, 1) := by decide +kernel
theorem dX5_turned_30 : decode cX5_turned 30 = .ok (.lstore 4, 2) := by decide +kernel
theorem dX5_turned_32 : decode cX5_turned 32 = .ok (.lload_n 2, 1) := by decide +kernel
theorem dX5_turned_33 : decode cX5_turned 33 = .ok (.lload_n 2, 1) := by decide +kernel
theorem dX5_turned_34 : decode cX5_turned 34 = .ok (.lmul, 1) := by decide +kernel
theorem dX5_turned_35 : decode cX5_turned 35 = .ok (.ldc2_w 166, 3) := by decide +kernel
theorem dX5_turned_38 : decode cX5_turned 38 = .ok (.lrem, 1) := by decide +kernel
theorem dX5_turned_39 : decode cX5_turned 39 = .ok (.lstore_n 2, 1) := by decide +kernel
theorem dX5_turned_40 : decode cX5_turned 40 = .ok (.iload 6, 2) := by decide +kernel
theorem dX5_turned_42 : decode cX5_turned 42 = .ok (.iconst 1, 1) := by decide +kernel
theorem dX5_turned_43 : decode cX5_turned 43 = .ok (.ishr, 1) := by decide +kernel
theorem dX5_turned_44 : decode cX5_turned 44 = .ok (.istore 6, 2) := by decide +kernel
theorem dX5_turned_46 : decode cX5_turned 46 = .ok (.goto (-37), 3) := by decide +kernel
theorem dX5_turned_49 : decode cX5_turned 49 = .ok (.lload 4, 2) := by decide +kernel
theorem dX5_turned_51 : decode cX5_turned 51 = .ok (.lreturn, 1) := by decide +kernel
set_option maxRecDepth 20000 in
theorem ggX5_inverse_X5_isRow : GoodIn wsX5_inverse wsX5_isRow := goodIn_r _ [8, 9, 10, 11, 7, 12, 13, 14, 15, 16, 45, 46, 47, 48, 49, 50, 51, 52, 53, 54, 55, 56, 57, 58, 59, 60, 61, 62, 63, 64, 65, 66, 67, 68] (by decide +kernel) (by decide +kernel)
set_option maxRecDepth 20000 in
theorem gX5_inverse_X5_isRow : GoodIn wsX5_inverse (wsV RX5 171 RX5 yX5_isRow wsX5_isRow) := goodIn_app (goodIn_of _ (by decide +kernel)) ggX5_inverse_X5_isRow
set_option maxRecDepth 20000 in
theorem ggX5_inverse_X5_numberOf : GoodIn wsX5_inverse wsX5_numberOf := goodIn_r _ [20, 13, 45, 46, 47, 48, 49, 50, 51, 52, 53, 54, 55, 56, 57, 58, 59, 60, 61, 62, 63, 64, 65, 66, 67, 68] (by decide +kernel) (by decide +kernel)
set_option maxRecDepth 20000 in
theorem gX5_inverse_X5_numberOf : GoodIn wsX5_inverse (wsV RX5 174 RX5 yX5_numberOf wsX5_numberOf) := goodIn_app (goodIn_of _ (by decide +kernel)) ggX5_inverse_X5_numberOf
set_option maxRecDepth 20000 in
theorem ggX5_inverse_X5_turned : GoodIn wsX5_inverse wsX5_turned := goodIn_r _ [23, 24, 3] (by decide +kernel) (by decide +kernel)
set_option maxRecDepth 20000 in
theorem gX5_inverse_X5_turned : GoodIn wsX5_inverse (va_wsS RX5 216 yX5_turned wsX5_turned) := goodIn_app (goodIn_of _ (by decide +kernel)) ggX5_inverse_X5_turned
set_option maxRecDepth 20000 in
theorem ggX5_inverse_X5_all : GoodIn wsX5_inverse wsX5_all := goodIn_r _ [28, 9, 10, 11, 7, 12, 13, 45, 46, 47, 48, 49, 50, 51, 52, 53, 54, 55, 56, 57, 58, 59, 60, 61, 62, 63, 64, 65, 66, 67, 68] (by decide +kernel) (by decide +kernel)
set_option maxRecDepth 20000 in
theorem gX5_inverse_X5_all : GoodIn wsX5_inverse (wsV RX5 151 RX5 yX5_all wsX5_all) := goodIn_app (goodIn_of _ (by decide +kernel)) ggX5_inverse_X5_all
set_option maxRecDepth 20000 in
theorem ggX5_inverse_X5_rest : GoodIn wsX5_inverse wsX5_rest := goodIn_r _ [31, 3] (by decide +kernel) (by decide +kernel)
set_option maxRecDepth 20000 in
theorem gX5_inverse_X5_rest : GoodIn wsX5_inverse (va_wsS RX5 178 yX5_rest wsX5_rest) := goodIn_app (goodIn_of _ (by decide +kernel)) ggX5_inverse_X5_rest
set_option maxRecDepth 20000 in
theorem ggX5_inverse_X5_becomes : GoodIn wsX5_inverse wsX5_becomes := goodIn_r _ [35, 13, 2, 36, 37, 38, 7, 39, 40, 41, 42, 43, 44, 25, 26, 27, 28, 9, 10, 11, 12, 45, 46, 47, 48, 49, 50, 51, 52, 53, 54, 55, 56, 57, 58, 59, 60, 61, 62, 63, 64, 65, 66, 67, 68] (by decide +kernel) (by decide +kernel)
set_option maxRecDepth 20000 in
theorem gX5_inverse_X5_becomes : GoodIn wsX5_inverse (wsV RX5 191 RX5 yX5_becomes wsX5_becomes) := goodIn_app (goodIn_of _ (by decide +kernel)) ggX5_inverse_X5_becomes
theorem dX5_inverse_0 : decode cX5_inverse 0 = .ok (.aload_n 0, 1) := by decide +kernel
theorem dX5_inverse_1 : decode cX5_inverse 1 = .ok (.iconst 0, 1) := by decide +kernel
theorem dX5_inverse_2 : decode cX5_inverse 2 = .ok (.putfield 1, 3) := by decide +kernel
theorem dX5_inverse_5 : decode cX5_inverse 5 = .ok (.aload_n 0, 1) := by decide +kernel
theorem dX5_inverse_6 : decode cX5_inverse 6 = .ok (.iload_n 1, 1) := by decide +kernel
theorem dX5_inverse_7 : decode cX5_inverse 7 = .ok (.invokevirtual 171, 3) := by decide +kernel
theorem dX5_inverse_10 : decode cX5_inverse 10 = .ok (.ifCond .eq 20, 3) := by decide +kernel
theorem dX5_inverse_13 : decode cX5_inverse 13 = .ok (.aload_n 0, 1) := by decide +kernel
theorem dX5_inverse_14 : decode cX5_inverse 14 = .ok (.iload_n 2, 1) := by decide +kernel
theorem dX5_inverse_15 : decode cX5_inverse 15 = .ok (.invokevirtual 171, 3) := by decide +kernel
theorem dX5_inverse_18 : decode cX5_inverse 18 = .ok (.ifCond .eq 12, 3) := by decide +kernel
theorem dX5_inverse_21 : decode cX5_inverse 21 = .ok (.aload_n 0, 1) := by decide +kernel
theorem dX5_inverse_22 : decode cX5_inverse 22 = .ok (.iload_n 1, 1) := by decide +kernel
theorem dX5_inverse_23 : decode cX5_inverse 23 = .ok (.iconst 0, 1) := by decide +kernel
theorem dX5_inverse_24 : decode cX5_inverse 24 = .ok (.invokevirtual 174, 3) := by decide +kernel
theorem dX5_inverse_27 : decode cX5_inverse 27 = .ok (.ifCond .ne 5, 3) := by decide +kernel
theorem dX5_inverse_30 : decode cX5_inverse 30 = .ok (.iconst (-1), 1) := by decide +kernel
theorem dX5_inverse_31 : decode cX5_inverse 31 = .ok (.ireturn, 1) := by decide +kernel
theorem dX5_inverse_32 : decode cX5_inverse 32 = .ok (.aload_n 0, 1) := by decide +kernel
theorem dX5_inverse_33 : decode cX5_inverse 33 = .ok (.iload_n 1, 1) := by decide +kernel
theorem dX5_inverse_34 : decode cX5_inverse 34 = .ok (.iconst 0, 1) := by decide +kernel
theorem dX5_inverse_35 : decode cX5_inverse 35 = .ok (.invokevirtual 174, 3) := by decide +kernel
theorem dX5_inverse_38 : decode cX5_inverse 38 = .ok (.i2l, 1) := by decide +kernel
theorem dX5_inverse_39 : decode cX5_inverse 39 = .ok (.invokestatic 216, 3) := by decide +kernel
theorem dX5_inverse_42 : decode cX5_inverse 42 = .ok (.lstore_n 3, 1) := by decide +kernel
theorem dX5_inverse_43 : decode cX5_inverse 43 = .ok (.aload_n 0, 1) := by decide +kernel
theorem dX5_inverse_44 : decode cX5_inverse 44 = .ok (.getfield 72, 3) := by decide +kernel
theorem dX5_inverse_47 : decode cX5_inverse 47 = .ok (.iconst 0, 1) := by decide +kernel
theorem dX5_inverse_48 : decode cX5_inverse 48 = .ok (.lload_n 3, 1) := by decide +kernel
theorem dX5_inverse_49 : decode cX5_inverse 49 = .ok (.l2i, 1) := by decide +kernel
theorem dX5_inverse_50 : decode cX5_inverse 50 = .ok (.iastore, 1) := by decide +kernel
theorem dX5_inverse_51 : decode cX5_inverse 51 = .ok (.iconst 1, 1) := by decide +kernel
theorem dX5_inverse_52 : decode cX5_inverse 52 = .ok (.istore 5, 2) := by decide +kernel
theorem dX5_inverse_54 : decode cX5_inverse 54 = .ok (.iload 5, 2) := by decide +kernel
theorem dX5_inverse_56 : decode cX5_inverse 56 = .ok (.aload_n 0, 1) := by decide +kernel
theorem dX5_inverse_57 : decode cX5_inverse 57 = .ok (.invokevirtual 151, 3) := by decide +kernel
theorem dX5_inverse_60 : decode cX5_inverse 60 = .ok (.if_icmp .gt 83, 3) := by decide +kernel
theorem dX5_inverse_63 : decode cX5_inverse 63 = .ok (.lconst 0, 1) := by decide +kernel
theorem dX5_inverse_64 : decode cX5_inverse 64 = .ok (.lstore 6, 2) := by decide +kernel
theorem dX5_inverse_66 : decode cX5_inverse 66 = .ok (.iload 5, 2) := by decide +kernel
theorem dX5_inverse_68 : decode cX5_inverse 68 = .ok (.istore 8, 2) := by decide +kernel
theorem dX5_inverse_70 : decode cX5_inverse 70 = .ok (.iload 8, 2) := by decide +kernel
theorem dX5_inverse_72 : decode cX5_inverse 72 = .ok (.ifCond .le 46, 3) := by decide +kernel
theorem dX5_inverse_75 : decode cX5_inverse 75 = .ok (.lload 6, 2) := by decide +kernel
theorem dX5_inverse_77 : decode cX5_inverse 77 = .ok (.aload_n 0, 1) := by decide +kernel
theorem dX5_inverse_78 : decode cX5_inverse 78 = .ok (.iload_n 1, 1) := by decide +kernel
theorem dX5_inverse_79 : decode cX5_inverse 79 = .ok (.iload 8, 2) := by decide +kernel
theorem dX5_inverse_81 : decode cX5_inverse 81 = .ok (.invokevirtual 174, 3) := by decide +kernel
theorem dX5_inverse_84 : decode cX5_inverse 84 = .ok (.i2l, 1) := by decide +kernel
theorem dX5_inverse_85 : decode cX5_inverse 85 = .ok (.aload_n 0, 1) := by decide +kernel
theorem dX5_inverse_86 : decode cX5_inverse 86 = .ok (.getfield 72, 3) := by decide +kernel
theorem dX5_inverse_89 : decode cX5_inverse 89 = .ok (.iload 5, 2) := by decide +kernel
theorem dX5_inverse_91 : decode cX5_inverse 91 = .ok (.iload 8, 2) := by decide +kernel
theorem dX5_inverse_93 : decode cX5_inverse 93 = .ok (.iconst (-1), 1) := by decide +kernel
theorem dX5_inverse_94 : decode cX5_inverse 94 = .ok (.ixor, 1) := by decide +kernel
theorem dX5_inverse_95 : decode cX5_inverse 95 = .ok (.iand, 1) := by decide +kernel
theorem dX5_inverse_96 : decode cX5_inverse 96 = .ok (.iaload, 1) := by decide +kernel
theorem dX5_inverse_97 : decode cX5_inverse 97 = .ok (.i2l, 1) := by decide +kernel
theorem dX5_inverse_98 : decode cX5_inverse 98 = .ok (.lmul, 1) := by decide +kernel
theorem dX5_inverse_99 : decode cX5_inverse 99 = .ok (.ldc2_w 166, 3) := by decide +kernel
theorem dX5_inverse_102 : decode cX5_inverse 102 = .ok (.lrem, 1) := by decide +kernel
theorem dX5_inverse_103 : decode cX5_inverse 103 = .ok (.ladd, 1) := by decide +kernel
theorem dX5_inverse_104 : decode cX5_inverse 104 = .ok (.lstore 6, 2) := by decide +kernel
theorem dX5_inverse_106 : decode cX5_inverse 106 = .ok (.iload 8, 2) := by decide +kernel
theorem dX5_inverse_108 : decode cX5_inverse 108 = .ok (.iconst 1, 1) := by decide +kernel
theorem dX5_inverse_109 : decode cX5_inverse 109 = .ok (.isub, 1) := by decide +kernel
theorem dX5_inverse_110 : decode cX5_inverse 110 = .ok (.iload 5, 2) := by decide +kernel
theorem dX5_inverse_112 : decode cX5_inverse 112 = .ok (.iand, 1) := by decide +kernel
theorem dX5_inverse_113 : decode cX5_inverse 113 = .ok (.istore 8, 2) := by decide +kernel
theorem dX5_inverse_115 : decode cX5_inverse 115 = .ok (.goto (-45), 3) := by decide +kernel
theorem dX5_inverse_118 : decode cX5_inverse 118 = .ok (.aload_n 0, 1) := by decide +kernel
theorem dX5_inverse_119 : decode cX5_inverse 119 = .ok (.getfield 72, 3) := by decide +kernel
theorem dX5_inverse_122 : decode cX5_inverse 122 = .ok (.iload 5, 2) := by decide +kernel
theorem dX5_inverse_124 : decode cX5_inverse 124 = .ok (.lload 6, 2) := by decide +kernel
theorem dX5_inverse_126 : decode cX5_inverse 126 = .ok (.ldc2_w 166, 3) := by decide +kernel
theorem dX5_inverse_129 : decode cX5_inverse 129 = .ok (.lrem, 1) := by decide +kernel
theorem dX5_inverse_130 : decode cX5_inverse 130 = .ok (.lneg, 1) := by decide +kernel
theorem dX5_inverse_131 : decode cX5_inverse 131 = .ok (.lload_n 3, 1) := by decide +kernel
theorem dX5_inverse_132 : decode cX5_inverse 132 = .ok (.lmul, 1) := by decide +kernel
theorem dX5_inverse_133 : decode cX5_inverse 133 = .ok (.invokestatic 178, 3) := by decide +kernel
theorem dX5_inverse_136 : decode cX5_inverse 136 = .ok (.iastore, 1) := by decide +kernel
theorem dX5_inverse_137 : decode cX5_inverse 137 = .ok (.iinc 5 1, 3) := by decide +kernel
theorem dX5_inverse_140 : decode cX5_inverse 140 = .ok (.goto (-86), 3) := by decide +kernel
theorem dX5_inverse_143 : decode cX5_inverse 143 = .ok (.aload_n 0, 1) := by decide +kernel
theorem dX5_inverse_144 : decode cX5_inverse 144 = .ok (.iload_n 2, 1) := by decide +kernel
theorem dX5_inverse_145 : decode cX5_inverse 145 = .ok (.aload_n 0, 1) := by decide +kernel
theorem dX5_inverse_146 : decode cX5_inverse 146 = .ok (.invokevirtual 151, 3) := by decide +kernel
theorem dX5_inverse_149 : decode cX5_inverse 149 = .ok (.invokevirtual 191, 3) := by decide +kernel
theorem dX5_inverse_152 : decode cX5_inverse 152 = .ok (.ireturn, 1) := by decide +kernel
set_option maxRecDepth 20000 in
theorem ggX5_allWays_X5_isRow : GoodIn wsX5_allWays wsX5_isRow := goodIn_r _ [8, 9, 10, 11, 7, 12, 13, 14, 15, 16, 41, 42, 43, 44, 45, 46, 47, 48, 49, 50, 51, 52, 53, 54, 55, 56, 57, 58, 59, 60, 61, 62, 63, 64] (by decide +kernel) (by decide +kernel)
set_option maxRecDepth 20000 in
theorem gX5_allWays_X5_isRow : GoodIn wsX5_allWays (wsV RX5 171 RX5 yX5_isRow wsX5_isRow) := goodIn_app (goodIn_of _ (by decide +kernel)) ggX5_allWays_X5_isRow
set_option maxRecDepth 20000 in
theorem ggX5_allWays_X5_numberOf : GoodIn wsX5_allWays wsX5_numberOf := goodIn_r _ [20, 13, 41, 42, 43, 44, 45, 46, 47, 48, 49, 50, 51, 52, 53, 54, 55, 56, 57, 58, 59, 60, 61, 62, 63, 64] (by decide +kernel) (by decide +kernel)
set_option maxRecDepth 20000 in
theorem gX5_allWays_X5_numberOf : GoodIn wsX5_allWays (wsV RX5 174 RX5 yX5_numberOf wsX5_numberOf) := goodIn_app (goodIn_of _ (by decide +kernel)) ggX5_allWays_X5_numberOf
set_option maxRecDepth 20000 in
theorem ggX5_allWays_X5_all : GoodIn wsX5_allWays wsX5_all := goodIn_r _ [24, 9, 10, 11, 7, 12, 13, 41, 42, 43, 44, 45, 46, 47, 48, 49, 50, 51, 52, 53, 54, 55, 56, 57, 58, 59, 60, 61, 62, 63, 64] (by decide +kernel) (by decide +kernel)
set_option maxRecDepth 20000 in
theorem gX5_allWays_X5_all : GoodIn wsX5_allWays (wsV RX5 151 RX5 yX5_all wsX5_all) := goodIn_app (goodIn_of _ (by decide +kernel)) ggX5_allWays_X5_all
set_option maxRecDepth 20000 in
theorem ggX5_allWays_X5_rest : GoodIn wsX5_allWays wsX5_rest := goodIn_r _ [27, 3] (by decide +kernel) (by decide +kernel)
set_option maxRecDepth 20000 in
theorem gX5_allWays_X5_rest : GoodIn wsX5_allWays (va_wsS RX5 178 yX5_rest wsX5_rest) := goodIn_app (goodIn_of _ (by decide +kernel)) ggX5_allWays_X5_rest
set_option maxRecDepth 20000 in
theorem ggX5_allWays_X5_becomes : GoodIn wsX5_allWays wsX5_becomes := goodIn_r _ [31, 13, 2, 32, 33, 34, 7, 35, 36, 37, 38, 39, 40, 21, 22, 23, 24, 9, 10, 11, 12, 41, 42, 43, 44, 45, 46, 47, 48, 49, 50, 51, 52, 53, 54, 55, 56, 57, 58, 59, 60, 61, 62, 63, 64] (by decide +kernel) (by decide +kernel)
set_option maxRecDepth 20000 in
theorem gX5_allWays_X5_becomes : GoodIn wsX5_allWays (wsV RX5 191 RX5 yX5_becomes wsX5_becomes) := goodIn_app (goodIn_of _ (by decide +kernel)) ggX5_allWays_X5_becomes
theorem dX5_allWays_0 : decode cX5_allWays 0 = .ok (.aload_n 0, 1) := by decide +kernel
theorem dX5_allWays_1 : decode cX5_allWays 1 = .ok (.iconst 0, 1) := by decide +kernel
theorem dX5_allWays_2 : decode cX5_allWays 2 = .ok (.putfield 1, 3) := by decide +kernel
theorem dX5_allWays_5 : decode cX5_allWays 5 = .ok (.aload_n 0, 1) := by decide +kernel
theorem dX5_allWays_6 : decode cX5_allWays 6 = .ok (.iload_n 1, 1) := by decide +kernel
theorem dX5_allWays_7 : decode cX5_allWays 7 = .ok (.invokevirtual 171, 3) := by decide +kernel
theorem dX5_allWays_10 : decode cX5_allWays 10 = .ok (.ifCond .eq 20, 3) := by decide +kernel
theorem dX5_allWays_13 : decode cX5_allWays 13 = .ok (.aload_n 0, 1) := by decide +kernel
theorem dX5_allWays_14 : decode cX5_allWays 14 = .ok (.iload_n 2, 1) := by decide +kernel
theorem dX5_allWays_15 : decode cX5_allWays 15 = .ok (.invokevirtual 171, 3) := by decide +kernel
theorem dX5_allWays_18 : decode cX5_allWays 18 = .ok (.ifCond .eq 12, 3) := by decide +kernel
theorem dX5_allWays_21 : decode cX5_allWays 21 = .ok (.aload_n 0, 1) := by decide +kernel
theorem dX5_allWays_22 : decode cX5_allWays 22 = .ok (.iload_n 1, 1) := by decide +kernel
theorem dX5_allWays_23 : decode cX5_allWays 23 = .ok (.iconst 0, 1) := by decide +kernel
theorem dX5_allWays_24 : decode cX5_allWays 24 = .ok (.invokevirtual 174, 3) := by decide +kernel
theorem dX5_allWays_27 : decode cX5_allWays 27 = .ok (.ifCond .eq 5, 3) := by decide +kernel
theorem dX5_allWays_30 : decode cX5_allWays 30 = .ok (.iconst (-1), 1) := by decide +kernel
theorem dX5_allWays_31 : decode cX5_allWays 31 = .ok (.ireturn, 1) := by decide +kernel
theorem dX5_allWays_32 : decode cX5_allWays 32 = .ok (.aload_n 0, 1) := by decide +kernel
theorem dX5_allWays_33 : decode cX5_allWays 33 = .ok (.getfield 72, 3) := by decide +kernel
theorem dX5_allWays_36 : decode cX5_allWays 36 = .ok (.iconst 0, 1) := by decide +kernel
theorem dX5_allWays_37 : decode cX5_allWays 37 = .ok (.iconst 1, 1) := by decide +kernel
theorem dX5_allWays_38 : decode cX5_allWays 38 = .ok (.iastore, 1) := by decide +kernel
theorem dX5_allWays_39 : decode cX5_allWays 39 = .ok (.iconst 1, 1) := by decide +kernel
theorem dX5_allWays_40 : decode cX5_allWays 40 = .ok (.istore_n 3, 1) := by decide +kernel
theorem dX5_allWays_41 : decode cX5_allWays 41 = .ok (.iload_n 3, 1) := by decide +kernel
theorem dX5_allWays_42 : decode cX5_allWays 42 = .ok (.aload_n 0, 1) := by decide +kernel
theorem dX5_allWays_43 : decode cX5_allWays 43 = .ok (.invokevirtual 151, 3) := by decide +kernel
theorem dX5_allWays_46 : decode cX5_allWays 46 = .ok (.if_icmp .gt 82, 3) := by decide +kernel
theorem dX5_allWays_49 : decode cX5_allWays 49 = .ok (.lconst 0, 1) := by decide +kernel
theorem dX5_allWays_50 : decode cX5_allWays 50 = .ok (.lstore 4, 2) := by decide +kernel
theorem dX5_allWays_52 : decode cX5_allWays 52 = .ok (.iload_n 3, 1) := by decide +kernel
theorem dX5_allWays_53 : decode cX5_allWays 53 = .ok (.istore 6, 2) := by decide +kernel
theorem dX5_allWays_55 : decode cX5_allWays 55 = .ok (.iload 6, 2) := by decide +kernel
theorem dX5_allWays_57 : decode cX5_allWays 57 = .ok (.ifCond .le 54, 3) := by decide +kernel
theorem dX5_allWays_60 : decode cX5_allWays 60 = .ok (.iload 6, 2) := by decide +kernel
theorem dX5_allWays_62 : decode cX5_allWays 62 = .ok (.iload_n 3, 1) := by decide +kernel
theorem dX5_allWays_63 : decode cX5_allWays 63 = .ok (.iand, 1) := by decide +kernel
theorem dX5_allWays_64 : decode cX5_allWays 64 = .ok (.iload_n 3, 1) := by decide +kernel
theorem dX5_allWays_65 : decode cX5_allWays 65 = .ok (.ineg, 1) := by decide +kernel
theorem dX5_allWays_66 : decode cX5_allWays 66 = .ok (.iand, 1) := by decide +kernel
theorem dX5_allWays_67 : decode cX5_allWays 67 = .ok (.ifCond .eq 33, 3) := by decide +kernel
theorem dX5_allWays_70 : decode cX5_allWays 70 = .ok (.lload 4, 2) := by decide +kernel
theorem dX5_allWays_72 : decode cX5_allWays 72 = .ok (.aload_n 0, 1) := by decide +kernel
theorem dX5_allWays_73 : decode cX5_allWays 73 = .ok (.iload_n 1, 1) := by decide +kernel
theorem dX5_allWays_74 : decode cX5_allWays 74 = .ok (.iload 6, 2) := by decide +kernel
theorem dX5_allWays_76 : decode cX5_allWays 76 = .ok (.invokevirtual 174, 3) := by decide +kernel
theorem dX5_allWays_79 : decode cX5_allWays 79 = .ok (.i2l, 1) := by decide +kernel
theorem dX5_allWays_80 : decode cX5_allWays 80 = .ok (.aload_n 0, 1) := by decide +kernel
theorem dX5_allWays_81 : decode cX5_allWays 81 = .ok (.getfield 72, 3) := by decide +kernel
theorem dX5_allWays_84 : decode cX5_allWays 84 = .ok (.iload_n 3, 1) := by decide +kernel
theorem dX5_allWays_85 : decode cX5_allWays 85 = .ok (.iload 6, 2) := by decide +kernel
theorem dX5_allWays_87 : decode cX5_allWays 87 = .ok (.iconst (-1), 1) := by decide +kernel
theorem dX5_allWays_88 : decode cX5_allWays 88 = .ok (.ixor, 1) := by decide +kernel
theorem dX5_allWays_89 : decode cX5_allWays 89 = .ok (.iand, 1) := by decide +kernel
theorem dX5_allWays_90 : decode cX5_allWays 90 = .ok (.iaload, 1) := by decide +kernel
theorem dX5_allWays_91 : decode cX5_allWays 91 = .ok (.i2l, 1) := by decide +kernel
theorem dX5_allWays_92 : decode cX5_allWays 92 = .ok (.lmul, 1) := by decide +kernel
theorem dX5_allWays_93 : decode cX5_allWays 93 = .ok (.ldc2_w 166, 3) := by decide +kernel
theorem dX5_allWays_96 : decode cX5_allWays 96 = .ok (.lrem, 1) := by decide +kernel
theorem dX5_allWays_97 : decode cX5_allWays 97 = .ok (.ladd, 1) := by decide +kernel
theorem dX5_allWays_98 : decode cX5_allWays 98 = .ok (.lstore 4, 2) := by decide +kernel
theorem dX5_allWays_100 : decode cX5_allWays 100 = .ok (.iload 6, 2) := by decide +kernel
theorem dX5_allWays_102 : decode cX5_allWays 102 = .ok (.iconst 1, 1) := by decide +kernel
theorem dX5_allWays_103 : decode cX5_allWays 103 = .ok (.isub, 1) := by decide +kernel
theorem dX5_allWays_104 : decode cX5_allWays 104 = .ok (.iload_n 3, 1) := by decide +kernel
theorem dX5_allWays_105 : decode cX5_allWays 105 = .ok (.iand, 1) := by decide +kernel
theorem dX5_allWays_106 : decode cX5_allWays 106 = .ok (.istore 6, 2) := by decide +kernel
theorem dX5_allWays_108 : decode cX5_allWays 108 = .ok (.goto (-53), 3) := by decide +kernel
theorem dX5_allWays_111 : decode cX5_allWays 111 = .ok (.aload_n 0, 1) := by decide +kernel
theorem dX5_allWays_112 : decode cX5_allWays 112 = .ok (.getfield 72, 3) := by decide +kernel
theorem dX5_allWays_115 : decode cX5_allWays 115 = .ok (.iload_n 3, 1) := by decide +kernel
theorem dX5_allWays_116 : decode cX5_allWays 116 = .ok (.lload 4, 2) := by decide +kernel
theorem dX5_allWays_118 : decode cX5_allWays 118 = .ok (.invokestatic 178, 3) := by decide +kernel
theorem dX5_allWays_121 : decode cX5_allWays 121 = .ok (.iastore, 1) := by decide +kernel
theorem dX5_allWays_122 : decode cX5_allWays 122 = .ok (.iinc 3 1, 3) := by decide +kernel
theorem dX5_allWays_125 : decode cX5_allWays 125 = .ok (.goto (-84), 3) := by decide +kernel
theorem dX5_allWays_128 : decode cX5_allWays 128 = .ok (.aload_n 0, 1) := by decide +kernel
theorem dX5_allWays_129 : decode cX5_allWays 129 = .ok (.iload_n 2, 1) := by decide +kernel
theorem dX5_allWays_130 : decode cX5_allWays 130 = .ok (.aload_n 0, 1) := by decide +kernel
theorem dX5_allWays_131 : decode cX5_allWays 131 = .ok (.invokevirtual 151, 3) := by decide +kernel
theorem dX5_allWays_134 : decode cX5_allWays 134 = .ok (.invokevirtual 191, 3) := by decide +kernel
theorem dX5_allWays_137 : decode cX5_allWays 137 = .ok (.ireturn, 1) := by decide +kernel
set_option maxRecDepth 20000 in
theorem ggX5_roots_X5_isRow : GoodIn wsX5_roots wsX5_isRow := goodIn_r _ [8, 9, 10, 11, 7, 12, 13, 14, 15, 16, 41, 42, 43, 44, 45, 46, 47, 48, 49, 50, 51, 52, 53, 54, 55, 56, 57, 58, 59, 60, 61, 62, 63, 64] (by decide +kernel) (by decide +kernel)
set_option maxRecDepth 20000 in
theorem gX5_roots_X5_isRow : GoodIn wsX5_roots (wsV RX5 171 RX5 yX5_isRow wsX5_isRow) := goodIn_app (goodIn_of _ (by decide +kernel)) ggX5_roots_X5_isRow
set_option maxRecDepth 20000 in
theorem ggX5_roots_X5_numberOf : GoodIn wsX5_roots wsX5_numberOf := goodIn_r _ [20, 13, 41, 42, 43, 44, 45, 46, 47, 48, 49, 50, 51, 52, 53, 54, 55, 56, 57, 58, 59, 60, 61, 62, 63, 64] (by decide +kernel) (by decide +kernel)
set_option maxRecDepth 20000 in
theorem gX5_roots_X5_numberOf : GoodIn wsX5_roots (wsV RX5 174 RX5 yX5_numberOf wsX5_numberOf) := goodIn_app (goodIn_of _ (by decide +kernel)) ggX5_roots_X5_numberOf
set_option maxRecDepth 20000 in
theorem ggX5_roots_X5_all : GoodIn wsX5_roots wsX5_all := goodIn_r _ [24, 9, 10, 11, 7, 12, 13, 41, 42, 43, 44, 45, 46, 47, 48, 49, 50, 51, 52, 53, 54, 55, 56, 57, 58, 59, 60, 61, 62, 63, 64] (by decide +kernel) (by decide +kernel)
set_option maxRecDepth 20000 in
theorem gX5_roots_X5_all : GoodIn wsX5_roots (wsV RX5 151 RX5 yX5_all wsX5_all) := goodIn_app (goodIn_of _ (by decide +kernel)) ggX5_roots_X5_all
set_option maxRecDepth 20000 in
theorem ggX5_roots_X5_rest : GoodIn wsX5_roots wsX5_rest := goodIn_r _ [27, 3] (by decide +kernel) (by decide +kernel)
set_option maxRecDepth 20000 in
theorem gX5_roots_X5_rest : GoodIn wsX5_roots (va_wsS RX5 178 yX5_rest wsX5_rest) := goodIn_app (goodIn_of _ (by decide +kernel)) ggX5_roots_X5_rest
set_option maxRecDepth 20000 in
theorem ggX5_roots_X5_becomes : GoodIn wsX5_roots wsX5_becomes := goodIn_r _ [31, 13, 2, 32, 33, 34, 7, 35, 36, 37, 38, 39, 40, 21, 22, 23, 24, 9, 10, 11, 12, 41, 42, 43, 44, 45, 46, 47, 48, 49, 50, 51, 52, 53, 54, 55, 56, 57, 58, 59, 60, 61, 62, 63, 64] (by decide +kernel) (by decide +kernel)
set_option maxRecDepth 20000 in
theorem gX5_roots_X5_becomes : GoodIn wsX5_roots (wsV RX5 191 RX5 yX5_becomes wsX5_becomes) := goodIn_app (goodIn_of _ (by decide +kernel)) ggX5_roots_X5_becomes
theorem dX5_roots_0 : decode cX5_roots 0 = .ok (.aload_n 0, 1) := by decide +kernel
theorem dX5_roots_1 : decode cX5_roots 1 = .ok (.iconst 0, 1) := by decide +kernel
theorem dX5_roots_2 : decode cX5_roots 2 = .ok (.putfield 1, 3) := by decide +kernel
theorem dX5_roots_5 : decode cX5_roots 5 = .ok (.aload_n 0, 1) := by decide +kernel
theorem dX5_roots_6 : decode cX5_roots 6 = .ok (.iload_n 1, 1) := by decide +kernel
theorem dX5_roots_7 : decode cX5_roots 7 = .ok (.invokevirtual 171, 3) := by decide +kernel
theorem dX5_roots_10 : decode cX5_roots 10 = .ok (.ifCond .eq 21, 3) := by decide +kernel
theorem dX5_roots_13 : decode cX5_roots 13 = .ok (.aload_n 0, 1) := by decide +kernel
theorem dX5_roots_14 : decode cX5_roots 14 = .ok (.iload_n 2, 1) := by decide +kernel
theorem dX5_roots_15 : decode cX5_roots 15 = .ok (.invokevirtual 171, 3) := by decide +kernel
theorem dX5_roots_18 : decode cX5_roots 18 = .ok (.ifCond .eq 13, 3) := by decide +kernel
theorem dX5_roots_21 : decode cX5_roots 21 = .ok (.aload_n 0, 1) := by decide +kernel
theorem dX5_roots_22 : decode cX5_roots 22 = .ok (.iload_n 1, 1) := by decide +kernel
theorem dX5_roots_23 : decode cX5_roots 23 = .ok (.iconst 0, 1) := by decide +kernel
theorem dX5_roots_24 : decode cX5_roots 24 = .ok (.invokevirtual 174, 3) := by decide +kernel
theorem dX5_roots_27 : decode cX5_roots 27 = .ok (.iconst 1, 1) := by decide +kernel
theorem dX5_roots_28 : decode cX5_roots 28 = .ok (.if_icmp .eq 5, 3) := by decide +kernel
theorem dX5_roots_31 : decode cX5_roots 31 = .ok (.iconst (-1), 1) := by decide +kernel
theorem dX5_roots_32 : decode cX5_roots 32 = .ok (.ireturn, 1) := by decide +kernel
theorem dX5_roots_33 : decode cX5_roots 33 = .ok (.aload_n 0, 1) := by decide +kernel
theorem dX5_roots_34 : decode cX5_roots 34 = .ok (.getfield 72, 3) := by decide +kernel
theorem dX5_roots_37 : decode cX5_roots 37 = .ok (.iconst 0, 1) := by decide +kernel
theorem dX5_roots_38 : decode cX5_roots 38 = .ok (.iconst 0, 1) := by decide +kernel
theorem dX5_roots_39 : decode cX5_roots 39 = .ok (.iastore, 1) := by decide +kernel
theorem dX5_roots_40 : decode cX5_roots 40 = .ok (.iconst 1, 1) := by decide +kernel
theorem dX5_roots_41 : decode cX5_roots 41 = .ok (.istore_n 3, 1) := by decide +kernel
theorem dX5_roots_42 : decode cX5_roots 42 = .ok (.iload_n 3, 1) := by decide +kernel
theorem dX5_roots_43 : decode cX5_roots 43 = .ok (.aload_n 0, 1) := by decide +kernel
theorem dX5_roots_44 : decode cX5_roots 44 = .ok (.invokevirtual 151, 3) := by decide +kernel
theorem dX5_roots_47 : decode cX5_roots 47 = .ok (.if_icmp .gt 92, 3) := by decide +kernel
theorem dX5_roots_50 : decode cX5_roots 50 = .ok (.aload_n 0, 1) := by decide +kernel
theorem dX5_roots_51 : decode cX5_roots 51 = .ok (.iload_n 1, 1) := by decide +kernel
theorem dX5_roots_52 : decode cX5_roots 52 = .ok (.iload_n 3, 1) := by decide +kernel
theorem dX5_roots_53 : decode cX5_roots 53 = .ok (.invokevirtual 174, 3) := by decide +kernel
theorem dX5_roots_56 : decode cX5_roots 56 = .ok (.i2l, 1) := by decide +kernel
theorem dX5_roots_57 : decode cX5_roots 57 = .ok (.lstore 4, 2) := by decide +kernel
theorem dX5_roots_59 : decode cX5_roots 59 = .ok (.iload_n 3, 1) := by decide +kernel
theorem dX5_roots_60 : decode cX5_roots 60 = .ok (.iconst 1, 1) := by decide +kernel
theorem dX5_roots_61 : decode cX5_roots 61 = .ok (.isub, 1) := by decide +kernel
theorem dX5_roots_62 : decode cX5_roots 62 = .ok (.iload_n 3, 1) := by decide +kernel
theorem dX5_roots_63 : decode cX5_roots 63 = .ok (.iand, 1) := by decide +kernel
theorem dX5_roots_64 : decode cX5_roots 64 = .ok (.istore 6, 2) := by decide +kernel
theorem dX5_roots_66 : decode cX5_roots 66 = .ok (.iload 6, 2) := by decide +kernel
theorem dX5_roots_68 : decode cX5_roots 68 = .ok (.ifCond .le 54, 3) := by decide +kernel
theorem dX5_roots_71 : decode cX5_roots 71 = .ok (.iload 6, 2) := by decide +kernel
theorem dX5_roots_73 : decode cX5_roots 73 = .ok (.iload_n 3, 1) := by decide +kernel
theorem dX5_roots_74 : decode cX5_roots 74 = .ok (.iand, 1) := by decide +kernel
theorem dX5_roots_75 : decode cX5_roots 75 = .ok (.iload_n 3, 1) := by decide +kernel
theorem dX5_roots_76 : decode cX5_roots 76 = .ok (.ineg, 1) := by decide +kernel
theorem dX5_roots_77 : decode cX5_roots 77 = .ok (.iand, 1) := by decide +kernel
theorem dX5_roots_78 : decode cX5_roots 78 = .ok (.ifCond .eq 33, 3) := by decide +kernel
theorem dX5_roots_81 : decode cX5_roots 81 = .ok (.lload 4, 2) := by decide +kernel
theorem dX5_roots_83 : decode cX5_roots 83 = .ok (.aload_n 0, 1) := by decide +kernel
theorem dX5_roots_84 : decode cX5_roots 84 = .ok (.getfield 72, 3) := by decide +kernel
theorem dX5_roots_87 : decode cX5_roots 87 = .ok (.iload 6, 2) := by decide +kernel
theorem dX5_roots_89 : decode cX5_roots 89 = .ok (.iaload, 1) := by decide +kernel
theorem dX5_roots_90 : decode cX5_roots 90 = .ok (.i2l, 1) := by decide +kernel
theorem dX5_roots_91 : decode cX5_roots 91 = .ok (.aload_n 0, 1) := by decide +kernel
theorem dX5_roots_92 : decode cX5_roots 92 = .ok (.iload_n 1, 1) := by decide +kernel
theorem dX5_roots_93 : decode cX5_roots 93 = .ok (.iload_n 3, 1) := by decide +kernel
theorem dX5_roots_94 : decode cX5_roots 94 = .ok (.iload 6, 2) := by decide +kernel
theorem dX5_roots_96 : decode cX5_roots 96 = .ok (.iconst (-1), 1) := by decide +kernel
theorem dX5_roots_97 : decode cX5_roots 97 = .ok (.ixor, 1) := by decide +kernel
theorem dX5_roots_98 : decode cX5_roots 98 = .ok (.iand, 1) := by decide +kernel
theorem dX5_roots_99 : decode cX5_roots 99 = .ok (.invokevirtual 174, 3) := by decide +kernel
theorem dX5_roots_102 : decode cX5_roots 102 = .ok (.i2l, 1) := by decide +kernel
theorem dX5_roots_103 : decode cX5_roots 103 = .ok (.lmul, 1) := by decide +kernel
theorem dX5_roots_104 : decode cX5_roots 104 = .ok (.ldc2_w 166, 3) := by decide +kernel
theorem dX5_roots_107 : decode cX5_roots 107 = .ok (.lrem, 1) := by decide +kernel
theorem dX5_roots_108 : decode cX5_roots 108 = .ok (.lsub, 1) := by decide +kernel
theorem dX5_roots_109 : decode cX5_roots 109 = .ok (.lstore 4, 2) := by decide +kernel
theorem dX5_roots_111 : decode cX5_roots 111 = .ok (.iload 6, 2) := by decide +kernel
theorem dX5_roots_113 : decode cX5_roots 113 = .ok (.iconst 1, 1) := by decide +kernel
theorem dX5_roots_114 : decode cX5_roots 114 = .ok (.isub, 1) := by decide +kernel
theorem dX5_roots_115 : decode cX5_roots 115 = .ok (.iload_n 3, 1) := by decide +kernel
theorem dX5_roots_116 : decode cX5_roots 116 = .ok (.iand, 1) := by decide +kernel
theorem dX5_roots_117 : decode cX5_roots 117 = .ok (.istore 6, 2) := by decide +kernel
theorem dX5_roots_119 : decode cX5_roots 119 = .ok (.goto (-53), 3) := by decide +kernel
theorem dX5_roots_122 : decode cX5_roots 122 = .ok (.aload_n 0, 1) := by decide +kernel
theorem dX5_roots_123 : decode cX5_roots 123 = .ok (.getfield 72, 3) := by decide +kernel
theorem dX5_roots_126 : decode cX5_roots 126 = .ok (.iload_n 3, 1) := by decide +kernel
theorem dX5_roots_127 : decode cX5_roots 127 = .ok (.lload 4, 2) := by decide +kernel
theorem dX5_roots_129 : decode cX5_roots 129 = .ok (.invokestatic 178, 3) := by decide +kernel
theorem dX5_roots_132 : decode cX5_roots 132 = .ok (.iastore, 1) := by decide +kernel
theorem dX5_roots_133 : decode cX5_roots 133 = .ok (.iinc 3 1, 3) := by decide +kernel
theorem dX5_roots_136 : decode cX5_roots 136 = .ok (.goto (-94), 3) := by decide +kernel
theorem dX5_roots_139 : decode cX5_roots 139 = .ok (.aload_n 0, 1) := by decide +kernel
theorem dX5_roots_140 : decode cX5_roots 140 = .ok (.iload_n 2, 1) := by decide +kernel
theorem dX5_roots_141 : decode cX5_roots 141 = .ok (.aload_n 0, 1) := by decide +kernel
theorem dX5_roots_142 : decode cX5_roots 142 = .ok (.invokevirtual 151, 3) := by decide +kernel
theorem dX5_roots_145 : decode cX5_roots 145 = .ok (.invokevirtual 191, 3) := by decide +kernel
theorem dX5_roots_148 : decode cX5_roots 148 = .ok (.ireturn, 1) := by decide +kernel
theorem dX5_isTold_0 : decode cX5_isTold 0 = .ok (.aload_n 0, 1) := by decide +kernel
theorem dX5_isTold_1 : decode cX5_isTold 1 = .ok (.getfield 56, 3) := by decide +kernel
theorem dX5_isTold_4 : decode cX5_isTold 4 = .ok (.iconst 1, 1) := by decide +kernel
theorem dX5_isTold_5 : decode cX5_isTold 5 = .ok (.iload_n 1, 1) := by decide +kernel
theorem dX5_isTold_6 : decode cX5_isTold 6 = .ok (.iadd, 1) := by decide +kernel
theorem dX5_isTold_7 : decode cX5_isTold 7 = .ok (.iaload, 1) := by decide +kernel
theorem dX5_isTold_8 : decode cX5_isTold 8 = .ok (.ifCond .le 7, 3) := by decide +kernel
theorem dX5_isTold_11 : decode cX5_isTold 11 = .ok (.iconst 1, 1) := by decide +kernel
theorem dX5_isTold_12 : decode cX5_isTold 12 = .ok (.goto 4, 3) := by decide +kernel
theorem dX5_isTold_15 : decode cX5_isTold 15 = .ok (.iconst 0, 1) := by decide +kernel
theorem dX5_isTold_16 : decode cX5_isTold 16 = .ok (.ireturn, 1) := by decide +kernel
set_option maxRecDepth 20000 in
theorem ggX5_covers_X5_isSet : GoodIn wsX5_covers wsX5_isSet := goodIn_r _ [9, 10, 11, 12, 8, 13, 14, 15, 16, 17, 18, 19, 20, 21, 30, 31, 32, 33, 34, 35, 36, 37, 38, 39, 40, 41, 42, 43, 44, 45, 46, 47, 48, 49, 50, 51, 52, 53] (by decide +kernel) (by decide +kernel)
set_option maxRecDepth 20000 in
theorem gX5_covers_X5_isSet : GoodIn wsX5_covers (wsV RX5 160 RX5 yX5_isSet wsX5_isSet) := goodIn_app (goodIn_of _ (by decide +kernel)) ggX5_covers_X5_isSet
set_option maxRecDepth 20000 in
theorem ggX5_covers_X5_isIn : GoodIn wsX5_covers wsX5_isIn := goodIn_r _ [21] (by decide +kernel) (by decide +kernel)
set_option maxRecDepth 20000 in
theorem gX5_covers_X5_isIn : GoodIn wsX5_covers (va_wsS RX5 99 yX5_isIn wsX5_isIn) := goodIn_app (goodIn_of _ (by decide +kernel)) ggX5_covers_X5_isIn
set_option maxRecDepth 20000 in
theorem ggX5_covers_X5_laysOne : GoodIn wsX5_covers wsX5_laysOne := goodIn_r _ [25, 3, 15, 16, 17, 8, 18, 10, 11, 12, 13, 14, 30, 31, 32, 33, 34, 35, 36, 37, 38, 39, 40, 41, 42, 43, 44, 45, 46, 47, 48, 49, 50, 51, 52, 53] (by decide +kernel) (by decide +kernel)
set_option maxRecDepth 20000 in
theorem gX5_covers_X5_laysOne : GoodIn wsX5_covers (wsV RX5 209 RX5 yX5_laysOne wsX5_laysOne) := goodIn_app (goodIn_of _ (by decide +kernel)) ggX5_covers_X5_laysOne
set_option maxRecDepth 20000 in
theorem ggX5_covers_X5_all : GoodIn wsX5_covers wsX5_all := goodIn_r _ [18, 10, 11, 12, 8, 13, 14, 30, 31, 32, 33, 34, 35, 36, 37, 38, 39, 40, 41, 42, 43, 44, 45, 46, 47, 48, 49, 50, 51, 52, 53] (by decide +kernel) (by decide +kernel)
set_option maxRecDepth 20000 in
theorem gX5_covers_X5_all : GoodIn wsX5_covers (wsV RX5 151 RX5 yX5_all wsX5_all) := goodIn_app (goodIn_of _ (by decide +kernel)) ggX5_covers_X5_all
set_option maxRecDepth 20000 in
theorem ggX5_covers_X5_isTold : GoodIn wsX5_covers wsX5_isTold := goodIn_r _ [29, 14, 30, 31, 32, 33, 34, 35, 36, 37, 38, 39, 40, 41, 42, 43, 44, 45, 46, 47, 48, 49, 50, 51, 52, 53] (by decide +kernel) (by decide +kernel)
set_option maxRecDepth 20000 in
theorem gX5_covers_X5_isTold : GoodIn wsX5_covers (wsV RX5 220 RX5 yX5_isTold wsX5_isTold) := goodIn_app (goodIn_of _ (by decide +kernel)) ggX5_covers_X5_isTold
theorem dX5_covers_0 : decode cX5_covers 0 = .ok (.aload_n 0, 1) := by decide +kernel
theorem dX5_covers_1 : decode cX5_covers 1 = .ok (.iconst 0, 1) := by decide +kernel
theorem dX5_covers_2 : decode cX5_covers 2 = .ok (.putfield 1, 3) := by decide +kernel
theorem dX5_covers_5 : decode cX5_covers 5 = .ok (.aload_n 0, 1) := by decide +kernel
theorem dX5_covers_6 : decode cX5_covers 6 = .ok (.iload_n 1, 1) := by decide +kernel
theorem dX5_covers_7 : decode cX5_covers 7 = .ok (.invokevirtual 160, 3) := by decide +kernel
theorem dX5_covers_10 : decode cX5_covers 10 = .ok (.ifCond .eq 13, 3) := by decide +kernel
theorem dX5_covers_13 : decode cX5_covers 13 = .ok (.iload_n 2, 1) := by decide +kernel
theorem dX5_covers_14 : decode cX5_covers 14 = .ok (.iconst 0, 1) := by decide +kernel
theorem dX5_covers_15 : decode cX5_covers 15 = .ok (.bipush 8, 2) := by decide +kernel
theorem dX5_covers_17 : decode cX5_covers 17 = .ok (.invokestatic 99, 3) := by decide +kernel
theorem dX5_covers_20 : decode cX5_covers 20 = .ok (.ifCond .ne 5, 3) := by decide +kernel
theorem dX5_covers_23 : decode cX5_covers 23 = .ok (.iconst (-1), 1) := by decide +kernel
theorem dX5_covers_24 : decode cX5_covers 24 = .ok (.ireturn, 1) := by decide +kernel
theorem dX5_covers_25 : decode cX5_covers 25 = .ok (.aload_n 0, 1) := by decide +kernel
theorem dX5_covers_26 : decode cX5_covers 26 = .ok (.invokevirtual 209, 3) := by decide +kernel
theorem dX5_covers_29 : decode cX5_covers 29 = .ok (.iconst 0, 1) := by decide +kernel
theorem dX5_covers_30 : decode cX5_covers 30 = .ok (.istore_n 3, 1) := by decide +kernel
theorem dX5_covers_31 : decode cX5_covers 31 = .ok (.iload_n 3, 1) := by decide +kernel
theorem dX5_covers_32 : decode cX5_covers 32 = .ok (.iload_n 2, 1) := by decide +kernel
theorem dX5_covers_33 : decode cX5_covers 33 = .ok (.if_icmp .ge 144, 3) := by decide +kernel
theorem dX5_covers_36 : decode cX5_covers 36 = .ok (.iconst 0, 1) := by decide +kernel
theorem dX5_covers_37 : decode cX5_covers 37 = .ok (.istore 4, 2) := by decide +kernel
theorem dX5_covers_39 : decode cX5_covers 39 = .ok (.iload 4, 2) := by decide +kernel
theorem dX5_covers_41 : decode cX5_covers 41 = .ok (.aload_n 0, 1) := by decide +kernel
theorem dX5_covers_42 : decode cX5_covers 42 = .ok (.invokevirtual 151, 3) := by decide +kernel
theorem dX5_covers_45 : decode cX5_covers 45 = .ok (.if_icmp .gt 31, 3) := by decide +kernel
theorem dX5_covers_48 : decode cX5_covers 48 = .ok (.aload_n 0, 1) := by decide +kernel
theorem dX5_covers_49 : decode cX5_covers 49 = .ok (.getfield 75, 3) := by decide +kernel
theorem dX5_covers_52 : decode cX5_covers 52 = .ok (.iload 4, 2) := by decide +kernel
theorem dX5_covers_54 : decode cX5_covers 54 = .ok (.aload_n 0, 1) := by decide +kernel
theorem dX5_covers_55 : decode cX5_covers 55 = .ok (.getfield 72, 3) := by decide +kernel
theorem dX5_covers_58 : decode cX5_covers 58 = .ok (.iload 4, 2) := by decide +kernel
theorem dX5_covers_60 : decode cX5_covers 60 = .ok (.iaload, 1) := by decide +kernel
theorem dX5_covers_61 : decode cX5_covers 61 = .ok (.iastore, 1) := by decide +kernel
theorem dX5_covers_62 : decode cX5_covers 62 = .ok (.aload_n 0, 1) := by decide +kernel
theorem dX5_covers_63 : decode cX5_covers 63 = .ok (.getfield 72, 3) := by decide +kernel
theorem dX5_covers_66 : decode cX5_covers 66 = .ok (.iload 4, 2) := by decide +kernel
theorem dX5_covers_68 : decode cX5_covers 68 = .ok (.iconst 0, 1) := by decide +kernel
theorem dX5_covers_69 : decode cX5_covers 69 = .ok (.iastore, 1) := by decide +kernel
theorem dX5_covers_70 : decode cX5_covers 70 = .ok (.iinc 4 1, 3) := by decide +kernel
theorem dX5_covers_73 : decode cX5_covers 73 = .ok (.goto (-34), 3) := by decide +kernel
theorem dX5_covers_76 : decode cX5_covers 76 = .ok (.iconst 0, 1) := by decide +kernel
theorem dX5_covers_77 : decode cX5_covers 77 = .ok (.istore 4, 2) := by decide +kernel
theorem dX5_covers_79 : decode cX5_covers 79 = .ok (.iload 4, 2) := by decide +kernel
theorem dX5_covers_81 : decode cX5_covers 81 = .ok (.aload_n 0, 1) := by decide +kernel
theorem dX5_covers_82 : decode cX5_covers 82 = .ok (.invokevirtual 151, 3) := by decide +kernel
theorem dX5_covers_85 : decode cX5_covers 85 = .ok (.if_icmp .gt 86, 3) := by decide +kernel
theorem dX5_covers_88 : decode cX5_covers 88 = .ok (.iconst 0, 1) := by decide +kernel
theorem dX5_covers_89 : decode cX5_covers 89 = .ok (.istore 5, 2) := by decide +kernel
theorem dX5_covers_91 : decode cX5_covers 91 = .ok (.iload 5, 2) := by decide +kernel
theorem dX5_covers_93 : decode cX5_covers 93 = .ok (.aload_n 0, 1) := by decide +kernel
theorem dX5_covers_94 : decode cX5_covers 94 = .ok (.invokevirtual 151, 3) := by decide +kernel
theorem dX5_covers_97 : decode cX5_covers 97 = .ok (.if_icmp .gt 68, 3) := by decide +kernel
theorem dX5_covers_100 : decode cX5_covers 100 = .ok (.aload_n 0, 1) := by decide +kernel
theorem dX5_covers_101 : decode cX5_covers 101 = .ok (.getfield 75, 3) := by decide +kernel
theorem dX5_covers_104 : decode cX5_covers 104 = .ok (.iload 4, 2) := by decide +kernel
theorem dX5_covers_106 : decode cX5_covers 106 = .ok (.iaload, 1) := by decide +kernel
theorem dX5_covers_107 : decode cX5_covers 107 = .ok (.ifCond .le 52, 3) := by decide +kernel
theorem dX5_covers_110 : decode cX5_covers 110 = .ok (.aload_n 0, 1) := by decide +kernel
theorem dX5_covers_111 : decode cX5_covers 111 = .ok (.iload 5, 2) := by decide +kernel
theorem dX5_covers_113 : decode cX5_covers 113 = .ok (.invokevirtual 220, 3) := by decide +kernel
theorem dX5_covers_116 : decode cX5_covers 116 = .ok (.ifCond .eq 43, 3) := by decide +kernel
theorem dX5_covers_119 : decode cX5_covers 119 = .ok (.iload 5, 2) := by decide +kernel
theorem dX5_covers_121 : decode cX5_covers 121 = .ok (.iload_n 1, 1) := by decide +kernel
theorem dX5_covers_122 : decode cX5_covers 122 = .ok (.iconst (-1), 1) := by decide +kernel
theorem dX5_covers_123 : decode cX5_covers 123 = .ok (.ixor, 1) := by decide +kernel
theorem dX5_covers_124 : decode cX5_covers 124 = .ok (.iand, 1) := by decide +kernel
theorem dX5_covers_125 : decode cX5_covers 125 = .ok (.ifCond .ne 34, 3) := by decide +kernel
theorem dX5_covers_128 : decode cX5_covers 128 = .ok (.aload_n 0, 1) := by decide +kernel
theorem dX5_covers_129 : decode cX5_covers 129 = .ok (.getfield 72, 3) := by decide +kernel
theorem dX5_covers_132 : decode cX5_covers 132 = .ok (.iload 4, 2) := by decide +kernel
theorem dX5_covers_134 : decode cX5_covers 134 = .ok (.iload 5, 2) := by decide +kernel
theorem dX5_covers_136 : decode cX5_covers 136 = .ok (.ior, 1) := by decide +kernel
theorem dX5_covers_137 : decode cX5_covers 137 = .ok (.aload_n 0, 1) := by decide +kernel
theorem dX5_covers_138 : decode cX5_covers 138 = .ok (.getfield 72, 3) := by decide +kernel
theorem dX5_covers_141 : decode cX5_covers 141 = .ok (.iload 4, 2) := by decide +kernel
theorem dX5_covers_143 : decode cX5_covers 143 = .ok (.iload 5, 2) := by decide +kernel
theorem dX5_covers_145 : decode cX5_covers 145 = .ok (.ior, 1) := by decide +kernel
theorem dX5_covers_146 : decode cX5_covers 146 = .ok (.iaload, 1) := by decide +kernel
theorem dX5_covers_147 : decode cX5_covers 147 = .ok (.aload_n 0, 1) := by decide +kernel
theorem dX5_covers_148 : decode cX5_covers 148 = .ok (.getfield 75, 3) := by decide +kernel
theorem dX5_covers_151 : decode cX5_covers 151 = .ok (.iload 4, 2) := by decide +kernel
theorem dX5_covers_153 : decode cX5_covers 153 = .ok (.iaload, 1) := by decide +kernel
theorem dX5_covers_154 : decode cX5_covers 154 = .ok (.iadd, 1) := by decide +kernel
theorem dX5_covers_155 : decode cX5_covers 155 = .ok (.ldc 223, 2) := by decide +kernel
theorem dX5_covers_157 : decode cX5_covers 157 = .ok (.irem, 1) := by decide +kernel
theorem dX5_covers_158 : decode cX5_covers 158 = .ok (.iastore, 1) := by decide +kernel
theorem dX5_covers_159 : decode cX5_covers 159 = .ok (.iinc 5 1, 3) := by decide +kernel
theorem dX5_covers_162 : decode cX5_covers 162 = .ok (.goto (-71), 3) := by decide +kernel
theorem dX5_covers_165 : decode cX5_covers 165 = .ok (.iinc 4 1, 3) := by decide +kernel
theorem dX5_covers_168 : decode cX5_covers 168 = .ok (.goto (-89), 3) := by decide +kernel
theorem dX5_covers_171 : decode cX5_covers 171 = .ok (.iinc 3 1, 3) := by decide +kernel
theorem dX5_covers_174 : decode cX5_covers 174 = .ok (.goto (-143), 3) := by decide +kernel
theorem dX5_covers_177 : decode cX5_covers 177 = .ok (.aload_n 0, 1) := by decide +kernel
theorem dX5_covers_178 : decode cX5_covers 178 = .ok (.getfield 72, 3) := by decide +kernel
theorem dX5_covers_181 : decode cX5_covers 181 = .ok (.iload_n 1, 1) := by decide +kernel
theorem dX5_covers_182 : decode cX5_covers 182 = .ok (.iaload, 1) := by decide +kernel
theorem dX5_covers_183 : decode cX5_covers 183 = .ok (.ireturn, 1) := by decide +kernel
set_option maxRecDepth 20000 in
theorem ggX5_laysWays_X5_all : GoodIn wsX5_laysWays wsX5_all := goodIn_r _ [6, 7, 8, 9, 5, 10, 11, 16, 17, 18, 19, 20, 21, 22, 23, 24, 25, 26, 27, 28, 29, 30, 31, 32, 33, 34, 35, 36, 37, 38, 39] (by decide +kernel) (by decide +kernel)
set_option maxRecDepth 20000 in
theorem gX5_laysWays_X5_all : GoodIn wsX5_laysWays (wsV RX5 151 RX5 yX5_all wsX5_all) := goodIn_app (goodIn_of _ (by decide +kernel)) ggX5_laysWays_X5_all
set_option maxRecDepth 20000 in
theorem ggX5_laysWays_X5_isTold : GoodIn wsX5_laysWays wsX5_isTold := goodIn_r _ [15, 11, 16, 17, 18, 19, 20, 21, 22, 23, 24, 25, 26, 27, 28, 29, 30, 31, 32, 33, 34, 35, 36, 37, 38, 39] (by decide +kernel) (by decide +kernel)
set_option maxRecDepth 20000 in
theorem gX5_laysWays_X5_isTold : GoodIn wsX5_laysWays (wsV RX5 220 RX5 yX5_isTold wsX5_isTold) := goodIn_app (goodIn_of _ (by decide +kernel)) ggX5_laysWays_X5_isTold
theorem dX5_laysWays_0 : decode cX5_laysWays 0 = .ok (.iconst 0, 1) := by decide +kernel
theorem dX5_laysWays_1 : decode cX5_laysWays 1 = .ok (.istore_n 1, 1) := by decide +kernel
theorem dX5_laysWays_2 : decode cX5_laysWays 2 = .ok (.iload_n 1, 1) := by decide +kernel
theorem dX5_laysWays_3 : decode cX5_laysWays 3 = .ok (.aload_n 0, 1) := by decide +kernel
theorem dX5_laysWays_4 : decode cX5_laysWays 4 = .ok (.invokevirtual 151, 3) := by decide +kernel
theorem dX5_laysWays_7 : decode cX5_laysWays 7 = .ok (.if_icmp .gt 127, 3) := by decide +kernel
theorem dX5_laysWays_10 : decode cX5_laysWays 10 = .ok (.iconst 0, 1) := by decide +kernel
theorem dX5_laysWays_11 : decode cX5_laysWays 11 = .ok (.istore_n 2, 1) := by decide +kernel
theorem dX5_laysWays_12 : decode cX5_laysWays 12 = .ok (.iload_n 2, 1) := by decide +kernel
theorem dX5_laysWays_13 : decode cX5_laysWays 13 = .ok (.bipush 8, 2) := by decide +kernel
theorem dX5_laysWays_15 : decode cX5_laysWays 15 = .ok (.if_icmp .gt 33, 3) := by decide +kernel
theorem dX5_laysWays_18 : decode cX5_laysWays 18 = .ok (.aload_n 0, 1) := by decide +kernel
theorem dX5_laysWays_19 : decode cX5_laysWays 19 = .ok (.getfield 78, 3) := by decide +kernel
theorem dX5_laysWays_22 : decode cX5_laysWays 22 = .ok (.bipush 9, 2) := by decide +kernel
theorem dX5_laysWays_24 : decode cX5_laysWays 24 = .ok (.iload_n 1, 1) := by decide +kernel
theorem dX5_laysWays_25 : decode cX5_laysWays 25 = .ok (.imul, 1) := by decide +kernel
theorem dX5_laysWays_26 : decode cX5_laysWays 26 = .ok (.iload_n 2, 1) := by decide +kernel
theorem dX5_laysWays_27 : decode cX5_laysWays 27 = .ok (.iadd, 1) := by decide +kernel
theorem dX5_laysWays_28 : decode cX5_laysWays 28 = .ok (.iload_n 1, 1) := by decide +kernel
theorem dX5_laysWays_29 : decode cX5_laysWays 29 = .ok (.ifCond .ne 11, 3) := by decide +kernel
theorem dX5_laysWays_32 : decode cX5_laysWays 32 = .ok (.iload_n 2, 1) := by decide +kernel
theorem dX5_laysWays_33 : decode cX5_laysWays 33 = .ok (.ifCond .ne 7, 3) := by decide +kernel
theorem dX5_laysWays_36 : decode cX5_laysWays 36 = .ok (.iconst 1, 1) := by decide +kernel
theorem dX5_laysWays_37 : decode cX5_laysWays 37 = .ok (.goto 4, 3) := by decide +kernel
theorem dX5_laysWays_40 : decode cX5_laysWays 40 = .ok (.iconst 0, 1) := by decide +kernel
theorem dX5_laysWays_41 : decode cX5_laysWays 41 = .ok (.iastore, 1) := by decide +kernel
theorem dX5_laysWays_42 : decode cX5_laysWays 42 = .ok (.iinc 2 1, 3) := by decide +kernel
theorem dX5_laysWays_45 : decode cX5_laysWays 45 = .ok (.goto (-33), 3) := by decide +kernel
theorem dX5_laysWays_48 : decode cX5_laysWays 48 = .ok (.iload_n 1, 1) := by decide +kernel
theorem dX5_laysWays_49 : decode cX5_laysWays 49 = .ok (.istore_n 2, 1) := by decide +kernel
theorem dX5_laysWays_50 : decode cX5_laysWays 50 = .ok (.iload_n 2, 1) := by decide +kernel
theorem dX5_laysWays_51 : decode cX5_laysWays 51 = .ok (.ifCond .le 77, 3) := by decide +kernel
theorem dX5_laysWays_54 : decode cX5_laysWays 54 = .ok (.iload_n 2, 1) := by decide +kernel
theorem dX5_laysWays_55 : decode cX5_laysWays 55 = .ok (.iload_n 1, 1) := by decide +kernel
theorem dX5_laysWays_56 : decode cX5_laysWays 56 = .ok (.iand, 1) := by decide +kernel
theorem dX5_laysWays_57 : decode cX5_laysWays 57 = .ok (.iload_n 1, 1) := by decide +kernel
theorem dX5_laysWays_58 : decode cX5_laysWays 58 = .ok (.ineg, 1) := by decide +kernel
theorem dX5_laysWays_59 : decode cX5_laysWays 59 = .ok (.iand, 1) := by decide +kernel
theorem dX5_laysWays_60 : decode cX5_laysWays 60 = .ok (.ifCond .eq 59, 3) := by decide +kernel
theorem dX5_laysWays_63 : decode cX5_laysWays 63 = .ok (.aload_n 0, 1) := by decide +kernel
theorem dX5_laysWays_64 : decode cX5_laysWays 64 = .ok (.iload_n 2, 1) := by decide +kernel
theorem dX5_laysWays_65 : decode cX5_laysWays 65 = .ok (.invokevirtual 220, 3) := by decide +kernel
theorem dX5_laysWays_68 : decode cX5_laysWays 68 = .ok (.ifCond .ne 6, 3) := by decide +kernel
theorem dX5_laysWays_71 : decode cX5_laysWays 71 = .ok (.goto 48, 3) := by decide +kernel
theorem dX5_laysWays_74 : decode cX5_laysWays 74 = .ok (.iconst 1, 1) := by decide +kernel
theorem dX5_laysWays_75 : decode cX5_laysWays 75 = .ok (.istore_n 3, 1) := by decide +kernel
theorem dX5_laysWays_76 : decode cX5_laysWays 76 = .ok (.iload_n 3, 1) := by decide +kernel
theorem dX5_laysWays_77 : decode cX5_laysWays 77 = .ok (.bipush 8, 2) := by decide +kernel
theorem dX5_laysWays_79 : decode cX5_laysWays 79 = .ok (.if_icmp .gt 40, 3) := by decide +kernel
theorem dX5_laysWays_82 : decode cX5_laysWays 82 = .ok (.aload_n 0, 1) := by decide +kernel
theorem dX5_laysWays_83 : decode cX5_laysWays 83 = .ok (.getfield 78, 3) := by decide +kernel
theorem dX5_laysWays_86 : decode cX5_laysWays 86 = .ok (.bipush 9, 2) := by decide +kernel
theorem dX5_laysWays_88 : decode cX5_laysWays 88 = .ok (.iload_n 1, 1) := by decide +kernel
theorem dX5_laysWays_89 : decode cX5_laysWays 89 = .ok (.imul, 1) := by decide +kernel
theorem dX5_laysWays_90 : decode cX5_laysWays 90 = .ok (.iload_n 3, 1) := by decide +kernel
theorem dX5_laysWays_91 : decode cX5_laysWays 91 = .ok (.iadd, 1) := by decide +kernel
theorem dX5_laysWays_92 : decode cX5_laysWays 92 = .ok (.dup2, 1) := by decide +kernel
theorem dX5_laysWays_93 : decode cX5_laysWays 93 = .ok (.iaload, 1) := by decide +kernel
theorem dX5_laysWays_94 : decode cX5_laysWays 94 = .ok (.aload_n 0, 1) := by decide +kernel
theorem dX5_laysWays_95 : decode cX5_laysWays 95 = .ok (.getfield 78, 3) := by decide +kernel
theorem dX5_laysWays_98 : decode cX5_laysWays 98 = .ok (.bipush 9, 2) := by decide +kernel
theorem dX5_laysWays_100 : decode cX5_laysWays 100 = .ok (.iload_n 1, 1) := by decide +kernel
theorem dX5_laysWays_101 : decode cX5_laysWays 101 = .ok (.iload_n 2, 1) := by decide +kernel
theorem dX5_laysWays_102 : decode cX5_laysWays 102 = .ok (.iconst (-1), 1) := by decide +kernel
theorem dX5_laysWays_103 : decode cX5_laysWays 103 = .ok (.ixor, 1) := by decide +kernel
theorem dX5_laysWays_104 : decode cX5_laysWays 104 = .ok (.iand, 1) := by decide +kernel
theorem dX5_laysWays_105 : decode cX5_laysWays 105 = .ok (.imul, 1) := by decide +kernel
theorem dX5_laysWays_106 : decode cX5_laysWays 106 = .ok (.iload_n 3, 1) := by decide +kernel
theorem dX5_laysWays_107 : decode cX5_laysWays 107 = .ok (.iadd, 1) := by decide +kernel
theorem dX5_laysWays_108 : decode cX5_laysWays 108 = .ok (.iconst 1, 1) := by decide +kernel
theorem dX5_laysWays_109 : decode cX5_laysWays 109 = .ok (.isub, 1) := by decide +kernel
theorem dX5_laysWays_110 : decode cX5_laysWays 110 = .ok (.iaload, 1) := by decide +kernel
theorem dX5_laysWays_111 : decode cX5_laysWays 111 = .ok (.iadd, 1) := by decide +kernel
theorem dX5_laysWays_112 : decode cX5_laysWays 112 = .ok (.iastore, 1) := by decide +kernel
theorem dX5_laysWays_113 : decode cX5_laysWays 113 = .ok (.iinc 3 1, 3) := by decide +kernel
theorem dX5_laysWays_116 : decode cX5_laysWays 116 = .ok (.goto (-40), 3) := by decide +kernel
theorem dX5_laysWays_119 : decode cX5_laysWays 119 = .ok (.iload_n 2, 1) := by decide +kernel
theorem dX5_laysWays_120 : decode cX5_laysWays 120 = .ok (.iconst 1, 1) := by decide +kernel
theorem dX5_laysWays_121 : decode cX5_laysWays 121 = .ok (.isub, 1) := by decide +kernel
theorem dX5_laysWays_122 : decode cX5_laysWays 122 = .ok (.iload_n 1, 1) := by decide +kernel
theorem dX5_laysWays_123 : decode cX5_laysWays 123 = .ok (.iand, 1) := by decide +kernel
theorem dX5_laysWays_124 : decode cX5_laysWays 124 = .ok (.istore_n 2, 1) := by decide +kernel
theorem dX5_laysWays_125 : decode cX5_laysWays 125 = .ok (.goto (-75), 3) := by decide +kernel
theorem dX5_laysWays_128 : decode cX5_laysWays 128 = .ok (.iinc 1 1, 3) := by decide +kernel
theorem dX5_laysWays_131 : decode cX5_laysWays 131 = .ok (.goto (-129), 3) := by decide +kernel
theorem dX5_laysWays_134 : decode cX5_laysWays 134 = .ok (.return_, 1) := by decide +kernel
set_option maxRecDepth 20000 in
theorem ggX5_partings_X5_isSet : GoodIn wsX5_partings wsX5_isSet := goodIn_r _ [7, 8, 9, 10, 6, 11, 12, 13, 14, 15, 16, 17, 18, 19, 28, 29, 30, 31, 32, 33, 34, 35, 36, 37, 38, 39, 40, 41, 42, 43, 44, 45, 46, 47, 48, 49, 50, 51] (by decide +kernel) (by decide +kernel)
set_option maxRecDepth 20000 in
theorem gX5_partings_X5_isSet : GoodIn wsX5_partings (wsV RX5 160 RX5 yX5_isSet wsX5_isSet) := goodIn_app (goodIn_of _ (by decide +kernel)) ggX5_partings_X5_isSet
set_option maxRecDepth 20000 in
theorem ggX5_partings_X5_isIn : GoodIn wsX5_partings wsX5_isIn := goodIn_r _ [19] (by decide +kernel) (by decide +kernel)
set_option maxRecDepth 20000 in
theorem gX5_partings_X5_isIn : GoodIn wsX5_partings (va_wsS RX5 99 yX5_isIn wsX5_isIn) := goodIn_app (goodIn_of _ (by decide +kernel)) ggX5_partings_X5_isIn
set_option maxRecDepth 20000 in
theorem ggX5_partings_X5_laysWays : GoodIn wsX5_partings wsX5_laysWays := goodIn_r _ [23, 2, 13, 14, 15, 6, 16, 8, 9, 10, 11, 12, 24, 25, 26, 27, 28, 29, 30, 31, 32, 33, 34, 35, 36, 37, 38, 39, 40, 41, 42, 43, 44, 45, 46, 47, 48, 49, 50, 51] (by decide +kernel) (by decide +kernel)
set_option maxRecDepth 20000 in
theorem gX5_partings_X5_laysWays : GoodIn wsX5_partings (wsV RX5 224 RX5 yX5_laysWays wsX5_laysWays) := goodIn_app (goodIn_of _ (by decide +kernel)) ggX5_partings_X5_laysWays
theorem dX5_partings_0 : decode cX5_partings 0 = .ok (.aload_n 0, 1) := by decide +kernel
theorem dX5_partings_1 : decode cX5_partings 1 = .ok (.iconst 0, 1) := by decide +kernel
theorem dX5_partings_2 : decode cX5_partings 2 = .ok (.putfield 1, 3) := by decide +kernel
theorem dX5_partings_5 : decode cX5_partings 5 = .ok (.aload_n 0, 1) := by decide +kernel
theorem dX5_partings_6 : decode cX5_partings 6 = .ok (.iload_n 1, 1) := by decide +kernel
theorem dX5_partings_7 : decode cX5_partings 7 = .ok (.invokevirtual 160, 3) := by decide +kernel
theorem dX5_partings_10 : decode cX5_partings 10 = .ok (.ifCond .eq 13, 3) := by decide +kernel
theorem dX5_partings_13 : decode cX5_partings 13 = .ok (.iload_n 2, 1) := by decide +kernel
theorem dX5_partings_14 : decode cX5_partings 14 = .ok (.iconst 0, 1) := by decide +kernel
theorem dX5_partings_15 : decode cX5_partings 15 = .ok (.bipush 8, 2) := by decide +kernel
theorem dX5_partings_17 : decode cX5_partings 17 = .ok (.invokestatic 99, 3) := by decide +kernel
theorem dX5_partings_20 : decode cX5_partings 20 = .ok (.ifCond .ne 5, 3) := by decide +kernel
theorem dX5_partings_23 : decode cX5_partings 23 = .ok (.iconst (-1), 1) := by decide +kernel
theorem dX5_partings_24 : decode cX5_partings 24 = .ok (.ireturn, 1) := by decide +kernel
theorem dX5_partings_25 : decode cX5_partings 25 = .ok (.aload_n 0, 1) := by decide +kernel
theorem dX5_partings_26 : decode cX5_partings 26 = .ok (.invokevirtual 224, 3) := by decide +kernel
theorem dX5_partings_29 : decode cX5_partings 29 = .ok (.aload_n 0, 1) := by decide +kernel
theorem dX5_partings_30 : decode cX5_partings 30 = .ok (.getfield 78, 3) := by decide +kernel
theorem dX5_partings_33 : decode cX5_partings 33 = .ok (.bipush 9, 2) := by decide +kernel
theorem dX5_partings_35 : decode cX5_partings 35 = .ok (.iload_n 1, 1) := by decide +kernel
theorem dX5_partings_36 : decode cX5_partings 36 = .ok (.imul, 1) := by decide +kernel
theorem dX5_partings_37 : decode cX5_partings 37 = .ok (.iload_n 2, 1) := by decide +kernel
theorem dX5_partings_38 : decode cX5_partings 38 = .ok (.iadd, 1) := by decide +kernel
theorem dX5_partings_39 : decode cX5_partings 39 = .ok (.iaload, 1) := by decide +kernel
theorem dX5_partings_40 : decode cX5_partings 40 = .ok (.ireturn, 1) := by decide +kernel
set_option maxRecDepth 20000 in
theorem ggX5_laysPrices_X5_all : GoodIn wsX5_laysPrices wsX5_all := goodIn_r _ [7, 8, 9, 10, 6, 11, 2, 16, 17, 18, 19, 20, 21, 22, 23, 24, 25, 26, 27, 28, 29, 30, 31, 32, 33, 34, 35, 36, 37, 38, 39] (by decide +kernel) (by decide +kernel)
set_option maxRecDepth 20000 in
theorem gX5_laysPrices_X5_all : GoodIn wsX5_laysPrices (wsV RX5 151 RX5 yX5_all wsX5_all) := goodIn_app (goodIn_of _ (by decide +kernel)) ggX5_laysPrices_X5_all
set_option maxRecDepth 20000 in
theorem ggX5_laysPrices_X5_isTold : GoodIn wsX5_laysPrices wsX5_isTold := goodIn_r _ [15, 2, 16, 17, 18, 19, 20, 21, 22, 23, 24, 25, 26, 27, 28, 29, 30, 31, 32, 33, 34, 35, 36, 37, 38, 39] (by decide +kernel) (by decide +kernel)
set_option maxRecDepth 20000 in
theorem gX5_laysPrices_X5_isTold : GoodIn wsX5_laysPrices (wsV RX5 220 RX5 yX5_isTold wsX5_isTold) := goodIn_app (goodIn_of _ (by decide +kernel)) ggX5_laysPrices_X5_isTold
theorem dX5_laysPrices_0 : decode cX5_laysPrices 0 = .ok (.aload_n 0, 1) := by decide +kernel
theorem dX5_laysPrices_1 : decode cX5_laysPrices 1 = .ok (.getfield 81, 3) := by decide +kernel
theorem dX5_laysPrices_4 : decode cX5_laysPrices 4 = .ok (.iconst 0, 1) := by decide +kernel
theorem dX5_laysPrices_5 : decode cX5_laysPrices 5 = .ok (.iconst 0, 1) := by decide +kernel
theorem dX5_laysPrices_6 : decode cX5_laysPrices 6 = .ok (.iastore, 1) := by decide +kernel
theorem dX5_laysPrices_7 : decode cX5_laysPrices 7 = .ok (.iconst 1, 1) := by decide +kernel
theorem dX5_laysPrices_8 : decode cX5_laysPrices 8 = .ok (.istore_n 1, 1) := by decide +kernel
theorem dX5_laysPrices_9 : decode cX5_laysPrices 9 = .ok (.iload_n 1, 1) := by decide +kernel
theorem dX5_laysPrices_10 : decode cX5_laysPrices 10 = .ok (.aload_n 0, 1) := by decide +kernel
theorem dX5_laysPrices_11 : decode cX5_laysPrices 11 = .ok (.invokevirtual 151, 3) := by decide +kernel
theorem dX5_laysPrices_14 : decode cX5_laysPrices 14 = .ok (.if_icmp .gt 112, 3) := by decide +kernel
theorem dX5_laysPrices_17 : decode cX5_laysPrices 17 = .ok (.aload_n 0, 1) := by decide +kernel
theorem dX5_laysPrices_18 : decode cX5_laysPrices 18 = .ok (.getfield 81, 3) := by decide +kernel
theorem dX5_laysPrices_21 : decode cX5_laysPrices 21 = .ok (.iload_n 1, 1) := by decide +kernel
theorem dX5_laysPrices_22 : decode cX5_laysPrices 22 = .ok (.iconst (-1), 1) := by decide +kernel
theorem dX5_laysPrices_23 : decode cX5_laysPrices 23 = .ok (.iastore, 1) := by decide +kernel
theorem dX5_laysPrices_24 : decode cX5_laysPrices 24 = .ok (.iload_n 1, 1) := by decide +kernel
theorem dX5_laysPrices_25 : decode cX5_laysPrices 25 = .ok (.istore_n 2, 1) := by decide +kernel
theorem dX5_laysPrices_26 : decode cX5_laysPrices 26 = .ok (.iload_n 2, 1) := by decide +kernel
theorem dX5_laysPrices_27 : decode cX5_laysPrices 27 = .ok (.ifCond .le 93, 3) := by decide +kernel
theorem dX5_laysPrices_30 : decode cX5_laysPrices 30 = .ok (.iload_n 2, 1) := by decide +kernel
theorem dX5_laysPrices_31 : decode cX5_laysPrices 31 = .ok (.iload_n 1, 1) := by decide +kernel
theorem dX5_laysPrices_32 : decode cX5_laysPrices 32 = .ok (.iand, 1) := by decide +kernel
theorem dX5_laysPrices_33 : decode cX5_laysPrices 33 = .ok (.iload_n 1, 1) := by decide +kernel
theorem dX5_laysPrices_34 : decode cX5_laysPrices 34 = .ok (.ineg, 1) := by decide +kernel
theorem dX5_laysPrices_35 : decode cX5_laysPrices 35 = .ok (.iand, 1) := by decide +kernel
theorem dX5_laysPrices_36 : decode cX5_laysPrices 36 = .ok (.ifCond .eq 75, 3) := by decide +kernel
theorem dX5_laysPrices_39 : decode cX5_laysPrices 39 = .ok (.aload_n 0, 1) := by decide +kernel
theorem dX5_laysPrices_40 : decode cX5_laysPrices 40 = .ok (.iload_n 2, 1) := by decide +kernel
theorem dX5_laysPrices_41 : decode cX5_laysPrices 41 = .ok (.invokevirtual 220, 3) := by decide +kernel
theorem dX5_laysPrices_44 : decode cX5_laysPrices 44 = .ok (.ifCond .eq 67, 3) := by decide +kernel
theorem dX5_laysPrices_47 : decode cX5_laysPrices 47 = .ok (.aload_n 0, 1) := by decide +kernel
theorem dX5_laysPrices_48 : decode cX5_laysPrices 48 = .ok (.getfield 81, 3) := by decide +kernel
theorem dX5_laysPrices_51 : decode cX5_laysPrices 51 = .ok (.iload_n 1, 1) := by decide +kernel
theorem dX5_laysPrices_52 : decode cX5_laysPrices 52 = .ok (.iload_n 2, 1) := by decide +kernel
theorem dX5_laysPrices_53 : decode cX5_laysPrices 53 = .ok (.iconst (-1), 1) := by decide +kernel
theorem dX5_laysPrices_54 : decode cX5_laysPrices 54 = .ok (.ixor, 1) := by decide +kernel
theorem dX5_laysPrices_55 : decode cX5_laysPrices 55 = .ok (.iand, 1) := by decide +kernel
theorem dX5_laysPrices_56 : decode cX5_laysPrices 56 = .ok (.iaload, 1) := by decide +kernel
theorem dX5_laysPrices_57 : decode cX5_laysPrices 57 = .ok (.iconst (-1), 1) := by decide +kernel
theorem dX5_laysPrices_58 : decode cX5_laysPrices 58 = .ok (.if_icmp .ne 6, 3) := by decide +kernel
theorem dX5_laysPrices_61 : decode cX5_laysPrices 61 = .ok (.goto 50, 3) := by decide +kernel
theorem dX5_laysPrices_64 : decode cX5_laysPrices 64 = .ok (.aload_n 0, 1) := by decide +kernel
theorem dX5_laysPrices_65 : decode cX5_laysPrices 65 = .ok (.getfield 56, 3) := by decide +kernel
theorem dX5_laysPrices_68 : decode cX5_laysPrices 68 = .ok (.iconst 1, 1) := by decide +kernel
theorem dX5_laysPrices_69 : decode cX5_laysPrices 69 = .ok (.iload_n 2, 1) := by decide +kernel
theorem dX5_laysPrices_70 : decode cX5_laysPrices 70 = .ok (.iadd, 1) := by decide +kernel
theorem dX5_laysPrices_71 : decode cX5_laysPrices 71 = .ok (.iaload, 1) := by decide +kernel
theorem dX5_laysPrices_72 : decode cX5_laysPrices 72 = .ok (.aload_n 0, 1) := by decide +kernel
theorem dX5_laysPrices_73 : decode cX5_laysPrices 73 = .ok (.getfield 81, 3) := by decide +kernel
theorem dX5_laysPrices_76 : decode cX5_laysPrices 76 = .ok (.iload_n 1, 1) := by decide +kernel
theorem dX5_laysPrices_77 : decode cX5_laysPrices 77 = .ok (.iload_n 2, 1) := by decide +kernel
theorem dX5_laysPrices_78 : decode cX5_laysPrices 78 = .ok (.iconst (-1), 1) := by decide +kernel
theorem dX5_laysPrices_79 : decode cX5_laysPrices 79 = .ok (.ixor, 1) := by decide +kernel
theorem dX5_laysPrices_80 : decode cX5_laysPrices 80 = .ok (.iand, 1) := by decide +kernel
theorem dX5_laysPrices_81 : decode cX5_laysPrices 81 = .ok (.iaload, 1) := by decide +kernel
theorem dX5_laysPrices_82 : decode cX5_laysPrices 82 = .ok (.iadd, 1) := by decide +kernel
theorem dX5_laysPrices_83 : decode cX5_laysPrices 83 = .ok (.istore_n 3, 1) := by decide +kernel
theorem dX5_laysPrices_84 : decode cX5_laysPrices 84 = .ok (.aload_n 0, 1) := by decide +kernel
theorem dX5_laysPrices_85 : decode cX5_laysPrices 85 = .ok (.getfield 81, 3) := by decide +kernel
theorem dX5_laysPrices_88 : decode cX5_laysPrices 88 = .ok (.iload_n 1, 1) := by decide +kernel
theorem dX5_laysPrices_89 : decode cX5_laysPrices 89 = .ok (.iaload, 1) := by decide +kernel
theorem dX5_laysPrices_90 : decode cX5_laysPrices 90 = .ok (.iconst (-1), 1) := by decide +kernel
theorem dX5_laysPrices_91 : decode cX5_laysPrices 91 = .ok (.if_icmp .eq 13, 3) := by decide +kernel
theorem dX5_laysPrices_94 : decode cX5_laysPrices 94 = .ok (.iload_n 3, 1) := by decide +kernel
theorem dX5_laysPrices_95 : decode cX5_laysPrices 95 = .ok (.aload_n 0, 1) := by decide +kernel
theorem dX5_laysPrices_96 : decode cX5_laysPrices 96 = .ok (.getfield 81, 3) := by decide +kernel
theorem dX5_laysPrices_99 : decode cX5_laysPrices 99 = .ok (.iload_n 1, 1) := by decide +kernel
theorem dX5_laysPrices_100 : decode cX5_laysPrices 100 = .ok (.iaload, 1) := by decide +kernel
theorem dX5_laysPrices_101 : decode cX5_laysPrices 101 = .ok (.if_icmp .ge 10, 3) := by decide +kernel
theorem dX5_laysPrices_104 : decode cX5_laysPrices 104 = .ok (.aload_n 0, 1) := by decide +kernel
theorem dX5_laysPrices_105 : decode cX5_laysPrices 105 = .ok (.getfield 81, 3) := by decide +kernel
theorem dX5_laysPrices_108 : decode cX5_laysPrices 108 = .ok (.iload_n 1, 1) := by decide +kernel
theorem dX5_laysPrices_109 : decode cX5_laysPrices 109 = .ok (.iload_n 3, 1) := by decide +kernel
theorem dX5_laysPrices_110 : decode cX5_laysPrices 110 = .ok (.iastore, 1) := by decide +kernel
theorem dX5_laysPrices_111 : decode cX5_laysPrices 111 = .ok (.iload_n 2, 1) := by decide +kernel
theorem dX5_laysPrices_112 : decode cX5_laysPrices 112 = .ok (.iconst 1, 1) := by decide +kernel
theorem dX5_laysPrices_113 : decode cX5_laysPrices 113 = .ok (.isub, 1) := by decide +kernel
theorem dX5_laysPrices_114 : decode cX5_laysPrices 114 = .ok (.iload_n 1, 1) := by decide +kernel
theorem dX5_laysPrices_115 : decode cX5_laysPrices 115 = .ok (.iand, 1) := by decide +kernel
theorem dX5_laysPrices_116 : decode cX5_laysPrices 116 = .ok (.istore_n 2, 1) := by decide +kernel
theorem dX5_laysPrices_117 : decode cX5_laysPrices 117 = .ok (.goto (-91), 3) := by decide +kernel
theorem dX5_laysPrices_120 : decode cX5_laysPrices 120 = .ok (.iinc 1 1, 3) := by decide +kernel
theorem dX5_laysPrices_123 : decode cX5_laysPrices 123 = .ok (.goto (-114), 3) := by decide +kernel
theorem dX5_laysPrices_126 : decode cX5_laysPrices 126 = .ok (.return_, 1) := by decide +kernel
set_option maxRecDepth 20000 in
theorem ggX5_cheapest_X5_isSet : GoodIn wsX5_cheapest wsX5_isSet := goodIn_r _ [7, 8, 9, 10, 6, 11, 12, 13, 14, 15, 16, 17, 18, 19, 28, 29, 30, 31, 32, 33, 34, 35, 36, 37, 38, 39, 40, 41, 42, 43, 44, 45, 46, 47, 48, 49, 50, 51] (by decide +kernel) (by decide +kernel)
set_option maxRecDepth 20000 in
theorem gX5_cheapest_X5_isSet : GoodIn wsX5_cheapest (wsV RX5 160 RX5 yX5_isSet wsX5_isSet) := goodIn_app (goodIn_of _ (by decide +kernel)) ggX5_cheapest_X5_isSet
set_option maxRecDepth 20000 in
theorem ggX5_cheapest_X5_laysPrices : GoodIn wsX5_cheapest wsX5_laysPrices := goodIn_r _ [23, 2, 12, 13, 14, 15, 6, 16, 8, 9, 10, 11, 24, 25, 26, 27, 28, 29, 30, 31, 32, 33, 34, 35, 36, 37, 38, 39, 40, 41, 42, 43, 44, 45, 46, 47, 48, 49, 50, 51] (by decide +kernel) (by decide +kernel)
set_option maxRecDepth 20000 in
theorem gX5_cheapest_X5_laysPrices : GoodIn wsX5_cheapest (wsV RX5 227 RX5 yX5_laysPrices wsX5_laysPrices) := goodIn_app (goodIn_of _ (by decide +kernel)) ggX5_cheapest_X5_laysPrices
theorem dX5_cheapest_0 : decode cX5_cheapest 0 = .ok (.aload_n 0, 1) := by decide +kernel
theorem dX5_cheapest_1 : decode cX5_cheapest 1 = .ok (.iconst 0, 1) := by decide +kernel
theorem dX5_cheapest_2 : decode cX5_cheapest 2 = .ok (.putfield 1, 3) := by decide +kernel
theorem dX5_cheapest_5 : decode cX5_cheapest 5 = .ok (.aload_n 0, 1) := by decide +kernel
theorem dX5_cheapest_6 : decode cX5_cheapest 6 = .ok (.iload_n 1, 1) := by decide +kernel
theorem dX5_cheapest_7 : decode cX5_cheapest 7 = .ok (.invokevirtual 160, 3) := by decide +kernel
theorem dX5_cheapest_10 : decode cX5_cheapest 10 = .ok (.ifCond .ne 5, 3) := by decide +kernel
theorem dX5_cheapest_13 : decode cX5_cheapest 13 = .ok (.iconst (-1), 1) := by decide +kernel
theorem dX5_cheapest_14 : decode cX5_cheapest 14 = .ok (.ireturn, 1) := by decide +kernel
theorem dX5_cheapest_15 : decode cX5_cheapest 15 = .ok (.aload_n 0, 1) := by decide +kernel
theorem dX5_cheapest_16 : decode cX5_cheapest 16 = .ok (.invokevirtual 227, 3) := by decide +kernel
theorem dX5_cheapest_19 : decode cX5_cheapest 19 = .ok (.aload_n 0, 1) := by decide +kernel
theorem dX5_cheapest_20 : decode cX5_cheapest 20 = .ok (.getfield 81, 3) := by decide +kernel
theorem dX5_cheapest_23 : decode cX5_cheapest 23 = .ok (.iload_n 1, 1) := by decide +kernel
theorem dX5_cheapest_24 : decode cX5_cheapest 24 = .ok (.iaload, 1) := by decide +kernel
theorem dX5_cheapest_25 : decode cX5_cheapest 25 = .ok (.ireturn, 1) := by decide +kernel
set_option maxRecDepth 20000 in
theorem ggX5_part_X5_isSet : GoodIn wsX5_part wsX5_isSet := goodIn_r _ [8, 9, 10, 11, 7, 12, 3, 13, 14, 15, 16, 17, 18, 19, 32, 33, 34, 35, 36, 37, 38, 39, 40, 41, 42, 43, 44, 45, 46, 47, 48, 49, 50, 51, 52, 53, 54, 55] (by decide +kernel) (by decide +kernel)
set_option maxRecDepth 20000 in
theorem gX5_part_X5_isSet : GoodIn wsX5_part (wsV RX5 160 RX5 yX5_isSet wsX5_isSet) := goodIn_app (goodIn_of _ (by decide +kernel)) ggX5_part_X5_isSet
set_option maxRecDepth 20000 in
theorem ggX5_part_X5_refuse : GoodIn wsX5_part wsX5_refuse := goodIn_r _ [23, 1, 32, 33, 34, 35, 36, 37, 38, 39, 40, 41, 42, 43, 44, 45, 46, 47, 48, 49, 50, 51, 52, 53, 54, 55] (by decide +kernel) (by decide +kernel)
set_option maxRecDepth 20000 in
theorem gX5_part_X5_refuse : GoodIn wsX5_part (wsV RX5 230 RX5 yX5_refuse wsX5_refuse) := goodIn_app (goodIn_of _ (by decide +kernel)) ggX5_part_X5_refuse
set_option maxRecDepth 20000 in
theorem ggX5_part_X5_laysPrices : GoodIn wsX5_part wsX5_laysPrices := goodIn_r _ [27, 2, 3, 13, 14, 15, 7, 16, 9, 10, 11, 12, 28, 29, 30, 31, 32, 33, 34, 35, 36, 37, 38, 39, 40, 41, 42, 43, 44, 45, 46, 47, 48, 49, 50, 51, 52, 53, 54, 55] (by decide +kernel) (by decide +kernel)
set_option maxRecDepth 20000 in
theorem gX5_part_X5_laysPrices : GoodIn wsX5_part (wsV RX5 227 RX5 yX5_laysPrices wsX5_laysPrices) := goodIn_app (goodIn_of _ (by decide +kernel)) ggX5_part_X5_laysPrices
set_option maxRecDepth 20000 in
theorem ggX5_part_X5_isTold : GoodIn wsX5_part wsX5_isTold := goodIn_r _ [31, 3, 32, 33, 34, 35, 36, 37, 38, 39, 40, 41, 42, 43, 44, 45, 46, 47, 48, 49, 50, 51, 52, 53, 54, 55] (by decide +kernel) (by decide +kernel)
set_option maxRecDepth 20000 in
theorem gX5_part_X5_isTold : GoodIn wsX5_part (wsV RX5 220 RX5 yX5_isTold wsX5_isTold) := goodIn_app (goodIn_of _ (by decide +kernel)) ggX5_part_X5_isTold
theorem dX5_part_0 : decode cX5_part 0 = .ok (.aload_n 0, 1) := by decide +kernel
theorem dX5_part_1 : decode cX5_part 1 = .ok (.iconst 0, 1) := by decide +kernel
theorem dX5_part_2 : decode cX5_part 2 = .ok (.putfield 1, 3) := by decide +kernel
theorem dX5_part_5 : decode cX5_part 5 = .ok (.aload_n 0, 1) := by decide +kernel
theorem dX5_part_6 : decode cX5_part 6 = .ok (.iload_n 1, 1) := by decide +kernel
theorem dX5_part_7 : decode cX5_part 7 = .ok (.invokevirtual 160, 3) := by decide +kernel
theorem dX5_part_10 : decode cX5_part 10 = .ok (.ifCond .eq 7, 3) := by decide +kernel
theorem dX5_part_13 : decode cX5_part 13 = .ok (.iload_n 2, 1) := by decide +kernel
theorem dX5_part_14 : decode cX5_part 14 = .ok (.ifCond .ge 8, 3) := by decide +kernel
theorem dX5_part_17 : decode cX5_part 17 = .ok (.aload_n 0, 1) := by decide +kernel
theorem dX5_part_18 : decode cX5_part 18 = .ok (.invokevirtual 230, 3) := by decide +kernel
theorem dX5_part_21 : decode cX5_part 21 = .ok (.ireturn, 1) := by decide +kernel
theorem dX5_part_22 : decode cX5_part 22 = .ok (.aload_n 0, 1) := by decide +kernel
theorem dX5_part_23 : decode cX5_part 23 = .ok (.invokevirtual 227, 3) := by decide +kernel
theorem dX5_part_26 : decode cX5_part 26 = .ok (.aload_n 0, 1) := by decide +kernel
theorem dX5_part_27 : decode cX5_part 27 = .ok (.getfield 81, 3) := by decide +kernel
theorem dX5_part_30 : decode cX5_part 30 = .ok (.iload_n 1, 1) := by decide +kernel
theorem dX5_part_31 : decode cX5_part 31 = .ok (.iaload, 1) := by decide +kernel
theorem dX5_part_32 : decode cX5_part 32 = .ok (.iconst (-1), 1) := by decide +kernel
theorem dX5_part_33 : decode cX5_part 33 = .ok (.if_icmp .ne 8, 3) := by decide +kernel
theorem dX5_part_36 : decode cX5_part 36 = .ok (.aload_n 0, 1) := by decide +kernel
theorem dX5_part_37 : decode cX5_part 37 = .ok (.invokevirtual 230, 3) := by decide +kernel
theorem dX5_part_40 : decode cX5_part 40 = .ok (.ireturn, 1) := by decide +kernel
theorem dX5_part_41 : decode cX5_part 41 = .ok (.iload_n 1, 1) := by decide +kernel
theorem dX5_part_42 : decode cX5_part 42 = .ok (.istore_n 3, 1) := by decide +kernel
theorem dX5_part_43 : decode cX5_part 43 = .ok (.iconst 0, 1) := by decide +kernel
theorem dX5_part_44 : decode cX5_part 44 = .ok (.istore 4, 2) := by decide +kernel
theorem dX5_part_46 : decode cX5_part 46 = .ok (.iload_n 3, 1) := by decide +kernel
theorem dX5_part_47 : decode cX5_part 47 = .ok (.ifCond .eq 110, 3) := by decide +kernel
theorem dX5_part_50 : decode cX5_part 50 = .ok (.iload_n 3, 1) := by decide +kernel
theorem dX5_part_51 : decode cX5_part 51 = .ok (.iload_n 3, 1) := by decide +kernel
theorem dX5_part_52 : decode cX5_part 52 = .ok (.ineg, 1) := by decide +kernel
theorem dX5_part_53 : decode cX5_part 53 = .ok (.iand, 1) := by decide +kernel
theorem dX5_part_54 : decode cX5_part 54 = .ok (.istore 5, 2) := by decide +kernel
theorem dX5_part_56 : decode cX5_part 56 = .ok (.iload 5, 2) := by decide +kernel
theorem dX5_part_58 : decode cX5_part 58 = .ok (.iload_n 3, 1) := by decide +kernel
theorem dX5_part_59 : decode cX5_part 59 = .ok (.iconst (-1), 1) := by decide +kernel
theorem dX5_part_60 : decode cX5_part 60 = .ok (.ixor, 1) := by decide +kernel
theorem dX5_part_61 : decode cX5_part 61 = .ok (.iand, 1) := by decide +kernel
theorem dX5_part_62 : decode cX5_part 62 = .ok (.ifCond .ne 67, 3) := by decide +kernel
theorem dX5_part_65 : decode cX5_part 65 = .ok (.iload 5, 2) := by decide +kernel
theorem dX5_part_67 : decode cX5_part 67 = .ok (.iload_n 3, 1) := by decide +kernel
theorem dX5_part_68 : decode cX5_part 68 = .ok (.iand, 1) := by decide +kernel
theorem dX5_part_69 : decode cX5_part 69 = .ok (.iload_n 3, 1) := by decide +kernel
theorem dX5_part_70 : decode cX5_part 70 = .ok (.ineg, 1) := by decide +kernel
theorem dX5_part_71 : decode cX5_part 71 = .ok (.iand, 1) := by decide +kernel
theorem dX5_part_72 : decode cX5_part 72 = .ok (.ifCond .eq 57, 3) := by decide +kernel
theorem dX5_part_75 : decode cX5_part 75 = .ok (.aload_n 0, 1) := by decide +kernel
theorem dX5_part_76 : decode cX5_part 76 = .ok (.iload 5, 2) := by decide +kernel
theorem dX5_part_78 : decode cX5_part 78 = .ok (.invokevirtual 220, 3) := by decide +kernel
theorem dX5_part_81 : decode cX5_part 81 = .ok (.ifCond .eq 48, 3) := by decide +kernel
theorem dX5_part_84 : decode cX5_part 84 = .ok (.aload_n 0, 1) := by decide +kernel
theorem dX5_part_85 : decode cX5_part 85 = .ok (.getfield 81, 3) := by decide +kernel
theorem dX5_part_88 : decode cX5_part 88 = .ok (.iload_n 3, 1) := by decide +kernel
theorem dX5_part_89 : decode cX5_part 89 = .ok (.iload 5, 2) := by decide +kernel
theorem dX5_part_91 : decode cX5_part 91 = .ok (.iconst (-1), 1) := by decide +kernel
theorem dX5_part_92 : decode cX5_part 92 = .ok (.ixor, 1) := by decide +kernel
theorem dX5_part_93 : decode cX5_part 93 = .ok (.iand, 1) := by decide +kernel
theorem dX5_part_94 : decode cX5_part 94 = .ok (.iaload, 1) := by decide +kernel
theorem dX5_part_95 : decode cX5_part 95 = .ok (.iconst (-1), 1) := by decide +kernel
theorem dX5_part_96 : decode cX5_part 96 = .ok (.if_icmp .eq 33, 3) := by decide +kernel
theorem dX5_part_99 : decode cX5_part 99 = .ok (.aload_n 0, 1) := by decide +kernel
theorem dX5_part_100 : decode cX5_part 100 = .ok (.getfield 56, 3) := by decide +kernel
theorem dX5_part_103 : decode cX5_part 103 = .ok (.iconst 1, 1) := by decide +kernel
theorem dX5_part_104 : decode cX5_part 104 = .ok (.iload 5, 2) := by decide +kernel
theorem dX5_part_106 : decode cX5_part 106 = .ok (.iadd, 1) := by decide +kernel
theorem dX5_part_107 : decode cX5_part 107 = .ok (.iaload, 1) := by decide +kernel
theorem dX5_part_108 : decode cX5_part 108 = .ok (.aload_n 0, 1) := by decide +kernel
theorem dX5_part_109 : decode cX5_part 109 = .ok (.getfield 81, 3) := by decide +kernel
theorem dX5_part_112 : decode cX5_part 112 = .ok (.iload_n 3, 1) := by decide +kernel
theorem dX5_part_113 : decode cX5_part 113 = .ok (.iload 5, 2) := by decide +kernel
theorem dX5_part_115 : decode cX5_part 115 = .ok (.iconst (-1), 1) := by decide +kernel
theorem dX5_part_116 : decode cX5_part 116 = .ok (.ixor, 1) := by decide +kernel
theorem dX5_part_117 : decode cX5_part 117 = .ok (.iand, 1) := by decide +kernel
theorem dX5_part_118 : decode cX5_part 118 = .ok (.iaload, 1) := by decide +kernel
theorem dX5_part_119 : decode cX5_part 119 = .ok (.iadd, 1) := by decide +kernel
theorem dX5_part_120 : decode cX5_part 120 = .ok (.aload_n 0, 1) := by decide +kernel
theorem dX5_part_121 : decode cX5_part 121 = .ok (.getfield 81, 3) := by decide +kernel
theorem dX5_part_124 : decode cX5_part 124 = .ok (.iload_n 3, 1) := by decide +kernel
theorem dX5_part_125 : decode cX5_part 125 = .ok (.iaload, 1) := by decide +kernel
theorem dX5_part_126 : decode cX5_part 126 = .ok (.if_icmp .eq 9, 3) := by decide +kernel
theorem dX5_part_129 : decode cX5_part 129 = .ok (.iinc 5 1, 3) := by decide +kernel
theorem dX5_part_132 : decode cX5_part 132 = .ok (.goto (-76), 3) := by decide +kernel
theorem dX5_part_135 : decode cX5_part 135 = .ok (.iload 4, 2) := by decide +kernel
theorem dX5_part_137 : decode cX5_part 137 = .ok (.iload_n 2, 1) := by decide +kernel
theorem dX5_part_138 : decode cX5_part 138 = .ok (.if_icmp .ne 6, 3) := by decide +kernel
theorem dX5_part_141 : decode cX5_part 141 = .ok (.iload 5, 2) := by decide +kernel
theorem dX5_part_143 : decode cX5_part 143 = .ok (.ireturn, 1) := by decide +kernel
theorem dX5_part_144 : decode cX5_part 144 = .ok (.iload_n 3, 1) := by decide +kernel
theorem dX5_part_145 : decode cX5_part 145 = .ok (.iload 5, 2) := by decide +kernel
theorem dX5_part_147 : decode cX5_part 147 = .ok (.iconst (-1), 1) := by decide +kernel
theorem dX5_part_148 : decode cX5_part 148 = .ok (.ixor, 1) := by decide +kernel
theorem dX5_part_149 : decode cX5_part 149 = .ok (.iand, 1) := by decide +kernel
theorem dX5_part_150 : decode cX5_part 150 = .ok (.istore_n 3, 1) := by decide +kernel
theorem dX5_part_151 : decode cX5_part 151 = .ok (.iinc 4 1, 3) := by decide +kernel
theorem dX5_part_154 : decode cX5_part 154 = .ok (.goto (-108), 3) := by decide +kernel
theorem dX5_part_157 : decode cX5_part 157 = .ok (.aload_n 0, 1) := by decide +kernel
theorem dX5_part_158 : decode cX5_part 158 = .ok (.invokevirtual 230, 3) := by decide +kernel
theorem dX5_part_161 : decode cX5_part 161 = .ok (.ireturn, 1) := by decide +kernel
set_option maxRecDepth 20000 in
theorem ggX5_laysPlain_X5_all : GoodIn wsX5_laysPlain wsX5_all := goodIn_r _ [6, 7, 8, 9, 5, 10, 11, 22, 23, 24, 25, 26, 27, 28, 29, 30, 31, 32, 33, 34, 35, 36, 37, 38, 39, 40, 41, 42, 43, 44, 45] (by decide +kernel) (by decide +kernel)
set_option maxRecDepth 20000 in
theorem gX5_laysPlain_X5_all : GoodIn wsX5_laysPlain (wsV RX5 151 RX5 yX5_all wsX5_all) := goodIn_app (goodIn_of _ (by decide +kernel)) ggX5_laysPlain_X5_all
set_option maxRecDepth 20000 in
theorem ggX5_laysPlain_X5_pairsIn : GoodIn wsX5_laysPlain wsX5_pairsIn := goodIn_r _ [15, 11, 7, 8, 9, 5, 10, 16, 17, 18, 19, 20, 21, 22, 23, 24, 25, 26, 27, 28, 29, 30, 31, 32, 33, 34, 35, 36, 37, 38, 39, 40, 41, 42, 43, 44, 45] (by decide +kernel) (by decide +kernel)
set_option maxRecDepth 20000 in
theorem gX5_laysPlain_X5_pairsIn : GoodIn wsX5_laysPlain (wsV RX5 157 RX5 yX5_pairsIn wsX5_pairsIn) := goodIn_app (goodIn_of _ (by decide +kernel)) ggX5_laysPlain_X5_pairsIn
theorem dX5_laysPlain_0 : decode cX5_laysPlain 0 = .ok (.iconst 0, 1) := by decide +kernel
theorem dX5_laysPlain_1 : decode cX5_laysPlain 1 = .ok (.istore_n 1, 1) := by decide +kernel
theorem dX5_laysPlain_2 : decode cX5_laysPlain 2 = .ok (.iload_n 1, 1) := by decide +kernel
theorem dX5_laysPlain_3 : decode cX5_laysPlain 3 = .ok (.aload_n 0, 1) := by decide +kernel
theorem dX5_laysPlain_4 : decode cX5_laysPlain 4 = .ok (.invokevirtual 151, 3) := by decide +kernel
theorem dX5_laysPlain_7 : decode cX5_laysPlain 7 = .ok (.if_icmp .gt 127, 3) := by decide +kernel
theorem dX5_laysPlain_10 : decode cX5_laysPlain 10 = .ok (.iconst 0, 1) := by decide +kernel
theorem dX5_laysPlain_11 : decode cX5_laysPlain 11 = .ok (.istore_n 2, 1) := by decide +kernel
theorem dX5_laysPlain_12 : decode cX5_laysPlain 12 = .ok (.iload_n 2, 1) := by decide +kernel
theorem dX5_laysPlain_13 : decode cX5_laysPlain 13 = .ok (.bipush 8, 2) := by decide +kernel
theorem dX5_laysPlain_15 : decode cX5_laysPlain 15 = .ok (.if_icmp .gt 33, 3) := by decide +kernel
theorem dX5_laysPlain_18 : decode cX5_laysPlain 18 = .ok (.aload_n 0, 1) := by decide +kernel
theorem dX5_laysPlain_19 : decode cX5_laysPlain 19 = .ok (.getfield 84, 3) := by decide +kernel
theorem dX5_laysPlain_22 : decode cX5_laysPlain 22 = .ok (.bipush 9, 2) := by decide +kernel
theorem dX5_laysPlain_24 : decode cX5_laysPlain 24 = .ok (.iload_n 1, 1) := by decide +kernel
theorem dX5_laysPlain_25 : decode cX5_laysPlain 25 = .ok (.imul, 1) := by decide +kernel
theorem dX5_laysPlain_26 : decode cX5_laysPlain 26 = .ok (.iload_n 2, 1) := by decide +kernel
theorem dX5_laysPlain_27 : decode cX5_laysPlain 27 = .ok (.iadd, 1) := by decide +kernel
theorem dX5_laysPlain_28 : decode cX5_laysPlain 28 = .ok (.iload_n 1, 1) := by decide +kernel
theorem dX5_laysPlain_29 : decode cX5_laysPlain 29 = .ok (.ifCond .ne 11, 3) := by decide +kernel
theorem dX5_laysPlain_32 : decode cX5_laysPlain 32 = .ok (.iload_n 2, 1) := by decide +kernel
theorem dX5_laysPlain_33 : decode cX5_laysPlain 33 = .ok (.ifCond .ne 7, 3) := by decide +kernel
theorem dX5_laysPlain_36 : decode cX5_laysPlain 36 = .ok (.iconst 1, 1) := by decide +kernel
theorem dX5_laysPlain_37 : decode cX5_laysPlain 37 = .ok (.goto 4, 3) := by decide +kernel
theorem dX5_laysPlain_40 : decode cX5_laysPlain 40 = .ok (.iconst 0, 1) := by decide +kernel
theorem dX5_laysPlain_41 : decode cX5_laysPlain 41 = .ok (.iastore, 1) := by decide +kernel
theorem dX5_laysPlain_42 : decode cX5_laysPlain 42 = .ok (.iinc 2 1, 3) := by decide +kernel
theorem dX5_laysPlain_45 : decode cX5_laysPlain 45 = .ok (.goto (-33), 3) := by decide +kernel
theorem dX5_laysPlain_48 : decode cX5_laysPlain 48 = .ok (.iload_n 1, 1) := by decide +kernel
theorem dX5_laysPlain_49 : decode cX5_laysPlain 49 = .ok (.istore_n 2, 1) := by decide +kernel
theorem dX5_laysPlain_50 : decode cX5_laysPlain 50 = .ok (.iload_n 2, 1) := by decide +kernel
theorem dX5_laysPlain_51 : decode cX5_laysPlain 51 = .ok (.ifCond .le 77, 3) := by decide +kernel
theorem dX5_laysPlain_54 : decode cX5_laysPlain 54 = .ok (.iload_n 2, 1) := by decide +kernel
theorem dX5_laysPlain_55 : decode cX5_laysPlain 55 = .ok (.iload_n 1, 1) := by decide +kernel
theorem dX5_laysPlain_56 : decode cX5_laysPlain 56 = .ok (.iand, 1) := by decide +kernel
theorem dX5_laysPlain_57 : decode cX5_laysPlain 57 = .ok (.iload_n 1, 1) := by decide +kernel
theorem dX5_laysPlain_58 : decode cX5_laysPlain 58 = .ok (.ineg, 1) := by decide +kernel
theorem dX5_laysPlain_59 : decode cX5_laysPlain 59 = .ok (.iand, 1) := by decide +kernel
theorem dX5_laysPlain_60 : decode cX5_laysPlain 60 = .ok (.ifCond .eq 59, 3) := by decide +kernel
theorem dX5_laysPlain_63 : decode cX5_laysPlain 63 = .ok (.aload_n 0, 1) := by decide +kernel
theorem dX5_laysPlain_64 : decode cX5_laysPlain 64 = .ok (.iload_n 2, 1) := by decide +kernel
theorem dX5_laysPlain_65 : decode cX5_laysPlain 65 = .ok (.invokevirtual 157, 3) := by decide +kernel
theorem dX5_laysPlain_68 : decode cX5_laysPlain 68 = .ok (.ifCond .le 6, 3) := by decide +kernel
theorem dX5_laysPlain_71 : decode cX5_laysPlain 71 = .ok (.goto 48, 3) := by decide +kernel
theorem dX5_laysPlain_74 : decode cX5_laysPlain 74 = .ok (.iconst 1, 1) := by decide +kernel
theorem dX5_laysPlain_75 : decode cX5_laysPlain 75 = .ok (.istore_n 3, 1) := by decide +kernel
theorem dX5_laysPlain_76 : decode cX5_laysPlain 76 = .ok (.iload_n 3, 1) := by decide +kernel
theorem dX5_laysPlain_77 : decode cX5_laysPlain 77 = .ok (.bipush 8, 2) := by decide +kernel
theorem dX5_laysPlain_79 : decode cX5_laysPlain 79 = .ok (.if_icmp .gt 40, 3) := by decide +kernel
theorem dX5_laysPlain_82 : decode cX5_laysPlain 82 = .ok (.aload_n 0, 1) := by decide +kernel
theorem dX5_laysPlain_83 : decode cX5_laysPlain 83 = .ok (.getfield 84, 3) := by decide +kernel
theorem dX5_laysPlain_86 : decode cX5_laysPlain 86 = .ok (.bipush 9, 2) := by decide +kernel
theorem dX5_laysPlain_88 : decode cX5_laysPlain 88 = .ok (.iload_n 1, 1) := by decide +kernel
theorem dX5_laysPlain_89 : decode cX5_laysPlain 89 = .ok (.imul, 1) := by decide +kernel
theorem dX5_laysPlain_90 : decode cX5_laysPlain 90 = .ok (.iload_n 3, 1) := by decide +kernel
theorem dX5_laysPlain_91 : decode cX5_laysPlain 91 = .ok (.iadd, 1) := by decide +kernel
