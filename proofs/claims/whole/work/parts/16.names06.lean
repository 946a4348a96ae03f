theorem dX5_isSet_9 : decode cX5_isSet 9 = .ok (.aload_n 0, 1) := by decide +kernel
theorem dX5_isSet_10 : decode cX5_isSet 10 = .ok (.invokevirtual 151, 3) := by decide +kernel
theorem dX5_isSet_13 : decode cX5_isSet 13 = .ok (.invokestatic 99, 3) := by decide +kernel
theorem dX5_isSet_16 : decode cX5_isSet 16 = .ok (.ifCond .eq 7, 3) := by decide +kernel
theorem dX5_isSet_19 : decode cX5_isSet 19 = .ok (.iconst 1, 1) := by decide +kernel
theorem dX5_isSet_20 : decode cX5_isSet 20 = .ok (.goto 4, 3) := by decide +kernel
theorem dX5_isSet_23 : decode cX5_isSet 23 = .ok (.iconst 0, 1) := by decide +kernel
theorem dX5_isSet_24 : decode cX5_isSet 24 = .ok (.ireturn, 1) := by decide +kernel
set_option maxRecDepth 20000 in
theorem ggX5_isThing_X5_things : GoodIn wsX5_isThing wsX5_things := goodIn_r _ [5, 6, 10, 11, 12, 13, 14, 15, 16, 17, 18, 19, 20, 21, 22, 23, 24, 25, 26, 27, 28, 29, 30, 31, 32, 33] (by decide +kernel) (by decide +kernel)
set_option maxRecDepth 20000 in
theorem gX5_isThing_X5_things : GoodIn wsX5_isThing (wsV RX5 148 RX5 yX5_things wsX5_things) := goodIn_app (goodIn_of _ (by decide +kernel)) ggX5_isThing_X5_things
set_option maxRecDepth 20000 in
theorem ggX5_isThing_X5_isIn : GoodIn wsX5_isThing wsX5_isIn := goodIn_r _ [9] (by decide +kernel) (by decide +kernel)
set_option maxRecDepth 20000 in
theorem gX5_isThing_X5_isIn : GoodIn wsX5_isThing (va_wsS RX5 99 yX5_isIn wsX5_isIn) := goodIn_app (goodIn_of _ (by decide +kernel)) ggX5_isThing_X5_isIn
theorem dX5_isThing_0 : decode cX5_isThing 0 = .ok (.iload_n 1, 1) := by decide +kernel
theorem dX5_isThing_1 : decode cX5_isThing 1 = .ok (.iconst 0, 1) := by decide +kernel
theorem dX5_isThing_2 : decode cX5_isThing 2 = .ok (.aload_n 0, 1) := by decide +kernel
theorem dX5_isThing_3 : decode cX5_isThing 3 = .ok (.invokevirtual 148, 3) := by decide +kernel
theorem dX5_isThing_6 : decode cX5_isThing 6 = .ok (.iconst 1, 1) := by decide +kernel
theorem dX5_isThing_7 : decode cX5_isThing 7 = .ok (.isub, 1) := by decide +kernel
theorem dX5_isThing_8 : decode cX5_isThing 8 = .ok (.invokestatic 99, 3) := by decide +kernel
theorem dX5_isThing_11 : decode cX5_isThing 11 = .ok (.ireturn, 1) := by decide +kernel
set_option maxRecDepth 20000 in
theorem ggX5_isRow_X5_things : GoodIn wsX5_isRow wsX5_things := goodIn_r _ [5, 6, 10, 11, 12, 13, 14, 15, 16, 17, 18, 19, 20, 21, 22, 23, 24, 25, 26, 27, 28, 29, 30, 31, 32, 33] (by decide +kernel) (by decide +kernel)
set_option maxRecDepth 20000 in
theorem gX5_isRow_X5_things : GoodIn wsX5_isRow (wsV RX5 148 RX5 yX5_things wsX5_things) := goodIn_app (goodIn_of _ (by decide +kernel)) ggX5_isRow_X5_things
set_option maxRecDepth 20000 in
theorem ggX5_isRow_X5_isIn : GoodIn wsX5_isRow wsX5_isIn := goodIn_r _ [9] (by decide +kernel) (by decide +kernel)
set_option maxRecDepth 20000 in
theorem gX5_isRow_X5_isIn : GoodIn wsX5_isRow (va_wsS RX5 99 yX5_isIn wsX5_isIn) := goodIn_app (goodIn_of _ (by decide +kernel)) ggX5_isRow_X5_isIn
theorem dX5_isRow_0 : decode cX5_isRow 0 = .ok (.aload_n 0, 1) := by decide +kernel
theorem dX5_isRow_1 : decode cX5_isRow 1 = .ok (.invokevirtual 148, 3) := by decide +kernel
theorem dX5_isRow_4 : decode cX5_isRow 4 = .ok (.ifCond .le 16, 3) := by decide +kernel
theorem dX5_isRow_7 : decode cX5_isRow 7 = .ok (.iload_n 1, 1) := by decide +kernel
theorem dX5_isRow_8 : decode cX5_isRow 8 = .ok (.iconst 0, 1) := by decide +kernel
theorem dX5_isRow_9 : decode cX5_isRow 9 = .ok (.iconst 3, 1) := by decide +kernel
theorem dX5_isRow_10 : decode cX5_isRow 10 = .ok (.invokestatic 99, 3) := by decide +kernel
theorem dX5_isRow_13 : decode cX5_isRow 13 = .ok (.ifCond .eq 7, 3) := by decide +kernel
theorem dX5_isRow_16 : decode cX5_isRow 16 = .ok (.iconst 1, 1) := by decide +kernel
theorem dX5_isRow_17 : decode cX5_isRow 17 = .ok (.goto 4, 3) := by decide +kernel
theorem dX5_isRow_20 : decode cX5_isRow 20 = .ok (.iconst 0, 1) := by decide +kernel
theorem dX5_isRow_21 : decode cX5_isRow 21 = .ok (.ireturn, 1) := by decide +kernel
theorem dX5_told_0 : decode cX5_told 0 = .ok (.iconst 0, 1) := by decide +kernel
theorem dX5_told_1 : decode cX5_told 1 = .ok (.istore_n 1, 1) := by decide +kernel
theorem dX5_told_2 : decode cX5_told 2 = .ok (.iconst 0, 1) := by decide +kernel
theorem dX5_told_3 : decode cX5_told 3 = .ok (.istore_n 2, 1) := by decide +kernel
theorem dX5_told_4 : decode cX5_told 4 = .ok (.iload_n 2, 1) := by decide +kernel
theorem dX5_told_5 : decode cX5_told 5 = .ok (.sipush 256, 3) := by decide +kernel
theorem dX5_told_8 : decode cX5_told 8 = .ok (.if_icmp .ge 23, 3) := by decide +kernel
theorem dX5_told_11 : decode cX5_told 11 = .ok (.aload_n 0, 1) := by decide +kernel
theorem dX5_told_12 : decode cX5_told 12 = .ok (.getfield 56, 3) := by decide +kernel
theorem dX5_told_15 : decode cX5_told 15 = .ok (.iconst 1, 1) := by decide +kernel
theorem dX5_told_16 : decode cX5_told 16 = .ok (.iload_n 2, 1) := by decide +kernel
theorem dX5_told_17 : decode cX5_told 17 = .ok (.iadd, 1) := by decide +kernel
theorem dX5_told_18 : decode cX5_told 18 = .ok (.iaload, 1) := by decide +kernel
theorem dX5_told_19 : decode cX5_told 19 = .ok (.ifCond .le 6, 3) := by decide +kernel
theorem dX5_told_22 : decode cX5_told 22 = .ok (.iinc 1 1, 3) := by decide +kernel
theorem dX5_told_25 : decode cX5_told 25 = .ok (.iinc 2 1, 3) := by decide +kernel
theorem dX5_told_28 : decode cX5_told 28 = .ok (.goto (-24), 3) := by decide +kernel
theorem dX5_told_31 : decode cX5_told 31 = .ok (.iload_n 1, 1) := by decide +kernel
theorem dX5_told_32 : decode cX5_told 32 = .ok (.ireturn, 1) := by decide +kernel
set_option maxRecDepth 20000 in
theorem ggX5_pairsIn_X5_things : GoodIn wsX5_pairsIn wsX5_things := goodIn_r _ [6, 1, 13, 14, 15, 16, 17, 18, 19, 20, 21, 22, 23, 24, 25, 26, 27, 28, 29, 30, 31, 32, 33, 34, 35, 36] (by decide +kernel) (by decide +kernel)
set_option maxRecDepth 20000 in
theorem gX5_pairsIn_X5_things : GoodIn wsX5_pairsIn (wsV RX5 148 RX5 yX5_things wsX5_things) := goodIn_app (goodIn_of _ (by decide +kernel)) ggX5_pairsIn_X5_things
set_option maxRecDepth 20000 in
theorem ggX5_pairsIn_X5_has : GoodIn wsX5_pairsIn wsX5_has := goodIn_r _ [9] (by decide +kernel) (by decide +kernel)
set_option maxRecDepth 20000 in
theorem gX5_pairsIn_X5_has : GoodIn wsX5_pairsIn (va_wsS RX5 103 yX5_has wsX5_has) := goodIn_app (goodIn_of _ (by decide +kernel)) ggX5_pairsIn_X5_has
set_option maxRecDepth 20000 in
theorem ggX5_pairsIn_X5_bits : GoodIn wsX5_pairsIn wsX5_bits := goodIn_r _ [12] (by decide +kernel) (by decide +kernel)
set_option maxRecDepth 20000 in
theorem gX5_pairsIn_X5_bits : GoodIn wsX5_pairsIn (va_wsS RX5 111 yX5_bits wsX5_bits) := goodIn_app (goodIn_of _ (by decide +kernel)) ggX5_pairsIn_X5_bits
theorem dX5_pairsIn_0 : decode cX5_pairsIn 0 = .ok (.iconst 0, 1) := by decide +kernel
theorem dX5_pairsIn_1 : decode cX5_pairsIn 1 = .ok (.istore_n 2, 1) := by decide +kernel
theorem dX5_pairsIn_2 : decode cX5_pairsIn 2 = .ok (.iconst 0, 1) := by decide +kernel
theorem dX5_pairsIn_3 : decode cX5_pairsIn 3 = .ok (.istore_n 3, 1) := by decide +kernel
theorem dX5_pairsIn_4 : decode cX5_pairsIn 4 = .ok (.iload_n 3, 1) := by decide +kernel
theorem dX5_pairsIn_5 : decode cX5_pairsIn 5 = .ok (.aload_n 0, 1) := by decide +kernel
theorem dX5_pairsIn_6 : decode cX5_pairsIn 6 = .ok (.invokevirtual 148, 3) := by decide +kernel
theorem dX5_pairsIn_9 : decode cX5_pairsIn 9 = .ok (.if_icmp .ge 35, 3) := by decide +kernel
theorem dX5_pairsIn_12 : decode cX5_pairsIn 12 = .ok (.iload_n 1, 1) := by decide +kernel
theorem dX5_pairsIn_13 : decode cX5_pairsIn 13 = .ok (.iload_n 3, 1) := by decide +kernel
theorem dX5_pairsIn_14 : decode cX5_pairsIn 14 = .ok (.invokestatic 103, 3) := by decide +kernel
theorem dX5_pairsIn_17 : decode cX5_pairsIn 17 = .ok (.ifCond .eq 21, 3) := by decide +kernel
theorem dX5_pairsIn_20 : decode cX5_pairsIn 20 = .ok (.iload_n 2, 1) := by decide +kernel
theorem dX5_pairsIn_21 : decode cX5_pairsIn 21 = .ok (.aload_n 0, 1) := by decide +kernel
theorem dX5_pairsIn_22 : decode cX5_pairsIn 22 = .ok (.getfield 56, 3) := by decide +kernel
theorem dX5_pairsIn_25 : decode cX5_pairsIn 25 = .ok (.sipush 257, 3) := by decide +kernel
theorem dX5_pairsIn_28 : decode cX5_pairsIn 28 = .ok (.iload_n 3, 1) := by decide +kernel
theorem dX5_pairsIn_29 : decode cX5_pairsIn 29 = .ok (.iadd, 1) := by decide +kernel
theorem dX5_pairsIn_30 : decode cX5_pairsIn 30 = .ok (.iaload, 1) := by decide +kernel
theorem dX5_pairsIn_31 : decode cX5_pairsIn 31 = .ok (.iload_n 1, 1) := by decide +kernel
theorem dX5_pairsIn_32 : decode cX5_pairsIn 32 = .ok (.iand, 1) := by decide +kernel
theorem dX5_pairsIn_33 : decode cX5_pairsIn 33 = .ok (.invokestatic 111, 3) := by decide +kernel
theorem dX5_pairsIn_36 : decode cX5_pairsIn 36 = .ok (.iadd, 1) := by decide +kernel
theorem dX5_pairsIn_37 : decode cX5_pairsIn 37 = .ok (.istore_n 2, 1) := by decide +kernel
theorem dX5_pairsIn_38 : decode cX5_pairsIn 38 = .ok (.iinc 3 1, 3) := by decide +kernel
theorem dX5_pairsIn_41 : decode cX5_pairsIn 41 = .ok (.goto (-37), 3) := by decide +kernel
theorem dX5_pairsIn_44 : decode cX5_pairsIn 44 = .ok (.iload_n 2, 1) := by decide +kernel
theorem dX5_pairsIn_45 : decode cX5_pairsIn 45 = .ok (.iconst 2, 1) := by decide +kernel
theorem dX5_pairsIn_46 : decode cX5_pairsIn 46 = .ok (.idiv, 1) := by decide +kernel
theorem dX5_pairsIn_47 : decode cX5_pairsIn 47 = .ok (.ireturn, 1) := by decide +kernel
set_option maxRecDepth 20000 in
theorem ggX5_now_X5_things : GoodIn wsX5_now wsX5_things := goodIn_r _ [8, 9, 28, 29, 30, 31, 32, 33, 34, 35, 36, 37, 38, 39, 40, 41, 42, 43, 44, 45, 46, 47, 48, 49, 50, 51] (by decide +kernel) (by decide +kernel)
set_option maxRecDepth 20000 in
theorem gX5_now_X5_things : GoodIn wsX5_now (wsV RX5 148 RX5 yX5_things wsX5_things) := goodIn_app (goodIn_of _ (by decide +kernel)) ggX5_now_X5_things
set_option maxRecDepth 20000 in
theorem ggX5_now_X5_told : GoodIn wsX5_now wsX5_told := goodIn_r _ [13, 9, 28, 29, 30, 31, 32, 33, 34, 35, 36, 37, 38, 39, 40, 41, 42, 43, 44, 45, 46, 47, 48, 49, 50, 51] (by decide +kernel) (by decide +kernel)
set_option maxRecDepth 20000 in
theorem gX5_now_X5_told : GoodIn wsX5_now (wsV RX5 154 RX5 yX5_told wsX5_told) := goodIn_app (goodIn_of _ (by decide +kernel)) ggX5_now_X5_told
set_option maxRecDepth 20000 in
theorem ggX5_now_X5_all : GoodIn wsX5_now wsX5_all := goodIn_r _ [17, 4, 5, 6, 7, 8, 9, 28, 29, 30, 31, 32, 33, 34, 35, 36, 37, 38, 39, 40, 41, 42, 43, 44, 45, 46, 47, 48, 49, 50, 51] (by decide +kernel) (by decide +kernel)
set_option maxRecDepth 20000 in
theorem gX5_now_X5_all : GoodIn wsX5_now (wsV RX5 151 RX5 yX5_all wsX5_all) := goodIn_app (goodIn_of _ (by decide +kernel)) ggX5_now_X5_all
set_option maxRecDepth 20000 in
theorem ggX5_now_X5_pairsIn : GoodIn wsX5_now wsX5_pairsIn := goodIn_r _ [21, 9, 4, 5, 6, 7, 8, 22, 23, 24, 25, 26, 27, 28, 29, 30, 31, 32, 33, 34, 35, 36, 37, 38, 39, 40, 41, 42, 43, 44, 45, 46, 47, 48, 49, 50, 51] (by decide +kernel) (by decide +kernel)
set_option maxRecDepth 20000 in
theorem gX5_now_X5_pairsIn : GoodIn wsX5_now (wsV RX5 157 RX5 yX5_pairsIn wsX5_pairsIn) := goodIn_app (goodIn_of _ (by decide +kernel)) ggX5_now_X5_pairsIn
theorem dX5_now_0 : decode cX5_now 0 = .ok (.aload_n 0, 1) := by decide +kernel
theorem dX5_now_1 : decode cX5_now 1 = .ok (.iconst 0, 1) := by decide +kernel
theorem dX5_now_2 : decode cX5_now 2 = .ok (.putfield 1, 3) := by decide +kernel
theorem dX5_now_5 : decode cX5_now 5 = .ok (.iload_n 1, 1) := by decide +kernel
theorem dX5_now_6 : decode cX5_now 6 = .ok (.tableswitch 63 0 4 #[34, 39, 44, 53, 58], 34) := by decide +kernel
theorem dX5_now_40 : decode cX5_now 40 = .ok (.aload_n 0, 1) := by decide +kernel
theorem dX5_now_41 : decode cX5_now 41 = .ok (.invokevirtual 148, 3) := by decide +kernel
theorem dX5_now_44 : decode cX5_now 44 = .ok (.ireturn, 1) := by decide +kernel
theorem dX5_now_45 : decode cX5_now 45 = .ok (.aload_n 0, 1) := by decide +kernel
theorem dX5_now_46 : decode cX5_now 46 = .ok (.invokevirtual 154, 3) := by decide +kernel
theorem dX5_now_49 : decode cX5_now 49 = .ok (.ireturn, 1) := by decide +kernel
theorem dX5_now_50 : decode cX5_now 50 = .ok (.aload_n 0, 1) := by decide +kernel
theorem dX5_now_51 : decode cX5_now 51 = .ok (.aload_n 0, 1) := by decide +kernel
theorem dX5_now_52 : decode cX5_now 52 = .ok (.invokevirtual 151, 3) := by decide +kernel
theorem dX5_now_55 : decode cX5_now 55 = .ok (.invokevirtual 157, 3) := by decide +kernel
theorem dX5_now_58 : decode cX5_now 58 = .ok (.ireturn, 1) := by decide +kernel
theorem dX5_now_59 : decode cX5_now 59 = .ok (.aload_n 0, 1) := by decide +kernel
theorem dX5_now_60 : decode cX5_now 60 = .ok (.getfield 145, 3) := by decide +kernel
theorem dX5_now_63 : decode cX5_now 63 = .ok (.ireturn, 1) := by decide +kernel
theorem dX5_now_64 : decode cX5_now 64 = .ok (.aload_n 0, 1) := by decide +kernel
theorem dX5_now_65 : decode cX5_now 65 = .ok (.getfield 11, 3) := by decide +kernel
theorem dX5_now_68 : decode cX5_now 68 = .ok (.ireturn, 1) := by decide +kernel
theorem dX5_now_69 : decode cX5_now 69 = .ok (.iconst (-1), 1) := by decide +kernel
theorem dX5_now_70 : decode cX5_now 70 = .ok (.ireturn, 1) := by decide +kernel
set_option maxRecDepth 20000 in
theorem ggX5_weight_X5_isSet : GoodIn wsX5_weight wsX5_isSet := goodIn_r _ [7, 8, 9, 10, 6, 11, 2, 12, 13, 14, 15, 16, 17, 18, 19, 20, 21, 22, 23, 24, 25, 26, 27, 28, 29, 30, 31, 32, 33, 34, 35, 36, 37, 38, 39, 40, 41, 42] (by decide +kernel) (by decide +kernel)
set_option maxRecDepth 20000 in
theorem gX5_weight_X5_isSet : GoodIn wsX5_weight (wsV RX5 160 RX5 yX5_isSet wsX5_isSet) := goodIn_app (goodIn_of _ (by decide +kernel)) ggX5_weight_X5_isSet
theorem dX5_weight_0 : decode cX5_weight 0 = .ok (.aload_n 0, 1) := by decide +kernel
theorem dX5_weight_1 : decode cX5_weight 1 = .ok (.iconst 0, 1) := by decide +kernel
theorem dX5_weight_2 : decode cX5_weight 2 = .ok (.putfield 1, 3) := by decide +kernel
theorem dX5_weight_5 : decode cX5_weight 5 = .ok (.aload_n 0, 1) := by decide +kernel
theorem dX5_weight_6 : decode cX5_weight 6 = .ok (.iload_n 1, 1) := by decide +kernel
theorem dX5_weight_7 : decode cX5_weight 7 = .ok (.invokevirtual 160, 3) := by decide +kernel
theorem dX5_weight_10 : decode cX5_weight 10 = .ok (.ifCond .eq 14, 3) := by decide +kernel
theorem dX5_weight_13 : decode cX5_weight 13 = .ok (.aload_n 0, 1) := by decide +kernel
theorem dX5_weight_14 : decode cX5_weight 14 = .ok (.getfield 56, 3) := by decide +kernel
theorem dX5_weight_17 : decode cX5_weight 17 = .ok (.iconst 1, 1) := by decide +kernel
theorem dX5_weight_18 : decode cX5_weight 18 = .ok (.iload_n 1, 1) := by decide +kernel
theorem dX5_weight_19 : decode cX5_weight 19 = .ok (.iadd, 1) := by decide +kernel
theorem dX5_weight_20 : decode cX5_weight 20 = .ok (.iaload, 1) := by decide +kernel
theorem dX5_weight_21 : decode cX5_weight 21 = .ok (.goto 4, 3) := by decide +kernel
theorem dX5_weight_24 : decode cX5_weight 24 = .ok (.iconst (-1), 1) := by decide +kernel
theorem dX5_weight_25 : decode cX5_weight 25 = .ok (.ireturn, 1) := by decide +kernel
set_option maxRecDepth 20000 in
theorem ggX5_joined_X5_isThing : GoodIn wsX5_joined wsX5_isThing := goodIn_r _ [7, 8, 9, 10, 6, 11, 2, 12, 13, 14, 15, 16, 17, 18, 19, 20, 21, 22, 23, 24, 25, 26, 27, 28, 29, 30, 31, 32, 33, 34, 35, 36, 37, 38] (by decide +kernel) (by decide +kernel)
set_option maxRecDepth 20000 in
theorem gX5_joined_X5_isThing : GoodIn wsX5_joined (wsV RX5 163 RX5 yX5_isThing wsX5_isThing) := goodIn_app (goodIn_of _ (by decide +kernel)) ggX5_joined_X5_isThing
theorem dX5_joined_0 : decode cX5_joined 0 = .ok (.aload_n 0, 1) := by decide +kernel
theorem dX5_joined_1 : decode cX5_joined 1 = .ok (.iconst 0, 1) := by decide +kernel
theorem dX5_joined_2 : decode cX5_joined 2 = .ok (.putfield 1, 3) := by decide +kernel
theorem dX5_joined_5 : decode cX5_joined 5 = .ok (.aload_n 0, 1) := by decide +kernel
theorem dX5_joined_6 : decode cX5_joined 6 = .ok (.iload_n 1, 1) := by decide +kernel
theorem dX5_joined_7 : decode cX5_joined 7 = .ok (.invokevirtual 163, 3) := by decide +kernel
theorem dX5_joined_10 : decode cX5_joined 10 = .ok (.ifCond .eq 16, 3) := by decide +kernel
theorem dX5_joined_13 : decode cX5_joined 13 = .ok (.aload_n 0, 1) := by decide +kernel
theorem dX5_joined_14 : decode cX5_joined 14 = .ok (.getfield 56, 3) := by decide +kernel
theorem dX5_joined_17 : decode cX5_joined 17 = .ok (.sipush 257, 3) := by decide +kernel
theorem dX5_joined_20 : decode cX5_joined 20 = .ok (.iload_n 1, 1) := by decide +kernel
theorem dX5_joined_21 : decode cX5_joined 21 = .ok (.iadd, 1) := by decide +kernel
theorem dX5_joined_22 : decode cX5_joined 22 = .ok (.iaload, 1) := by decide +kernel
theorem dX5_joined_23 : decode cX5_joined 23 = .ok (.goto 4, 3) := by decide +kernel
theorem dX5_joined_26 : decode cX5_joined 26 = .ok (.iconst (-1), 1) := by decide +kernel
theorem dX5_joined_27 : decode cX5_joined 27 = .ok (.ireturn, 1) := by decide +kernel
theorem dX5_numberOf_0 : decode cX5_numberOf 0 = .ok (.aload_n 0, 1) := by decide +kernel
theorem dX5_numberOf_1 : decode cX5_numberOf 1 = .ok (.getfield 56, 3) := by decide +kernel
theorem dX5_numberOf_4 : decode cX5_numberOf 4 = .ok (.sipush 265, 3) := by decide +kernel
theorem dX5_numberOf_7 : decode cX5_numberOf 7 = .ok (.sipush 256, 3) := by decide +kernel
theorem dX5_numberOf_10 : decode cX5_numberOf 10 = .ok (.iload_n 1, 1) := by decide +kernel
theorem dX5_numberOf_11 : decode cX5_numberOf 11 = .ok (.imul, 1) := by decide +kernel
theorem dX5_numberOf_12 : decode cX5_numberOf 12 = .ok (.iadd, 1) := by decide +kernel
theorem dX5_numberOf_13 : decode cX5_numberOf 13 = .ok (.iload_n 2, 1) := by decide +kernel
theorem dX5_numberOf_14 : decode cX5_numberOf 14 = .ok (.iadd, 1) := by decide +kernel
theorem dX5_numberOf_15 : decode cX5_numberOf 15 = .ok (.iaload, 1) := by decide +kernel
theorem dX5_numberOf_16 : decode cX5_numberOf 16 = .ok (.ireturn, 1) := by decide +kernel
theorem dX5_rest_0 : decode cX5_rest 0 = .ok (.lload_n 0, 1) := by decide +kernel
theorem dX5_rest_1 : decode cX5_rest 1 = .ok (.ldc2_w 166, 3) := by decide +kernel
theorem dX5_rest_4 : decode cX5_rest 4 = .ok (.lrem, 1) := by decide +kernel
theorem dX5_rest_5 : decode cX5_rest 5 = .ok (.lstore_n 2, 1) := by decide +kernel
theorem dX5_rest_6 : decode cX5_rest 6 = .ok (.lload_n 2, 1) := by decide +kernel
theorem dX5_rest_7 : decode cX5_rest 7 = .ok (.lconst 0, 1) := by decide +kernel
theorem dX5_rest_8 : decode cX5_rest 8 = .ok (.lcmp, 1) := by decide +kernel
theorem dX5_rest_9 : decode cX5_rest 9 = .ok (.ifCond .ge 11, 3) := by decide +kernel
theorem dX5_rest_12 : decode cX5_rest 12 = .ok (.lload_n 2, 1) := by decide +kernel
theorem dX5_rest_13 : decode cX5_rest 13 = .ok (.ldc2_w 166, 3) := by decide +kernel
theorem dX5_rest_16 : decode cX5_rest 16 = .ok (.ladd, 1) := by decide +kernel
theorem dX5_rest_17 : decode cX5_rest 17 = .ok (.goto 4, 3) := by decide +kernel
theorem dX5_rest_20 : decode cX5_rest 20 = .ok (.lload_n 2, 1) := by decide +kernel
theorem dX5_rest_21 : decode cX5_rest 21 = .ok (.l2i, 1) := by decide +kernel
theorem dX5_rest_22 : decode cX5_rest 22 = .ok (.ireturn, 1) := by decide +kernel
set_option maxRecDepth 20000 in
theorem ggX5_snap_X5_copy : GoodIn wsX5_snap wsX5_copy := goodIn_r _ [7] (by decide +kernel) (by decide +kernel)
set_option maxRecDepth 20000 in
theorem gX5_snap_X5_copy : GoodIn wsX5_snap (va_wsS RX5 141 yX5_copy wsX5_copy) := goodIn_app (goodIn_of _ (by decide +kernel)) ggX5_snap_X5_copy
theorem dX5_snap_0 : decode cX5_snap 0 = .ok (.aload_n 0, 1) := by decide +kernel
theorem dX5_snap_1 : decode cX5_snap 1 = .ok (.getfield 145, 3) := by decide +kernel
theorem dX5_snap_4 : decode cX5_snap 4 = .ok (.bipush 8, 2) := by decide +kernel
theorem dX5_snap_6 : decode cX5_snap 6 = .ok (.if_icmp .ne 44, 3) := by decide +kernel
theorem dX5_snap_9 : decode cX5_snap 9 = .ok (.iconst 0, 1) := by decide +kernel
theorem dX5_snap_10 : decode cX5_snap 10 = .ok (.istore_n 1, 1) := by decide +kernel
theorem dX5_snap_11 : decode cX5_snap 11 = .ok (.iload_n 1, 1) := by decide +kernel
theorem dX5_snap_12 : decode cX5_snap 12 = .ok (.sipush 9023, 3) := by decide +kernel
theorem dX5_snap_15 : decode cX5_snap 15 = .ok (.if_icmp .ge 25, 3) := by decide +kernel
theorem dX5_snap_18 : decode cX5_snap 18 = .ok (.aload_n 0, 1) := by decide +kernel
theorem dX5_snap_19 : decode cX5_snap 19 = .ok (.getfield 65, 3) := by decide +kernel
theorem dX5_snap_22 : decode cX5_snap 22 = .ok (.iload_n 1, 1) := by decide +kernel
theorem dX5_snap_23 : decode cX5_snap 23 = .ok (.aload_n 0, 1) := by decide +kernel
theorem dX5_snap_24 : decode cX5_snap 24 = .ok (.getfield 65, 3) := by decide +kernel
theorem dX5_snap_27 : decode cX5_snap 27 = .ok (.iload_n 1, 1) := by decide +kernel
theorem dX5_snap_28 : decode cX5_snap 28 = .ok (.sipush 1289, 3) := by decide +kernel
theorem dX5_snap_31 : decode cX5_snap 31 = .ok (.iadd, 1) := by decide +kernel
theorem dX5_snap_32 : decode cX5_snap 32 = .ok (.iaload, 1) := by decide +kernel
theorem dX5_snap_33 : decode cX5_snap 33 = .ok (.iastore, 1) := by decide +kernel
theorem dX5_snap_34 : decode cX5_snap 34 = .ok (.iinc 1 1, 3) := by decide +kernel
theorem dX5_snap_37 : decode cX5_snap 37 = .ok (.goto (-26), 3) := by decide +kernel
theorem dX5_snap_40 : decode cX5_snap 40 = .ok (.aload_n 0, 1) := by decide +kernel
theorem dX5_snap_41 : decode cX5_snap 41 = .ok (.dup, 1) := by decide +kernel
theorem dX5_snap_42 : decode cX5_snap 42 = .ok (.getfield 145, 3) := by decide +kernel
theorem dX5_snap_45 : decode cX5_snap 45 = .ok (.iconst 1, 1) := by decide +kernel
theorem dX5_snap_46 : decode cX5_snap 46 = .ok (.isub, 1) := by decide +kernel
theorem dX5_snap_47 : decode cX5_snap 47 = .ok (.putfield 145, 3) := by decide +kernel
theorem dX5_snap_50 : decode cX5_snap 50 = .ok (.aload_n 0, 1) := by decide +kernel
theorem dX5_snap_51 : decode cX5_snap 51 = .ok (.getfield 56, 3) := by decide +kernel
theorem dX5_snap_54 : decode cX5_snap 54 = .ok (.iconst 0, 1) := by decide +kernel
theorem dX5_snap_55 : decode cX5_snap 55 = .ok (.aload_n 0, 1) := by decide +kernel
theorem dX5_snap_56 : decode cX5_snap 56 = .ok (.getfield 65, 3) := by decide +kernel
theorem dX5_snap_59 : decode cX5_snap 59 = .ok (.sipush 1289, 3) := by decide +kernel
theorem dX5_snap_62 : decode cX5_snap 62 = .ok (.aload_n 0, 1) := by decide +kernel
theorem dX5_snap_63 : decode cX5_snap 63 = .ok (.getfield 145, 3) := by decide +kernel
theorem dX5_snap_66 : decode cX5_snap 66 = .ok (.imul, 1) := by decide +kernel
theorem dX5_snap_67 : decode cX5_snap 67 = .ok (.invokestatic 141, 3) := by decide +kernel
theorem dX5_snap_70 : decode cX5_snap 70 = .ok (.aload_n 0, 1) := by decide +kernel
theorem dX5_snap_71 : decode cX5_snap 71 = .ok (.dup, 1) := by decide +kernel
theorem dX5_snap_72 : decode cX5_snap 72 = .ok (.getfield 145, 3) := by decide +kernel
theorem dX5_snap_75 : decode cX5_snap 75 = .ok (.iconst 1, 1) := by decide +kernel
theorem dX5_snap_76 : decode cX5_snap 76 = .ok (.iadd, 1) := by decide +kernel
theorem dX5_snap_77 : decode cX5_snap 77 = .ok (.putfield 145, 3) := by decide +kernel
theorem dX5_snap_80 : decode cX5_snap 80 = .ok (.return_, 1) := by decide +kernel
set_option maxRecDepth 20000 in
theorem ggX5_becomes_X5_snap : GoodIn wsX5_becomes wsX5_snap := goodIn_r _ [7, 8, 9, 1, 10, 11, 6, 12, 21, 22, 23, 24, 25, 26, 27, 28, 29, 30, 31, 32, 33, 34, 35, 36, 37, 38, 39, 40, 41, 42, 43, 44] (by decide +kernel) (by decide +kernel)
set_option maxRecDepth 20000 in
theorem gX5_becomes_X5_snap : GoodIn wsX5_becomes (wsV RX5 168 RX5 yX5_snap wsX5_snap) := goodIn_app (goodIn_of _ (by decide +kernel)) ggX5_becomes_X5_snap
set_option maxRecDepth 20000 in
theorem ggX5_becomes_X5_all : GoodIn wsX5_becomes wsX5_all := goodIn_r _ [16, 17, 18, 19, 6, 20, 1, 21, 22, 23, 24, 25, 26, 27, 28, 29, 30, 31, 32, 33, 34, 35, 36, 37, 38, 39, 40, 41, 42, 43, 44] (by decide +kernel) (by decide +kernel)
set_option maxRecDepth 20000 in
theorem gX5_becomes_X5_all : GoodIn wsX5_becomes (wsV RX5 151 RX5 yX5_all wsX5_all) := goodIn_app (goodIn_of _ (by decide +kernel)) ggX5_becomes_X5_all
theorem dX5_becomes_0 : decode cX5_becomes 0 = .ok (.aload_n 0, 1) := by decide +kernel
theorem dX5_becomes_1 : decode cX5_becomes 1 = .ok (.invokevirtual 168, 3) := by decide +kernel
theorem dX5_becomes_4 : decode cX5_becomes 4 = .ok (.iconst 0, 1) := by decide +kernel
theorem dX5_becomes_5 : decode cX5_becomes 5 = .ok (.istore_n 3, 1) := by decide +kernel
theorem dX5_becomes_6 : decode cX5_becomes 6 = .ok (.iload_n 3, 1) := by decide +kernel
theorem dX5_becomes_7 : decode cX5_becomes 7 = .ok (.aload_n 0, 1) := by decide +kernel
theorem dX5_becomes_8 : decode cX5_becomes 8 = .ok (.invokevirtual 151, 3) := by decide +kernel
theorem dX5_becomes_11 : decode cX5_becomes 11 = .ok (.if_icmp .gt 31, 3) := by decide +kernel
theorem dX5_becomes_14 : decode cX5_becomes 14 = .ok (.aload_n 0, 1) := by decide +kernel
theorem dX5_becomes_15 : decode cX5_becomes 15 = .ok (.getfield 56, 3) := by decide +kernel
theorem dX5_becomes_18 : decode cX5_becomes 18 = .ok (.sipush 265, 3) := by decide +kernel
theorem dX5_becomes_21 : decode cX5_becomes 21 = .ok (.sipush 256, 3) := by decide +kernel
theorem dX5_becomes_24 : decode cX5_becomes 24 = .ok (.iload_n 1, 1) := by decide +kernel
theorem dX5_becomes_25 : decode cX5_becomes 25 = .ok (.imul, 1) := by decide +kernel
theorem dX5_becomes_26 : decode cX5_becomes 26 = .ok (.iadd, 1) := by decide +kernel
theorem dX5_becomes_27 : decode cX5_becomes 27 = .ok (.iload_n 3, 1) := by decide +kernel
theorem dX5_becomes_28 : decode cX5_becomes 28 = .ok (.iadd, 1) := by decide +kernel
theorem dX5_becomes_29 : decode cX5_becomes 29 = .ok (.aload_n 0, 1) := by decide +kernel
theorem dX5_becomes_30 : decode cX5_becomes 30 = .ok (.getfield 72, 3) := by decide +kernel
theorem dX5_becomes_33 : decode cX5_becomes 33 = .ok (.iload_n 3, 1) := by decide +kernel
theorem dX5_becomes_34 : decode cX5_becomes 34 = .ok (.iaload, 1) := by decide +kernel
theorem dX5_becomes_35 : decode cX5_becomes 35 = .ok (.iastore, 1) := by decide +kernel
theorem dX5_becomes_36 : decode cX5_becomes 36 = .ok (.iinc 3 1, 3) := by decide +kernel
theorem dX5_becomes_39 : decode cX5_becomes 39 = .ok (.goto (-33), 3) := by decide +kernel
theorem dX5_becomes_42 : decode cX5_becomes 42 = .ok (.aload_n 0, 1) := by decide +kernel
theorem dX5_becomes_43 : decode cX5_becomes 43 = .ok (.getfield 72, 3) := by decide +kernel
theorem dX5_becomes_46 : decode cX5_becomes 46 = .ok (.iload_n 2, 1) := by decide +kernel
theorem dX5_becomes_47 : decode cX5_becomes 47 = .ok (.iaload, 1) := by decide +kernel
theorem dX5_becomes_48 : decode cX5_becomes 48 = .ok (.ireturn, 1) := by decide +kernel
set_option maxRecDepth 20000 in
theorem ggX5_at_X5_isRow : GoodIn wsX5_at wsX5_isRow := goodIn_r _ [6, 7, 8, 9, 5, 10, 11, 12, 13, 14, 27, 28, 29, 30, 31, 32, 33, 34, 35, 36, 37, 38, 39, 40, 41, 42, 43, 44, 45, 46, 47, 48, 49, 50] (by decide +kernel) (by decide +kernel)
set_option maxRecDepth 20000 in
theorem gX5_at_X5_isRow : GoodIn wsX5_at (wsV RX5 171 RX5 yX5_isRow wsX5_isRow) := goodIn_app (goodIn_of _ (by decide +kernel)) ggX5_at_X5_isRow
set_option maxRecDepth 20000 in
theorem ggX5_at_X5_isSet : GoodIn wsX5_at wsX5_isSet := goodIn_r _ [18, 7, 8, 9, 5, 10, 11, 19, 20, 21, 22, 12, 13, 14, 27, 28, 29, 30, 31, 32, 33, 34, 35, 36, 37, 38, 39, 40, 41, 42, 43, 44, 45, 46, 47, 48, 49, 50] (by decide +kernel) (by decide +kernel)
set_option maxRecDepth 20000 in
theorem gX5_at_X5_isSet : GoodIn wsX5_at (wsV RX5 160 RX5 yX5_isSet wsX5_isSet) := goodIn_app (goodIn_of _ (by decide +kernel)) ggX5_at_X5_isSet
set_option maxRecDepth 20000 in
theorem ggX5_at_X5_numberOf : GoodIn wsX5_at wsX5_numberOf := goodIn_r _ [26, 11, 27, 28, 29, 30, 31, 32, 33, 34, 35, 36, 37, 38, 39, 40, 41, 42, 43, 44, 45, 46, 47, 48, 49, 50] (by decide +kernel) (by decide +kernel)
set_option maxRecDepth 20000 in
theorem gX5_at_X5_numberOf : GoodIn wsX5_at (wsV RX5 174 RX5 yX5_numberOf wsX5_numberOf) := goodIn_app (goodIn_of _ (by decide +kernel)) ggX5_at_X5_numberOf
theorem dX5_at_0 : decode cX5_at 0 = .ok (.aload_n 0, 1) := by decide +kernel
theorem dX5_at_1 : decode cX5_at 1 = .ok (.iconst 0, 1) := by decide +kernel
theorem dX5_at_2 : decode cX5_at 2 = .ok (.putfield 1, 3) := by decide +kernel
theorem dX5_at_5 : decode cX5_at 5 = .ok (.aload_n 0, 1) := by decide +kernel
theorem dX5_at_6 : decode cX5_at 6 = .ok (.iload_n 1, 1) := by decide +kernel
theorem dX5_at_7 : decode cX5_at 7 = .ok (.invokevirtual 171, 3) := by decide +kernel
theorem dX5_at_10 : decode cX5_at 10 = .ok (.ifCond .eq 20, 3) := by decide +kernel
theorem dX5_at_13 : decode cX5_at 13 = .ok (.aload_n 0, 1) := by decide +kernel
theorem dX5_at_14 : decode cX5_at 14 = .ok (.iload_n 2, 1) := by decide +kernel
theorem dX5_at_15 : decode cX5_at 15 = .ok (.invokevirtual 160, 3) := by decide +kernel
theorem dX5_at_18 : decode cX5_at 18 = .ok (.ifCond .eq 12, 3) := by decide +kernel
theorem dX5_at_21 : decode cX5_at 21 = .ok (.aload_n 0, 1) := by decide +kernel
theorem dX5_at_22 : decode cX5_at 22 = .ok (.iload_n 1, 1) := by decide +kernel
theorem dX5_at_23 : decode cX5_at 23 = .ok (.iload_n 2, 1) := by decide +kernel
theorem dX5_at_24 : decode cX5_at 24 = .ok (.invokevirtual 174, 3) := by decide +kernel
theorem dX5_at_27 : decode cX5_at 27 = .ok (.goto 4, 3) := by decide +kernel
theorem dX5_at_30 : decode cX5_at 30 = .ok (.iconst (-1), 1) := by decide +kernel
theorem dX5_at_31 : decode cX5_at 31 = .ok (.ireturn, 1) := by decide +kernel
set_option maxRecDepth 20000 in
theorem ggX5_put_X5_isRow : GoodIn wsX5_put wsX5_isRow := goodIn_r _ [7, 8, 9, 10, 6, 11, 2, 12, 13, 14, 40, 41, 42, 43, 44, 45, 46, 47, 48, 49, 50, 51, 52, 53, 54, 55, 56, 57, 58, 59, 60, 61, 62, 63] (by decide +kernel) (by decide +kernel)
set_option maxRecDepth 20000 in
theorem gX5_put_X5_isRow : GoodIn wsX5_put (wsV RX5 171 RX5 yX5_isRow wsX5_isRow) := goodIn_app (goodIn_of _ (by decide +kernel)) ggX5_put_X5_isRow
set_option maxRecDepth 20000 in
theorem ggX5_put_X5_isSet : GoodIn wsX5_put wsX5_isSet := goodIn_r _ [18, 8, 9, 10, 6, 11, 2, 19, 20, 21, 22, 12, 13, 14, 40, 41, 42, 43, 44, 45, 46, 47, 48, 49, 50, 51, 52, 53, 54, 55, 56, 57, 58, 59, 60, 61, 62, 63] (by decide +kernel) (by decide +kernel)
set_option maxRecDepth 20000 in
theorem gX5_put_X5_isSet : GoodIn wsX5_put (wsV RX5 160 RX5 yX5_isSet wsX5_isSet) := goodIn_app (goodIn_of _ (by decide +kernel)) ggX5_put_X5_isSet
set_option maxRecDepth 20000 in
theorem ggX5_put_X5_snap : GoodIn wsX5_put wsX5_snap := goodIn_r _ [26, 27, 28, 2, 29, 30, 6, 31, 40, 41, 42, 43, 44, 45, 46, 47, 48, 49, 50, 51, 52, 53, 54, 55, 56, 57, 58, 59, 60, 61, 62, 63] (by decide +kernel) (by decide +kernel)
set_option maxRecDepth 20000 in
theorem gX5_put_X5_snap : GoodIn wsX5_put (wsV RX5 168 RX5 yX5_snap wsX5_snap) := goodIn_app (goodIn_of _ (by decide +kernel)) ggX5_put_X5_snap
set_option maxRecDepth 20000 in
theorem ggX5_put_X5_rest : GoodIn wsX5_put wsX5_rest := goodIn_r _ [34, 35] (by decide +kernel) (by decide +kernel)
set_option maxRecDepth 20000 in
theorem gX5_put_X5_rest : GoodIn wsX5_put (va_wsS RX5 178 yX5_rest wsX5_rest) := goodIn_app (goodIn_of _ (by decide +kernel)) ggX5_put_X5_rest
set_option maxRecDepth 20000 in
theorem ggX5_put_X5_numberOf : GoodIn wsX5_put wsX5_numberOf := goodIn_r _ [39, 2, 40, 41, 42, 43, 44, 45, 46, 47, 48, 49, 50, 51, 52, 53, 54, 55, 56, 57, 58, 59, 60, 61, 62, 63] (by decide +kernel) (by decide +kernel)
set_option maxRecDepth 20000 in
theorem gX5_put_X5_numberOf : GoodIn wsX5_put (wsV RX5 174 RX5 yX5_numberOf wsX5_numberOf) := goodIn_app (goodIn_of _ (by decide +kernel)) ggX5_put_X5_numberOf
theorem dX5_put_0 : decode cX5_put 0 = .ok (.aload_n 0, 1) := by decide +kernel
theorem dX5_put_1 : decode cX5_put 1 = .ok (.iconst 0, 1) := by decide +kernel
theorem dX5_put_2 : decode cX5_put 2 = .ok (.putfield 1, 3) := by decide +kernel
theorem dX5_put_5 : decode cX5_put 5 = .ok (.aload_n 0, 1) := by decide +kernel
theorem dX5_put_6 : decode cX5_put 6 = .ok (.iload_n 1, 1) := by decide +kernel
theorem dX5_put_7 : decode cX5_put 7 = .ok (.invokevirtual 171, 3) := by decide +kernel
theorem dX5_put_10 : decode cX5_put 10 = .ok (.ifCond .eq 11, 3) := by decide +kernel
theorem dX5_put_13 : decode cX5_put 13 = .ok (.aload_n 0, 1) := by decide +kernel
theorem dX5_put_14 : decode cX5_put 14 = .ok (.iload_n 2, 1) := by decide +kernel
theorem dX5_put_15 : decode cX5_put 15 = .ok (.invokevirtual 160, 3) := by decide +kernel
theorem dX5_put_18 : decode cX5_put 18 = .ok (.ifCond .ne 5, 3) := by decide +kernel
theorem dX5_put_21 : decode cX5_put 21 = .ok (.iconst (-1), 1) := by decide +kernel
theorem dX5_put_22 : decode cX5_put 22 = .ok (.ireturn, 1) := by decide +kernel
theorem dX5_put_23 : decode cX5_put 23 = .ok (.aload_n 0, 1) := by decide +kernel
theorem dX5_put_24 : decode cX5_put 24 = .ok (.invokevirtual 168, 3) := by decide +kernel
theorem dX5_put_27 : decode cX5_put 27 = .ok (.aload_n 0, 1) := by decide +kernel
theorem dX5_put_28 : decode cX5_put 28 = .ok (.getfield 56, 3) := by decide +kernel
theorem dX5_put_31 : decode cX5_put 31 = .ok (.sipush 265, 3) := by decide +kernel
theorem dX5_put_34 : decode cX5_put 34 = .ok (.sipush 256, 3) := by decide +kernel
theorem dX5_put_37 : decode cX5_put 37 = .ok (.iload_n 1, 1) := by decide +kernel
theorem dX5_put_38 : decode cX5_put 38 = .ok (.imul, 1) := by decide +kernel
theorem dX5_put_39 : decode cX5_put 39 = .ok (.iadd, 1) := by decide +kernel
theorem dX5_put_40 : decode cX5_put 40 = .ok (.iload_n 2, 1) := by decide +kernel
theorem dX5_put_41 : decode cX5_put 41 = .ok (.iadd, 1) := by decide +kernel
theorem dX5_put_42 : decode cX5_put 42 = .ok (.iload_n 3, 1) := by decide +kernel
theorem dX5_put_43 : decode cX5_put 43 = .ok (.i2l, 1) := by decide +kernel
theorem dX5_put_44 : decode cX5_put 44 = .ok (.invokestatic 178, 3) := by decide +kernel
theorem dX5_put_47 : decode cX5_put 47 = .ok (.iastore, 1) := by decide +kernel
theorem dX5_put_48 : decode cX5_put 48 = .ok (.aload_n 0, 1) := by decide +kernel
theorem dX5_put_49 : decode cX5_put 49 = .ok (.iload_n 1, 1) := by decide +kernel
theorem dX5_put_50 : decode cX5_put 50 = .ok (.iload_n 2, 1) := by decide +kernel
theorem dX5_put_51 : decode cX5_put 51 = .ok (.invokevirtual 174, 3) := by decide +kernel
theorem dX5_put_54 : decode cX5_put 54 = .ok (.ireturn, 1) := by decide +kernel
set_option maxRecDepth 20000 in
theorem ggX5_isTogether_X5_things : GoodIn wsX5_isTogether wsX5_things := goodIn_r _ [6, 1, 10, 11, 12, 13, 14, 15, 16, 17, 18, 19, 20, 21, 22, 23, 24, 25, 26, 27, 28, 29, 30, 31, 32, 33] (by decide +kernel) (by decide +kernel)
set_option maxRecDepth 20000 in
theorem gX5_isTogether_X5_things : GoodIn wsX5_isTogether (wsV RX5 148 RX5 yX5_things wsX5_things) := goodIn_app (goodIn_of _ (by decide +kernel)) ggX5_isTogether_X5_things
set_option maxRecDepth 20000 in
theorem ggX5_isTogether_X5_has : GoodIn wsX5_isTogether wsX5_has := goodIn_r _ [9] (by decide +kernel) (by decide +kernel)
set_option maxRecDepth 20000 in
theorem gX5_isTogether_X5_has : GoodIn wsX5_isTogether (va_wsS RX5 103 yX5_has wsX5_has) := goodIn_app (goodIn_of _ (by decide +kernel)) ggX5_isTogether_X5_has
theorem dX5_isTogether_0 : decode cX5_isTogether 0 = .ok (.iload_n 1, 1) := by decide +kernel
theorem dX5_isTogether_1 : decode cX5_isTogether 1 = .ok (.ifCond .ne 5, 3) := by decide +kernel
theorem dX5_isTogether_4 : decode cX5_isTogether 4 = .ok (.iconst 0, 1) := by decide +kernel
theorem dX5_isTogether_5 : decode cX5_isTogether 5 = .ok (.ireturn, 1) := by decide +kernel
theorem dX5_isTogether_6 : decode cX5_isTogether 6 = .ok (.iload_n 1, 1) := by decide +kernel
theorem dX5_isTogether_7 : decode cX5_isTogether 7 = .ok (.iload_n 1, 1) := by decide +kernel
theorem dX5_isTogether_8 : decode cX5_isTogether 8 = .ok (.ineg, 1) := by decide +kernel
theorem dX5_isTogether_9 : decode cX5_isTogether 9 = .ok (.iand, 1) := by decide +kernel
theorem dX5_isTogether_10 : decode cX5_isTogether 10 = .ok (.istore_n 2, 1) := by decide +kernel
theorem dX5_isTogether_11 : decode cX5_isTogether 11 = .ok (.iconst 0, 1) := by decide +kernel
theorem dX5_isTogether_12 : decode cX5_isTogether 12 = .ok (.istore_n 3, 1) := by decide +kernel
theorem dX5_isTogether_13 : decode cX5_isTogether 13 = .ok (.iload_n 2, 1) := by decide +kernel
theorem dX5_isTogether_14 : decode cX5_isTogether 14 = .ok (.iload_n 3, 1) := by decide +kernel
theorem dX5_isTogether_15 : decode cX5_isTogether 15 = .ok (.if_icmp .eq 51, 3) := by decide +kernel
theorem dX5_isTogether_18 : decode cX5_isTogether 18 = .ok (.iload_n 2, 1) := by decide +kernel
theorem dX5_isTogether_19 : decode cX5_isTogether 19 = .ok (.istore_n 3, 1) := by decide +kernel
theorem dX5_isTogether_20 : decode cX5_isTogether 20 = .ok (.iconst 0, 1) := by decide +kernel
theorem dX5_isTogether_21 : decode cX5_isTogether 21 = .ok (.istore 4, 2) := by decide +kernel
theorem dX5_isTogether_23 : decode cX5_isTogether 23 = .ok (.iload 4, 2) := by decide +kernel
theorem dX5_isTogether_25 : decode cX5_isTogether 25 = .ok (.aload_n 0, 1) := by decide +kernel
theorem dX5_isTogether_26 : decode cX5_isTogether 26 = .ok (.invokevirtual 148, 3) := by decide +kernel
theorem dX5_isTogether_29 : decode cX5_isTogether 29 = .ok (.if_icmp .ge 34, 3) := by decide +kernel
theorem dX5_isTogether_32 : decode cX5_isTogether 32 = .ok (.iload_n 3, 1) := by decide +kernel
theorem dX5_isTogether_33 : decode cX5_isTogether 33 = .ok (.iload 4, 2) := by decide +kernel
theorem dX5_isTogether_35 : decode cX5_isTogether 35 = .ok (.invokestatic 103, 3) := by decide +kernel
theorem dX5_isTogether_38 : decode cX5_isTogether 38 = .ok (.ifCond .eq 19, 3) := by decide +kernel
theorem dX5_isTogether_41 : decode cX5_isTogether 41 = .ok (.iload_n 2, 1) := by decide +kernel
theorem dX5_isTogether_42 : decode cX5_isTogether 42 = .ok (.aload_n 0, 1) := by decide +kernel
theorem dX5_isTogether_43 : decode cX5_isTogether 43 = .ok (.getfield 56, 3) := by decide +kernel
theorem dX5_isTogether_46 : decode cX5_isTogether 46 = .ok (.sipush 257, 3) := by decide +kernel
theorem dX5_isTogether_49 : decode cX5_isTogether 49 = .ok (.iload 4, 2) := by decide +kernel
theorem dX5_isTogether_51 : decode cX5_isTogether 51 = .ok (.iadd, 1) := by decide +kernel
theorem dX5_isTogether_52 : decode cX5_isTogether 52 = .ok (.iaload, 1) := by decide +kernel
theorem dX5_isTogether_53 : decode cX5_isTogether 53 = .ok (.iload_n 1, 1) := by decide +kernel
theorem dX5_isTogether_54 : decode cX5_isTogether 54 = .ok (.iand, 1) := by decide +kernel
theorem dX5_isTogether_55 : decode cX5_isTogether 55 = .ok (.ior, 1) := by decide +kernel
theorem dX5_isTogether_56 : decode cX5_isTogether 56 = .ok (.istore_n 2, 1) := by decide +kernel
theorem dX5_isTogether_57 : decode cX5_isTogether 57 = .ok (.iinc 4 1, 3) := by decide +kernel
theorem dX5_isTogether_60 : decode cX5_isTogether 60 = .ok (.goto (-37), 3) := by decide +kernel
theorem dX5_isTogether_63 : decode cX5_isTogether 63 = .ok (.goto (-50), 3) := by decide +kernel
theorem dX5_isTogether_66 : decode cX5_isTogether 66 = .ok (.iload_n 2, 1) := by decide +kernel
theorem dX5_isTogether_67 : decode cX5_isTogether 67 = .ok (.iload_n 1, 1) := by decide +kernel
theorem dX5_isTogether_68 : decode cX5_isTogether 68 = .ok (.if_icmp .ne 7, 3) := by decide +kernel
theorem dX5_isTogether_71 : decode cX5_isTogether 71 = .ok (.iconst 1, 1) := by decide +kernel
theorem dX5_isTogether_72 : decode cX5_isTogether 72 = .ok (.goto 4, 3) := by decide +kernel
theorem dX5_isTogether_75 : decode cX5_isTogether 75 = .ok (.iconst 0, 1) := by decide +kernel
theorem dX5_isTogether_76 : decode cX5_isTogether 76 = .ok (.ireturn, 1) := by decide +kernel
set_option maxRecDepth 20000 in
theorem ggX5_isFull_X5_pairsIn : GoodIn wsX5_isFull wsX5_pairsIn := goodIn_r _ [5, 6, 7, 8, 9, 4, 10, 11, 12, 13, 14, 15, 16, 17, 18, 19, 20, 21, 22, 23, 24, 25, 26, 27, 28, 29, 30, 31, 32, 33, 34, 35, 36, 37, 38, 39, 40] (by decide +kernel) (by decide +kernel)
set_option maxRecDepth 20000 in
theorem gX5_isFull_X5_pairsIn : GoodIn wsX5_isFull (wsV RX5 157 RX5 yX5_pairsIn wsX5_pairsIn) := goodIn_app (goodIn_of _ (by decide +kernel)) ggX5_isFull_X5_pairsIn
set_option maxRecDepth 20000 in
theorem ggX5_isFull_X5_bits : GoodIn wsX5_isFull wsX5_bits := goodIn_r _ [16] (by decide +kernel) (by decide +kernel)
set_option maxRecDepth 20000 in
theorem gX5_isFull_X5_bits : GoodIn wsX5_isFull (va_wsS RX5 111 yX5_bits wsX5_bits) := goodIn_app (goodIn_of _ (by decide +kernel)) ggX5_isFull_X5_bits
theorem dX5_isFull_0 : decode cX5_isFull 0 = .ok (.aload_n 0, 1) := by decide +kernel
theorem dX5_isFull_1 : decode cX5_isFull 1 = .ok (.iload_n 1, 1) := by decide +kernel
theorem dX5_isFull_2 : decode cX5_isFull 2 = .ok (.invokevirtual 157, 3) := by decide +kernel
theorem dX5_isFull_5 : decode cX5_isFull 5 = .ok (.iload_n 1, 1) := by decide +kernel
theorem dX5_isFull_6 : decode cX5_isFull 6 = .ok (.invokestatic 111, 3) := by decide +kernel
theorem dX5_isFull_9 : decode cX5_isFull 9 = .ok (.iload_n 1, 1) := by decide +kernel
theorem dX5_isFull_10 : decode cX5_isFull 10 = .ok (.invokestatic 111, 3) := by decide +kernel
theorem dX5_isFull_13 : decode cX5_isFull 13 = .ok (.iconst 1, 1) := by decide +kernel
theorem dX5_isFull_14 : decode cX5_isFull 14 = .ok (.isub, 1) := by decide +kernel
theorem dX5_isFull_15 : decode cX5_isFull 15 = .ok (.imul, 1) := by decide +kernel
theorem dX5_isFull_16 : decode cX5_isFull 16 = .ok (.iconst 2, 1) := by decide +kernel
theorem dX5_isFull_17 : decode cX5_isFull 17 = .ok (.idiv, 1) := by decide +kernel
theorem dX5_isFull_18 : decode cX5_isFull 18 = .ok (.if_icmp .ne 7, 3) := by decide +kernel
theorem dX5_isFull_21 : decode cX5_isFull 21 = .ok (.iconst 1, 1) := by decide +kernel
theorem dX5_isFull_22 : decode cX5_isFull 22 = .ok (.goto 4, 3) := by decide +kernel
theorem dX5_isFull_25 : decode cX5_isFull 25 = .ok (.iconst 0, 1) := by decide +kernel
theorem dX5_isFull_26 : decode cX5_isFull 26 = .ok (.ireturn, 1) := by decide +kernel
set_option maxRecDepth 20000 in
theorem ggX5_laid_X5_pairsIn : GoodIn wsX5_laid wsX5_pairsIn := goodIn_r _ [6, 1, 7, 8, 9, 5, 10, 11, 12, 13, 14, 15, 16, 29, 30, 31, 32, 33, 34, 35, 36, 37, 38, 39, 40, 41, 42, 43, 44, 45, 46, 47, 48, 49, 50, 51, 52] (by decide +kernel) (by decide +kernel)
set_option maxRecDepth 20000 in
theorem gX5_laid_X5_pairsIn : GoodIn wsX5_laid (wsV RX5 157 RX5 yX5_pairsIn wsX5_pairsIn) := goodIn_app (goodIn_of _ (by decide +kernel)) ggX5_laid_X5_pairsIn
set_option maxRecDepth 20000 in
theorem ggX5_laid_X5_isFull : GoodIn wsX5_laid wsX5_isFull := goodIn_r _ [20, 2, 3, 4, 5, 6, 1, 7, 8, 9, 10, 11, 12, 13, 14, 15, 16, 29, 30, 31, 32, 33, 34, 35, 36, 37, 38, 39, 40, 41, 42, 43, 44, 45, 46, 47, 48, 49, 50, 51, 52] (by decide +kernel) (by decide +kernel)
set_option maxRecDepth 20000 in
theorem gX5_laid_X5_isFull : GoodIn wsX5_laid (wsV RX5 182 RX5 yX5_isFull wsX5_isFull) := goodIn_app (goodIn_of _ (by decide +kernel)) ggX5_laid_X5_isFull
set_option maxRecDepth 20000 in
theorem ggX5_laid_X5_rest : GoodIn wsX5_laid wsX5_rest := goodIn_r _ [23, 24] (by decide +kernel) (by decide +kernel)
set_option maxRecDepth 20000 in
theorem gX5_laid_X5_rest : GoodIn wsX5_laid (va_wsS RX5 178 yX5_rest wsX5_rest) := goodIn_app (goodIn_of _ (by decide +kernel)) ggX5_laid_X5_rest
set_option maxRecDepth 20000 in
theorem ggX5_laid_X5_isTogether : GoodIn wsX5_laid wsX5_isTogether := goodIn_r _ [28, 1, 7, 8, 9, 5, 10, 11, 12, 13, 29, 30, 31, 32, 33, 34, 35, 36, 37, 38, 39, 40, 41, 42, 43, 44, 45, 46, 47, 48, 49, 50, 51, 52] (by decide +kernel) (by decide +kernel)
set_option maxRecDepth 20000 in
theorem gX5_laid_X5_isTogether : GoodIn wsX5_laid (wsV RX5 185 RX5 yX5_isTogether wsX5_isTogether) := goodIn_app (goodIn_of _ (by decide +kernel)) ggX5_laid_X5_isTogether
set_option maxRecDepth 20000 in
theorem ggX5_laid_X5_bits : GoodIn wsX5_laid wsX5_bits := goodIn_r _ [16] (by decide +kernel) (by decide +kernel)
set_option maxRecDepth 20000 in
theorem gX5_laid_X5_bits : GoodIn wsX5_laid (va_wsS RX5 111 yX5_bits wsX5_bits) := goodIn_app (goodIn_of _ (by decide +kernel)) ggX5_laid_X5_bits
theorem dX5_laid_0 : decode cX5_laid 0 = .ok (.iload_n 1, 1) := by decide +kernel
theorem dX5_laid_1 : decode cX5_laid 1 = .ok (.tableswitch 127 0 6 #[43, 52, 69, 83, 97, 108, 122], 43) := by decide +kernel
theorem dX5_laid_44 : decode cX5_laid 44 = .ok (.aload_n 0, 1) := by decide +kernel
theorem dX5_laid_45 : decode cX5_laid 45 = .ok (.getfield 56, 3) := by decide +kernel
theorem dX5_laid_48 : decode cX5_laid 48 = .ok (.iconst 1, 1) := by decide +kernel
theorem dX5_laid_49 : decode cX5_laid 49 = .ok (.iload_n 2, 1) := by decide +kernel
theorem dX5_laid_50 : decode cX5_laid 50 = .ok (.iadd, 1) := by decide +kernel
theorem dX5_laid_51 : decode cX5_laid 51 = .ok (.iaload, 1) := by decide +kernel
theorem dX5_laid_52 : decode cX5_laid 52 = .ok (.ireturn, 1) := by decide +kernel
theorem dX5_laid_53 : decode cX5_laid 53 = .ok (.aload_n 0, 1) := by decide +kernel
theorem dX5_laid_54 : decode cX5_laid 54 = .ok (.getfield 56, 3) := by decide +kernel
theorem dX5_laid_57 : decode cX5_laid 57 = .ok (.iconst 1, 1) := by decide +kernel
theorem dX5_laid_58 : decode cX5_laid 58 = .ok (.iload_n 2, 1) := by decide +kernel
theorem dX5_laid_59 : decode cX5_laid 59 = .ok (.iadd, 1) := by decide +kernel
theorem dX5_laid_60 : decode cX5_laid 60 = .ok (.iaload, 1) := by decide +kernel
theorem dX5_laid_61 : decode cX5_laid 61 = .ok (.ifCond .le 7, 3) := by decide +kernel
theorem dX5_laid_64 : decode cX5_laid 64 = .ok (.iconst 1, 1) := by decide +kernel
theorem dX5_laid_65 : decode cX5_laid 65 = .ok (.goto 4, 3) := by decide +kernel
theorem dX5_laid_68 : decode cX5_laid 68 = .ok (.iconst 0, 1) := by decide +kernel
theorem dX5_laid_69 : decode cX5_laid 69 = .ok (.ireturn, 1) := by decide +kernel
theorem dX5_laid_70 : decode cX5_laid 70 = .ok (.aload_n 0, 1) := by decide +kernel
theorem dX5_laid_71 : decode cX5_laid 71 = .ok (.iload_n 2, 1) := by decide +kernel
theorem dX5_laid_72 : decode cX5_laid 72 = .ok (.invokevirtual 157, 3) := by decide +kernel
theorem dX5_laid_75 : decode cX5_laid 75 = .ok (.ifCond .ne 7, 3) := by decide +kernel
theorem dX5_laid_78 : decode cX5_laid 78 = .ok (.iconst 1, 1) := by decide +kernel
theorem dX5_laid_79 : decode cX5_laid 79 = .ok (.goto 4, 3) := by decide +kernel
theorem dX5_laid_82 : decode cX5_laid 82 = .ok (.iconst 0, 1) := by decide +kernel
theorem dX5_laid_83 : decode cX5_laid 83 = .ok (.ireturn, 1) := by decide +kernel
theorem dX5_laid_84 : decode cX5_laid 84 = .ok (.aload_n 0, 1) := by decide +kernel
theorem dX5_laid_85 : decode cX5_laid 85 = .ok (.iload_n 2, 1) := by decide +kernel
theorem dX5_laid_86 : decode cX5_laid 86 = .ok (.invokevirtual 182, 3) := by decide +kernel
theorem dX5_laid_89 : decode cX5_laid 89 = .ok (.ifCond .eq 7, 3) := by decide +kernel
theorem dX5_laid_92 : decode cX5_laid 92 = .ok (.iconst 1, 1) := by decide +kernel
theorem dX5_laid_93 : decode cX5_laid 93 = .ok (.goto 4, 3) := by decide +kernel
theorem dX5_laid_96 : decode cX5_laid 96 = .ok (.iconst 0, 1) := by decide +kernel
theorem dX5_laid_97 : decode cX5_laid 97 = .ok (.ireturn, 1) := by decide +kernel
theorem dX5_laid_98 : decode cX5_laid 98 = .ok (.lconst 1, 1) := by decide +kernel
theorem dX5_laid_99 : decode cX5_laid 99 = .ok (.aload_n 0, 1) := by decide +kernel
theorem dX5_laid_100 : decode cX5_laid 100 = .ok (.iload_n 2, 1) := by decide +kernel
theorem dX5_laid_101 : decode cX5_laid 101 = .ok (.invokevirtual 157, 3) := by decide +kernel
theorem dX5_laid_104 : decode cX5_laid 104 = .ok (.lshl, 1) := by decide +kernel
theorem dX5_laid_105 : decode cX5_laid 105 = .ok (.invokestatic 178, 3) := by decide +kernel
theorem dX5_laid_108 : decode cX5_laid 108 = .ok (.ireturn, 1) := by decide +kernel
theorem dX5_laid_109 : decode cX5_laid 109 = .ok (.aload_n 0, 1) := by decide +kernel
theorem dX5_laid_110 : decode cX5_laid 110 = .ok (.iload_n 2, 1) := by decide +kernel
theorem dX5_laid_111 : decode cX5_laid 111 = .ok (.invokevirtual 185, 3) := by decide +kernel
theorem dX5_laid_114 : decode cX5_laid 114 = .ok (.ifCond .eq 7, 3) := by decide +kernel
theorem dX5_laid_117 : decode cX5_laid 117 = .ok (.iconst 1, 1) := by decide +kernel
theorem dX5_laid_118 : decode cX5_laid 118 = .ok (.goto 4, 3) := by decide +kernel
theorem dX5_laid_121 : decode cX5_laid 121 = .ok (.iconst 0, 1) := by decide +kernel
theorem dX5_laid_122 : decode cX5_laid 122 = .ok (.ireturn, 1) := by decide +kernel
theorem dX5_laid_123 : decode cX5_laid 123 = .ok (.iload_n 2, 1) := by decide +kernel
theorem dX5_laid_124 : decode cX5_laid 124 = .ok (.invokestatic 111, 3) := by decide +kernel
theorem dX5_laid_127 : decode cX5_laid 127 = .ok (.ireturn, 1) := by decide +kernel
theorem dX5_laid_128 : decode cX5_laid 128 = .ok (.iload_n 2, 1) := by decide +kernel
theorem dX5_laid_129 : decode cX5_laid 129 = .ok (.ifCond .ne 7, 3) := by decide +kernel
theorem dX5_laid_132 : decode cX5_laid 132 = .ok (.iconst 1, 1) := by decide +kernel
theorem dX5_laid_133 : decode cX5_laid 133 = .ok (.goto 4, 3) := by decide +kernel
theorem dX5_laid_136 : decode cX5_laid 136 = .ok (.iconst 0, 1) := by decide +kernel
theorem dX5_laid_137 : decode cX5_laid 137 = .ok (.ireturn, 1) := by decide +kernel
set_option maxRecDepth 20000 in
theorem ggX5_lay_X5_isRow : GoodIn wsX5_lay wsX5_isRow := goodIn_r _ [7, 8, 9, 10, 6, 11, 12, 13, 14, 15, 59, 60, 61, 62, 63, 64, 65, 66, 67, 68, 69, 70, 71, 72, 73, 74, 75, 76, 77, 78, 79, 80, 81, 82] (by decide +kernel) (by decide +kernel)
set_option maxRecDepth 20000 in
theorem gX5_lay_X5_isRow : GoodIn wsX5_lay (wsV RX5 171 RX5 yX5_isRow wsX5_isRow) := goodIn_app (goodIn_of _ (by decide +kernel)) ggX5_lay_X5_isRow
set_option maxRecDepth 20000 in
theorem ggX5_lay_X5_isIn : GoodIn wsX5_lay wsX5_isIn := goodIn_r _ [15] (by decide +kernel) (by decide +kernel)
set_option maxRecDepth 20000 in
theorem gX5_lay_X5_isIn : GoodIn wsX5_lay (va_wsS RX5 99 yX5_isIn wsX5_isIn) := goodIn_app (goodIn_of _ (by decide +kernel)) ggX5_lay_X5_isIn
set_option maxRecDepth 20000 in
theorem ggX5_lay_X5_all : GoodIn wsX5_lay wsX5_all := goodIn_r _ [19, 8, 9, 10, 6, 11, 12, 59, 60, 61, 62, 63, 64, 65, 66, 67, 68, 69, 70, 71, 72, 73, 74, 75, 76, 77, 78, 79, 80, 81, 82] (by decide +kernel) (by decide +kernel)
set_option maxRecDepth 20000 in
theorem gX5_lay_X5_all : GoodIn wsX5_lay (wsV RX5 151 RX5 yX5_all wsX5_all) := goodIn_app (goodIn_of _ (by decide +kernel)) ggX5_lay_X5_all
set_option maxRecDepth 20000 in
theorem ggX5_lay_X5_laid : GoodIn wsX5_lay wsX5_laid := goodIn_r _ [23, 12, 24, 25, 26, 6, 27, 8, 9, 10, 11, 28, 29, 30, 31, 32, 33, 34, 35, 36, 37, 38, 39, 40, 41, 42, 43, 44, 45, 59, 60, 61, 62, 63, 64, 65, 66, 67, 68, 69, 70, 71, 72, 73, 74, 75, 76, 77, 78, 79, 80, 81, 82] (by decide +kernel) (by decide +kernel)
set_option maxRecDepth 20000 in
theorem gX5_lay_X5_laid : GoodIn wsX5_lay (wsV RX5 188 RX5 yX5_laid wsX5_laid) := goodIn_app (goodIn_of _ (by decide +kernel)) ggX5_lay_X5_laid
set_option maxRecDepth 20000 in
theorem ggX5_lay_X5_becomes : GoodIn wsX5_lay wsX5_becomes := goodIn_r _ [49, 12, 2, 50, 51, 52, 6, 53, 54, 55, 56, 57, 58, 16, 17, 18, 19, 8, 9, 10, 11, 59, 60, 61, 62, 63, 64, 65, 66, 67, 68, 69, 70, 71, 72, 73, 74, 75, 76, 77, 78, 79, 80, 81, 82] (by decide +kernel) (by decide +kernel)
set_option maxRecDepth 20000 in
theorem gX5_lay_X5_becomes : GoodIn wsX5_lay (wsV RX5 191 RX5 yX5_becomes wsX5_becomes) := goodIn_app (goodIn_of _ (by decide +kernel)) ggX5_lay_X5_becomes
theorem dX5_lay_0 : decode cX5_lay 0 = .ok (.aload_n 0, 1) := by decide +kernel
theorem dX5_lay_1 : decode cX5_lay 1 = .ok (.iconst 0, 1) := by decide +kernel
theorem dX5_lay_2 : decode cX5_lay 2 = .ok (.putfield 1, 3) := by decide +kernel
theorem dX5_lay_5 : decode cX5_lay 5 = .ok (.aload_n 0, 1) := by decide +kernel
theorem dX5_lay_6 : decode cX5_lay 6 = .ok (.iload_n 1, 1) := by decide +kernel
theorem dX5_lay_7 : decode cX5_lay 7 = .ok (.invokevirtual 171, 3) := by decide +kernel
theorem dX5_lay_10 : decode cX5_lay 10 = .ok (.ifCond .eq 13, 3) := by decide +kernel
theorem dX5_lay_13 : decode cX5_lay 13 = .ok (.iload_n 2, 1) := by decide +kernel
theorem dX5_lay_14 : decode cX5_lay 14 = .ok (.iconst 0, 1) := by decide +kernel
theorem dX5_lay_15 : decode cX5_lay 15 = .ok (.bipush 7, 2) := by decide +kernel
theorem dX5_lay_17 : decode cX5_lay 17 = .ok (.invokestatic 99, 3) := by decide +kernel
theorem dX5_lay_20 : decode cX5_lay 20 = .ok (.ifCond .ne 5, 3) := by decide +kernel
theorem dX5_lay_23 : decode cX5_lay 23 = .ok (.iconst (-1), 1) := by decide +kernel
theorem dX5_lay_24 : decode cX5_lay 24 = .ok (.ireturn, 1) := by decide +kernel
theorem dX5_lay_25 : decode cX5_lay 25 = .ok (.iconst 0, 1) := by decide +kernel
theorem dX5_lay_26 : decode cX5_lay 26 = .ok (.istore_n 3, 1) := by decide +kernel
theorem dX5_lay_27 : decode cX5_lay 27 = .ok (.iload_n 3, 1) := by decide +kernel
theorem dX5_lay_28 : decode cX5_lay 28 = .ok (.aload_n 0, 1) := by decide +kernel
theorem dX5_lay_29 : decode cX5_lay 29 = .ok (.invokevirtual 151, 3) := by decide +kernel
theorem dX5_lay_32 : decode cX5_lay 32 = .ok (.if_icmp .gt 21, 3) := by decide +kernel
theorem dX5_lay_35 : decode cX5_lay 35 = .ok (.aload_n 0, 1) := by decide +kernel
theorem dX5_lay_36 : decode cX5_lay 36 = .ok (.getfield 72, 3) := by decide +kernel
theorem dX5_lay_39 : decode cX5_lay 39 = .ok (.iload_n 3, 1) := by decide +kernel
theorem dX5_lay_40 : decode cX5_lay 40 = .ok (.aload_n 0, 1) := by decide +kernel
theorem dX5_lay_41 : decode cX5_lay 41 = .ok (.iload_n 2, 1) := by decide +kernel
theorem dX5_lay_42 : decode cX5_lay 42 = .ok (.iload_n 3, 1) := by decide +kernel
theorem dX5_lay_43 : decode cX5_lay 43 = .ok (.invokevirtual 188, 3) := by decide +kernel
theorem dX5_lay_46 : decode cX5_lay 46 = .ok (.iastore, 1) := by decide +kernel
theorem dX5_lay_47 : decode cX5_lay 47 = .ok (.iinc 3 1, 3) := by decide +kernel
theorem dX5_lay_50 : decode cX5_lay 50 = .ok (.goto (-23), 3) := by decide +kernel
theorem dX5_lay_53 : decode cX5_lay 53 = .ok (.aload_n 0, 1) := by decide +kernel
theorem dX5_lay_54 : decode cX5_lay 54 = .ok (.iload_n 1, 1) := by decide +kernel
theorem dX5_lay_55 : decode cX5_lay 55 = .ok (.aload_n 0, 1) := by decide +kernel
theorem dX5_lay_56 : decode cX5_lay 56 = .ok (.invokevirtual 151, 3) := by decide +kernel
theorem dX5_lay_59 : decode cX5_lay 59 = .ok (.invokevirtual 191, 3) := by decide +kernel
theorem dX5_lay_62 : decode cX5_lay 62 = .ok (.ireturn, 1) := by decide +kernel
set_option maxRecDepth 20000 in
theorem ggX5_laysSums_X5_all : GoodIn wsX5_laysSums wsX5_all := goodIn_r _ [6, 7, 8, 9, 5, 10, 11, 23, 24, 25, 26, 27, 28, 29, 30, 31, 32, 33, 34, 35, 36, 37, 38, 39, 40, 41, 42, 43, 44, 45, 46] (by decide +kernel) (by decide +kernel)
set_option maxRecDepth 20000 in
theorem gX5_laysSums_X5_all : GoodIn wsX5_laysSums (wsV RX5 151 RX5 yX5_all wsX5_all) := goodIn_app (goodIn_of _ (by decide +kernel)) ggX5_laysSums_X5_all
set_option maxRecDepth 20000 in
theorem ggX5_laysSums_X5_bits : GoodIn wsX5_laysSums wsX5_bits := goodIn_r _ [14] (by decide +kernel) (by decide +kernel)
set_option maxRecDepth 20000 in
theorem gX5_laysSums_X5_bits : GoodIn wsX5_laysSums (va_wsS RX5 111 yX5_bits wsX5_bits) := goodIn_app (goodIn_of _ (by decide +kernel)) ggX5_laysSums_X5_bits
set_option maxRecDepth 20000 in
theorem ggX5_laysSums_X5_numberOf : GoodIn wsX5_laysSums wsX5_numberOf := goodIn_r _ [18, 11, 23, 24, 25, 26, 27, 28, 29, 30, 31, 32, 33, 34, 35, 36, 37, 38, 39, 40, 41, 42, 43, 44, 45, 46] (by decide +kernel) (by decide +kernel)
set_option maxRecDepth 20000 in
theorem gX5_laysSums_X5_numberOf : GoodIn wsX5_laysSums (wsV RX5 174 RX5 yX5_numberOf wsX5_numberOf) := goodIn_app (goodIn_of _ (by decide +kernel)) ggX5_laysSums_X5_numberOf
set_option maxRecDepth 20000 in
theorem ggX5_laysSums_X5_rest : GoodIn wsX5_laysSums wsX5_rest := goodIn_r _ [21, 22] (by decide +kernel) (by decide +kernel)
set_option maxRecDepth 20000 in
theorem gX5_laysSums_X5_rest : GoodIn wsX5_laysSums (va_wsS RX5 178 yX5_rest wsX5_rest) := goodIn_app (goodIn_of _ (by decide +kernel)) ggX5_laysSums_X5_rest
theorem dX5_laysSums_0 : decode cX5_laysSums 0 = .ok (.iconst 0, 1) := by decide +kernel
theorem dX5_laysSums_1 : decode cX5_laysSums 1 = .ok (.istore 4, 2) := by decide +kernel
theorem dX5_laysSums_3 : decode cX5_laysSums 3 = .ok (.iload 4, 2) := by decide +kernel
theorem dX5_laysSums_5 : decode cX5_laysSums 5 = .ok (.aload_n 0, 1) := by decide +kernel
theorem dX5_laysSums_6 : decode cX5_laysSums 6 = .ok (.invokevirtual 151, 3) := by decide +kernel
theorem dX5_laysSums_9 : decode cX5_laysSums 9 = .ok (.if_icmp .gt 124, 3) := by decide +kernel
theorem dX5_laysSums_12 : decode cX5_laysSums 12 = .ok (.lconst 0, 1) := by decide +kernel
theorem dX5_laysSums_13 : decode cX5_laysSums 13 = .ok (.lstore 5, 2) := by decide +kernel
theorem dX5_laysSums_15 : decode cX5_laysSums 15 = .ok (.iconst 0, 1) := by decide +kernel
theorem dX5_laysSums_16 : decode cX5_laysSums 16 = .ok (.istore 7, 2) := by decide +kernel
theorem dX5_laysSums_18 : decode cX5_laysSums 18 = .ok (.iload 7, 2) := by decide +kernel
theorem dX5_laysSums_20 : decode cX5_laysSums 20 = .ok (.aload_n 0, 1) := by decide +kernel
theorem dX5_laysSums_21 : decode cX5_laysSums 21 = .ok (.invokevirtual 151, 3) := by decide +kernel
theorem dX5_laysSums_24 : decode cX5_laysSums 24 = .ok (.if_icmp .gt 91, 3) := by decide +kernel
theorem dX5_laysSums_27 : decode cX5_laysSums 27 = .ok (.iload_n 2, 1) := by decide +kernel
theorem dX5_laysSums_28 : decode cX5_laysSums 28 = .ok (.ifCond .eq 13, 3) := by decide +kernel
theorem dX5_laysSums_31 : decode cX5_laysSums 31 = .ok (.iload 4, 2) := by decide +kernel
theorem dX5_laysSums_33 : decode cX5_laysSums 33 = .ok (.iload 7, 2) := by decide +kernel
theorem dX5_laysSums_35 : decode cX5_laysSums 35 = .ok (.iconst (-1), 1) := by decide +kernel
theorem dX5_laysSums_36 : decode cX5_laysSums 36 = .ok (.ixor, 1) := by decide +kernel
theorem dX5_laysSums_37 : decode cX5_laysSums 37 = .ok (.iand, 1) := by decide +kernel
theorem dX5_laysSums_38 : decode cX5_laysSums 38 = .ok (.goto 10, 3) := by decide +kernel
theorem dX5_laysSums_41 : decode cX5_laysSums 41 = .ok (.iload 7, 2) := by decide +kernel
theorem dX5_laysSums_43 : decode cX5_laysSums 43 = .ok (.iload 4, 2) := by decide +kernel
theorem dX5_laysSums_45 : decode cX5_laysSums 45 = .ok (.iconst (-1), 1) := by decide +kernel
theorem dX5_laysSums_46 : decode cX5_laysSums 46 = .ok (.ixor, 1) := by decide +kernel
theorem dX5_laysSums_47 : decode cX5_laysSums 47 = .ok (.iand, 1) := by decide +kernel
theorem dX5_laysSums_48 : decode cX5_laysSums 48 = .ok (.ifCond .eq 6, 3) := by decide +kernel
theorem dX5_laysSums_51 : decode cX5_laysSums 51 = .ok (.goto 58, 3) := by decide +kernel
theorem dX5_laysSums_54 : decode cX5_laysSums 54 = .ok (.iload_n 3, 1) := by decide +kernel
theorem dX5_laysSums_55 : decode cX5_laysSums 55 = .ok (.ifCond .eq 21, 3) := by decide +kernel
theorem dX5_laysSums_58 : decode cX5_laysSums 58 = .ok (.iload 4, 2) := by decide +kernel
theorem dX5_laysSums_60 : decode cX5_laysSums 60 = .ok (.iload 7, 2) := by decide +kernel
theorem dX5_laysSums_62 : decode cX5_laysSums 62 = .ok (.ixor, 1) := by decide +kernel
theorem dX5_laysSums_63 : decode cX5_laysSums 63 = .ok (.invokestatic 111, 3) := by decide +kernel
theorem dX5_laysSums_66 : decode cX5_laysSums 66 = .ok (.iconst 2, 1) := by decide +kernel
theorem dX5_laysSums_67 : decode cX5_laysSums 67 = .ok (.irem, 1) := by decide +kernel
theorem dX5_laysSums_68 : decode cX5_laysSums 68 = .ok (.iconst 1, 1) := by decide +kernel
theorem dX5_laysSums_69 : decode cX5_laysSums 69 = .ok (.if_icmp .ne 7, 3) := by decide +kernel
theorem dX5_laysSums_72 : decode cX5_laysSums 72 = .ok (.iconst 1, 1) := by decide +kernel
theorem dX5_laysSums_73 : decode cX5_laysSums 73 = .ok (.goto 4, 3) := by decide +kernel
theorem dX5_laysSums_76 : decode cX5_laysSums 76 = .ok (.iconst 0, 1) := by decide +kernel
theorem dX5_laysSums_77 : decode cX5_laysSums 77 = .ok (.istore 8, 2) := by decide +kernel
theorem dX5_laysSums_79 : decode cX5_laysSums 79 = .ok (.lload 5, 2) := by decide +kernel
theorem dX5_laysSums_81 : decode cX5_laysSums 81 = .ok (.iload 8, 2) := by decide +kernel
theorem dX5_laysSums_83 : decode cX5_laysSums 83 = .ok (.ifCond .eq 15, 3) := by decide +kernel
theorem dX5_laysSums_86 : decode cX5_laysSums 86 = .ok (.aload_n 0, 1) := by decide +kernel
theorem dX5_laysSums_87 : decode cX5_laysSums 87 = .ok (.iload_n 1, 1) := by decide +kernel
theorem dX5_laysSums_88 : decode cX5_laysSums 88 = .ok (.iload 7, 2) := by decide +kernel
theorem dX5_laysSums_90 : decode cX5_laysSums 90 = .ok (.invokevirtual 174, 3) := by decide +kernel
theorem dX5_laysSums_93 : decode cX5_laysSums 93 = .ok (.ineg, 1) := by decide +kernel
theorem dX5_laysSums_94 : decode cX5_laysSums 94 = .ok (.i2l, 1) := by decide +kernel
theorem dX5_laysSums_95 : decode cX5_laysSums 95 = .ok (.goto 11, 3) := by decide +kernel
theorem dX5_laysSums_98 : decode cX5_laysSums 98 = .ok (.aload_n 0, 1) := by decide +kernel
theorem dX5_laysSums_99 : decode cX5_laysSums 99 = .ok (.iload_n 1, 1) := by decide +kernel
theorem dX5_laysSums_100 : decode cX5_laysSums 100 = .ok (.iload 7, 2) := by decide +kernel
theorem dX5_laysSums_102 : decode cX5_laysSums 102 = .ok (.invokevirtual 174, 3) := by decide +kernel
theorem dX5_laysSums_105 : decode cX5_laysSums 105 = .ok (.i2l, 1) := by decide +kernel
theorem dX5_laysSums_106 : decode cX5_laysSums 106 = .ok (.ladd, 1) := by decide +kernel
theorem dX5_laysSums_107 : decode cX5_laysSums 107 = .ok (.lstore 5, 2) := by decide +kernel
theorem dX5_laysSums_109 : decode cX5_laysSums 109 = .ok (.iinc 7 1, 3) := by decide +kernel
theorem dX5_laysSums_112 : decode cX5_laysSums 112 = .ok (.goto (-94), 3) := by decide +kernel
theorem dX5_laysSums_115 : decode cX5_laysSums 115 = .ok (.aload_n 0, 1) := by decide +kernel
theorem dX5_laysSums_116 : decode cX5_laysSums 116 = .ok (.getfield 72, 3) := by decide +kernel
theorem dX5_laysSums_119 : decode cX5_laysSums 119 = .ok (.iload 4, 2) := by decide +kernel
theorem dX5_laysSums_121 : decode cX5_laysSums 121 = .ok (.lload 5, 2) := by decide +kernel
theorem dX5_laysSums_123 : decode cX5_laysSums 123 = .ok (.invokestatic 178, 3) := by decide +kernel
theorem dX5_laysSums_126 : decode cX5_laysSums 126 = .ok (.iastore, 1) := by decide +kernel
theorem dX5_laysSums_127 : decode cX5_laysSums 127 = .ok (.iinc 4 1, 3) := by decide +kernel
theorem dX5_laysSums_130 : decode cX5_laysSums 130 = .ok (.goto (-127), 3) := by decide +kernel
theorem dX5_laysSums_133 : decode cX5_laysSums 133 = .ok (.return_, 1) := by decide +kernel
set_option maxRecDepth 20000 in
theorem ggX5_sums_X5_isRow : GoodIn wsX5_sums wsX5_isRow := goodIn_r _ [6, 7, 8, 9, 5, 10, 11, 12, 13, 14, 48, 49, 50, 51, 52, 53, 54, 55, 56, 57, 58, 59, 60, 61, 62, 63, 64, 65, 66, 67, 68, 69, 70, 71] (by decide +kernel) (by decide +kernel)
set_option maxRecDepth 20000 in
theorem gX5_sums_X5_isRow : GoodIn wsX5_sums (wsV RX5 171 RX5 yX5_isRow wsX5_isRow) := goodIn_app (goodIn_of _ (by decide +kernel)) ggX5_sums_X5_isRow
set_option maxRecDepth 20000 in
theorem ggX5_sums_X5_laysSums : GoodIn wsX5_sums wsX5_laysSums := goodIn_r _ [18, 19, 20, 21, 22, 5, 23, 7, 8, 9, 10, 11, 24, 25, 26, 27, 28, 29, 30, 31, 32, 33, 34, 48, 49, 50, 51, 52, 53, 54, 55, 56, 57, 58, 59, 60, 61, 62, 63, 64, 65, 66, 67, 68, 69, 70, 71] (by decide +kernel) (by decide +kernel)
set_option maxRecDepth 20000 in
theorem gX5_sums_X5_laysSums : GoodIn wsX5_sums (wsV RX5 194 RX5 yX5_laysSums wsX5_laysSums) := goodIn_app (goodIn_of _ (by decide +kernel)) ggX5_sums_X5_laysSums
set_option maxRecDepth 20000 in
theorem ggX5_sums_X5_all : GoodIn wsX5_sums wsX5_all := goodIn_r _ [23, 7, 8, 9, 5, 10, 11, 48, 49, 50, 51, 52, 53, 54, 55, 56, 57, 58, 59, 60, 61, 62, 63, 64, 65, 66, 67, 68, 69, 70, 71] (by decide +kernel) (by decide +kernel)
set_option maxRecDepth 20000 in
theorem gX5_sums_X5_all : GoodIn wsX5_sums (wsV RX5 151 RX5 yX5_all wsX5_all) := goodIn_app (goodIn_of _ (by decide +kernel)) ggX5_sums_X5_all
set_option maxRecDepth 20000 in
theorem ggX5_sums_X5_becomes : GoodIn wsX5_sums wsX5_becomes := goodIn_r _ [38, 11, 19, 39, 40, 41, 5, 42, 43, 44, 45, 46, 47, 20, 21, 22, 23, 7, 8, 9, 10, 48, 49, 50, 51, 52, 53, 54, 55, 56, 57, 58, 59, 60, 61, 62, 63, 64, 65, 66, 67, 68, 69, 70, 71] (by decide +kernel) (by decide +kernel)
set_option maxRecDepth 20000 in
theorem gX5_sums_X5_becomes : GoodIn wsX5_sums (wsV RX5 191 RX5 yX5_becomes wsX5_becomes) := goodIn_app (goodIn_of _ (by decide +kernel)) ggX5_sums_X5_becomes
theorem dX5_sums_0 : decode cX5_sums 0 = .ok (.aload_n 0, 1) := by decide +kernel
theorem dX5_sums_1 : decode cX5_sums 1 = .ok (.iconst 0, 1) := by decide +kernel
theorem dX5_sums_2 : decode cX5_sums 2 = .ok (.putfield 1, 3) := by decide +kernel
theorem dX5_sums_5 : decode cX5_sums 5 = .ok (.aload_n 0, 1) := by decide +kernel
theorem dX5_sums_6 : decode cX5_sums 6 = .ok (.iload_n 1, 1) := by decide +kernel
theorem dX5_sums_7 : decode cX5_sums 7 = .ok (.invokevirtual 171, 3) := by decide +kernel
theorem dX5_sums_10 : decode cX5_sums 10 = .ok (.ifCond .ne 5, 3) := by decide +kernel
theorem dX5_sums_13 : decode cX5_sums 13 = .ok (.iconst (-1), 1) := by decide +kernel
theorem dX5_sums_14 : decode cX5_sums 14 = .ok (.ireturn, 1) := by decide +kernel
theorem dX5_sums_15 : decode cX5_sums 15 = .ok (.aload_n 0, 1) := by decide +kernel
theorem dX5_sums_16 : decode cX5_sums 16 = .ok (.iload_n 1, 1) := by decide +kernel
theorem dX5_sums_17 : decode cX5_sums 17 = .ok (.iload_n 2, 1) := by decide +kernel
theorem dX5_sums_18 : decode cX5_sums 18 = .ok (.iload_n 3, 1) := by decide +kernel
theorem dX5_sums_19 : decode cX5_sums 19 = .ok (.invokevirtual 194, 3) := by decide +kernel
theorem dX5_sums_22 : decode cX5_sums 22 = .ok (.aload_n 0, 1) := by decide +kernel
theorem dX5_sums_23 : decode cX5_sums 23 = .ok (.iload_n 1, 1) := by decide +kernel
theorem dX5_sums_24 : decode cX5_sums 24 = .ok (.iload_n 2, 1) := by decide +kernel
theorem dX5_sums_25 : decode cX5_sums 25 = .ok (.ifCond .eq 7, 3) := by decide +kernel
theorem dX5_sums_28 : decode cX5_sums 28 = .ok (.iconst 0, 1) := by decide +kernel
theorem dX5_sums_29 : decode cX5_sums 29 = .ok (.goto 7, 3) := by decide +kernel
theorem dX5_sums_32 : decode cX5_sums 32 = .ok (.aload_n 0, 1) := by decide +kernel
theorem dX5_sums_33 : decode cX5_sums 33 = .ok (.invokevirtual 151, 3) := by decide +kernel
theorem dX5_sums_36 : decode cX5_sums 36 = .ok (.invokevirtual 191, 3) := by decide +kernel
theorem dX5_sums_39 : decode cX5_sums 39 = .ok (.ireturn, 1) := by decide +kernel
set_option maxRecDepth 20000 in
theorem ggX5_sum_X5_sums : GoodIn wsX5_sum wsX5_sums := goodIn_r _ [5, 6, 7, 8, 9, 4, 10, 11, 12, 13, 14, 15, 16, 17, 18, 19, 20, 21, 22, 23, 24, 25, 26, 27, 28, 29, 30, 31, 32, 33, 34, 35, 36, 37, 38, 39, 40, 41, 42, 43, 44, 45, 46, 47, 48, 49, 50, 51, 52, 53, 54, 55, 56, 57, 58, 59, 60, 61, 62, 63, 64, 65, 66, 67, 68, 69, 70, 71, 72, 73, 74, 75] (by decide +kernel) (by decide +kernel)
set_option maxRecDepth 20000 in
theorem gX5_sum_X5_sums : GoodIn wsX5_sum (wsV RX5 198 RX5 yX5_sums wsX5_sums) := goodIn_app (goodIn_of _ (by decide +kernel)) ggX5_sum_X5_sums
theorem dX5_sum_0 : decode cX5_sum 0 = .ok (.aload_n 0, 1) := by decide +kernel
theorem dX5_sum_1 : decode cX5_sum 1 = .ok (.iload_n 1, 1) := by decide +kernel
theorem dX5_sum_2 : decode cX5_sum 2 = .ok (.iload_n 2, 1) := by decide +kernel
theorem dX5_sum_3 : decode cX5_sum 3 = .ok (.iconst 0, 1) := by decide +kernel
theorem dX5_sum_4 : decode cX5_sum 4 = .ok (.invokevirtual 198, 3) := by decide +kernel
theorem dX5_sum_7 : decode cX5_sum 7 = .ok (.ireturn, 1) := by decide +kernel
set_option maxRecDepth 20000 in
theorem ggX5_back_X5_sums : GoodIn wsX5_back wsX5_sums := goodIn_r _ [5, 6, 7, 8, 9, 4, 10, 11, 12, 13, 14, 15, 16, 17, 18, 19, 20, 21, 22, 23, 24, 25, 26, 27, 28, 29, 30, 31, 32, 33, 34, 35, 36, 37, 38, 39, 40, 41, 42, 43, 44, 45, 46, 47, 48, 49, 50, 51, 52, 53, 54, 55, 56, 57, 58, 59, 60, 61, 62, 63, 64, 65, 66, 67, 68, 69, 70, 71, 72, 73, 74, 75] (by decide +kernel) (by decide +kernel)
set_option maxRecDepth 20000 in
theorem gX5_back_X5_sums : GoodIn wsX5_back (wsV RX5 198 RX5 yX5_sums wsX5_sums) := goodIn_app (goodIn_of _ (by decide +kernel)) ggX5_back_X5_sums
theorem dX5_back_0 : decode cX5_back 0 = .ok (.aload_n 0, 1) := by decide +kernel
theorem dX5_back_1 : decode cX5_back 1 = .ok (.iload_n 1, 1) := by decide +kernel
theorem dX5_back_2 : decode cX5_back 2 = .ok (.iload_n 2, 1) := by decide +kernel
theorem dX5_back_3 : decode cX5_back 3 = .ok (.iconst 1, 1) := by decide +kernel
theorem dX5_back_4 : decode cX5_back 4 = .ok (.invokevirtual 198, 3) := by decide +kernel
theorem dX5_back_7 : decode cX5_back 7 = .ok (.ireturn, 1) := by decide +kernel
theorem dX5_makes_0 : decode cX5_makes 0 = .ok (.iload_n 2, 1) := by decide +kernel
theorem dX5_makes_1 : decode cX5_makes 1 = .ok (.tableswitch 57 0 3 #[31, 45, 49, 53], 31) := by decide +kernel
theorem dX5_makes_32 : decode cX5_makes 32 = .ok (.iload_n 0, 1) := by decide +kernel
theorem dX5_makes_33 : decode cX5_makes 33 = .ok (.iload_n 1, 1) := by decide +kernel
theorem dX5_makes_34 : decode cX5_makes 34 = .ok (.iand, 1) := by decide +kernel
theorem dX5_makes_35 : decode cX5_makes 35 = .ok (.ifCond .ne 9, 3) := by decide +kernel
theorem dX5_makes_38 : decode cX5_makes 38 = .ok (.iload_n 0, 1) := by decide +kernel
theorem dX5_makes_39 : decode cX5_makes 39 = .ok (.iload_n 1, 1) := by decide +kernel
theorem dX5_makes_40 : decode cX5_makes 40 = .ok (.ior, 1) := by decide +kernel
theorem dX5_makes_41 : decode cX5_makes 41 = .ok (.goto 4, 3) := by decide +kernel
theorem dX5_makes_44 : decode cX5_makes 44 = .ok (.iconst (-1), 1) := by decide +kernel
theorem dX5_makes_45 : decode cX5_makes 45 = .ok (.ireturn, 1) := by decide +kernel
theorem dX5_makes_46 : decode cX5_makes 46 = .ok (.iload_n 0, 1) := by decide +kernel
theorem dX5_makes_47 : decode cX5_makes 47 = .ok (.iload_n 1, 1) := by decide +kernel
theorem dX5_makes_48 : decode cX5_makes 48 = .ok (.ior, 1) := by decide +kernel
theorem dX5_makes_49 : decode cX5_makes 49 = .ok (.ireturn, 1) := by decide +kernel
theorem dX5_makes_50 : decode cX5_makes 50 = .ok (.iload_n 0, 1) := by decide +kernel
theorem dX5_makes_51 : decode cX5_makes 51 = .ok (.iload_n 1, 1) := by decide +kernel
theorem dX5_makes_52 : decode cX5_makes 52 = .ok (.iand, 1) := by decide +kernel
theorem dX5_makes_53 : decode cX5_makes 53 = .ok (.ireturn, 1) := by decide +kernel
theorem dX5_makes_54 : decode cX5_makes 54 = .ok (.iload_n 0, 1) := by decide +kernel
theorem dX5_makes_55 : decode cX5_makes 55 = .ok (.iload_n 1, 1) := by decide +kernel
theorem dX5_makes_56 : decode cX5_makes 56 = .ok (.ixor, 1) := by decide +kernel
theorem dX5_makes_57 : decode cX5_makes 57 = .ok (.ireturn, 1) := by decide +kernel
theorem dX5_makes_58 : decode cX5_makes 58 = .ok (.iload_n 0, 1) := by decide +kernel
theorem dX5_makes_59 : decode cX5_makes 59 = .ok (.iload_n 1, 1) := by decide +kernel
theorem dX5_makes_60 : decode cX5_makes 60 = .ok (.if_icmp .ne 7, 3) := by decide +kernel
theorem dX5_makes_63 : decode cX5_makes 63 = .ok (.iload_n 0, 1) := by decide +kernel
theorem dX5_makes_64 : decode cX5_makes 64 = .ok (.goto 4, 3) := by decide +kernel
theorem dX5_makes_67 : decode cX5_makes 67 = .ok (.iconst (-1), 1) := by decide +kernel
theorem dX5_makes_68 : decode cX5_makes 68 = .ok (.ireturn, 1) := by decide +kernel
set_option maxRecDepth 20000 in
theorem ggX5_product_X5_rest : GoodIn wsX5_product wsX5_rest := goodIn_r _ [4, 5] (by decide +kernel) (by decide +kernel)
set_option maxRecDepth 20000 in
theorem gX5_product_X5_rest : GoodIn wsX5_product (va_wsS RX5 178 yX5_rest wsX5_rest) := goodIn_app (goodIn_of _ (by decide +kernel)) ggX5_product_X5_rest
theorem dX5_product_0 : decode cX5_product 0 = .ok (.iload_n 3, 1) := by decide +kernel
theorem dX5_product_1 : decode cX5_product 1 = .ok (.lookupswitch 49 #[(5, 27), (6, 38)], 27) := by decide +kernel
theorem dX5_product_28 : decode cX5_product 28 = .ok (.lconst 0, 1) := by decide +kernel
theorem dX5_product_29 : decode cX5_product 29 = .ok (.iload_n 1, 1) := by decide +kernel
theorem dX5_product_30 : decode cX5_product 30 = .ok (.i2l, 1) := by decide +kernel
theorem dX5_product_31 : decode cX5_product 31 = .ok (.ladd, 1) := by decide +kernel
theorem dX5_product_32 : decode cX5_product 32 = .ok (.iload_n 2, 1) := by decide +kernel
theorem dX5_product_33 : decode cX5_product 33 = .ok (.i2l, 1) := by decide +kernel
theorem dX5_product_34 : decode cX5_product 34 = .ok (.ladd, 1) := by decide +kernel
theorem dX5_product_35 : decode cX5_product 35 = .ok (.invokestatic 178, 3) := by decide +kernel
theorem dX5_product_38 : decode cX5_product 38 = .ok (.ireturn, 1) := by decide +kernel
theorem dX5_product_39 : decode cX5_product 39 = .ok (.lconst 0, 1) := by decide +kernel
theorem dX5_product_40 : decode cX5_product 40 = .ok (.iload_n 1, 1) := by decide +kernel
theorem dX5_product_41 : decode cX5_product 41 = .ok (.i2l, 1) := by decide +kernel
theorem dX5_product_42 : decode cX5_product 42 = .ok (.ladd, 1) := by decide +kernel
theorem dX5_product_43 : decode cX5_product 43 = .ok (.iload_n 2, 1) := by decide +kernel
theorem dX5_product_44 : decode cX5_product 44 = .ok (.i2l, 1) := by decide +kernel
theorem dX5_product_45 : decode cX5_product 45 = .ok (.lsub, 1) := by decide +kernel
theorem dX5_product_46 : decode cX5_product 46 = .ok (.invokestatic 178, 3) := by decide +kernel
theorem dX5_product_49 : decode cX5_product 49 = .ok (.ireturn, 1) := by decide +kernel
theorem dX5_product_50 : decode cX5_product 50 = .ok (.iload_n 1, 1) := by decide +kernel
theorem dX5_product_51 : decode cX5_product 51 = .ok (.i2l, 1) := by decide +kernel
theorem dX5_product_52 : decode cX5_product 52 = .ok (.iload_n 2, 1) := by decide +kernel
theorem dX5_product_53 : decode cX5_product 53 = .ok (.i2l, 1) := by decide +kernel
theorem dX5_product_54 : decode cX5_product 54 = .ok (.lmul, 1) := by decide +kernel
theorem dX5_product_55 : decode cX5_product 55 = .ok (.invokestatic 178, 3) := by decide +kernel
theorem dX5_product_58 : decode cX5_product 58 = .ok (.ireturn, 1) := by decide +kernel
set_option maxRecDepth 20000 in
theorem ggX5_times_X5_isRow : GoodIn wsX5_times wsX5_isRow := goodIn_r _ [7, 8, 9, 10, 6, 11, 12, 13, 14, 15, 48, 49, 50, 51, 52, 53, 54, 55, 56, 57, 58, 59, 60, 61, 62, 63, 64, 65, 66, 67, 68, 69, 70, 71] (by decide +kernel) (by decide +kernel)
set_option maxRecDepth 20000 in
theorem gX5_times_X5_isRow : GoodIn wsX5_times (wsV RX5 171 RX5 yX5_isRow wsX5_isRow) := goodIn_app (goodIn_of _ (by decide +kernel)) ggX5_times_X5_isRow
set_option maxRecDepth 20000 in
theorem ggX5_times_X5_isIn : GoodIn wsX5_times wsX5_isIn := goodIn_r _ [15] (by decide +kernel) (by decide +kernel)
set_option maxRecDepth 20000 in
theorem gX5_times_X5_isIn : GoodIn wsX5_times (va_wsS RX5 99 yX5_isIn wsX5_isIn) := goodIn_app (goodIn_of _ (by decide +kernel)) ggX5_times_X5_isIn
set_option maxRecDepth 20000 in
theorem ggX5_times_X5_all : GoodIn wsX5_times wsX5_all := goodIn_r _ [19, 8, 9, 10, 6, 11, 12, 48, 49, 50, 51, 52, 53, 54, 55, 56, 57, 58, 59, 60, 61, 62, 63, 64, 65, 66, 67, 68, 69, 70, 71] (by decide +kernel) (by decide +kernel)
set_option maxRecDepth 20000 in
theorem gX5_times_X5_all : GoodIn wsX5_times (wsV RX5 151 RX5 yX5_all wsX5_all) := goodIn_app (goodIn_of _ (by decide +kernel)) ggX5_times_X5_all
set_option maxRecDepth 20000 in
theorem ggX5_times_X5_makes : GoodIn wsX5_times wsX5_makes := goodIn_r _ [22] (by decide +kernel) (by decide +kernel)
set_option maxRecDepth 20000 in
theorem gX5_times_X5_makes : GoodIn wsX5_times (va_wsS RX5 202 yX5_makes wsX5_makes) := goodIn_app (goodIn_of _ (by decide +kernel)) ggX5_times_X5_makes
set_option maxRecDepth 20000 in
theorem ggX5_times_X5_numberOf : GoodIn wsX5_times wsX5_numberOf := goodIn_r _ [26, 12, 48, 49, 50, 51, 52, 53, 54, 55, 56, 57, 58, 59, 60, 61, 62, 63, 64, 65, 66, 67, 68, 69, 70, 71] (by decide +kernel) (by decide +kernel)
set_option maxRecDepth 20000 in
theorem gX5_times_X5_numberOf : GoodIn wsX5_times (wsV RX5 174 RX5 yX5_numberOf wsX5_numberOf) := goodIn_app (goodIn_of _ (by decide +kernel)) ggX5_times_X5_numberOf
set_option maxRecDepth 20000 in
theorem ggX5_times_X5_product : GoodIn wsX5_times wsX5_product := goodIn_r _ [30, 31, 32, 6, 33, 34] (by decide +kernel) (by decide +kernel)
set_option maxRecDepth 20000 in
theorem gX5_times_X5_product : GoodIn wsX5_times (wsV RX5 206 RX5 yX5_product wsX5_product) := goodIn_app (goodIn_of _ (by decide +kernel)) ggX5_times_X5_product
set_option maxRecDepth 20000 in
theorem ggX5_times_X5_rest : GoodIn wsX5_times wsX5_rest := goodIn_r _ [33, 34] (by decide +kernel) (by decide +kernel)
set_option maxRecDepth 20000 in
theorem gX5_times_X5_rest : GoodIn wsX5_times (va_wsS RX5 178 yX5_rest wsX5_rest) := goodIn_app (goodIn_of _ (by decide +kernel)) ggX5_times_X5_rest
set_option maxRecDepth 20000 in
theorem ggX5_times_X5_becomes : GoodIn wsX5_times wsX5_becomes := goodIn_r _ [38, 12, 2, 39, 40, 41, 6, 42, 43, 44, 45, 46, 47, 16, 17, 18, 19, 8, 9, 10, 11, 48, 49, 50, 51, 52, 53, 54, 55, 56, 57, 58, 59, 60, 61, 62, 63, 64, 65, 66, 67, 68, 69, 70, 71] (by decide +kernel) (by decide +kernel)
set_option maxRecDepth 20000 in
theorem gX5_times_X5_becomes : GoodIn wsX5_times (wsV RX5 191 RX5 yX5_becomes wsX5_becomes) := goodIn_app (goodIn_of _ (by decide +kernel)) ggX5_times_X5_becomes
theorem dX5_times_0 : decode cX5_times 0 = .ok (.aload_n 0, 1) := by decide +kernel
theorem dX5_times_1 : decode cX5_times 1 = .ok (.iconst 0, 1) := by decide +kernel
theorem dX5_times_2 : decode cX5_times 2 = .ok (.putfield 1, 3) := by decide +kernel
theorem dX5_times_5 : decode cX5_times 5 = .ok (.aload_n 0, 1) := by decide +kernel
theorem dX5_times_6 : decode cX5_times 6 = .ok (.iload_n 1, 1) := by decide +kernel
theorem dX5_times_7 : decode cX5_times 7 = .ok (.invokevirtual 171, 3) := by decide +kernel
theorem dX5_times_10 : decode cX5_times 10 = .ok (.ifCond .eq 30, 3) := by decide +kernel
theorem dX5_times_13 : decode cX5_times 13 = .ok (.aload_n 0, 1) := by decide +kernel
theorem dX5_times_14 : decode cX5_times 14 = .ok (.iload_n 2, 1) := by decide +kernel
theorem dX5_times_15 : decode cX5_times 15 = .ok (.invokevirtual 171, 3) := by decide +kernel
theorem dX5_times_18 : decode cX5_times 18 = .ok (.ifCond .eq 22, 3) := by decide +kernel
theorem dX5_times_21 : decode cX5_times 21 = .ok (.aload_n 0, 1) := by decide +kernel
theorem dX5_times_22 : decode cX5_times 22 = .ok (.iload 4, 2) := by decide +kernel
theorem dX5_times_24 : decode cX5_times 24 = .ok (.invokevirtual 171, 3) := by decide +kernel
theorem dX5_times_27 : decode cX5_times 27 = .ok (.ifCond .eq 13, 3) := by decide +kernel
theorem dX5_times_30 : decode cX5_times 30 = .ok (.iload_n 3, 1) := by decide +kernel
theorem dX5_times_31 : decode cX5_times 31 = .ok (.iconst 0, 1) := by decide +kernel
theorem dX5_times_32 : decode cX5_times 32 = .ok (.bipush 6, 2) := by decide +kernel
theorem dX5_times_34 : decode cX5_times 34 = .ok (.invokestatic 99, 3) := by decide +kernel
theorem dX5_times_37 : decode cX5_times 37 = .ok (.ifCond .ne 5, 3) := by decide +kernel
theorem dX5_times_40 : decode cX5_times 40 = .ok (.iconst (-1), 1) := by decide +kernel
theorem dX5_times_41 : decode cX5_times 41 = .ok (.ireturn, 1) := by decide +kernel
theorem dX5_times_42 : decode cX5_times 42 = .ok (.iconst 0, 1) := by decide +kernel
theorem dX5_times_43 : decode cX5_times 43 = .ok (.istore 5, 2) := by decide +kernel
theorem dX5_times_45 : decode cX5_times 45 = .ok (.iload 5, 2) := by decide +kernel
theorem dX5_times_47 : decode cX5_times 47 = .ok (.aload_n 0, 1) := by decide +kernel
theorem dX5_times_48 : decode cX5_times 48 = .ok (.invokevirtual 151, 3) := by decide +kernel
theorem dX5_times_51 : decode cX5_times 51 = .ok (.if_icmp .gt 17, 3) := by decide +kernel
theorem dX5_times_54 : decode cX5_times 54 = .ok (.aload_n 0, 1) := by decide +kernel
theorem dX5_times_55 : decode cX5_times 55 = .ok (.getfield 72, 3) := by decide +kernel
theorem dX5_times_58 : decode cX5_times 58 = .ok (.iload 5, 2) := by decide +kernel
theorem dX5_times_60 : decode cX5_times 60 = .ok (.iconst 0, 1) := by decide +kernel
theorem dX5_times_61 : decode cX5_times 61 = .ok (.iastore, 1) := by decide +kernel
theorem dX5_times_62 : decode cX5_times 62 = .ok (.iinc 5 1, 3) := by decide +kernel
theorem dX5_times_65 : decode cX5_times 65 = .ok (.goto (-20), 3) := by decide +kernel
theorem dX5_times_68 : decode cX5_times 68 = .ok (.iconst 0, 1) := by decide +kernel
theorem dX5_times_69 : decode cX5_times 69 = .ok (.istore 5, 2) := by decide +kernel
theorem dX5_times_71 : decode cX5_times 71 = .ok (.iload 5, 2) := by decide +kernel
theorem dX5_times_73 : decode cX5_times 73 = .ok (.aload_n 0, 1) := by decide +kernel
theorem dX5_times_74 : decode cX5_times 74 = .ok (.invokevirtual 151, 3) := by decide +kernel
theorem dX5_times_77 : decode cX5_times 77 = .ok (.if_icmp .gt 84, 3) := by decide +kernel
theorem dX5_times_80 : decode cX5_times 80 = .ok (.iconst 0, 1) := by decide +kernel
theorem dX5_times_81 : decode cX5_times 81 = .ok (.istore 6, 2) := by decide +kernel
theorem dX5_times_83 : decode cX5_times 83 = .ok (.iload 6, 2) := by decide +kernel
theorem dX5_times_85 : decode cX5_times 85 = .ok (.aload_n 0, 1) := by decide +kernel
theorem dX5_times_86 : decode cX5_times 86 = .ok (.invokevirtual 151, 3) := by decide +kernel
theorem dX5_times_89 : decode cX5_times 89 = .ok (.if_icmp .gt 66, 3) := by decide +kernel
theorem dX5_times_92 : decode cX5_times 92 = .ok (.iload 5, 2) := by decide +kernel
theorem dX5_times_94 : decode cX5_times 94 = .ok (.iload 6, 2) := by decide +kernel
theorem dX5_times_96 : decode cX5_times 96 = .ok (.iload_n 3, 1) := by decide +kernel
theorem dX5_times_97 : decode cX5_times 97 = .ok (.invokestatic 202, 3) := by decide +kernel
theorem dX5_times_100 : decode cX5_times 100 = .ok (.istore 7, 2) := by decide +kernel
theorem dX5_times_102 : decode cX5_times 102 = .ok (.iload 7, 2) := by decide +kernel
theorem dX5_times_104 : decode cX5_times 104 = .ok (.iconst (-1), 1) := by decide +kernel
theorem dX5_times_105 : decode cX5_times 105 = .ok (.if_icmp .eq 44, 3) := by decide +kernel
theorem dX5_times_108 : decode cX5_times 108 = .ok (.aload_n 0, 1) := by decide +kernel
theorem dX5_times_109 : decode cX5_times 109 = .ok (.getfield 72, 3) := by decide +kernel
theorem dX5_times_112 : decode cX5_times 112 = .ok (.iload 7, 2) := by decide +kernel
theorem dX5_times_114 : decode cX5_times 114 = .ok (.lconst 0, 1) := by decide +kernel
theorem dX5_times_115 : decode cX5_times 115 = .ok (.aload_n 0, 1) := by decide +kernel
theorem dX5_times_116 : decode cX5_times 116 = .ok (.getfield 72, 3) := by decide +kernel
theorem dX5_times_119 : decode cX5_times 119 = .ok (.iload 7, 2) := by decide +kernel
theorem dX5_times_121 : decode cX5_times 121 = .ok (.iaload, 1) := by decide +kernel
theorem dX5_times_122 : decode cX5_times 122 = .ok (.i2l, 1) := by decide +kernel
theorem dX5_times_123 : decode cX5_times 123 = .ok (.ladd, 1) := by decide +kernel
theorem dX5_times_124 : decode cX5_times 124 = .ok (.aload_n 0, 1) := by decide +kernel
theorem dX5_times_125 : decode cX5_times 125 = .ok (.aload_n 0, 1) := by decide +kernel
theorem dX5_times_126 : decode cX5_times 126 = .ok (.iload_n 1, 1) := by decide +kernel
theorem dX5_times_127 : decode cX5_times 127 = .ok (.iload 5, 2) := by decide +kernel
theorem dX5_times_129 : decode cX5_times 129 = .ok (.invokevirtual 174, 3) := by decide +kernel
theorem dX5_times_132 : decode cX5_times 132 = .ok (.aload_n 0, 1) := by decide +kernel
theorem dX5_times_133 : decode cX5_times 133 = .ok (.iload_n 2, 1) := by decide +kernel
theorem dX5_times_134 : decode cX5_times 134 = .ok (.iload 6, 2) := by decide +kernel
theorem dX5_times_136 : decode cX5_times 136 = .ok (.invokevirtual 174, 3) := by decide +kernel
theorem dX5_times_139 : decode cX5_times 139 = .ok (.iload_n 3, 1) := by decide +kernel
theorem dX5_times_140 : decode cX5_times 140 = .ok (.invokevirtual 206, 3) := by decide +kernel
theorem dX5_times_143 : decode cX5_times 143 = .ok (.i2l, 1) := by decide +kernel
theorem dX5_times_144 : decode cX5_times 144 = .ok (.ladd, 1) := by decide +kernel
theorem dX5_times_145 : decode cX5_times 145 = .ok (.invokestatic 178, 3) := by decide +kernel
theorem dX5_times_148 : decode cX5_times 148 = .ok (.iastore, 1) := by decide +kernel
theorem dX5_times_149 : decode cX5_times 149 = .ok (.iinc 6 1, 3) := by decide +kernel
theorem dX5_times_152 : decode cX5_times 152 = .ok (.goto (-69), 3) := by decide +kernel
theorem dX5_times_155 : decode cX5_times 155 = .ok (.iinc 5 1, 3) := by decide +kernel
theorem dX5_times_158 : decode cX5_times 158 = .ok (.goto (-87), 3) := by decide +kernel
theorem dX5_times_161 : decode cX5_times 161 = .ok (.aload_n 0, 1) := by decide +kernel
theorem dX5_times_162 : decode cX5_times 162 = .ok (.iload 4, 2) := by decide +kernel
theorem dX5_times_164 : decode cX5_times 164 = .ok (.aload_n 0, 1) := by decide +kernel
theorem dX5_times_165 : decode cX5_times 165 = .ok (.invokevirtual 151, 3) := by decide +kernel
theorem dX5_times_168 : decode cX5_times 168 = .ok (.invokevirtual 191, 3) := by decide +kernel
theorem dX5_times_171 : decode cX5_times 171 = .ok (.ireturn, 1) := by decide +kernel
set_option maxRecDepth 20000 in
theorem ggX5_apart_X5_all : GoodIn wsX5_apart wsX5_all := goodIn_r _ [8, 9, 10, 11, 7, 12, 13, 21, 22, 23, 24, 25, 26, 27, 28, 29, 30, 31, 32, 33, 34, 35, 36, 37, 38, 39, 40, 41, 42, 43, 44] (by decide +kernel) (by decide +kernel)
set_option maxRecDepth 20000 in
theorem gX5_apart_X5_all : GoodIn wsX5_apart (wsV RX5 151 RX5 yX5_all wsX5_all) := goodIn_app (goodIn_of _ (by decide +kernel)) ggX5_apart_X5_all
set_option maxRecDepth 20000 in
theorem ggX5_apart_X5_numberOf : GoodIn wsX5_apart wsX5_numberOf := goodIn_r _ [17, 13, 21, 22, 23, 24, 25, 26, 27, 28, 29, 30, 31, 32, 33, 34, 35, 36, 37, 38, 39, 40, 41, 42, 43, 44] (by decide +kernel) (by decide +kernel)
set_option maxRecDepth 20000 in
theorem gX5_apart_X5_numberOf : GoodIn wsX5_apart (wsV RX5 174 RX5 yX5_numberOf wsX5_numberOf) := goodIn_app (goodIn_of _ (by decide +kernel)) ggX5_apart_X5_numberOf
set_option maxRecDepth 20000 in
theorem ggX5_apart_X5_rest : GoodIn wsX5_apart wsX5_rest := goodIn_r _ [20, 3] (by decide +kernel) (by decide +kernel)
set_option maxRecDepth 20000 in
theorem gX5_apart_X5_rest : GoodIn wsX5_apart (va_wsS RX5 178 yX5_rest wsX5_rest) := goodIn_app (goodIn_of _ (by decide +kernel)) ggX5_apart_X5_rest
theorem dX5_apart_0 : decode cX5_apart 0 = .ok (.iconst 0, 1) := by decide +kernel
theorem dX5_apart_1 : decode cX5_apart 1 = .ok (.istore_n 2, 1) := by decide +kernel
theorem dX5_apart_2 : decode cX5_apart 2 = .ok (.iload_n 2, 1) := by decide +kernel
theorem dX5_apart_3 : decode cX5_apart 3 = .ok (.aload_n 0, 1) := by decide +kernel
theorem dX5_apart_4 : decode cX5_apart 4 = .ok (.invokevirtual 151, 3) := by decide +kernel
theorem dX5_apart_7 : decode cX5_apart 7 = .ok (.if_icmp .gt 21, 3) := by decide +kernel
theorem dX5_apart_10 : decode cX5_apart 10 = .ok (.aload_n 0, 1) := by decide +kernel
theorem dX5_apart_11 : decode cX5_apart 11 = .ok (.getfield 75, 3) := by decide +kernel
theorem dX5_apart_14 : decode cX5_apart 14 = .ok (.iload_n 2, 1) := by decide +kernel
theorem dX5_apart_15 : decode cX5_apart 15 = .ok (.aload_n 0, 1) := by decide +kernel
theorem dX5_apart_16 : decode cX5_apart 16 = .ok (.getfield 72, 3) := by decide +kernel
theorem dX5_apart_19 : decode cX5_apart 19 = .ok (.iload_n 2, 1) := by decide +kernel
theorem dX5_apart_20 : decode cX5_apart 20 = .ok (.iaload, 1) := by decide +kernel
theorem dX5_apart_21 : decode cX5_apart 21 = .ok (.iastore, 1) := by decide +kernel
theorem dX5_apart_22 : decode cX5_apart 22 = .ok (.iinc 2 1, 3) := by decide +kernel
theorem dX5_apart_25 : decode cX5_apart 25 = .ok (.goto (-23), 3) := by decide +kernel
theorem dX5_apart_28 : decode cX5_apart 28 = .ok (.iconst 0, 1) := by decide +kernel
theorem dX5_apart_29 : decode cX5_apart 29 = .ok (.istore_n 2, 1) := by decide +kernel
theorem dX5_apart_30 : decode cX5_apart 30 = .ok (.iload_n 2, 1) := by decide +kernel
theorem dX5_apart_31 : decode cX5_apart 31 = .ok (.aload_n 0, 1) := by decide +kernel
theorem dX5_apart_32 : decode cX5_apart 32 = .ok (.invokevirtual 151, 3) := by decide +kernel
theorem dX5_apart_35 : decode cX5_apart 35 = .ok (.if_icmp .gt 71, 3) := by decide +kernel
theorem dX5_apart_38 : decode cX5_apart 38 = .ok (.lconst 0, 1) := by decide +kernel
theorem dX5_apart_39 : decode cX5_apart 39 = .ok (.lstore_n 3, 1) := by decide +kernel
theorem dX5_apart_40 : decode cX5_apart 40 = .ok (.iload_n 2, 1) := by decide +kernel
theorem dX5_apart_41 : decode cX5_apart 41 = .ok (.istore 5, 2) := by decide +kernel
theorem dX5_apart_43 : decode cX5_apart 43 = .ok (.lload_n 3, 1) := by decide +kernel
theorem dX5_apart_44 : decode cX5_apart 44 = .ok (.aload_n 0, 1) := by decide +kernel
theorem dX5_apart_45 : decode cX5_apart 45 = .ok (.iload_n 1, 1) := by decide +kernel
theorem dX5_apart_46 : decode cX5_apart 46 = .ok (.iload 5, 2) := by decide +kernel
theorem dX5_apart_48 : decode cX5_apart 48 = .ok (.invokevirtual 174, 3) := by decide +kernel
theorem dX5_apart_51 : decode cX5_apart 51 = .ok (.i2l, 1) := by decide +kernel
theorem dX5_apart_52 : decode cX5_apart 52 = .ok (.aload_n 0, 1) := by decide +kernel
theorem dX5_apart_53 : decode cX5_apart 53 = .ok (.getfield 75, 3) := by decide +kernel
theorem dX5_apart_56 : decode cX5_apart 56 = .ok (.iload_n 2, 1) := by decide +kernel
theorem dX5_apart_57 : decode cX5_apart 57 = .ok (.iload 5, 2) := by decide +kernel
theorem dX5_apart_59 : decode cX5_apart 59 = .ok (.iconst (-1), 1) := by decide +kernel
theorem dX5_apart_60 : decode cX5_apart 60 = .ok (.ixor, 1) := by decide +kernel
theorem dX5_apart_61 : decode cX5_apart 61 = .ok (.iand, 1) := by decide +kernel
theorem dX5_apart_62 : decode cX5_apart 62 = .ok (.iaload, 1) := by decide +kernel
theorem dX5_apart_63 : decode cX5_apart 63 = .ok (.i2l, 1) := by decide +kernel
theorem dX5_apart_64 : decode cX5_apart 64 = .ok (.lmul, 1) := by decide +kernel
theorem dX5_apart_65 : decode cX5_apart 65 = .ok (.ldc2_w 166, 3) := by decide +kernel
theorem dX5_apart_68 : decode cX5_apart 68 = .ok (.lrem, 1) := by decide +kernel
theorem dX5_apart_69 : decode cX5_apart 69 = .ok (.ladd, 1) := by decide +kernel
theorem dX5_apart_70 : decode cX5_apart 70 = .ok (.lstore_n 3, 1) := by decide +kernel
theorem dX5_apart_71 : decode cX5_apart 71 = .ok (.iload 5, 2) := by decide +kernel
theorem dX5_apart_73 : decode cX5_apart 73 = .ok (.ifCond .ne 6, 3) := by decide +kernel
theorem dX5_apart_76 : decode cX5_apart 76 = .ok (.goto 14, 3) := by decide +kernel
theorem dX5_apart_79 : decode cX5_apart 79 = .ok (.iload 5, 2) := by decide +kernel
theorem dX5_apart_81 : decode cX5_apart 81 = .ok (.iconst 1, 1) := by decide +kernel
theorem dX5_apart_82 : decode cX5_apart 82 = .ok (.isub, 1) := by decide +kernel
theorem dX5_apart_83 : decode cX5_apart 83 = .ok (.iload_n 2, 1) := by decide +kernel
theorem dX5_apart_84 : decode cX5_apart 84 = .ok (.iand, 1) := by decide +kernel
theorem dX5_apart_85 : decode cX5_apart 85 = .ok (.istore 5, 2) := by decide +kernel
theorem dX5_apart_87 : decode cX5_apart 87 = .ok (.goto (-44), 3) := by decide +kernel
theorem dX5_apart_90 : decode cX5_apart 90 = .ok (.aload_n 0, 1) := by decide +kernel
theorem dX5_apart_91 : decode cX5_apart 91 = .ok (.getfield 72, 3) := by decide +kernel
theorem dX5_apart_94 : decode cX5_apart 94 = .ok (.iload_n 2, 1) := by decide +kernel
theorem dX5_apart_95 : decode cX5_apart 95 = .ok (.lload_n 3, 1) := by decide +kernel
theorem dX5_apart_96 : decode cX5_apart 96 = .ok (.invokestatic 178, 3) := by decide +kernel
theorem dX5_apart_99 : decode cX5_apart 99 = .ok (.iastore, 1) := by decide +kernel
theorem dX5_apart_100 : decode cX5_apart 100 = .ok (.iinc 2 1, 3) := by decide +kernel
